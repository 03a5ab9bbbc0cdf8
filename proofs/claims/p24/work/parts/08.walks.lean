/-! BitNotation$Reader.<init>()V -/
theorem dX1_init_0 : decode cX1_init 0 = .ok (.aload_n 0, 1) := by decide +kernel
theorem dX1_init_1 : decode cX1_init 1 = .ok (.invokespecial 3, 3) := by decide +kernel
theorem dX1_init_4 : decode cX1_init 4 = .ok (.aload_n 0, 1) := by decide +kernel
theorem dX1_init_5 : decode cX1_init 5 = .ok (.new 9, 3) := by decide +kernel
theorem dX1_init_8 : decode cX1_init 8 = .ok (.dup, 1) := by decide +kernel
theorem dX1_init_9 : decode cX1_init 9 = .ok (.sipush 240, 3) := by decide +kernel
theorem dX1_init_12 : decode cX1_init 12 = .ok (.invokespecial 11, 3) := by decide +kernel
theorem dX1_init_15 : decode cX1_init 15 = .ok (.putfield 14, 3) := by decide +kernel
theorem dX1_init_18 : decode cX1_init 18 = .ok (.aload_n 0, 1) := by decide +kernel
theorem dX1_init_19 : decode cX1_init 19 = .ok (.iconst 0, 1) := by decide +kernel
theorem dX1_init_20 : decode cX1_init 20 = .ok (.putfield 20, 3) := by decide +kernel
theorem dX1_init_23 : decode cX1_init 23 = .ok (.aload_n 0, 1) := by decide +kernel
theorem dX1_init_24 : decode cX1_init 24 = .ok (.iconst 0, 1) := by decide +kernel
theorem dX1_init_25 : decode cX1_init 25 = .ok (.putfield 24, 3) := by decide +kernel
theorem dX1_init_28 : decode cX1_init 28 = .ok (.aload_n 0, 1) := by decide +kernel
theorem dX1_init_29 : decode cX1_init 29 = .ok (.iconst (-1), 1) := by decide +kernel
theorem dX1_init_30 : decode cX1_init 30 = .ok (.putfield 27, 3) := by decide +kernel
theorem dX1_init_33 : decode cX1_init 33 = .ok (.return_, 1) := by decide +kernel
def wp_X1_init (o : Nat) (μ : Mm) (post : Mm → Prop) : Prop := ∀ q1, μ q1 = none → ∀ μ3, μ3 = ups μ q1 (.inl (1, [.null, .int 0])) → wp_X2_init q1 240 (240 : Int32) μ3 (fun μ6 => ∃ f7, μ6 o = some (.inl (0, f7)) ∧ 0 < f7.length ∧ ∀ μ10, μ10 = ups μ6 o (.inl (0, f7.set 0 (.ref q1))) → ∃ f12, μ10 o = some (.inl (0, f12)) ∧ 1 < f12.length ∧ ∀ μ15, μ15 = ups μ10 o (.inl (0, f12.set 1 (.int (0 : Int32)))) → ∃ f17, μ15 o = some (.inl (0, f17)) ∧ 2 < f17.length ∧ ∀ μ20, μ20 = ups μ15 o (.inl (0, f17.set 2 (.int (0 : Int32)))) → ∃ f22, μ20 o = some (.inl (0, f22)) ∧ 3 < f22.length ∧ ∀ μ25, μ25 = ups μ20 o (.inl (0, f22.set 3 (.int (-1 : Int32)))) → post μ25)
set_option maxHeartbeats 4000000 in
set_option maxRecDepth 100000 in
theorem c_X1_init (l : Launch) (G : gG) (A : Nat → Prop) (o : Nat) (μ : Mm) (post : Mm → Prop) (h : wp_X1_init o μ post) : Met l yX1_init (.code yX1_init cX1_init 1 none :: wsA) (rmL (1) 2 242) (PcG G A μ [.ref o]) (QG G A (pV post)) 2 242 A := by
  refine met_J (loc := [(0, .ref o)]) (by decide +kernel) (Nat.le_of_ble_eq_true rfl) rfl ?_
  intro p e s m args below meth c X hin
  have X : Cx p l s m args meth c cX1_init 1 none RX1 G A := X
  have hw := h
  unfold wp_X1_init at hw
  refine j_aload_n X (pc' := 1) (kk := 0) (i := 0) 0 rfl rfl dX1_init_0 rfl ?_
  refine j_objInit X (pc' := 4) wt_1_81 wt_1_22 wt_1_23 (by show 1 ≤ _ + 6; omega) (Nat.le_trans (m := 120) (Nat.le_of_ble_eq_true rfl) (by show 120 ≤ 40 * _ + 120; omega)) dX1_init_1 rfl ?_
  refine j_aload_n X (pc' := 5) (kk := 0) (i := 0) 0 rfl rfl dX1_init_4 rfl ?_
  refine jp_new X (pc' := 8) (cells' := 1) (slots' := 2) (ci := 1) (fs := [.null, .int 0]) rfl fw_TX2 tyX2_ok wt_1_82 wt_1_43 wt_1_4 df_X2 (Nat.le_of_ble_eq_true rfl) (Nat.le_of_ble_eq_true rfl) rfl rfl dX1_init_5 rfl (fun q1 hq2 μ3 e4 => ?_)
  have hw1 := hw q1 hq2 μ3 e4
  refine j_dup X (pc' := 9) rfl dX1_init_8 rfl ?_
  refine j_sipush X (pc' := 12) (v := 240) (by decide) dX1_init_9 rfl ?_
  refine j_callIv (As := [.int (240 : Int32)]) (rest := [.ref q1, .ref o]) X (pc' := 15) (cells' := 2) (slots' := 242) (c_X2_init l G A 240 (by decide) q1 (240 : Int32) μ3 _ hw1) wt_1_83 wt_1_45 wt_1_4 wt_1_46 rfl hd_X2_init (rmL_fit (k1 := 0) (k := 1) (by omega) (by decide)) rfl rfl (Nat.le_of_ble_eq_true rfl) dX1_init_12 rfl ⟨Nat.le_of_ble_eq_true rfl, Nat.le_of_ble_eq_true rfl⟩ rfl rfl (fun μ6 hw2 => ?_)
  obtain ⟨f7, hm8, hl9, hw3⟩ := hw2
  refine jp_putF X (pc' := 18) (ty := (.object "BitNotation$Row")) hin hm8 0 hl9 rfl fw_TX1 tyX1_ok nmX1 (by decide) rfl rfl wt_1_84 (by decide +kernel) rfl rfl dX1_init_15 rfl (fun μ10 e11 => ?_)
  have hw4 := hw3 μ10 e11
  refine j_aload_n X (pc' := 19) (kk := 0) (i := 0) 0 rfl rfl dX1_init_18 rfl ?_
  refine j_iconst X (pc' := 20) (v := 0) (by decide) dX1_init_19 rfl ?_
  obtain ⟨f12, hm13, hl14, hw5⟩ := hw4
  refine jp_putf X (pc' := 23) (ty := .int) hm13 1 hl14 rfl fw_TX1 tyX1_ok nmX1 (by decide) rfl wt_1_86 (by decide +kernel) rfl rfl dX1_init_20 rfl (fun μ15 e16 => ?_)
  have hw6 := hw5 μ15 e16
  refine j_aload_n X (pc' := 24) (kk := 0) (i := 0) 0 rfl rfl dX1_init_23 rfl ?_
  refine j_iconst X (pc' := 25) (v := 0) (by decide) dX1_init_24 rfl ?_
  obtain ⟨f17, hm18, hl19, hw7⟩ := hw6
  refine jp_putf X (pc' := 28) (ty := .int) hm18 2 hl19 rfl fw_TX1 tyX1_ok nmX1 (by decide) rfl wt_1_87 (by decide +kernel) rfl rfl dX1_init_25 rfl (fun μ20 e21 => ?_)
  have hw8 := hw7 μ20 e21
  refine j_aload_n X (pc' := 29) (kk := 0) (i := 0) 0 rfl rfl dX1_init_28 rfl ?_
  refine j_iconst X (pc' := 30) (v := (-1)) (by decide) dX1_init_29 rfl ?_
  obtain ⟨f22, hm23, hl24, hw9⟩ := hw8
  refine jp_putf X (pc' := 33) (ty := .int) hm23 3 hl24 rfl fw_TX1 tyX1_ok nmX1 (by decide) rfl wt_1_88 (by decide +kernel) rfl rfl dX1_init_30 rfl (fun μ25 e26 => ?_)
  have hw10 := hw9 μ25 e26
  exact j_vret X ⟨rfl, hw10⟩ (Nat.le_of_ble_eq_true rfl) (Nat.le_of_ble_eq_true rfl) dX1_init_33
/-! BitNotation$Reader.next(LBitNotation$Row;II)I -/
theorem dX1_next_0 : decode cX1_next 0 = .ok (.iconst 0, 1) := by decide +kernel
theorem dX1_next_1 : decode cX1_next 1 = .ok (.istore 4, 2) := by decide +kernel
theorem dX1_next_3 : decode cX1_next 3 = .ok (.iconst 0, 1) := by decide +kernel
theorem dX1_next_4 : decode cX1_next 4 = .ok (.istore 5, 2) := by decide +kernel
theorem dX1_next_6 : decode cX1_next 6 = .ok (.iload 5, 2) := by decide +kernel
theorem dX1_next_8 : decode cX1_next 8 = .ok (.iload_n 2, 1) := by decide +kernel
theorem dX1_next_9 : decode cX1_next 9 = .ok (.if_icmp .ge 27, 3) := by decide +kernel
theorem dX1_next_12 : decode cX1_next 12 = .ok (.iload 4, 2) := by decide +kernel
theorem dX1_next_14 : decode cX1_next 14 = .ok (.iconst 1, 1) := by decide +kernel
theorem dX1_next_15 : decode cX1_next 15 = .ok (.ishl, 1) := by decide +kernel
theorem dX1_next_16 : decode cX1_next 16 = .ok (.aload_n 1, 1) := by decide +kernel
theorem dX1_next_17 : decode cX1_next 17 = .ok (.aload_n 0, 1) := by decide +kernel
theorem dX1_next_18 : decode cX1_next 18 = .ok (.getfield 24, 3) := by decide +kernel
theorem dX1_next_21 : decode cX1_next 21 = .ok (.iload 5, 2) := by decide +kernel
theorem dX1_next_23 : decode cX1_next 23 = .ok (.iadd, 1) := by decide +kernel
theorem dX1_next_24 : decode cX1_next 24 = .ok (.invokevirtual 120, 3) := by decide +kernel
theorem dX1_next_27 : decode cX1_next 27 = .ok (.ior, 1) := by decide +kernel
theorem dX1_next_28 : decode cX1_next 28 = .ok (.istore 4, 2) := by decide +kernel
theorem dX1_next_30 : decode cX1_next 30 = .ok (.iinc 5 1, 3) := by decide +kernel
theorem dX1_next_33 : decode cX1_next 33 = .ok (.goto (-27), 3) := by decide +kernel
theorem dX1_next_36 : decode cX1_next 36 = .ok (.aload_n 0, 1) := by decide +kernel
theorem dX1_next_37 : decode cX1_next 37 = .ok (.getfield 27, 3) := by decide +kernel
theorem dX1_next_40 : decode cX1_next 40 = .ok (.iconst (-1), 1) := by decide +kernel
theorem dX1_next_41 : decode cX1_next 41 = .ok (.if_icmp .ne 24, 3) := by decide +kernel
theorem dX1_next_44 : decode cX1_next 44 = .ok (.iload_n 2, 1) := by decide +kernel
theorem dX1_next_45 : decode cX1_next 45 = .ok (.aload_n 1, 1) := by decide +kernel
theorem dX1_next_46 : decode cX1_next 46 = .ok (.invokevirtual 37, 3) := by decide +kernel
theorem dX1_next_49 : decode cX1_next 49 = .ok (.aload_n 0, 1) := by decide +kernel
theorem dX1_next_50 : decode cX1_next 50 = .ok (.getfield 24, 3) := by decide +kernel
theorem dX1_next_53 : decode cX1_next 53 = .ok (.isub, 1) := by decide +kernel
theorem dX1_next_54 : decode cX1_next 54 = .ok (.if_icmp .le 11, 3) := by decide +kernel
theorem dX1_next_57 : decode cX1_next 57 = .ok (.aload_n 0, 1) := by decide +kernel
theorem dX1_next_58 : decode cX1_next 58 = .ok (.aload_n 1, 1) := by decide +kernel
theorem dX1_next_59 : decode cX1_next 59 = .ok (.invokevirtual 37, 3) := by decide +kernel
theorem dX1_next_62 : decode cX1_next 62 = .ok (.putfield 27, 3) := by decide +kernel
theorem dX1_next_65 : decode cX1_next 65 = .ok (.aload_n 0, 1) := by decide +kernel
theorem dX1_next_66 : decode cX1_next 66 = .ok (.getfield 27, 3) := by decide +kernel
theorem dX1_next_69 : decode cX1_next 69 = .ok (.iconst (-1), 1) := by decide +kernel
theorem dX1_next_70 : decode cX1_next 70 = .ok (.if_icmp .ne 17, 3) := by decide +kernel
theorem dX1_next_73 : decode cX1_next 73 = .ok (.iload 4, 2) := by decide +kernel
theorem dX1_next_75 : decode cX1_next 75 = .ok (.iload_n 3, 1) := by decide +kernel
theorem dX1_next_76 : decode cX1_next 76 = .ok (.if_icmp .le 11, 3) := by decide +kernel
theorem dX1_next_79 : decode cX1_next 79 = .ok (.aload_n 0, 1) := by decide +kernel
theorem dX1_next_80 : decode cX1_next 80 = .ok (.aload_n 0, 1) := by decide +kernel
theorem dX1_next_81 : decode cX1_next 81 = .ok (.getfield 24, 3) := by decide +kernel
theorem dX1_next_84 : decode cX1_next 84 = .ok (.putfield 27, 3) := by decide +kernel
theorem dX1_next_87 : decode cX1_next 87 = .ok (.aload_n 0, 1) := by decide +kernel
theorem dX1_next_88 : decode cX1_next 88 = .ok (.getfield 27, 3) := by decide +kernel
theorem dX1_next_91 : decode cX1_next 91 = .ok (.iconst (-1), 1) := by decide +kernel
theorem dX1_next_92 : decode cX1_next 92 = .ok (.if_icmp .eq 5, 3) := by decide +kernel
theorem dX1_next_95 : decode cX1_next 95 = .ok (.iconst 0, 1) := by decide +kernel
theorem dX1_next_96 : decode cX1_next 96 = .ok (.ireturn, 1) := by decide +kernel
theorem dX1_next_97 : decode cX1_next 97 = .ok (.aload_n 0, 1) := by decide +kernel
theorem dX1_next_98 : decode cX1_next 98 = .ok (.dup, 1) := by decide +kernel
theorem dX1_next_99 : decode cX1_next 99 = .ok (.getfield 24, 3) := by decide +kernel
theorem dX1_next_102 : decode cX1_next 102 = .ok (.iload_n 2, 1) := by decide +kernel
theorem dX1_next_103 : decode cX1_next 103 = .ok (.iadd, 1) := by decide +kernel
theorem dX1_next_104 : decode cX1_next 104 = .ok (.putfield 24, 3) := by decide +kernel
theorem dX1_next_107 : decode cX1_next 107 = .ok (.iload 4, 2) := by decide +kernel
theorem dX1_next_109 : decode cX1_next 109 = .ok (.ireturn, 1) := by decide +kernel
def wb_X1_next_87 (o : Nat) (post : Int32 → Mm → Prop)  (v2 : Int32) (v4 : Int32) (μ : Mm) : Prop := ∃ f48 g49, μ o = some (.inl (0, f48)) ∧ f48[3]? = some (.int g49) ∧ (g49 = (-1 : Int32) → (∃ f53 g54, μ o = some (.inl (0, f53)) ∧ f53[2]? = some (.int g54) ∧ ∃ f57, μ o = some (.inl (0, f57)) ∧ 2 < f57.length ∧ ∀ μ60, μ60 = ups μ o (.inl (0, f57.set 2 (.int (g54 + v2)))) → post v4 μ60)) ∧ (¬ g49 = (-1 : Int32) → (post (0 : Int32) μ))
set_option maxHeartbeats 4000000 in
set_option maxRecDepth 100000 in
theorem tb_X1_next_87 {p : Program} {l : Launch} {e : Env} {s : State} {m : MethodId} {args : Array Value} {below : List Frame} {meth : Method} {c : Code} {G : gG} {A : Nat → Prop} {o : Nat} {post : Int32 → Mm → Prop} (X : Cx p l s m args meth c cX1_next 6 (some .int) RX1 G A) : ∀ (v2 : Int32) (v4 : Int32) (μ : Mm), wb_X1_next_87 o post v2 v4 μ → J p l e (rmL (1) 0 0) s m args below meth c 6 G A (MQ below (QG G A (pI post)) args s 0 0 A) 0 0 87 [(0, .ref o), (2, .int v2), (4, .int v4)] [] μ := by
  intro v2 v4 μ hw
  unfold wb_X1_next_87 at hw
  refine j_aload_n X (pc' := 88) (kk := 0) (i := 0) 0 rfl rfl dX1_next_87 rfl ?_
  obtain ⟨f48, g49, hm50, hv51, hw1⟩ := hw
  refine j_getf X (pc' := 91) hm50 3 hv51 rfl fw_TX1 (by decide) wt_1_88 dX1_next_88 rfl ?_
  refine j_iconst X (pc' := 92) (v := (-1)) (by decide) dX1_next_91 rfl ?_
  refine j_icmp_eq X (pc' := 95) (tgt := 97) dX1_next_92 rfl (by decide) (fun c52 => ?_) (fun c52 => ?_)
  · have hw2 := hw1.1 c52
    refine j_aload_n X (pc' := 98) (kk := 0) (i := 0) 0 rfl rfl dX1_next_97 rfl ?_
    refine j_dup X (pc' := 99) rfl dX1_next_98 rfl ?_
    obtain ⟨f53, g54, hm55, hv56, hw3⟩ := hw2
    refine j_getf X (pc' := 102) hm55 2 hv56 rfl fw_TX1 (by decide) wt_1_87 dX1_next_99 rfl ?_
    refine j_iload_n X (pc' := 103) (kk := 2) (i := 2) 1 rfl rfl dX1_next_102 rfl ?_
    refine j_iadd X (pc' := 104) dX1_next_103 rfl ?_
    obtain ⟨f57, hm58, hl59, hw4⟩ := hw3
    refine jp_putf X (pc' := 107) (ty := .int) hm58 2 hl59 rfl fw_TX1 tyX1_ok nmX1 (by decide) rfl wt_1_87 (by decide +kernel) rfl rfl dX1_next_104 rfl (fun μ60 e61 => ?_)
    have hw5 := hw4 μ60 e61
    refine j_iload X (pc' := 109) (i := 4) 2 rfl dX1_next_107 rfl ?_
    exact j_iret X ⟨_, rfl, hw5⟩ (Nat.le_of_ble_eq_true rfl) (Nat.le_of_ble_eq_true rfl) dX1_next_109
  · have hw6 := hw1.2 c52
    refine j_iconst X (pc' := 96) (v := 0) (by decide) dX1_next_95 rfl ?_
    exact j_iret X ⟨_, rfl, hw6⟩ (Nat.le_of_ble_eq_true rfl) (Nat.le_of_ble_eq_true rfl) dX1_next_96
def wb_X1_next_65 (o : Nat) (post : Int32 → Mm → Prop)  (v2 : Int32) (v3 : Int32) (v4 : Int32) (μ : Mm) : Prop := ∃ f33 g34, μ o = some (.inl (0, f33)) ∧ f33[3]? = some (.int g34) ∧ (¬ g34 = (-1 : Int32) → (wb_X1_next_87 o post v2 v4 μ)) ∧ (g34 = (-1 : Int32) → ((v4 ≤ v3 → (wb_X1_next_87 o post v2 v4 μ)) ∧ (¬ v4 ≤ v3 → (∃ f39 g40, μ o = some (.inl (0, f39)) ∧ f39[2]? = some (.int g40) ∧ ∃ f43, μ o = some (.inl (0, f43)) ∧ 3 < f43.length ∧ ∀ μ46, μ46 = ups μ o (.inl (0, f43.set 3 (.int g40))) → wb_X1_next_87 o post v2 v4 μ46))))
set_option maxHeartbeats 4000000 in
set_option maxRecDepth 100000 in
theorem tb_X1_next_65 {p : Program} {l : Launch} {e : Env} {s : State} {m : MethodId} {args : Array Value} {below : List Frame} {meth : Method} {c : Code} {G : gG} {A : Nat → Prop} {o : Nat} {post : Int32 → Mm → Prop} (X : Cx p l s m args meth c cX1_next 6 (some .int) RX1 G A) : ∀ (v2 : Int32) (v3 : Int32) (v4 : Int32) (μ : Mm), wb_X1_next_65 o post v2 v3 v4 μ → J p l e (rmL (1) 0 0) s m args below meth c 6 G A (MQ below (QG G A (pI post)) args s 0 0 A) 0 0 65 [(0, .ref o), (2, .int v2), (3, .int v3), (4, .int v4)] [] μ := by
  intro v2 v3 v4 μ hw
  unfold wb_X1_next_65 at hw
  refine j_aload_n X (pc' := 66) (kk := 0) (i := 0) 0 rfl rfl dX1_next_65 rfl ?_
  obtain ⟨f33, g34, hm35, hv36, hw1⟩ := hw
  refine j_getf X (pc' := 69) hm35 3 hv36 rfl fw_TX1 (by decide) wt_1_88 dX1_next_66 rfl ?_
  refine j_iconst X (pc' := 70) (v := (-1)) (by decide) dX1_next_69 rfl ?_
  refine j_icmp_ne X (pc' := 73) (tgt := 87) dX1_next_70 rfl (by decide) (fun c37 => ?_) (fun c37 => ?_)
  · have hw2 := hw1.1 c37
    refine j_loc [0, 1, 3] rfl ?_
    exact tb_X1_next_87 X _ _ _ hw2
  · have hw3 := hw1.2 c37
    refine j_iload X (pc' := 75) (i := 4) 3 rfl dX1_next_73 rfl ?_
    refine j_iload_n X (pc' := 76) (kk := 3) (i := 3) 2 rfl rfl dX1_next_75 rfl ?_
    refine j_icmp_le X (pc' := 79) (tgt := 87) dX1_next_76 rfl (by decide) (fun c38 => ?_) (fun c38 => ?_)
    · have hw4 := hw3.1 c38
      refine j_loc [0, 1, 3] rfl ?_
      exact tb_X1_next_87 X _ _ _ hw4
    · have hw5 := hw3.2 c38
      refine j_aload_n X (pc' := 80) (kk := 0) (i := 0) 0 rfl rfl dX1_next_79 rfl ?_
      refine j_aload_n X (pc' := 81) (kk := 0) (i := 0) 0 rfl rfl dX1_next_80 rfl ?_
      obtain ⟨f39, g40, hm41, hv42, hw6⟩ := hw5
      refine j_getf X (pc' := 84) hm41 2 hv42 rfl fw_TX1 (by decide) wt_1_87 dX1_next_81 rfl ?_
      obtain ⟨f43, hm44, hl45, hw7⟩ := hw6
      refine jp_putf X (pc' := 87) (ty := .int) hm44 3 hl45 rfl fw_TX1 tyX1_ok nmX1 (by decide) rfl wt_1_88 (by decide +kernel) rfl rfl dX1_next_84 rfl (fun μ46 e47 => ?_)
      have hw8 := hw7 μ46 e47
      refine j_loc [0, 1, 3] rfl ?_
      exact tb_X1_next_87 X _ _ _ hw8
def wb_X1_next_6 (o : Nat) (post : Int32 → Mm → Prop)  : Nat → Nat → Int32 → Int32 → Int32 → Int32 → Mm → Prop
  | 0 => fun _ _ _ _ _ _ => False
  | n + 1 => fun v1 v2 v3 v4 v5 μ => (v2 ≤ v5 → (∃ f2 g3, μ o = some (.inl (0, f2)) ∧ f2[3]? = some (.int g3) ∧ (¬ g3 = (-1 : Int32) → (wb_X1_next_65 o post v2 v3 v4 μ)) ∧ (g3 = (-1 : Int32) → ((∃ f24, μ v1 = some (.inl (1, f24))) ∧ wp_X2_size v1 μ (fun r7 μ8 => ∃ f9 g10, μ8 o = some (.inl (0, f9)) ∧ f9[2]? = some (.int g10) ∧ (v2 ≤ (r7 - g10) → (wb_X1_next_65 o post v2 v3 v4 μ8)) ∧ (¬ v2 ≤ (r7 - g10) → ((∃ f22, μ8 v1 = some (.inl (1, f22))) ∧ wp_X2_size v1 μ8 (fun r14 μ15 => ∃ f16, μ15 o = some (.inl (0, f16)) ∧ 3 < f16.length ∧ ∀ μ19, μ19 = ups μ15 o (.inl (0, f16.set 3 (.int r14))) → wb_X1_next_65 o post v2 v3 v4 μ19)))))))) ∧ (¬ v2 ≤ v5 → (∃ f25 g26, μ o = some (.inl (0, f25)) ∧ f25[2]? = some (.int g26) ∧ (∃ f32, μ v1 = some (.inl (1, f32))) ∧ wp_X2_at v1 (g26 + v5) μ (fun r29 μ30 => wb_X1_next_6 o post n v1 v2 v3 ((v4 <<< ((1 : Int32) &&& 31)) ||| r29) (v5 + 1) μ30)))
set_option maxHeartbeats 4000000 in
set_option maxRecDepth 100000 in
theorem tb_X1_next_6 {p : Program} {l : Launch} {e : Env} {s : State} {m : MethodId} {args : Array Value} {below : List Frame} {meth : Method} {c : Code} {G : gG} {A : Nat → Prop} {o : Nat} {post : Int32 → Mm → Prop} (X : Cx p l s m args meth c cX1_next 6 (some .int) RX1 G A) : ∀ (n : Nat) (v1 : Nat) (v2 : Int32) (v3 : Int32) (v4 : Int32) (v5 : Int32) (μ : Mm), wb_X1_next_6 o post n v1 v2 v3 v4 v5 μ → J p l e (rmL (1) 0 0) s m args below meth c 6 G A (MQ below (QG G A (pI post)) args s 0 0 A) 0 0 6 [(0, .ref o), (1, .ref v1), (2, .int v2), (3, .int v3), (4, .int v4), (5, .int v5)] [] μ := by
  intro n
  induction n with
  | zero => intro v1 v2 v3 v4 v5 μ hw; exact hw.elim
  | succ n ih =>
    intro v1 v2 v3 v4 v5 μ hw
    rw [wb_X1_next_6] at hw
    refine j_iload X (pc' := 8) (i := 5) 5 rfl dX1_next_6 rfl ?_
    refine j_iload_n X (pc' := 9) (kk := 2) (i := 2) 2 rfl rfl dX1_next_8 rfl ?_
    refine j_icmp_ge X (pc' := 12) (tgt := 36) dX1_next_9 rfl (by decide) (fun c1 => ?_) (fun c1 => ?_)
    · have hw1 := hw.1 c1
      refine j_aload_n X (pc' := 37) (kk := 0) (i := 0) 0 rfl rfl dX1_next_36 rfl ?_
      obtain ⟨f2, g3, hm4, hv5, hw2⟩ := hw1
      refine j_getf X (pc' := 40) hm4 3 hv5 rfl fw_TX1 (by decide) wt_1_88 dX1_next_37 rfl ?_
      refine j_iconst X (pc' := 41) (v := (-1)) (by decide) dX1_next_40 rfl ?_
      refine j_icmp_ne X (pc' := 44) (tgt := 65) dX1_next_41 rfl (by decide) (fun c6 => ?_) (fun c6 => ?_)
      · have hw3 := hw2.1 c6
        refine j_loc [0, 2, 3, 4] rfl ?_
        exact tb_X1_next_65 X _ _ _ _ hw3
      · have hw4 := hw2.2 c6
        refine j_iload_n X (pc' := 45) (kk := 2) (i := 2) 2 rfl rfl dX1_next_44 rfl ?_
        refine j_aload_n X (pc' := 46) (kk := 1) (i := 1) 1 rfl rfl dX1_next_45 rfl ?_
        obtain ⟨⟨f24, hm23⟩, hw5⟩ := hw4
        refine j_callVi (As := []) (rest := [.int v2]) X (pc' := 49) (cells' := 0) (slots' := 0) (c_X2_size l G A v1 μ _ hw5) (gk_X2_size wt_3_112) hd_X2_size (rmL_fit (k1 := 0) (k := 1) (by omega) (by decide)) hm23 rfl rfl rfl (Nat.le_of_ble_eq_true rfl) dX1_next_46 rfl ⟨Nat.le_of_ble_eq_true rfl, Nat.le_of_ble_eq_true rfl⟩ rfl rfl (fun r7 μ8 hw6 => ?_)
        refine j_aload_n X (pc' := 50) (kk := 0) (i := 0) 0 rfl rfl dX1_next_49 rfl ?_
        obtain ⟨f9, g10, hm11, hv12, hw7⟩ := hw6
        refine j_getf X (pc' := 53) hm11 2 hv12 rfl fw_TX1 (by decide) wt_1_87 dX1_next_50 rfl ?_
        refine j_isub X (pc' := 54) dX1_next_53 rfl ?_
        refine j_icmp_le X (pc' := 57) (tgt := 65) dX1_next_54 rfl (by decide) (fun c13 => ?_) (fun c13 => ?_)
        · have hw8 := hw7.1 c13
          refine j_loc [0, 2, 3, 4] rfl ?_
          exact tb_X1_next_65 X _ _ _ _ hw8
        · have hw9 := hw7.2 c13
          refine j_aload_n X (pc' := 58) (kk := 0) (i := 0) 0 rfl rfl dX1_next_57 rfl ?_
          refine j_aload_n X (pc' := 59) (kk := 1) (i := 1) 1 rfl rfl dX1_next_58 rfl ?_
          obtain ⟨⟨f22, hm21⟩, hw10⟩ := hw9
          refine j_callVi (As := []) (rest := [.ref o]) X (pc' := 62) (cells' := 0) (slots' := 0) (c_X2_size l G A v1 μ8 _ hw10) (gk_X2_size wt_3_112) hd_X2_size (rmL_fit (k1 := 0) (k := 1) (by omega) (by decide)) hm21 rfl rfl rfl (Nat.le_of_ble_eq_true rfl) dX1_next_59 rfl ⟨Nat.le_of_ble_eq_true rfl, Nat.le_of_ble_eq_true rfl⟩ rfl rfl (fun r14 μ15 hw11 => ?_)
          obtain ⟨f16, hm17, hl18, hw12⟩ := hw11
          refine jp_putf X (pc' := 65) (ty := .int) hm17 3 hl18 rfl fw_TX1 tyX1_ok nmX1 (by decide) rfl wt_1_88 (by decide +kernel) rfl rfl dX1_next_62 rfl (fun μ19 e20 => ?_)
          have hw13 := hw12 μ19 e20
          refine j_loc [0, 2, 3, 4] rfl ?_
          exact tb_X1_next_65 X _ _ _ _ hw13
    · have hw14 := hw.2 c1
      refine j_iload X (pc' := 14) (i := 4) 4 rfl dX1_next_12 rfl ?_
      refine j_iconst X (pc' := 15) (v := 1) (by decide) dX1_next_14 rfl ?_
      refine j_ishl X (pc' := 16) dX1_next_15 rfl ?_
      refine j_aload_n X (pc' := 17) (kk := 1) (i := 1) 1 rfl rfl dX1_next_16 rfl ?_
      refine j_aload_n X (pc' := 18) (kk := 0) (i := 0) 0 rfl rfl dX1_next_17 rfl ?_
      obtain ⟨f25, g26, hm27, hv28, hw15⟩ := hw14
      refine j_getf X (pc' := 21) hm27 2 hv28 rfl fw_TX1 (by decide) wt_1_87 dX1_next_18 rfl ?_
      refine j_iload X (pc' := 23) (i := 5) 5 rfl dX1_next_21 rfl ?_
      refine j_iadd X (pc' := 24) dX1_next_23 rfl ?_
      obtain ⟨⟨f32, hm31⟩, hw16⟩ := hw15
      refine j_callVi (As := [.int (g26 + v5)]) (rest := [.int (v4 <<< ((1 : Int32) &&& 31))]) X (pc' := 27) (cells' := 0) (slots' := 0) (c_X2_at l G A v1 (g26 + v5) μ _ hw16) (gk_X2_at wt_3_111) hd_X2_at (rmL_fit (k1 := 0) (k := 1) (by omega) (by decide)) hm31 rfl rfl rfl (Nat.le_of_ble_eq_true rfl) dX1_next_24 rfl ⟨Nat.le_of_ble_eq_true rfl, Nat.le_of_ble_eq_true rfl⟩ rfl rfl (fun r29 μ30 hw17 => ?_)
      refine j_ior X (pc' := 28) dX1_next_27 rfl ?_
      refine j_istore X (pc' := 30) (i := 4) (loc' := [(4, .int ((v4 <<< ((1 : Int32) &&& 31)) ||| r29)), (0, .ref o), (1, .ref v1), (2, .int v2), (3, .int v3), (5, .int v5)]) dX1_next_28 rfl (by decide) rfl ?_
      refine j_iinc X (pc' := 33) (i := 5) (v := v5 + 1) (loc' := [(5, .int (v5 + 1)), (4, .int ((v4 <<< ((1 : Int32) &&& 31)) ||| r29)), (0, .ref o), (1, .ref v1), (2, .int v2), (3, .int v3)]) 5 rfl rfl dX1_next_30 rfl (by decide) rfl ?_
      refine j_goto X (tgt := 6) dX1_next_33 (by decide) ?_
      refine j_loc [2, 3, 4, 5, 1, 0] rfl ?_
      exact ih _ _ _ _ _ _ hw17
def wp_X1_next (o : Nat) (x1 : Nat) (x2 : Int32) (x3 : Int32) (μ : Mm) (post : Int32 → Mm → Prop) : Prop := ∃ n, wb_X1_next_6 o post n x1 x2 x3 (0 : Int32) (0 : Int32) μ
set_option maxHeartbeats 4000000 in
set_option maxRecDepth 100000 in
theorem c_X1_next (l : Launch) (G : gG) (A : Nat → Prop) (o : Nat) (x1 : Nat) (x2 : Int32) (x3 : Int32) (μ : Mm) (post : Int32 → Mm → Prop) (h : wp_X1_next o x1 x2 x3 μ post) : Met l yX1_next (.code yX1_next cX1_next 6 (some .int) :: wsA) (rmL (1) 0 0) (PcG G A μ [.ref o, .ref x1, .int x2, .int x3]) (QG G A (pI post)) 0 0 A := by
  refine met_J (loc := [(0, .ref o), (1, .ref x1), (2, .int x2), (3, .int x3)]) (by decide +kernel) (Nat.le_of_ble_eq_true rfl) rfl ?_
  intro p e s m args below meth c X hin
  have X : Cx p l s m args meth c cX1_next 6 (some .int) RX1 G A := X
  have hw := h
  unfold wp_X1_next at hw
  refine j_iconst X (pc' := 1) (v := 0) (by decide) dX1_next_0 rfl ?_
  refine j_istore X (pc' := 3) (i := 4) (loc' := [(4, .int ((0 : Int32))), (0, .ref o), (1, .ref x1), (2, .int x2), (3, .int x3)]) dX1_next_1 rfl (by decide) rfl ?_
  refine j_iconst X (pc' := 4) (v := 0) (by decide) dX1_next_3 rfl ?_
  refine j_istore X (pc' := 6) (i := 5) (loc' := [(5, .int ((0 : Int32))), (4, .int ((0 : Int32))), (0, .ref o), (1, .ref x1), (2, .int x2), (3, .int x3)]) dX1_next_4 rfl (by decide) rfl ?_
  obtain ⟨n0, hw1⟩ := hw
  refine j_loc [2, 3, 4, 5, 1, 0] rfl ?_
  exact tb_X1_next_6 X n0 _ _ _ _ _ _ hw1
/-! BitNotation$Reader.nextParts(LBitNotation$Type;LBitNotation$Row;)I -/
theorem dX1_nextParts_0 : decode cX1_nextParts 0 = .ok (.iconst 0, 1) := by decide +kernel
theorem dX1_nextParts_1 : decode cX1_nextParts 1 = .ok (.istore_n 3, 1) := by decide +kernel
theorem dX1_nextParts_2 : decode cX1_nextParts 2 = .ok (.iconst 0, 1) := by decide +kernel
theorem dX1_nextParts_3 : decode cX1_nextParts 3 = .ok (.istore 4, 2) := by decide +kernel
theorem dX1_nextParts_5 : decode cX1_nextParts 5 = .ok (.iload 4, 2) := by decide +kernel
theorem dX1_nextParts_7 : decode cX1_nextParts 7 = .ok (.aload_n 1, 1) := by decide +kernel
theorem dX1_nextParts_8 : decode cX1_nextParts 8 = .ok (.getfield 74, 3) := by decide +kernel
theorem dX1_nextParts_11 : decode cX1_nextParts 11 = .ok (.invokevirtual 91, 3) := by decide +kernel
theorem dX1_nextParts_14 : decode cX1_nextParts 14 = .ok (.if_icmp .ge 54, 3) := by decide +kernel
theorem dX1_nextParts_17 : decode cX1_nextParts 17 = .ok (.aload_n 1, 1) := by decide +kernel
theorem dX1_nextParts_18 : decode cX1_nextParts 18 = .ok (.iload 4, 2) := by decide +kernel
theorem dX1_nextParts_20 : decode cX1_nextParts 20 = .ok (.invokevirtual 109, 3) := by decide +kernel
theorem dX1_nextParts_23 : decode cX1_nextParts 23 = .ok (.ifCond .eq 32, 3) := by decide +kernel
theorem dX1_nextParts_26 : decode cX1_nextParts 26 = .ok (.aload_n 0, 1) := by decide +kernel
theorem dX1_nextParts_27 : decode cX1_nextParts 27 = .ok (.aload_n 2, 1) := by decide +kernel
theorem dX1_nextParts_28 : decode cX1_nextParts 28 = .ok (.iconst 1, 1) := by decide +kernel
theorem dX1_nextParts_29 : decode cX1_nextParts 29 = .ok (.iconst 1, 1) := by decide +kernel
theorem dX1_nextParts_30 : decode cX1_nextParts 30 = .ok (.invokevirtual 64, 3) := by decide +kernel
theorem dX1_nextParts_33 : decode cX1_nextParts 33 = .ok (.istore 5, 2) := by decide +kernel
theorem dX1_nextParts_35 : decode cX1_nextParts 35 = .ok (.aload_n 0, 1) := by decide +kernel
theorem dX1_nextParts_36 : decode cX1_nextParts 36 = .ok (.getfield 14, 3) := by decide +kernel
theorem dX1_nextParts_39 : decode cX1_nextParts 39 = .ok (.iload 5, 2) := by decide +kernel
theorem dX1_nextParts_41 : decode cX1_nextParts 41 = .ok (.invokevirtual 68, 3) := by decide +kernel
theorem dX1_nextParts_44 : decode cX1_nextParts 44 = .ok (.iload_n 3, 1) := by decide +kernel
theorem dX1_nextParts_45 : decode cX1_nextParts 45 = .ok (.iload 5, 2) := by decide +kernel
theorem dX1_nextParts_47 : decode cX1_nextParts 47 = .ok (.iload 4, 2) := by decide +kernel
theorem dX1_nextParts_49 : decode cX1_nextParts 49 = .ok (.ishl, 1) := by decide +kernel
theorem dX1_nextParts_50 : decode cX1_nextParts 50 = .ok (.ior, 1) := by decide +kernel
theorem dX1_nextParts_51 : decode cX1_nextParts 51 = .ok (.istore_n 3, 1) := by decide +kernel
theorem dX1_nextParts_52 : decode cX1_nextParts 52 = .ok (.goto 10, 3) := by decide +kernel
theorem dX1_nextParts_55 : decode cX1_nextParts 55 = .ok (.iload_n 3, 1) := by decide +kernel
theorem dX1_nextParts_56 : decode cX1_nextParts 56 = .ok (.iconst 1, 1) := by decide +kernel
theorem dX1_nextParts_57 : decode cX1_nextParts 57 = .ok (.iload 4, 2) := by decide +kernel
theorem dX1_nextParts_59 : decode cX1_nextParts 59 = .ok (.ishl, 1) := by decide +kernel
theorem dX1_nextParts_60 : decode cX1_nextParts 60 = .ok (.ior, 1) := by decide +kernel
theorem dX1_nextParts_61 : decode cX1_nextParts 61 = .ok (.istore_n 3, 1) := by decide +kernel
theorem dX1_nextParts_62 : decode cX1_nextParts 62 = .ok (.iinc 4 1, 3) := by decide +kernel
theorem dX1_nextParts_65 : decode cX1_nextParts 65 = .ok (.goto (-60), 3) := by decide +kernel
theorem dX1_nextParts_68 : decode cX1_nextParts 68 = .ok (.iload_n 3, 1) := by decide +kernel
theorem dX1_nextParts_69 : decode cX1_nextParts 69 = .ok (.ireturn, 1) := by decide +kernel
def wb_X1_nextParts_5 (o : Nat) (post : Int32 → Mm → Prop)  : Nat → Nat → Nat → Int32 → Int32 → Mm → Prop
  | 0 => fun _ _ _ _ _ => False
  | n + 1 => fun v1 v2 v3 v4 μ => ∃ f1 g2, μ v1 = some (.inl (2, f1)) ∧ f1[4]? = some (.ref g2) ∧ (∃ f26, μ g2 = some (.inl (3, f26))) ∧ wp_X4_size g2 μ (fun r5 μ6 => (r5 ≤ v4 → (post v3 μ6)) ∧ (¬ r5 ≤ v4 → ((∃ f24, μ6 v1 = some (.inl (2, f24))) ∧ wp_X3_isOptional v1 v4 μ6 (fun r8 μ9 => (r8 = 0 → (wb_X1_nextParts_5 o post n v1 v2 (v3 ||| ((1 : Int32) <<< (v4 &&& 31))) (v4 + 1) μ9)) ∧ (¬ r8 = 0 → ((∃ f22, μ9 o = some (.inl (0, f22))) ∧ wp_X1_next o v2 (1 : Int32) (1 : Int32) μ9 (fun r11 μ12 => ∃ f13 g14, μ12 o = some (.inl (0, f13)) ∧ f13[0]? = some (.ref g14) ∧ (∃ f20, μ12 g14 = some (.inl (1, f20))) ∧ wp_X2_append g14 r11 μ12 (fun μ18 => wb_X1_nextParts_5 o post n v1 v2 (v3 ||| (r11 <<< (v4 &&& 31))) (v4 + 1) μ18))))))))
set_option maxHeartbeats 4000000 in
set_option maxRecDepth 100000 in
theorem tb_X1_nextParts_5 {p : Program} {l : Launch} {e : Env} {s : State} {m : MethodId} {args : Array Value} {below : List Frame} {meth : Method} {c : Code} {G : gG} {A : Nat → Prop} {o : Nat} {post : Int32 → Mm → Prop} (X : Cx p l s m args meth c cX1_nextParts 6 (some .int) RX1 G A) : ∀ (n : Nat) (v1 : Nat) (v2 : Nat) (v3 : Int32) (v4 : Int32) (μ : Mm), wb_X1_nextParts_5 o post n v1 v2 v3 v4 μ → J p l e (rmL (2) 0 0) s m args below meth c 6 G A (MQ below (QG G A (pI post)) args s 0 0 A) 0 0 5 [(0, .ref o), (1, .ref v1), (2, .ref v2), (3, .int v3), (4, .int v4)] [] μ := by
  intro n
  induction n with
  | zero => intro v1 v2 v3 v4 μ hw; exact hw.elim
  | succ n ih =>
    intro v1 v2 v3 v4 μ hw
    rw [wb_X1_nextParts_5] at hw
    refine j_iload X (pc' := 7) (i := 4) 4 rfl dX1_nextParts_5 rfl ?_
    refine j_aload_n X (pc' := 8) (kk := 1) (i := 1) 1 rfl rfl dX1_nextParts_7 rfl ?_
    obtain ⟨f1, g2, hm3, hv4, hw1⟩ := hw
    refine j_getfN X (pc' := 11) hm3 4 hv4 rfl fw_TX3 (by decide) (List.mem_of_getElem? (i := 12) rfl) dX1_nextParts_8 rfl ?_
    obtain ⟨⟨f26, hm25⟩, hw2⟩ := hw1
    refine j_callVi (As := []) (rest := [.int v4]) X (pc' := 14) (cells' := 0) (slots' := 0) (c_X4_size l G A g2 μ _ hw2) (gk_X4_size wt_3_117) hd_X4_size (rmL_fit (k1 := 0) (k := 2) (by omega) (by decide)) hm25 rfl rfl rfl (Nat.le_of_ble_eq_true rfl) dX1_nextParts_11 rfl ⟨Nat.le_of_ble_eq_true rfl, Nat.le_of_ble_eq_true rfl⟩ rfl rfl (fun r5 μ6 hw3 => ?_)
    refine j_icmp_ge X (pc' := 17) (tgt := 68) dX1_nextParts_14 rfl (by decide) (fun c7 => ?_) (fun c7 => ?_)
    · have hw4 := hw3.1 c7
      refine j_iload_n X (pc' := 69) (kk := 3) (i := 3) 3 rfl rfl dX1_nextParts_68 rfl ?_
      exact j_iret X ⟨_, rfl, hw4⟩ (Nat.le_of_ble_eq_true rfl) (Nat.le_of_ble_eq_true rfl) dX1_nextParts_69
    · have hw5 := hw3.2 c7
      refine j_aload_n X (pc' := 18) (kk := 1) (i := 1) 1 rfl rfl dX1_nextParts_17 rfl ?_
      refine j_iload X (pc' := 20) (i := 4) 4 rfl dX1_nextParts_18 rfl ?_
      obtain ⟨⟨f24, hm23⟩, hw6⟩ := hw5
      refine j_callVi (As := [.int v4]) (rest := []) X (pc' := 23) (cells' := 0) (slots' := 0) (c_X3_isOptional l G A v1 v4 μ6 _ hw6) (gk_X3_isOptional wt_3_118) hd_X3_isOptional (rmL_fit (k1 := 0) (k := 2) (by omega) (by decide)) hm23 rfl rfl rfl (Nat.le_of_ble_eq_true rfl) dX1_nextParts_20 rfl ⟨Nat.le_of_ble_eq_true rfl, Nat.le_of_ble_eq_true rfl⟩ rfl rfl (fun r8 μ9 hw7 => ?_)
      refine j_if_eq X (pc' := 26) (tgt := 55) dX1_nextParts_23 rfl (by decide) (fun c10 => ?_) (fun c10 => ?_)
      · have hw8 := hw7.1 c10
        refine j_iload_n X (pc' := 56) (kk := 3) (i := 3) 3 rfl rfl dX1_nextParts_55 rfl ?_
        refine j_iconst X (pc' := 57) (v := 1) (by decide) dX1_nextParts_56 rfl ?_
        refine j_iload X (pc' := 59) (i := 4) 4 rfl dX1_nextParts_57 rfl ?_
        refine j_ishl X (pc' := 60) dX1_nextParts_59 rfl ?_
        refine j_ior X (pc' := 61) dX1_nextParts_60 rfl ?_
        refine j_istore_n X (pc' := 62) (kk := 3) (i := 3) (loc' := [(3, .int (v3 ||| ((1 : Int32) <<< (v4 &&& 31)))), (0, .ref o), (1, .ref v1), (2, .ref v2), (4, .int v4)]) dX1_nextParts_61 rfl rfl (by decide) rfl ?_
        refine j_iinc X (pc' := 65) (i := 4) (v := v4 + 1) (loc' := [(4, .int (v4 + 1)), (3, .int (v3 ||| ((1 : Int32) <<< (v4 &&& 31)))), (0, .ref o), (1, .ref v1), (2, .ref v2)]) 4 rfl rfl dX1_nextParts_62 rfl (by decide) rfl ?_
        refine j_goto X (tgt := 5) dX1_nextParts_65 (by decide) ?_
        refine j_loc [2, 3, 4, 1, 0] rfl ?_
        exact ih _ _ _ _ _ hw8
      · have hw9 := hw7.2 c10
        refine j_aload_n X (pc' := 27) (kk := 0) (i := 0) 0 rfl rfl dX1_nextParts_26 rfl ?_
        refine j_aload_n X (pc' := 28) (kk := 2) (i := 2) 2 rfl rfl dX1_nextParts_27 rfl ?_
        refine j_iconst X (pc' := 29) (v := 1) (by decide) dX1_nextParts_28 rfl ?_
        refine j_iconst X (pc' := 30) (v := 1) (by decide) dX1_nextParts_29 rfl ?_
        obtain ⟨⟨f22, hm21⟩, hw10⟩ := hw9
        refine j_callVi (As := [.ref v2, .int (1 : Int32), .int (1 : Int32)]) (rest := []) X (pc' := 33) (cells' := 0) (slots' := 0) (c_X1_next l G A o v2 (1 : Int32) (1 : Int32) μ9 _ hw10) (gk_X1_next wt_3_107) hd_X1_next (rmL_fit (k1 := 1) (k := 2) (by omega) (by decide)) hm21 rfl rfl rfl (Nat.le_of_ble_eq_true rfl) dX1_nextParts_30 rfl ⟨Nat.le_of_ble_eq_true rfl, Nat.le_of_ble_eq_true rfl⟩ rfl rfl (fun r11 μ12 hw11 => ?_)
        refine j_istore X (pc' := 35) (i := 5) (loc' := [(5, .int r11), (0, .ref o), (1, .ref v1), (2, .ref v2), (3, .int v3), (4, .int v4)]) dX1_nextParts_33 rfl (by decide) rfl ?_
        refine j_aload_n X (pc' := 36) (kk := 0) (i := 0) 1 rfl rfl dX1_nextParts_35 rfl ?_
        obtain ⟨f13, g14, hm15, hv16, hw12⟩ := hw11
        refine j_getf X (pc' := 39) hm15 0 hv16 rfl fw_TX1 (by decide) wt_1_84 dX1_nextParts_36 rfl ?_
        refine j_iload X (pc' := 41) (i := 5) 0 rfl dX1_nextParts_39 rfl ?_
        obtain ⟨⟨f20, hm19⟩, hw13⟩ := hw12
        refine j_callVv (As := [.int r11]) (rest := []) X (pc' := 44) (cells' := 0) (slots' := 0) (c_X2_append l G A g14 r11 μ12 _ hw13) (gk_X2_append wt_3_119) hd_X2_append (rmL_fit (k1 := 0) (k := 2) (by omega) (by decide)) hm19 rfl rfl rfl (Nat.le_of_ble_eq_true rfl) dX1_nextParts_41 rfl ⟨Nat.le_of_ble_eq_true rfl, Nat.le_of_ble_eq_true rfl⟩ rfl rfl (fun μ18 hw14 => ?_)
        refine j_iload_n X (pc' := 45) (kk := 3) (i := 3) 4 rfl rfl dX1_nextParts_44 rfl ?_
        refine j_iload X (pc' := 47) (i := 5) 0 rfl dX1_nextParts_45 rfl ?_
        refine j_iload X (pc' := 49) (i := 4) 5 rfl dX1_nextParts_47 rfl ?_
        refine j_ishl X (pc' := 50) dX1_nextParts_49 rfl ?_
        refine j_ior X (pc' := 51) dX1_nextParts_50 rfl ?_
        refine j_istore_n X (pc' := 52) (kk := 3) (i := 3) (loc' := [(3, .int (v3 ||| (r11 <<< (v4 &&& 31)))), (5, .int r11), (0, .ref o), (1, .ref v1), (2, .ref v2), (4, .int v4)]) dX1_nextParts_51 rfl rfl (by decide) rfl ?_
        refine j_goto X (tgt := 62) dX1_nextParts_52 (by decide) ?_
        refine j_iinc X (pc' := 65) (i := 4) (v := v4 + 1) (loc' := [(4, .int (v4 + 1)), (3, .int (v3 ||| (r11 <<< (v4 &&& 31)))), (5, .int r11), (0, .ref o), (1, .ref v1), (2, .ref v2)]) 5 rfl rfl dX1_nextParts_62 rfl (by decide) rfl ?_
        refine j_goto X (tgt := 5) dX1_nextParts_65 (by decide) ?_
        refine j_loc [3, 4, 5, 1, 0] rfl ?_
        exact ih _ _ _ _ _ hw14
def wp_X1_nextParts (o : Nat) (x1 : Nat) (x2 : Nat) (μ : Mm) (post : Int32 → Mm → Prop) : Prop := ∃ n, wb_X1_nextParts_5 o post n x1 x2 (0 : Int32) (0 : Int32) μ
set_option maxHeartbeats 4000000 in
set_option maxRecDepth 100000 in
theorem c_X1_nextParts (l : Launch) (G : gG) (A : Nat → Prop) (o : Nat) (x1 : Nat) (x2 : Nat) (μ : Mm) (post : Int32 → Mm → Prop) (h : wp_X1_nextParts o x1 x2 μ post) : Met l yX1_nextParts (.code yX1_nextParts cX1_nextParts 6 (some .int) :: wsA) (rmL (2) 0 0) (PcG G A μ [.ref o, .ref x1, .ref x2]) (QG G A (pI post)) 0 0 A := by
  refine met_J (loc := [(0, .ref o), (1, .ref x1), (2, .ref x2)]) (by decide +kernel) (Nat.le_of_ble_eq_true rfl) rfl ?_
  intro p e s m args below meth c X hin
  have X : Cx p l s m args meth c cX1_nextParts 6 (some .int) RX1 G A := X
  have hw := h
  unfold wp_X1_nextParts at hw
  refine j_iconst X (pc' := 1) (v := 0) (by decide) dX1_nextParts_0 rfl ?_
  refine j_istore_n X (pc' := 2) (kk := 3) (i := 3) (loc' := [(3, .int ((0 : Int32))), (0, .ref o), (1, .ref x1), (2, .ref x2)]) dX1_nextParts_1 rfl rfl (by decide) rfl ?_
  refine j_iconst X (pc' := 3) (v := 0) (by decide) dX1_nextParts_2 rfl ?_
  refine j_istore X (pc' := 5) (i := 4) (loc' := [(4, .int ((0 : Int32))), (3, .int ((0 : Int32))), (0, .ref o), (1, .ref x1), (2, .ref x2)]) dX1_nextParts_3 rfl (by decide) rfl ?_
  obtain ⟨n0, hw1⟩ := hw
  refine j_loc [2, 3, 4, 1, 0] rfl ?_
  exact tb_X1_nextParts_5 X n0 _ _ _ _ _ hw1
/-! BitNotation$Reader.skip(ILBitNotation$Row;)V -/
theorem dX1_skip_0 : decode cX1_skip 0 = .ok (.aload_n 0, 1) := by decide +kernel
theorem dX1_skip_1 : decode cX1_skip 1 = .ok (.getfield 27, 3) := by decide +kernel
theorem dX1_skip_4 : decode cX1_skip 4 = .ok (.iconst (-1), 1) := by decide +kernel
theorem dX1_skip_5 : decode cX1_skip 5 = .ok (.if_icmp .ne 24, 3) := by decide +kernel
theorem dX1_skip_8 : decode cX1_skip 8 = .ok (.iload_n 1, 1) := by decide +kernel
theorem dX1_skip_9 : decode cX1_skip 9 = .ok (.aload_n 2, 1) := by decide +kernel
theorem dX1_skip_10 : decode cX1_skip 10 = .ok (.invokevirtual 37, 3) := by decide +kernel
theorem dX1_skip_13 : decode cX1_skip 13 = .ok (.aload_n 0, 1) := by decide +kernel
theorem dX1_skip_14 : decode cX1_skip 14 = .ok (.getfield 24, 3) := by decide +kernel
theorem dX1_skip_17 : decode cX1_skip 17 = .ok (.isub, 1) := by decide +kernel
theorem dX1_skip_18 : decode cX1_skip 18 = .ok (.if_icmp .le 11, 3) := by decide +kernel
theorem dX1_skip_21 : decode cX1_skip 21 = .ok (.aload_n 0, 1) := by decide +kernel
theorem dX1_skip_22 : decode cX1_skip 22 = .ok (.aload_n 2, 1) := by decide +kernel
theorem dX1_skip_23 : decode cX1_skip 23 = .ok (.invokevirtual 37, 3) := by decide +kernel
theorem dX1_skip_26 : decode cX1_skip 26 = .ok (.putfield 27, 3) := by decide +kernel
theorem dX1_skip_29 : decode cX1_skip 29 = .ok (.aload_n 0, 1) := by decide +kernel
theorem dX1_skip_30 : decode cX1_skip 30 = .ok (.getfield 27, 3) := by decide +kernel
theorem dX1_skip_33 : decode cX1_skip 33 = .ok (.iconst (-1), 1) := by decide +kernel
theorem dX1_skip_34 : decode cX1_skip 34 = .ok (.if_icmp .ne 13, 3) := by decide +kernel
theorem dX1_skip_37 : decode cX1_skip 37 = .ok (.aload_n 0, 1) := by decide +kernel
theorem dX1_skip_38 : decode cX1_skip 38 = .ok (.dup, 1) := by decide +kernel
theorem dX1_skip_39 : decode cX1_skip 39 = .ok (.getfield 24, 3) := by decide +kernel
theorem dX1_skip_42 : decode cX1_skip 42 = .ok (.iload_n 1, 1) := by decide +kernel
theorem dX1_skip_43 : decode cX1_skip 43 = .ok (.iadd, 1) := by decide +kernel
theorem dX1_skip_44 : decode cX1_skip 44 = .ok (.putfield 24, 3) := by decide +kernel
theorem dX1_skip_47 : decode cX1_skip 47 = .ok (.return_, 1) := by decide +kernel
def wb_X1_skip_29 (o : Nat) (post : Mm → Prop)  (v1 : Int32) (μ : Mm) : Prop := ∃ f24 g25, μ o = some (.inl (0, f24)) ∧ f24[3]? = some (.int g25) ∧ (¬ g25 = (-1 : Int32) → (post μ)) ∧ (g25 = (-1 : Int32) → (∃ f29 g30, μ o = some (.inl (0, f29)) ∧ f29[2]? = some (.int g30) ∧ ∃ f33, μ o = some (.inl (0, f33)) ∧ 2 < f33.length ∧ ∀ μ36, μ36 = ups μ o (.inl (0, f33.set 2 (.int (g30 + v1)))) → post μ36))
set_option maxHeartbeats 4000000 in
set_option maxRecDepth 100000 in
theorem tb_X1_skip_29 {p : Program} {l : Launch} {e : Env} {s : State} {m : MethodId} {args : Array Value} {below : List Frame} {meth : Method} {c : Code} {G : gG} {A : Nat → Prop} {o : Nat} {post : Mm → Prop} (X : Cx p l s m args meth c cX1_skip 3 none RX1 G A) : ∀ (v1 : Int32) (μ : Mm), wb_X1_skip_29 o post v1 μ → J p l e (rmL (1) 0 0) s m args below meth c 3 G A (MQ below (QG G A (pV post)) args s 0 0 A) 0 0 29 [(0, .ref o), (1, .int v1)] [] μ := by
  intro v1 μ hw
  unfold wb_X1_skip_29 at hw
  refine j_aload_n X (pc' := 30) (kk := 0) (i := 0) 0 rfl rfl dX1_skip_29 rfl ?_
  obtain ⟨f24, g25, hm26, hv27, hw1⟩ := hw
  refine j_getf X (pc' := 33) hm26 3 hv27 rfl fw_TX1 (by decide) wt_1_88 dX1_skip_30 rfl ?_
  refine j_iconst X (pc' := 34) (v := (-1)) (by decide) dX1_skip_33 rfl ?_
  refine j_icmp_ne X (pc' := 37) (tgt := 47) dX1_skip_34 rfl (by decide) (fun c28 => ?_) (fun c28 => ?_)
  · have hw2 := hw1.1 c28
    exact j_vret X ⟨rfl, hw2⟩ (Nat.le_of_ble_eq_true rfl) (Nat.le_of_ble_eq_true rfl) dX1_skip_47
  · have hw3 := hw1.2 c28
    refine j_aload_n X (pc' := 38) (kk := 0) (i := 0) 0 rfl rfl dX1_skip_37 rfl ?_
    refine j_dup X (pc' := 39) rfl dX1_skip_38 rfl ?_
    obtain ⟨f29, g30, hm31, hv32, hw4⟩ := hw3
    refine j_getf X (pc' := 42) hm31 2 hv32 rfl fw_TX1 (by decide) wt_1_87 dX1_skip_39 rfl ?_
    refine j_iload_n X (pc' := 43) (kk := 1) (i := 1) 1 rfl rfl dX1_skip_42 rfl ?_
    refine j_iadd X (pc' := 44) dX1_skip_43 rfl ?_
    obtain ⟨f33, hm34, hl35, hw5⟩ := hw4
    refine jp_putf X (pc' := 47) (ty := .int) hm34 2 hl35 rfl fw_TX1 tyX1_ok nmX1 (by decide) rfl wt_1_87 (by decide +kernel) rfl rfl dX1_skip_44 rfl (fun μ36 e37 => ?_)
    have hw6 := hw5 μ36 e37
    exact j_vret X ⟨rfl, hw6⟩ (Nat.le_of_ble_eq_true rfl) (Nat.le_of_ble_eq_true rfl) dX1_skip_47
def wp_X1_skip (o : Nat) (x1 : Int32) (x2 : Nat) (μ : Mm) (post : Mm → Prop) : Prop := ∃ f1 g2, μ o = some (.inl (0, f1)) ∧ f1[3]? = some (.int g2) ∧ (¬ g2 = (-1 : Int32) → (wb_X1_skip_29 o post x1 μ)) ∧ (g2 = (-1 : Int32) → ((∃ f23, μ x2 = some (.inl (1, f23))) ∧ wp_X2_size x2 μ (fun r6 μ7 => ∃ f8 g9, μ7 o = some (.inl (0, f8)) ∧ f8[2]? = some (.int g9) ∧ (x1 ≤ (r6 - g9) → (wb_X1_skip_29 o post x1 μ7)) ∧ (¬ x1 ≤ (r6 - g9) → ((∃ f21, μ7 x2 = some (.inl (1, f21))) ∧ wp_X2_size x2 μ7 (fun r13 μ14 => ∃ f15, μ14 o = some (.inl (0, f15)) ∧ 3 < f15.length ∧ ∀ μ18, μ18 = ups μ14 o (.inl (0, f15.set 3 (.int r13))) → wb_X1_skip_29 o post x1 μ18))))))
set_option maxHeartbeats 4000000 in
set_option maxRecDepth 100000 in
theorem c_X1_skip (l : Launch) (G : gG) (A : Nat → Prop) (o : Nat) (x1 : Int32) (x2 : Nat) (μ : Mm) (post : Mm → Prop) (h : wp_X1_skip o x1 x2 μ post) : Met l yX1_skip (.code yX1_skip cX1_skip 3 none :: wsA) (rmL (1) 0 0) (PcG G A μ [.ref o, .int x1, .ref x2]) (QG G A (pV post)) 0 0 A := by
  refine met_J (loc := [(0, .ref o), (1, .int x1), (2, .ref x2)]) (by decide +kernel) (Nat.le_of_ble_eq_true rfl) rfl ?_
  intro p e s m args below meth c X hin
  have X : Cx p l s m args meth c cX1_skip 3 none RX1 G A := X
  have hw := h
  unfold wp_X1_skip at hw
  refine j_aload_n X (pc' := 1) (kk := 0) (i := 0) 0 rfl rfl dX1_skip_0 rfl ?_
  obtain ⟨f1, g2, hm3, hv4, hw1⟩ := hw
  refine j_getf X (pc' := 4) hm3 3 hv4 rfl fw_TX1 (by decide) wt_1_88 dX1_skip_1 rfl ?_
  refine j_iconst X (pc' := 5) (v := (-1)) (by decide) dX1_skip_4 rfl ?_
  refine j_icmp_ne X (pc' := 8) (tgt := 29) dX1_skip_5 rfl (by decide) (fun c5 => ?_) (fun c5 => ?_)
  · have hw2 := hw1.1 c5
    refine j_loc [0, 1] rfl ?_
    exact tb_X1_skip_29 X _ _ hw2
  · have hw3 := hw1.2 c5
    refine j_iload_n X (pc' := 9) (kk := 1) (i := 1) 1 rfl rfl dX1_skip_8 rfl ?_
    refine j_aload_n X (pc' := 10) (kk := 2) (i := 2) 2 rfl rfl dX1_skip_9 rfl ?_
    obtain ⟨⟨f23, hm22⟩, hw4⟩ := hw3
    refine j_callVi (As := []) (rest := [.int x1]) X (pc' := 13) (cells' := 0) (slots' := 0) (c_X2_size l G A x2 μ _ hw4) (gk_X2_size wt_3_112) hd_X2_size (rmL_fit (k1 := 0) (k := 1) (by omega) (by decide)) hm22 rfl rfl rfl (Nat.le_of_ble_eq_true rfl) dX1_skip_10 rfl ⟨Nat.le_of_ble_eq_true rfl, Nat.le_of_ble_eq_true rfl⟩ rfl rfl (fun r6 μ7 hw5 => ?_)
    refine j_aload_n X (pc' := 14) (kk := 0) (i := 0) 0 rfl rfl dX1_skip_13 rfl ?_
    obtain ⟨f8, g9, hm10, hv11, hw6⟩ := hw5
    refine j_getf X (pc' := 17) hm10 2 hv11 rfl fw_TX1 (by decide) wt_1_87 dX1_skip_14 rfl ?_
    refine j_isub X (pc' := 18) dX1_skip_17 rfl ?_
    refine j_icmp_le X (pc' := 21) (tgt := 29) dX1_skip_18 rfl (by decide) (fun c12 => ?_) (fun c12 => ?_)
    · have hw7 := hw6.1 c12
      refine j_loc [0, 1] rfl ?_
      exact tb_X1_skip_29 X _ _ hw7
    · have hw8 := hw6.2 c12
      refine j_aload_n X (pc' := 22) (kk := 0) (i := 0) 0 rfl rfl dX1_skip_21 rfl ?_
      refine j_aload_n X (pc' := 23) (kk := 2) (i := 2) 2 rfl rfl dX1_skip_22 rfl ?_
      obtain ⟨⟨f21, hm20⟩, hw9⟩ := hw8
      refine j_callVi (As := []) (rest := [.ref o]) X (pc' := 26) (cells' := 0) (slots' := 0) (c_X2_size l G A x2 μ7 _ hw9) (gk_X2_size wt_3_112) hd_X2_size (rmL_fit (k1 := 0) (k := 1) (by omega) (by decide)) hm20 rfl rfl rfl (Nat.le_of_ble_eq_true rfl) dX1_skip_23 rfl ⟨Nat.le_of_ble_eq_true rfl, Nat.le_of_ble_eq_true rfl⟩ rfl rfl (fun r13 μ14 hw10 => ?_)
      obtain ⟨f15, hm16, hl17, hw11⟩ := hw10
      refine jp_putf X (pc' := 29) (ty := .int) hm16 3 hl17 rfl fw_TX1 tyX1_ok nmX1 (by decide) rfl wt_1_88 (by decide +kernel) rfl rfl dX1_skip_26 rfl (fun μ18 e19 => ?_)
      have hw12 := hw11 μ18 e19
      refine j_loc [0, 1] rfl ?_
      exact tb_X1_skip_29 X _ _ hw12
/-! BitNotation$Reader.getAddition(LBitNotation$Type;ILBitNotation$Row;I)V -/
theorem dX1_getAddition_0 : decode cX1_getAddition 0 = .ok (.aload_n 0, 1) := by decide +kernel
theorem dX1_getAddition_1 : decode cX1_getAddition 1 = .ok (.getfield 24, 3) := by decide +kernel
theorem dX1_getAddition_4 : decode cX1_getAddition 4 = .ok (.istore 5, 2) := by decide +kernel
theorem dX1_getAddition_6 : decode cX1_getAddition 6 = .ok (.aload_n 0, 1) := by decide +kernel
theorem dX1_getAddition_7 : decode cX1_getAddition 7 = .ok (.aload_n 1, 1) := by decide +kernel
theorem dX1_getAddition_8 : decode cX1_getAddition 8 = .ok (.aload_n 3, 1) := by decide +kernel
theorem dX1_getAddition_9 : decode cX1_getAddition 9 = .ok (.iload 4, 2) := by decide +kernel
theorem dX1_getAddition_11 : decode cX1_getAddition 11 = .ok (.iconst 1, 1) := by decide +kernel
theorem dX1_getAddition_12 : decode cX1_getAddition 12 = .ok (.iadd, 1) := by decide +kernel
theorem dX1_getAddition_13 : decode cX1_getAddition 13 = .ok (.invokevirtual 33, 3) := by decide +kernel
theorem dX1_getAddition_16 : decode cX1_getAddition 16 = .ok (.aload_n 0, 1) := by decide +kernel
theorem dX1_getAddition_17 : decode cX1_getAddition 17 = .ok (.getfield 27, 3) := by decide +kernel
theorem dX1_getAddition_20 : decode cX1_getAddition 20 = .ok (.iconst (-1), 1) := by decide +kernel
theorem dX1_getAddition_21 : decode cX1_getAddition 21 = .ok (.if_icmp .ne 20, 3) := by decide +kernel
theorem dX1_getAddition_24 : decode cX1_getAddition 24 = .ok (.aload_n 0, 1) := by decide +kernel
theorem dX1_getAddition_25 : decode cX1_getAddition 25 = .ok (.getfield 24, 3) := by decide +kernel
theorem dX1_getAddition_28 : decode cX1_getAddition 28 = .ok (.iload 5, 2) := by decide +kernel
theorem dX1_getAddition_30 : decode cX1_getAddition 30 = .ok (.isub, 1) := by decide +kernel
theorem dX1_getAddition_31 : decode cX1_getAddition 31 = .ok (.iload_n 2, 1) := by decide +kernel
theorem dX1_getAddition_32 : decode cX1_getAddition 32 = .ok (.if_icmp .eq 9, 3) := by decide +kernel
theorem dX1_getAddition_35 : decode cX1_getAddition 35 = .ok (.aload_n 0, 1) := by decide +kernel
theorem dX1_getAddition_36 : decode cX1_getAddition 36 = .ok (.iload 5, 2) := by decide +kernel
theorem dX1_getAddition_38 : decode cX1_getAddition 38 = .ok (.putfield 27, 3) := by decide +kernel
theorem dX1_getAddition_41 : decode cX1_getAddition 41 = .ok (.return_, 1) := by decide +kernel
def wp_X1_getAddition (o : Nat) (kd : Nat → Nat) (GV : Nat → Option Nat → Nat → Int32 → Mm → (Mm → Prop) → Prop) (x1 : Option Nat) (x2 : Int32) (x3 : Nat) (x4 : Int32) (μ : Mm) (post : Mm → Prop) : Prop := ∃ f1 g2, μ o = some (.inl (0, f1)) ∧ f1[2]? = some (.int g2) ∧ (∃ f23, μ o = some (.inl (0, f23))) ∧ GV o x1 x3 (x4 + (1 : Int32)) μ (fun μ6 => ∃ f7 g8, μ6 o = some (.inl (0, f7)) ∧ f7[3]? = some (.int g8) ∧ (¬ g8 = (-1 : Int32) → (post μ6)) ∧ (g8 = (-1 : Int32) → (∃ f12 g13, μ6 o = some (.inl (0, f12)) ∧ f12[2]? = some (.int g13) ∧ ((g13 - g2) = x2 → (post μ6)) ∧ (¬ (g13 - g2) = x2 → (∃ f17, μ6 o = some (.inl (0, f17)) ∧ 3 < f17.length ∧ ∀ μ20, μ20 = ups μ6 o (.inl (0, f17.set 3 (.int g2))) → post μ20)))))
set_option maxHeartbeats 4000000 in
set_option maxRecDepth 100000 in
theorem c_X1_getAddition (l : Launch) (G : gG) (A : Nat → Prop) (kd : Nat → Nat) (hkd : G.2.2 = kd) (GV : Nat → Option Nat → Nat → Int32 → Mm → (Mm → Prop) → Prop) (kv : Nat) (hkv : 6 ≤ kv) (hGV : ∀ (o : Nat) (x1 : Option Nat) (x2 : Nat) (x3 : Int32) (μ : Mm) (post : Mm → Prop), GV o x1 x2 x3 μ post → Met l yX1_getValue (.code yX1_getValue cX1_getValue 6 none :: wsA) (rmL kv 0 0) (PcG G A μ [.ref o, va_rf x1, .ref x2, .int x3]) (QG G A (pV post)) 0 0 A) (o : Nat) (x1 : Option Nat) (x2 : Int32) (x3 : Nat) (x4 : Int32) (μ : Mm) (post : Mm → Prop) (h : wp_X1_getAddition o kd GV x1 x2 x3 x4 μ post) : Met l yX1_getAddition (.code yX1_getAddition cX1_getAddition 6 none :: wsA) (rmL (kv + 1) 0 0) (PcG G A μ [.ref o, va_rf x1, .int x2, .ref x3, .int x4]) (QG G A (pV post)) 0 0 A := by
  refine met_J (loc := [(0, .ref o), (1, va_rf x1), (2, .int x2), (3, .ref x3), (4, .int x4)]) (by decide +kernel) (by cases x1 <;> exact Nat.le_of_ble_eq_true rfl) (by cases x1 <;> rfl) ?_
  intro p e s m args below meth c X hin
  have X : Cx p l s m args meth c cX1_getAddition 6 none RX1 G A := X
  have hw := h
  unfold wp_X1_getAddition at hw
  refine j_aload_n X (pc' := 1) (kk := 0) (i := 0) 0 rfl rfl dX1_getAddition_0 rfl ?_
  obtain ⟨f1, g2, hm3, hv4, hw1⟩ := hw
  refine j_getf X (pc' := 4) hm3 2 hv4 rfl fw_TX1 (by decide) wt_1_87 dX1_getAddition_1 rfl ?_
  refine j_istore X (pc' := 6) (i := 5) (loc' := [(5, .int g2), (0, .ref o), (1, va_rf x1), (2, .int x2), (3, .ref x3), (4, .int x4)]) dX1_getAddition_4 rfl (by decide) rfl ?_
  refine j_aload_n X (pc' := 7) (kk := 0) (i := 0) 1 rfl rfl dX1_getAddition_6 rfl ?_
  refine j_aload_nq X (pc' := 8) (kk := 1) (i := 1) (x := x1) 2 rfl rfl dX1_getAddition_7 rfl ?_
  refine j_aload_n X (pc' := 9) (kk := 3) (i := 3) 4 rfl rfl dX1_getAddition_8 rfl ?_
  refine j_iload X (pc' := 11) (i := 4) 5 rfl dX1_getAddition_9 rfl ?_
  refine j_iconst X (pc' := 12) (v := 1) (by decide) dX1_getAddition_11 rfl ?_
  refine j_iadd X (pc' := 13) dX1_getAddition_12 rfl ?_
  obtain ⟨⟨f23, hm22⟩, hw2⟩ := hw1
  refine j_callVv (As := [va_rf x1, .ref x3, .int (x4 + (1 : Int32))]) (rest := []) X (pc' := 16) (cells' := 0) (slots' := 0) (hGV o x1 x3 (x4 + (1 : Int32)) μ _ hw2) (gk_X1_getValue wt_3_98) hd_X1_getValue (rmL_fit (k1 := kv) (k := kv + 1) (by omega) (by decide)) hm22 rfl rfl rfl (Nat.le_of_ble_eq_true rfl) dX1_getAddition_13 rfl ⟨Nat.le_of_ble_eq_true rfl, Nat.le_of_ble_eq_true rfl⟩ rfl rfl (fun μ6 hw3 => ?_)
  refine j_aload_n X (pc' := 17) (kk := 0) (i := 0) 1 rfl rfl dX1_getAddition_16 rfl ?_
  obtain ⟨f7, g8, hm9, hv10, hw4⟩ := hw3
  refine j_getf X (pc' := 20) hm9 3 hv10 rfl fw_TX1 (by decide) wt_1_88 dX1_getAddition_17 rfl ?_
  refine j_iconst X (pc' := 21) (v := (-1)) (by decide) dX1_getAddition_20 rfl ?_
  refine j_icmp_ne X (pc' := 24) (tgt := 41) dX1_getAddition_21 rfl (by decide) (fun c11 => ?_) (fun c11 => ?_)
  · have hw5 := hw4.1 c11
    exact j_vret X ⟨rfl, hw5⟩ (Nat.le_of_ble_eq_true rfl) (Nat.le_of_ble_eq_true rfl) dX1_getAddition_41
  · have hw6 := hw4.2 c11
    refine j_aload_n X (pc' := 25) (kk := 0) (i := 0) 1 rfl rfl dX1_getAddition_24 rfl ?_
    obtain ⟨f12, g13, hm14, hv15, hw7⟩ := hw6
    refine j_getf X (pc' := 28) hm14 2 hv15 rfl fw_TX1 (by decide) wt_1_87 dX1_getAddition_25 rfl ?_
    refine j_iload X (pc' := 30) (i := 5) 0 rfl dX1_getAddition_28 rfl ?_
    refine j_isub X (pc' := 31) dX1_getAddition_30 rfl ?_
    refine j_iload_n X (pc' := 32) (kk := 2) (i := 2) 3 rfl rfl dX1_getAddition_31 rfl ?_
    refine j_icmp_eq X (pc' := 35) (tgt := 41) dX1_getAddition_32 rfl (by decide) (fun c16 => ?_) (fun c16 => ?_)
    · have hw8 := hw7.1 c16
      exact j_vret X ⟨rfl, hw8⟩ (Nat.le_of_ble_eq_true rfl) (Nat.le_of_ble_eq_true rfl) dX1_getAddition_41
    · have hw9 := hw7.2 c16
      refine j_aload_n X (pc' := 36) (kk := 0) (i := 0) 1 rfl rfl dX1_getAddition_35 rfl ?_
      refine j_iload X (pc' := 38) (i := 5) 0 rfl dX1_getAddition_36 rfl ?_
      obtain ⟨f17, hm18, hl19, hw10⟩ := hw9
      refine jp_putf X (pc' := 41) (ty := .int) hm18 3 hl19 rfl fw_TX1 tyX1_ok nmX1 (by decide) rfl wt_1_88 (by decide +kernel) rfl rfl dX1_getAddition_38 rfl (fun μ20 e21 => ?_)
      have hw11 := hw10 μ20 e21
      exact j_vret X ⟨rfl, hw11⟩ (Nat.le_of_ble_eq_true rfl) (Nat.le_of_ble_eq_true rfl) dX1_getAddition_41
/-! BitNotation$Reader.getAdditions(LBitNotation$Type;ILBitNotation$Row;I)V -/
theorem dX1_getAdditions_0 : decode cX1_getAdditions 0 = .ok (.iconst 0, 1) := by decide +kernel
theorem dX1_getAdditions_1 : decode cX1_getAdditions 1 = .ok (.istore 5, 2) := by decide +kernel
theorem dX1_getAdditions_3 : decode cX1_getAdditions 3 = .ok (.iload 5, 2) := by decide +kernel
theorem dX1_getAdditions_5 : decode cX1_getAdditions 5 = .ok (.iload_n 2, 1) := by decide +kernel
theorem dX1_getAdditions_6 : decode cX1_getAdditions 6 = .ok (.if_icmp .ge 66, 3) := by decide +kernel
theorem dX1_getAdditions_9 : decode cX1_getAdditions 9 = .ok (.aload_n 0, 1) := by decide +kernel
theorem dX1_getAdditions_10 : decode cX1_getAdditions 10 = .ok (.getfield 27, 3) := by decide +kernel
theorem dX1_getAdditions_13 : decode cX1_getAdditions 13 = .ok (.iconst (-1), 1) := by decide +kernel
theorem dX1_getAdditions_14 : decode cX1_getAdditions 14 = .ok (.if_icmp .ne 58, 3) := by decide +kernel
theorem dX1_getAdditions_17 : decode cX1_getAdditions 17 = .ok (.aload_n 0, 1) := by decide +kernel
theorem dX1_getAdditions_18 : decode cX1_getAdditions 18 = .ok (.aload_n 3, 1) := by decide +kernel
theorem dX1_getAdditions_19 : decode cX1_getAdditions 19 = .ok (.bipush 8, 2) := by decide +kernel
theorem dX1_getAdditions_21 : decode cX1_getAdditions 21 = .ok (.sipush 255, 3) := by decide +kernel
theorem dX1_getAdditions_24 : decode cX1_getAdditions 24 = .ok (.invokevirtual 64, 3) := by decide +kernel
theorem dX1_getAdditions_27 : decode cX1_getAdditions 27 = .ok (.istore 6, 2) := by decide +kernel
theorem dX1_getAdditions_29 : decode cX1_getAdditions 29 = .ok (.iload 5, 2) := by decide +kernel
theorem dX1_getAdditions_31 : decode cX1_getAdditions 31 = .ok (.aload_n 0, 1) := by decide +kernel
theorem dX1_getAdditions_32 : decode cX1_getAdditions 32 = .ok (.getfield 20, 3) := by decide +kernel
theorem dX1_getAdditions_35 : decode cX1_getAdditions 35 = .ok (.if_icmp .ge 24, 3) := by decide +kernel
theorem dX1_getAdditions_38 : decode cX1_getAdditions 38 = .ok (.aload_n 0, 1) := by decide +kernel
theorem dX1_getAdditions_39 : decode cX1_getAdditions 39 = .ok (.aload_n 1, 1) := by decide +kernel
theorem dX1_getAdditions_40 : decode cX1_getAdditions 40 = .ok (.getfield 92, 3) := by decide +kernel
theorem dX1_getAdditions_43 : decode cX1_getAdditions 43 = .ok (.iload 5, 2) := by decide +kernel
theorem dX1_getAdditions_45 : decode cX1_getAdditions 45 = .ok (.invokevirtual 78, 3) := by decide +kernel
theorem dX1_getAdditions_48 : decode cX1_getAdditions 48 = .ok (.iload 6, 2) := by decide +kernel
theorem dX1_getAdditions_50 : decode cX1_getAdditions 50 = .ok (.aload_n 3, 1) := by decide +kernel
theorem dX1_getAdditions_51 : decode cX1_getAdditions 51 = .ok (.iload 4, 2) := by decide +kernel
theorem dX1_getAdditions_53 : decode cX1_getAdditions 53 = .ok (.invokevirtual 113, 3) := by decide +kernel
theorem dX1_getAdditions_56 : decode cX1_getAdditions 56 = .ok (.goto 10, 3) := by decide +kernel
theorem dX1_getAdditions_59 : decode cX1_getAdditions 59 = .ok (.aload_n 0, 1) := by decide +kernel
theorem dX1_getAdditions_60 : decode cX1_getAdditions 60 = .ok (.iload 6, 2) := by decide +kernel
theorem dX1_getAdditions_62 : decode cX1_getAdditions 62 = .ok (.aload_n 3, 1) := by decide +kernel
theorem dX1_getAdditions_63 : decode cX1_getAdditions 63 = .ok (.invokevirtual 116, 3) := by decide +kernel
theorem dX1_getAdditions_66 : decode cX1_getAdditions 66 = .ok (.iinc 5 1, 3) := by decide +kernel
theorem dX1_getAdditions_69 : decode cX1_getAdditions 69 = .ok (.goto (-66), 3) := by decide +kernel
theorem dX1_getAdditions_72 : decode cX1_getAdditions 72 = .ok (.return_, 1) := by decide +kernel
def wb_X1_getAdditions_3 (o : Nat) (kd : Nat → Nat) (GV : Nat → Option Nat → Nat → Int32 → Mm → (Mm → Prop) → Prop) (post : Mm → Prop)  : Nat → Nat → Int32 → Nat → Int32 → Int32 → Mm → Prop
  | 0 => fun _ _ _ _ _ _ => False
  | n + 1 => fun v1 v2 v3 v4 v5 μ => (v2 ≤ v5 → (post μ)) ∧ (¬ v2 ≤ v5 → (∃ f2 g3, μ o = some (.inl (0, f2)) ∧ f2[3]? = some (.int g3) ∧ (¬ g3 = (-1 : Int32) → (post μ)) ∧ (g3 = (-1 : Int32) → ((∃ f31, μ o = some (.inl (0, f31))) ∧ wp_X1_next o v3 (8 : Int32) (255 : Int32) μ (fun r7 μ8 => ∃ f9 g10, μ8 o = some (.inl (0, f9)) ∧ f9[1]? = some (.int g10) ∧ (g10 ≤ v5 → ((∃ f17, μ8 o = some (.inl (0, f17))) ∧ wp_X1_skip o r7 v3 μ8 (fun μ15 => wb_X1_getAdditions_3 o kd GV post n v1 v2 v3 v4 (v5 + 1) μ15))) ∧ (¬ g10 ≤ v5 → (∃ f18 g19, μ8 v1 = some (.inl (2, f18)) ∧ f18[6]? = some (.ref g19) ∧ (∃ f29, μ8 g19 = some (.inl (3, f29))) ∧ wp_X4_at g19 v5 μ8 (fun r22 μ23 => (∃ f27, μ23 o = some (.inl (0, f27))) ∧ wp_X1_getAddition o kd GV r22 r7 v3 v4 μ23 (fun μ25 => wb_X1_getAdditions_3 o kd GV post n v1 v2 v3 v4 (v5 + 1) μ25)))))))))
set_option maxHeartbeats 4000000 in
set_option maxRecDepth 100000 in
theorem tb_X1_getAdditions_3 {p : Program} {l : Launch} {e : Env} {s : State} {m : MethodId} {args : Array Value} {below : List Frame} {meth : Method} {c : Code} {G : gG} {A : Nat → Prop} {o : Nat} {kd : Nat → Nat} {GV : Nat → Option Nat → Nat → Int32 → Mm → (Mm → Prop) → Prop} {post : Mm → Prop} (X : Cx p l s m args meth c cX1_getAdditions 7 none RX1 G A) (hkd : G.2.2 = kd) (kv : Nat) (hkv : 6 ≤ kv) (hGV : ∀ (o : Nat) (x1 : Option Nat) (x2 : Nat) (x3 : Int32) (μ : Mm) (post : Mm → Prop), GV o x1 x2 x3 μ post → Met l yX1_getValue (.code yX1_getValue cX1_getValue 6 none :: wsA) (rmL kv 0 0) (PcG G A μ [.ref o, va_rf x1, .ref x2, .int x3]) (QG G A (pV post)) 0 0 A) : ∀ (n : Nat) (v1 : Nat) (v2 : Int32) (v3 : Nat) (v4 : Int32) (v5 : Int32) (μ : Mm), wb_X1_getAdditions_3 o kd GV post n v1 v2 v3 v4 v5 μ → J p l e (rmL (kv + 2) 0 0) s m args below meth c 7 G A (MQ below (QG G A (pV post)) args s 0 0 A) 0 0 3 [(0, .ref o), (1, .ref v1), (2, .int v2), (3, .ref v3), (4, .int v4), (5, .int v5)] [] μ := by
  intro n
  induction n with
  | zero => intro v1 v2 v3 v4 v5 μ hw; exact hw.elim
  | succ n ih =>
    intro v1 v2 v3 v4 v5 μ hw
    rw [wb_X1_getAdditions_3] at hw
    refine j_iload X (pc' := 5) (i := 5) 5 rfl dX1_getAdditions_3 rfl ?_
    refine j_iload_n X (pc' := 6) (kk := 2) (i := 2) 2 rfl rfl dX1_getAdditions_5 rfl ?_
    refine j_icmp_ge X (pc' := 9) (tgt := 72) dX1_getAdditions_6 rfl (by decide) (fun c1 => ?_) (fun c1 => ?_)
    · have hw1 := hw.1 c1
      exact j_vret X ⟨rfl, hw1⟩ (Nat.le_of_ble_eq_true rfl) (Nat.le_of_ble_eq_true rfl) dX1_getAdditions_72
    · have hw2 := hw.2 c1
      refine j_aload_n X (pc' := 10) (kk := 0) (i := 0) 0 rfl rfl dX1_getAdditions_9 rfl ?_
      obtain ⟨f2, g3, hm4, hv5, hw3⟩ := hw2
      refine j_getf X (pc' := 13) hm4 3 hv5 rfl fw_TX1 (by decide) wt_1_88 dX1_getAdditions_10 rfl ?_
      refine j_iconst X (pc' := 14) (v := (-1)) (by decide) dX1_getAdditions_13 rfl ?_
      refine j_icmp_ne X (pc' := 17) (tgt := 72) dX1_getAdditions_14 rfl (by decide) (fun c6 => ?_) (fun c6 => ?_)
      · have hw4 := hw3.1 c6
        exact j_vret X ⟨rfl, hw4⟩ (Nat.le_of_ble_eq_true rfl) (Nat.le_of_ble_eq_true rfl) dX1_getAdditions_72
      · have hw5 := hw3.2 c6
        refine j_aload_n X (pc' := 18) (kk := 0) (i := 0) 0 rfl rfl dX1_getAdditions_17 rfl ?_
        refine j_aload_n X (pc' := 19) (kk := 3) (i := 3) 3 rfl rfl dX1_getAdditions_18 rfl ?_
        refine j_bipush X (pc' := 21) (v := 8) (by decide) dX1_getAdditions_19 rfl ?_
        refine j_sipush X (pc' := 24) (v := 255) (by decide) dX1_getAdditions_21 rfl ?_
        obtain ⟨⟨f31, hm30⟩, hw6⟩ := hw5
        refine j_callVi (As := [.ref v3, .int (8 : Int32), .int (255 : Int32)]) (rest := []) X (pc' := 27) (cells' := 0) (slots' := 0) (c_X1_next l G A o v3 (8 : Int32) (255 : Int32) μ _ hw6) (gk_X1_next wt_3_107) hd_X1_next (rmL_fit (k1 := 1) (k := kv + 2) (by omega) (by decide)) hm30 rfl rfl rfl (Nat.le_of_ble_eq_true rfl) dX1_getAdditions_24 rfl ⟨Nat.le_of_ble_eq_true rfl, Nat.le_of_ble_eq_true rfl⟩ rfl rfl (fun r7 μ8 hw7 => ?_)
        refine j_istore X (pc' := 29) (i := 6) (loc' := [(6, .int r7), (0, .ref o), (1, .ref v1), (2, .int v2), (3, .ref v3), (4, .int v4), (5, .int v5)]) dX1_getAdditions_27 rfl (by decide) rfl ?_
        refine j_iload X (pc' := 31) (i := 5) 6 rfl dX1_getAdditions_29 rfl ?_
        refine j_aload_n X (pc' := 32) (kk := 0) (i := 0) 1 rfl rfl dX1_getAdditions_31 rfl ?_
        obtain ⟨f9, g10, hm11, hv12, hw8⟩ := hw7
        refine j_getf X (pc' := 35) hm11 1 hv12 rfl fw_TX1 (by decide) wt_1_86 dX1_getAdditions_32 rfl ?_
        refine j_icmp_ge X (pc' := 38) (tgt := 59) dX1_getAdditions_35 rfl (by decide) (fun c13 => ?_) (fun c13 => ?_)
        · have hw9 := hw8.1 c13
          refine j_aload_n X (pc' := 60) (kk := 0) (i := 0) 1 rfl rfl dX1_getAdditions_59 rfl ?_
          refine j_iload X (pc' := 62) (i := 6) 0 rfl dX1_getAdditions_60 rfl ?_
          refine j_aload_n X (pc' := 63) (kk := 3) (i := 3) 4 rfl rfl dX1_getAdditions_62 rfl ?_
          obtain ⟨⟨f17, hm16⟩, hw10⟩ := hw9
          refine j_callVv (As := [.int r7, .ref v3]) (rest := []) X (pc' := 66) (cells' := 0) (slots' := 0) (c_X1_skip l G A o r7 v3 μ8 _ hw10) (gk_X1_skip wt_3_131) hd_X1_skip (rmL_fit (k1 := 1) (k := kv + 2) (by omega) (by decide)) hm16 rfl rfl rfl (Nat.le_of_ble_eq_true rfl) dX1_getAdditions_63 rfl ⟨Nat.le_of_ble_eq_true rfl, Nat.le_of_ble_eq_true rfl⟩ rfl rfl (fun μ15 hw11 => ?_)
          refine j_iinc X (pc' := 69) (i := 5) (v := v5 + 1) (loc' := [(5, .int (v5 + 1)), (6, .int r7), (0, .ref o), (1, .ref v1), (2, .int v2), (3, .ref v3), (4, .int v4)]) 6 rfl rfl dX1_getAdditions_66 rfl (by decide) rfl ?_
          refine j_goto X (tgt := 3) dX1_getAdditions_69 (by decide) ?_
          refine j_loc [2, 3, 4, 5, 6, 0] rfl ?_
          exact ih _ _ _ _ _ _ hw11
        · have hw12 := hw8.2 c13
          refine j_aload_n X (pc' := 39) (kk := 0) (i := 0) 1 rfl rfl dX1_getAdditions_38 rfl ?_
          refine j_aload_n X (pc' := 40) (kk := 1) (i := 1) 2 rfl rfl dX1_getAdditions_39 rfl ?_
          obtain ⟨f18, g19, hm20, hv21, hw13⟩ := hw12
          refine j_getfN X (pc' := 43) hm20 6 hv21 rfl fw_TX3 (by decide) (List.mem_of_getElem? (i := 14) rfl) dX1_getAdditions_40 rfl ?_
          refine j_iload X (pc' := 45) (i := 5) 6 rfl dX1_getAdditions_43 rfl ?_
          obtain ⟨⟨f29, hm28⟩, hw14⟩ := hw13
          refine j_callVq (As := [.int v5]) (rest := [.ref o]) X (pc' := 48) (cells' := 0) (slots' := 0) (c_X4_at l G A g19 v5 μ8 _ hw14) (gk_X4_at wt_3_120) hd_X4_at (rmL_fit (k1 := 0) (k := kv + 2) (by omega) (by decide)) hm28 rfl rfl rfl (Nat.le_of_ble_eq_true rfl) dX1_getAdditions_45 rfl ⟨Nat.le_of_ble_eq_true rfl, Nat.le_of_ble_eq_true rfl⟩ rfl rfl (fun r22 μ23 hw15 => ?_)
          refine j_iload X (pc' := 50) (i := 6) 0 rfl dX1_getAdditions_48 rfl ?_
          refine j_aload_n X (pc' := 51) (kk := 3) (i := 3) 4 rfl rfl dX1_getAdditions_50 rfl ?_
          refine j_iload X (pc' := 53) (i := 4) 5 rfl dX1_getAdditions_51 rfl ?_
          obtain ⟨⟨f27, hm26⟩, hw16⟩ := hw15
          refine j_callVv (As := [va_rf r22, .int r7, .ref v3, .int v4]) (rest := []) X (pc' := 56) (cells' := 0) (slots' := 0) (c_X1_getAddition l G A kd hkd GV kv hkv hGV o r22 r7 v3 v4 μ23 _ hw16) (gk_X1_getAddition wt_3_127) hd_X1_getAddition (rmL_fit (k1 := kv + 1) (k := kv + 2) (by omega) (by decide)) hm26 rfl rfl rfl (Nat.le_of_ble_eq_true rfl) dX1_getAdditions_53 rfl ⟨Nat.le_of_ble_eq_true rfl, Nat.le_of_ble_eq_true rfl⟩ rfl rfl (fun μ25 hw17 => ?_)
          refine j_goto X (tgt := 66) dX1_getAdditions_56 (by decide) ?_
          refine j_iinc X (pc' := 69) (i := 5) (v := v5 + 1) (loc' := [(5, .int (v5 + 1)), (6, .int r7), (0, .ref o), (1, .ref v1), (2, .int v2), (3, .ref v3), (4, .int v4)]) 6 rfl rfl dX1_getAdditions_66 rfl (by decide) rfl ?_
          refine j_goto X (tgt := 3) dX1_getAdditions_69 (by decide) ?_
          refine j_loc [2, 3, 4, 5, 6, 0] rfl ?_
          exact ih _ _ _ _ _ _ hw17
def wp_X1_getAdditions (o : Nat) (kd : Nat → Nat) (GV : Nat → Option Nat → Nat → Int32 → Mm → (Mm → Prop) → Prop) (x1 : Nat) (x2 : Int32) (x3 : Nat) (x4 : Int32) (μ : Mm) (post : Mm → Prop) : Prop := ∃ n, wb_X1_getAdditions_3 o kd GV post n x1 x2 x3 x4 (0 : Int32) μ
set_option maxHeartbeats 4000000 in
set_option maxRecDepth 100000 in
theorem c_X1_getAdditions (l : Launch) (G : gG) (A : Nat → Prop) (kd : Nat → Nat) (hkd : G.2.2 = kd) (GV : Nat → Option Nat → Nat → Int32 → Mm → (Mm → Prop) → Prop) (kv : Nat) (hkv : 6 ≤ kv) (hGV : ∀ (o : Nat) (x1 : Option Nat) (x2 : Nat) (x3 : Int32) (μ : Mm) (post : Mm → Prop), GV o x1 x2 x3 μ post → Met l yX1_getValue (.code yX1_getValue cX1_getValue 6 none :: wsA) (rmL kv 0 0) (PcG G A μ [.ref o, va_rf x1, .ref x2, .int x3]) (QG G A (pV post)) 0 0 A) (o : Nat) (x1 : Nat) (x2 : Int32) (x3 : Nat) (x4 : Int32) (μ : Mm) (post : Mm → Prop) (h : wp_X1_getAdditions o kd GV x1 x2 x3 x4 μ post) : Met l yX1_getAdditions (.code yX1_getAdditions cX1_getAdditions 7 none :: wsA) (rmL (kv + 2) 0 0) (PcG G A μ [.ref o, .ref x1, .int x2, .ref x3, .int x4]) (QG G A (pV post)) 0 0 A := by
  refine met_J (loc := [(0, .ref o), (1, .ref x1), (2, .int x2), (3, .ref x3), (4, .int x4)]) (by decide +kernel) (Nat.le_of_ble_eq_true rfl) rfl ?_
  intro p e s m args below meth c X hin
  have X : Cx p l s m args meth c cX1_getAdditions 7 none RX1 G A := X
  have hw := h
  unfold wp_X1_getAdditions at hw
  refine j_iconst X (pc' := 1) (v := 0) (by decide) dX1_getAdditions_0 rfl ?_
  refine j_istore X (pc' := 3) (i := 5) (loc' := [(5, .int ((0 : Int32))), (0, .ref o), (1, .ref x1), (2, .int x2), (3, .ref x3), (4, .int x4)]) dX1_getAdditions_1 rfl (by decide) rfl ?_
  obtain ⟨n0, hw1⟩ := hw
  refine j_loc [1, 2, 3, 4, 5, 0] rfl ?_
  exact tb_X1_getAdditions_3 X hkd kv hkv hGV n0 _ _ _ _ _ _ hw1
/-! BitNotation$Reader.getSequence(LBitNotation$Type;LBitNotation$Row;I)V -/
theorem dX1_getSequence_0 : decode cX1_getSequence 0 = .ok (.aload_n 0, 1) := by decide +kernel
theorem dX1_getSequence_1 : decode cX1_getSequence 1 = .ok (.aload_n 2, 1) := by decide +kernel
theorem dX1_getSequence_2 : decode cX1_getSequence 2 = .ok (.iconst 1, 1) := by decide +kernel
theorem dX1_getSequence_3 : decode cX1_getSequence 3 = .ok (.iconst 1, 1) := by decide +kernel
theorem dX1_getSequence_4 : decode cX1_getSequence 4 = .ok (.invokevirtual 64, 3) := by decide +kernel
theorem dX1_getSequence_7 : decode cX1_getSequence 7 = .ok (.iconst 1, 1) := by decide +kernel
theorem dX1_getSequence_8 : decode cX1_getSequence 8 = .ok (.if_icmp .ne 7, 3) := by decide +kernel
theorem dX1_getSequence_11 : decode cX1_getSequence 11 = .ok (.iconst 1, 1) := by decide +kernel
theorem dX1_getSequence_12 : decode cX1_getSequence 12 = .ok (.goto 4, 3) := by decide +kernel
theorem dX1_getSequence_15 : decode cX1_getSequence 15 = .ok (.iconst 0, 1) := by decide +kernel
theorem dX1_getSequence_16 : decode cX1_getSequence 16 = .ok (.istore 4, 2) := by decide +kernel
theorem dX1_getSequence_18 : decode cX1_getSequence 18 = .ok (.aload_n 0, 1) := by decide +kernel
theorem dX1_getSequence_19 : decode cX1_getSequence 19 = .ok (.aload_n 1, 1) := by decide +kernel
theorem dX1_getSequence_20 : decode cX1_getSequence 20 = .ok (.aload_n 2, 1) := by decide +kernel
theorem dX1_getSequence_21 : decode cX1_getSequence 21 = .ok (.invokevirtual 87, 3) := by decide +kernel
theorem dX1_getSequence_24 : decode cX1_getSequence 24 = .ok (.istore 5, 2) := by decide +kernel
theorem dX1_getSequence_26 : decode cX1_getSequence 26 = .ok (.aload_n 0, 1) := by decide +kernel
theorem dX1_getSequence_27 : decode cX1_getSequence 27 = .ok (.getfield 14, 3) := by decide +kernel
theorem dX1_getSequence_30 : decode cX1_getSequence 30 = .ok (.invokevirtual 37, 3) := by decide +kernel
theorem dX1_getSequence_33 : decode cX1_getSequence 33 = .ok (.istore 6, 2) := by decide +kernel
theorem dX1_getSequence_35 : decode cX1_getSequence 35 = .ok (.aload_n 0, 1) := by decide +kernel
theorem dX1_getSequence_36 : decode cX1_getSequence 36 = .ok (.getfield 14, 3) := by decide +kernel
theorem dX1_getSequence_39 : decode cX1_getSequence 39 = .ok (.iconst 0, 1) := by decide +kernel
theorem dX1_getSequence_40 : decode cX1_getSequence 40 = .ok (.invokevirtual 68, 3) := by decide +kernel
theorem dX1_getSequence_43 : decode cX1_getSequence 43 = .ok (.iconst 0, 1) := by decide +kernel
theorem dX1_getSequence_44 : decode cX1_getSequence 44 = .ok (.istore 7, 2) := by decide +kernel
theorem dX1_getSequence_46 : decode cX1_getSequence 46 = .ok (.iload 7, 2) := by decide +kernel
theorem dX1_getSequence_48 : decode cX1_getSequence 48 = .ok (.aload_n 1, 1) := by decide +kernel
theorem dX1_getSequence_49 : decode cX1_getSequence 49 = .ok (.getfield 74, 3) := by decide +kernel
theorem dX1_getSequence_52 : decode cX1_getSequence 52 = .ok (.invokevirtual 91, 3) := by decide +kernel
theorem dX1_getSequence_55 : decode cX1_getSequence 55 = .ok (.if_icmp .ge 37, 3) := by decide +kernel
theorem dX1_getSequence_58 : decode cX1_getSequence 58 = .ok (.iload 5, 2) := by decide +kernel
theorem dX1_getSequence_60 : decode cX1_getSequence 60 = .ok (.iload 7, 2) := by decide +kernel
theorem dX1_getSequence_62 : decode cX1_getSequence 62 = .ok (.ishr, 1) := by decide +kernel
theorem dX1_getSequence_63 : decode cX1_getSequence 63 = .ok (.iconst 1, 1) := by decide +kernel
theorem dX1_getSequence_64 : decode cX1_getSequence 64 = .ok (.iand, 1) := by decide +kernel
theorem dX1_getSequence_65 : decode cX1_getSequence 65 = .ok (.iconst 1, 1) := by decide +kernel
theorem dX1_getSequence_66 : decode cX1_getSequence 66 = .ok (.if_icmp .ne 20, 3) := by decide +kernel
theorem dX1_getSequence_69 : decode cX1_getSequence 69 = .ok (.aload_n 0, 1) := by decide +kernel
theorem dX1_getSequence_70 : decode cX1_getSequence 70 = .ok (.aload_n 1, 1) := by decide +kernel
theorem dX1_getSequence_71 : decode cX1_getSequence 71 = .ok (.getfield 74, 3) := by decide +kernel
theorem dX1_getSequence_74 : decode cX1_getSequence 74 = .ok (.iload 7, 2) := by decide +kernel
theorem dX1_getSequence_76 : decode cX1_getSequence 76 = .ok (.invokevirtual 78, 3) := by decide +kernel
theorem dX1_getSequence_79 : decode cX1_getSequence 79 = .ok (.aload_n 2, 1) := by decide +kernel
theorem dX1_getSequence_80 : decode cX1_getSequence 80 = .ok (.iload_n 3, 1) := by decide +kernel
theorem dX1_getSequence_81 : decode cX1_getSequence 81 = .ok (.iconst 1, 1) := by decide +kernel
theorem dX1_getSequence_82 : decode cX1_getSequence 82 = .ok (.iadd, 1) := by decide +kernel
theorem dX1_getSequence_83 : decode cX1_getSequence 83 = .ok (.invokevirtual 33, 3) := by decide +kernel
theorem dX1_getSequence_86 : decode cX1_getSequence 86 = .ok (.iinc 7 1, 3) := by decide +kernel
theorem dX1_getSequence_89 : decode cX1_getSequence 89 = .ok (.goto (-43), 3) := by decide +kernel
theorem dX1_getSequence_92 : decode cX1_getSequence 92 = .ok (.iload 4, 2) := by decide +kernel
theorem dX1_getSequence_94 : decode cX1_getSequence 94 = .ok (.ifCond .eq 49, 3) := by decide +kernel
theorem dX1_getSequence_97 : decode cX1_getSequence 97 = .ok (.iconst 1, 1) := by decide +kernel
theorem dX1_getSequence_98 : decode cX1_getSequence 98 = .ok (.aload_n 0, 1) := by decide +kernel
theorem dX1_getSequence_99 : decode cX1_getSequence 99 = .ok (.aload_n 2, 1) := by decide +kernel
theorem dX1_getSequence_100 : decode cX1_getSequence 100 = .ok (.iconst 2, 1) := by decide +kernel
theorem dX1_getSequence_101 : decode cX1_getSequence 101 = .ok (.aload_n 1, 1) := by decide +kernel
theorem dX1_getSequence_102 : decode cX1_getSequence 102 = .ok (.getfield 92, 3) := by decide +kernel
theorem dX1_getSequence_105 : decode cX1_getSequence 105 = .ok (.invokevirtual 91, 3) := by decide +kernel
theorem dX1_getSequence_108 : decode cX1_getSequence 108 = .ok (.iconst 1, 1) := by decide +kernel
theorem dX1_getSequence_109 : decode cX1_getSequence 109 = .ok (.isub, 1) := by decide +kernel
theorem dX1_getSequence_110 : decode cX1_getSequence 110 = .ok (.invokevirtual 64, 3) := by decide +kernel
theorem dX1_getSequence_113 : decode cX1_getSequence 113 = .ok (.iadd, 1) := by decide +kernel
theorem dX1_getSequence_114 : decode cX1_getSequence 114 = .ok (.istore 7, 2) := by decide +kernel
theorem dX1_getSequence_116 : decode cX1_getSequence 116 = .ok (.aload_n 0, 1) := by decide +kernel
theorem dX1_getSequence_117 : decode cX1_getSequence 117 = .ok (.getfield 14, 3) := by decide +kernel
theorem dX1_getSequence_120 : decode cX1_getSequence 120 = .ok (.iload 6, 2) := by decide +kernel
theorem dX1_getSequence_122 : decode cX1_getSequence 122 = .ok (.iload 7, 2) := by decide +kernel
theorem dX1_getSequence_124 : decode cX1_getSequence 124 = .ok (.aload_n 0, 1) := by decide +kernel
theorem dX1_getSequence_125 : decode cX1_getSequence 125 = .ok (.getfield 20, 3) := by decide +kernel
theorem dX1_getSequence_128 : decode cX1_getSequence 128 = .ok (.invokestatic 95, 3) := by decide +kernel
theorem dX1_getSequence_131 : decode cX1_getSequence 131 = .ok (.invokevirtual 101, 3) := by decide +kernel
theorem dX1_getSequence_134 : decode cX1_getSequence 134 = .ok (.aload_n 0, 1) := by decide +kernel
theorem dX1_getSequence_135 : decode cX1_getSequence 135 = .ok (.aload_n 1, 1) := by decide +kernel
theorem dX1_getSequence_136 : decode cX1_getSequence 136 = .ok (.iload 7, 2) := by decide +kernel
theorem dX1_getSequence_138 : decode cX1_getSequence 138 = .ok (.aload_n 2, 1) := by decide +kernel
theorem dX1_getSequence_139 : decode cX1_getSequence 139 = .ok (.iload_n 3, 1) := by decide +kernel
theorem dX1_getSequence_140 : decode cX1_getSequence 140 = .ok (.invokevirtual 105, 3) := by decide +kernel
theorem dX1_getSequence_143 : decode cX1_getSequence 143 = .ok (.return_, 1) := by decide +kernel
def wb_X1_getSequence_46 (o : Nat) (kd : Nat → Nat) (GV : Nat → Option Nat → Nat → Int32 → Mm → (Mm → Prop) → Prop) (post : Mm → Prop)  : Nat → Nat → Nat → Int32 → Int32 → Int32 → Int32 → Int32 → Mm → Prop
  | 0 => fun _ _ _ _ _ _ _ _ => False
  | n + 1 => fun v1 v2 v3 v4 v5 v6 v7 μ => ∃ f26 g27, μ v1 = some (.inl (2, f26)) ∧ f26[4]? = some (.ref g27) ∧ (∃ f76, μ g27 = some (.inl (3, f76))) ∧ wp_X4_size g27 μ (fun r30 μ31 => (r30 ≤ v7 → ((v4 = 0 → (post μ31)) ∧ (¬ v4 = 0 → (∃ f34 g35, μ31 v1 = some (.inl (2, f34)) ∧ f34[6]? = some (.ref g35) ∧ (∃ f61, μ31 g35 = some (.inl (3, f61))) ∧ wp_X4_size g35 μ31 (fun r38 μ39 => (∃ f59, μ39 o = some (.inl (0, f59))) ∧ wp_X1_next o v2 (2 : Int32) (r38 - (1 : Int32)) μ39 (fun r40 μ41 => ∃ f42 g43, μ41 o = some (.inl (0, f42)) ∧ f42[0]? = some (.ref g43) ∧ ∃ f46 g47, μ41 o = some (.inl (0, f46)) ∧ f46[1]? = some (.int g47) ∧ (∃ f57, μ41 g43 = some (.inl (1, f57))) ∧ wp_X2_replace g43 v6 (if g47 < (1 : Int32) + r40 then g47 else (1 : Int32) + r40) μ41 (fun μ51 => (∃ f55, μ51 o = some (.inl (0, f55))) ∧ wp_X1_getAdditions o kd GV v1 ((1 : Int32) + r40) v2 v3 μ51 (fun μ53 => post μ53)))))))) ∧ (¬ r30 ≤ v7 → ((¬ ((v5 >>> (v7 &&& 31)) &&& (1 : Int32)) = (1 : Int32) → (wb_X1_getSequence_46 o kd GV post n v1 v2 v3 v4 v5 v6 (v7 + 1) μ31)) ∧ (((v5 >>> (v7 &&& 31)) &&& (1 : Int32)) = (1 : Int32) → (∃ f63 g64, μ31 v1 = some (.inl (2, f63)) ∧ f63[4]? = some (.ref g64) ∧ (∃ f74, μ31 g64 = some (.inl (3, f74))) ∧ wp_X4_at g64 v7 μ31 (fun r67 μ68 => (∃ f72, μ68 o = some (.inl (0, f72))) ∧ GV o r67 v2 (v3 + (1 : Int32)) μ68 (fun μ70 => wb_X1_getSequence_46 o kd GV post n v1 v2 v3 v4 v5 v6 (v7 + 1) μ70)))))))
set_option maxHeartbeats 4000000 in
set_option maxRecDepth 100000 in
theorem tb_X1_getSequence_46 {p : Program} {l : Launch} {e : Env} {s : State} {m : MethodId} {args : Array Value} {below : List Frame} {meth : Method} {c : Code} {G : gG} {A : Nat → Prop} {o : Nat} {kd : Nat → Nat} {GV : Nat → Option Nat → Nat → Int32 → Mm → (Mm → Prop) → Prop} {post : Mm → Prop} (X : Cx p l s m args meth c cX1_getSequence 8 none RX1 G A) (hkd : G.2.2 = kd) (kv : Nat) (hkv : 6 ≤ kv) (hGV : ∀ (o : Nat) (x1 : Option Nat) (x2 : Nat) (x3 : Int32) (μ : Mm) (post : Mm → Prop), GV o x1 x2 x3 μ post → Met l yX1_getValue (.code yX1_getValue cX1_getValue 6 none :: wsA) (rmL kv 0 0) (PcG G A μ [.ref o, va_rf x1, .ref x2, .int x3]) (QG G A (pV post)) 0 0 A) : ∀ (n : Nat) (v1 : Nat) (v2 : Nat) (v3 : Int32) (v4 : Int32) (v5 : Int32) (v6 : Int32) (v7 : Int32) (μ : Mm), wb_X1_getSequence_46 o kd GV post n v1 v2 v3 v4 v5 v6 v7 μ → J p l e (rmL (kv + 3) 0 0) s m args below meth c 8 G A (MQ below (QG G A (pV post)) args s 0 0 A) 0 0 46 [(0, .ref o), (1, .ref v1), (2, .ref v2), (3, .int v3), (4, .int v4), (5, .int v5), (6, .int v6), (7, .int v7)] [] μ := by
  intro n
  induction n with
  | zero => intro v1 v2 v3 v4 v5 v6 v7 μ hw; exact hw.elim
  | succ n ih =>
    intro v1 v2 v3 v4 v5 v6 v7 μ hw
    rw [wb_X1_getSequence_46] at hw
    refine j_iload X (pc' := 48) (i := 7) 7 rfl dX1_getSequence_46 rfl ?_
    refine j_aload_n X (pc' := 49) (kk := 1) (i := 1) 1 rfl rfl dX1_getSequence_48 rfl ?_
    obtain ⟨f26, g27, hm28, hv29, hw1⟩ := hw
    refine j_getfN X (pc' := 52) hm28 4 hv29 rfl fw_TX3 (by decide) (List.mem_of_getElem? (i := 12) rfl) dX1_getSequence_49 rfl ?_
    obtain ⟨⟨f76, hm75⟩, hw2⟩ := hw1
    refine j_callVi (As := []) (rest := [.int v7]) X (pc' := 55) (cells' := 0) (slots' := 0) (c_X4_size l G A g27 μ _ hw2) (gk_X4_size wt_3_117) hd_X4_size (rmL_fit (k1 := 0) (k := kv + 3) (by omega) (by decide)) hm75 rfl rfl rfl (Nat.le_of_ble_eq_true rfl) dX1_getSequence_52 rfl ⟨Nat.le_of_ble_eq_true rfl, Nat.le_of_ble_eq_true rfl⟩ rfl rfl (fun r30 μ31 hw3 => ?_)
    refine j_icmp_ge X (pc' := 58) (tgt := 92) dX1_getSequence_55 rfl (by decide) (fun c32 => ?_) (fun c32 => ?_)
    · have hw4 := hw3.1 c32
      refine j_iload X (pc' := 94) (i := 4) 4 rfl dX1_getSequence_92 rfl ?_
      refine j_if_eq X (pc' := 97) (tgt := 143) dX1_getSequence_94 rfl (by decide) (fun c33 => ?_) (fun c33 => ?_)
      · have hw5 := hw4.1 c33
        exact j_vret X ⟨rfl, hw5⟩ (Nat.le_of_ble_eq_true rfl) (Nat.le_of_ble_eq_true rfl) dX1_getSequence_143
      · have hw6 := hw4.2 c33
        refine j_iconst X (pc' := 98) (v := 1) (by decide) dX1_getSequence_97 rfl ?_
        refine j_aload_n X (pc' := 99) (kk := 0) (i := 0) 0 rfl rfl dX1_getSequence_98 rfl ?_
        refine j_aload_n X (pc' := 100) (kk := 2) (i := 2) 2 rfl rfl dX1_getSequence_99 rfl ?_
        refine j_iconst X (pc' := 101) (v := 2) (by decide) dX1_getSequence_100 rfl ?_
        refine j_aload_n X (pc' := 102) (kk := 1) (i := 1) 1 rfl rfl dX1_getSequence_101 rfl ?_
        obtain ⟨f34, g35, hm36, hv37, hw7⟩ := hw6
        refine j_getfN X (pc' := 105) hm36 6 hv37 rfl fw_TX3 (by decide) (List.mem_of_getElem? (i := 14) rfl) dX1_getSequence_102 rfl ?_
        obtain ⟨⟨f61, hm60⟩, hw8⟩ := hw7
        refine j_callVi (As := []) (rest := [.int ((2 : Int32)), .ref v2, .ref o, .int ((1 : Int32))]) X (pc' := 108) (cells' := 0) (slots' := 0) (c_X4_size l G A g35 μ31 _ hw8) (gk_X4_size wt_3_117) hd_X4_size (rmL_fit (k1 := 0) (k := kv + 3) (by omega) (by decide)) hm60 rfl rfl rfl (Nat.le_of_ble_eq_true rfl) dX1_getSequence_105 rfl ⟨Nat.le_of_ble_eq_true rfl, Nat.le_of_ble_eq_true rfl⟩ rfl rfl (fun r38 μ39 hw9 => ?_)
        refine j_iconst X (pc' := 109) (v := 1) (by decide) dX1_getSequence_108 rfl ?_
        refine j_isub X (pc' := 110) dX1_getSequence_109 rfl ?_
        obtain ⟨⟨f59, hm58⟩, hw10⟩ := hw9
        refine j_callVi (As := [.ref v2, .int (2 : Int32), .int (r38 - (1 : Int32))]) (rest := [.int ((1 : Int32))]) X (pc' := 113) (cells' := 0) (slots' := 0) (c_X1_next l G A o v2 (2 : Int32) (r38 - (1 : Int32)) μ39 _ hw10) (gk_X1_next wt_3_107) hd_X1_next (rmL_fit (k1 := 1) (k := kv + 3) (by omega) (by decide)) hm58 rfl rfl rfl (Nat.le_of_ble_eq_true rfl) dX1_getSequence_110 rfl ⟨Nat.le_of_ble_eq_true rfl, Nat.le_of_ble_eq_true rfl⟩ rfl rfl (fun r40 μ41 hw11 => ?_)
        refine j_iadd X (pc' := 114) dX1_getSequence_113 rfl ?_
        refine j_istore X (pc' := 116) (i := 7) (loc' := [(7, .int ((1 : Int32) + r40)), (0, .ref o), (1, .ref v1), (2, .ref v2), (3, .int v3), (4, .int v4), (5, .int v5), (6, .int v6)]) dX1_getSequence_114 rfl (by decide) rfl ?_
        refine j_aload_n X (pc' := 117) (kk := 0) (i := 0) 1 rfl rfl dX1_getSequence_116 rfl ?_
        obtain ⟨f42, g43, hm44, hv45, hw12⟩ := hw11
        refine j_getf X (pc' := 120) hm44 0 hv45 rfl fw_TX1 (by decide) wt_1_84 dX1_getSequence_117 rfl ?_
        refine j_iload X (pc' := 122) (i := 6) 7 rfl dX1_getSequence_120 rfl ?_
        refine j_iload X (pc' := 124) (i := 7) 0 rfl dX1_getSequence_122 rfl ?_
        refine j_aload_n X (pc' := 125) (kk := 0) (i := 0) 1 rfl rfl dX1_getSequence_124 rfl ?_
        obtain ⟨f46, g47, hm48, hv49, hw13⟩ := hw12
        refine j_getf X (pc' := 128) hm48 1 hv49 rfl fw_TX1 (by decide) wt_1_86 dX1_getSequence_125 rfl ?_
        refine j_min X (pc' := 131) wt_3_121 wt_2_76 wt_1_3 wt_2_77 (by show 1 ≤ _ + 6; omega) (Nat.le_trans (m := 120) (Nat.le_of_ble_eq_true rfl) (by show 120 ≤ 40 * _ + 120; omega)) (Nat.le_of_ble_eq_true rfl) (Nat.le_of_ble_eq_true rfl) dX1_getSequence_128 rfl ?_
        obtain ⟨⟨f57, hm56⟩, hw14⟩ := hw13
        refine j_callVv (As := [.int v6, .int (if g47 < (1 : Int32) + r40 then g47 else (1 : Int32) + r40)]) (rest := []) X (pc' := 134) (cells' := 0) (slots' := 0) (c_X2_replace l G A g43 v6 (if g47 < (1 : Int32) + r40 then g47 else (1 : Int32) + r40) μ41 _ hw14) (gk_X2_replace wt_3_122) hd_X2_replace (rmL_fit (k1 := 1) (k := kv + 3) (by omega) (by decide)) hm56 rfl rfl rfl (Nat.le_of_ble_eq_true rfl) dX1_getSequence_131 rfl ⟨Nat.le_of_ble_eq_true rfl, Nat.le_of_ble_eq_true rfl⟩ rfl rfl (fun μ51 hw15 => ?_)
        refine j_aload_n X (pc' := 135) (kk := 0) (i := 0) 1 rfl rfl dX1_getSequence_134 rfl ?_
        refine j_aload_n X (pc' := 136) (kk := 1) (i := 1) 2 rfl rfl dX1_getSequence_135 rfl ?_
        refine j_iload X (pc' := 138) (i := 7) 0 rfl dX1_getSequence_136 rfl ?_
        refine j_aload_n X (pc' := 139) (kk := 2) (i := 2) 3 rfl rfl dX1_getSequence_138 rfl ?_
        refine j_iload_n X (pc' := 140) (kk := 3) (i := 3) 4 rfl rfl dX1_getSequence_139 rfl ?_
        obtain ⟨⟨f55, hm54⟩, hw16⟩ := hw15
        refine j_callVv (As := [.ref v1, .int ((1 : Int32) + r40), .ref v2, .int v3]) (rest := []) X (pc' := 143) (cells' := 0) (slots' := 0) (c_X1_getAdditions l G A kd hkd GV kv hkv hGV o v1 ((1 : Int32) + r40) v2 v3 μ51 _ hw16) (gk_X1_getAdditions wt_3_123) hd_X1_getAdditions (rmL_fit (k1 := kv + 2) (k := kv + 3) (by omega) (by decide)) hm54 rfl rfl rfl (Nat.le_of_ble_eq_true rfl) dX1_getSequence_140 rfl ⟨Nat.le_of_ble_eq_true rfl, Nat.le_of_ble_eq_true rfl⟩ rfl rfl (fun μ53 hw17 => ?_)
        exact j_vret X ⟨rfl, hw17⟩ (Nat.le_of_ble_eq_true rfl) (Nat.le_of_ble_eq_true rfl) dX1_getSequence_143
    · have hw18 := hw3.2 c32
      refine j_iload X (pc' := 60) (i := 5) 5 rfl dX1_getSequence_58 rfl ?_
      refine j_iload X (pc' := 62) (i := 7) 7 rfl dX1_getSequence_60 rfl ?_
      refine j_ishr X (pc' := 63) dX1_getSequence_62 rfl ?_
      refine j_iconst X (pc' := 64) (v := 1) (by decide) dX1_getSequence_63 rfl ?_
      refine j_iand X (pc' := 65) dX1_getSequence_64 rfl ?_
      refine j_iconst X (pc' := 66) (v := 1) (by decide) dX1_getSequence_65 rfl ?_
      refine j_icmp_ne X (pc' := 69) (tgt := 86) dX1_getSequence_66 rfl (by decide) (fun c62 => ?_) (fun c62 => ?_)
      · have hw19 := hw18.1 c62
        refine j_iinc X (pc' := 89) (i := 7) (v := v7 + 1) (loc' := [(7, .int (v7 + 1)), (0, .ref o), (1, .ref v1), (2, .ref v2), (3, .int v3), (4, .int v4), (5, .int v5), (6, .int v6)]) 7 rfl rfl dX1_getSequence_86 rfl (by decide) rfl ?_
        refine j_goto X (tgt := 46) dX1_getSequence_89 (by decide) ?_
        refine j_loc [1, 2, 3, 4, 5, 6, 7, 0] rfl ?_
        exact ih _ _ _ _ _ _ _ _ hw19
      · have hw20 := hw18.2 c62
        refine j_aload_n X (pc' := 70) (kk := 0) (i := 0) 0 rfl rfl dX1_getSequence_69 rfl ?_
        refine j_aload_n X (pc' := 71) (kk := 1) (i := 1) 1 rfl rfl dX1_getSequence_70 rfl ?_
        obtain ⟨f63, g64, hm65, hv66, hw21⟩ := hw20
        refine j_getfN X (pc' := 74) hm65 4 hv66 rfl fw_TX3 (by decide) (List.mem_of_getElem? (i := 12) rfl) dX1_getSequence_71 rfl ?_
        refine j_iload X (pc' := 76) (i := 7) 7 rfl dX1_getSequence_74 rfl ?_
        obtain ⟨⟨f74, hm73⟩, hw22⟩ := hw21
        refine j_callVq (As := [.int v7]) (rest := [.ref o]) X (pc' := 79) (cells' := 0) (slots' := 0) (c_X4_at l G A g64 v7 μ31 _ hw22) (gk_X4_at wt_3_120) hd_X4_at (rmL_fit (k1 := 0) (k := kv + 3) (by omega) (by decide)) hm73 rfl rfl rfl (Nat.le_of_ble_eq_true rfl) dX1_getSequence_76 rfl ⟨Nat.le_of_ble_eq_true rfl, Nat.le_of_ble_eq_true rfl⟩ rfl rfl (fun r67 μ68 hw23 => ?_)
        refine j_aload_n X (pc' := 80) (kk := 2) (i := 2) 2 rfl rfl dX1_getSequence_79 rfl ?_
        refine j_iload_n X (pc' := 81) (kk := 3) (i := 3) 3 rfl rfl dX1_getSequence_80 rfl ?_
        refine j_iconst X (pc' := 82) (v := 1) (by decide) dX1_getSequence_81 rfl ?_
        refine j_iadd X (pc' := 83) dX1_getSequence_82 rfl ?_
        obtain ⟨⟨f72, hm71⟩, hw24⟩ := hw23
        refine j_callVv (As := [va_rf r67, .ref v2, .int (v3 + (1 : Int32))]) (rest := []) X (pc' := 86) (cells' := 0) (slots' := 0) (hGV o r67 v2 (v3 + (1 : Int32)) μ68 _ hw24) (gk_X1_getValue wt_3_98) hd_X1_getValue (rmL_fit (k1 := kv) (k := kv + 3) (by omega) (by decide)) hm71 rfl rfl rfl (Nat.le_of_ble_eq_true rfl) dX1_getSequence_83 rfl ⟨Nat.le_of_ble_eq_true rfl, Nat.le_of_ble_eq_true rfl⟩ rfl rfl (fun μ70 hw25 => ?_)
        refine j_iinc X (pc' := 89) (i := 7) (v := v7 + 1) (loc' := [(7, .int (v7 + 1)), (0, .ref o), (1, .ref v1), (2, .ref v2), (3, .int v3), (4, .int v4), (5, .int v5), (6, .int v6)]) 7 rfl rfl dX1_getSequence_86 rfl (by decide) rfl ?_
        refine j_goto X (tgt := 46) dX1_getSequence_89 (by decide) ?_
        refine j_loc [1, 2, 3, 4, 5, 6, 7, 0] rfl ?_
        exact ih _ _ _ _ _ _ _ _ hw25
def wb_X1_getSequence_16 (o : Nat) (kd : Nat → Nat) (GV : Nat → Option Nat → Nat → Int32 → Mm → (Mm → Prop) → Prop) (post : Mm → Prop)  (v1 : Nat) (v2 : Nat) (v3 : Int32) (s0 : Int32) (μ : Mm) : Prop := (∃ f25, μ o = some (.inl (0, f25))) ∧ wp_X1_nextParts o v1 v2 μ (fun r6 μ7 => ∃ f8 g9, μ7 o = some (.inl (0, f8)) ∧ f8[0]? = some (.ref g9) ∧ (∃ f23, μ7 g9 = some (.inl (1, f23))) ∧ wp_X2_size g9 μ7 (fun r12 μ13 => ∃ f14 g15, μ13 o = some (.inl (0, f14)) ∧ f14[0]? = some (.ref g15) ∧ (∃ f21, μ13 g15 = some (.inl (1, f21))) ∧ wp_X2_append g15 (0 : Int32) μ13 (fun μ19 => ∃ n, wb_X1_getSequence_46 o kd GV post n v1 v2 v3 s0 r6 r12 (0 : Int32) μ19)))
set_option maxHeartbeats 4000000 in
set_option maxRecDepth 100000 in
theorem tb_X1_getSequence_16 {p : Program} {l : Launch} {e : Env} {s : State} {m : MethodId} {args : Array Value} {below : List Frame} {meth : Method} {c : Code} {G : gG} {A : Nat → Prop} {o : Nat} {kd : Nat → Nat} {GV : Nat → Option Nat → Nat → Int32 → Mm → (Mm → Prop) → Prop} {post : Mm → Prop} (X : Cx p l s m args meth c cX1_getSequence 8 none RX1 G A) (hkd : G.2.2 = kd) (kv : Nat) (hkv : 6 ≤ kv) (hGV : ∀ (o : Nat) (x1 : Option Nat) (x2 : Nat) (x3 : Int32) (μ : Mm) (post : Mm → Prop), GV o x1 x2 x3 μ post → Met l yX1_getValue (.code yX1_getValue cX1_getValue 6 none :: wsA) (rmL kv 0 0) (PcG G A μ [.ref o, va_rf x1, .ref x2, .int x3]) (QG G A (pV post)) 0 0 A) : ∀ (v1 : Nat) (v2 : Nat) (v3 : Int32) (s0 : Int32) (μ : Mm), wb_X1_getSequence_16 o kd GV post v1 v2 v3 s0 μ → J p l e (rmL (kv + 3) 0 0) s m args below meth c 8 G A (MQ below (QG G A (pV post)) args s 0 0 A) 0 0 16 [(0, .ref o), (1, .ref v1), (2, .ref v2), (3, .int v3)] [.int s0] μ := by
  intro v1 v2 v3 s0 μ hw
  unfold wb_X1_getSequence_16 at hw
  refine j_istore X (pc' := 18) (i := 4) (loc' := [(4, .int s0), (0, .ref o), (1, .ref v1), (2, .ref v2), (3, .int v3)]) dX1_getSequence_16 rfl (by decide) rfl ?_
  refine j_aload_n X (pc' := 19) (kk := 0) (i := 0) 1 rfl rfl dX1_getSequence_18 rfl ?_
  refine j_aload_n X (pc' := 20) (kk := 1) (i := 1) 2 rfl rfl dX1_getSequence_19 rfl ?_
  refine j_aload_n X (pc' := 21) (kk := 2) (i := 2) 3 rfl rfl dX1_getSequence_20 rfl ?_
  obtain ⟨⟨f25, hm24⟩, hw1⟩ := hw
  refine j_callVi (As := [.ref v1, .ref v2]) (rest := []) X (pc' := 24) (cells' := 0) (slots' := 0) (c_X1_nextParts l G A o v1 v2 μ _ hw1) (gk_X1_nextParts wt_3_113) hd_X1_nextParts (rmL_fit (k1 := 2) (k := kv + 3) (by omega) (by decide)) hm24 rfl rfl rfl (Nat.le_of_ble_eq_true rfl) dX1_getSequence_21 rfl ⟨Nat.le_of_ble_eq_true rfl, Nat.le_of_ble_eq_true rfl⟩ rfl rfl (fun r6 μ7 hw2 => ?_)
  refine j_istore X (pc' := 26) (i := 5) (loc' := [(5, .int r6), (4, .int s0), (0, .ref o), (1, .ref v1), (2, .ref v2), (3, .int v3)]) dX1_getSequence_24 rfl (by decide) rfl ?_
  refine j_aload_n X (pc' := 27) (kk := 0) (i := 0) 2 rfl rfl dX1_getSequence_26 rfl ?_
  obtain ⟨f8, g9, hm10, hv11, hw3⟩ := hw2
  refine j_getf X (pc' := 30) hm10 0 hv11 rfl fw_TX1 (by decide) wt_1_84 dX1_getSequence_27 rfl ?_
  obtain ⟨⟨f23, hm22⟩, hw4⟩ := hw3
  refine j_callVi (As := []) (rest := []) X (pc' := 33) (cells' := 0) (slots' := 0) (c_X2_size l G A g9 μ7 _ hw4) (gk_X2_size wt_3_112) hd_X2_size (rmL_fit (k1 := 0) (k := kv + 3) (by omega) (by decide)) hm22 rfl rfl rfl (Nat.le_of_ble_eq_true rfl) dX1_getSequence_30 rfl ⟨Nat.le_of_ble_eq_true rfl, Nat.le_of_ble_eq_true rfl⟩ rfl rfl (fun r12 μ13 hw5 => ?_)
  refine j_istore X (pc' := 35) (i := 6) (loc' := [(6, .int r12), (5, .int r6), (4, .int s0), (0, .ref o), (1, .ref v1), (2, .ref v2), (3, .int v3)]) dX1_getSequence_33 rfl (by decide) rfl ?_
  refine j_aload_n X (pc' := 36) (kk := 0) (i := 0) 3 rfl rfl dX1_getSequence_35 rfl ?_
  obtain ⟨f14, g15, hm16, hv17, hw6⟩ := hw5
  refine j_getf X (pc' := 39) hm16 0 hv17 rfl fw_TX1 (by decide) wt_1_84 dX1_getSequence_36 rfl ?_
  refine j_iconst X (pc' := 40) (v := 0) (by decide) dX1_getSequence_39 rfl ?_
  obtain ⟨⟨f21, hm20⟩, hw7⟩ := hw6
  refine j_callVv (As := [.int (0 : Int32)]) (rest := []) X (pc' := 43) (cells' := 0) (slots' := 0) (c_X2_append l G A g15 (0 : Int32) μ13 _ hw7) (gk_X2_append wt_3_119) hd_X2_append (rmL_fit (k1 := 0) (k := kv + 3) (by omega) (by decide)) hm20 rfl rfl rfl (Nat.le_of_ble_eq_true rfl) dX1_getSequence_40 rfl ⟨Nat.le_of_ble_eq_true rfl, Nat.le_of_ble_eq_true rfl⟩ rfl rfl (fun μ19 hw8 => ?_)
  refine j_iconst X (pc' := 44) (v := 0) (by decide) dX1_getSequence_43 rfl ?_
  refine j_istore X (pc' := 46) (i := 7) (loc' := [(7, .int ((0 : Int32))), (6, .int r12), (5, .int r6), (4, .int s0), (0, .ref o), (1, .ref v1), (2, .ref v2), (3, .int v3)]) dX1_getSequence_44 rfl (by decide) rfl ?_
  obtain ⟨n0, hw9⟩ := hw8
  refine j_loc [4, 5, 6, 7, 3, 2, 1, 0] rfl ?_
  exact tb_X1_getSequence_46 X hkd kv hkv hGV n0 _ _ _ _ _ _ _ _ hw9
def wp_X1_getSequence (o : Nat) (kd : Nat → Nat) (GV : Nat → Option Nat → Nat → Int32 → Mm → (Mm → Prop) → Prop) (x1 : Nat) (x2 : Nat) (x3 : Int32) (μ : Mm) (post : Mm → Prop) : Prop := (∃ f5, μ o = some (.inl (0, f5))) ∧ wp_X1_next o x2 (1 : Int32) (1 : Int32) μ (fun r1 μ2 => (¬ r1 = (1 : Int32) → (wb_X1_getSequence_16 o kd GV post x1 x2 x3 (0 : Int32) μ2)) ∧ (r1 = (1 : Int32) → (wb_X1_getSequence_16 o kd GV post x1 x2 x3 (1 : Int32) μ2)))
set_option maxHeartbeats 4000000 in
set_option maxRecDepth 100000 in
theorem c_X1_getSequence (l : Launch) (G : gG) (A : Nat → Prop) (kd : Nat → Nat) (hkd : G.2.2 = kd) (GV : Nat → Option Nat → Nat → Int32 → Mm → (Mm → Prop) → Prop) (kv : Nat) (hkv : 6 ≤ kv) (hGV : ∀ (o : Nat) (x1 : Option Nat) (x2 : Nat) (x3 : Int32) (μ : Mm) (post : Mm → Prop), GV o x1 x2 x3 μ post → Met l yX1_getValue (.code yX1_getValue cX1_getValue 6 none :: wsA) (rmL kv 0 0) (PcG G A μ [.ref o, va_rf x1, .ref x2, .int x3]) (QG G A (pV post)) 0 0 A) (o : Nat) (x1 : Nat) (x2 : Nat) (x3 : Int32) (μ : Mm) (post : Mm → Prop) (h : wp_X1_getSequence o kd GV x1 x2 x3 μ post) : Met l yX1_getSequence (.code yX1_getSequence cX1_getSequence 8 none :: wsA) (rmL (kv + 3) 0 0) (PcG G A μ [.ref o, .ref x1, .ref x2, .int x3]) (QG G A (pV post)) 0 0 A := by
  refine met_J (loc := [(0, .ref o), (1, .ref x1), (2, .ref x2), (3, .int x3)]) (by decide +kernel) (Nat.le_of_ble_eq_true rfl) rfl ?_
  intro p e s m args below meth c X hin
  have X : Cx p l s m args meth c cX1_getSequence 8 none RX1 G A := X
  have hw := h
  unfold wp_X1_getSequence at hw
  refine j_aload_n X (pc' := 1) (kk := 0) (i := 0) 0 rfl rfl dX1_getSequence_0 rfl ?_
  refine j_aload_n X (pc' := 2) (kk := 2) (i := 2) 2 rfl rfl dX1_getSequence_1 rfl ?_
  refine j_iconst X (pc' := 3) (v := 1) (by decide) dX1_getSequence_2 rfl ?_
  refine j_iconst X (pc' := 4) (v := 1) (by decide) dX1_getSequence_3 rfl ?_
  obtain ⟨⟨f5, hm4⟩, hw1⟩ := hw
  refine j_callVi (As := [.ref x2, .int (1 : Int32), .int (1 : Int32)]) (rest := []) X (pc' := 7) (cells' := 0) (slots' := 0) (c_X1_next l G A o x2 (1 : Int32) (1 : Int32) μ _ hw1) (gk_X1_next wt_3_107) hd_X1_next (rmL_fit (k1 := 1) (k := kv + 3) (by omega) (by decide)) hm4 rfl rfl rfl (Nat.le_of_ble_eq_true rfl) dX1_getSequence_4 rfl ⟨Nat.le_of_ble_eq_true rfl, Nat.le_of_ble_eq_true rfl⟩ rfl rfl (fun r1 μ2 hw2 => ?_)
  refine j_iconst X (pc' := 8) (v := 1) (by decide) dX1_getSequence_7 rfl ?_
  refine j_icmp_ne X (pc' := 11) (tgt := 15) dX1_getSequence_8 rfl (by decide) (fun c3 => ?_) (fun c3 => ?_)
  · have hw3 := hw2.1 c3
    refine j_iconst X (pc' := 16) (v := 0) (by decide) dX1_getSequence_15 rfl ?_
    exact tb_X1_getSequence_16 X hkd kv hkv hGV _ _ _ _ _ hw3
  · have hw4 := hw2.2 c3
    refine j_iconst X (pc' := 12) (v := 1) (by decide) dX1_getSequence_11 rfl ?_
    refine j_goto X (tgt := 16) dX1_getSequence_12 (by decide) ?_
    exact tb_X1_getSequence_16 X hkd kv hkv hGV _ _ _ _ _ hw4
/-! BitNotation$Reader.getValue(LBitNotation$Type;LBitNotation$Row;I)V -/
theorem dX1_getValue_0 : decode cX1_getValue 0 = .ok (.aload_n 0, 1) := by decide +kernel
theorem dX1_getValue_1 : decode cX1_getValue 1 = .ok (.getfield 27, 3) := by decide +kernel
theorem dX1_getValue_4 : decode cX1_getValue 4 = .ok (.iconst (-1), 1) := by decide +kernel
theorem dX1_getValue_5 : decode cX1_getValue 5 = .ok (.if_icmp .eq 4, 3) := by decide +kernel
theorem dX1_getValue_8 : decode cX1_getValue 8 = .ok (.return_, 1) := by decide +kernel
theorem dX1_getValue_9 : decode cX1_getValue 9 = .ok (.aload_n 1, 1) := by decide +kernel
theorem dX1_getValue_10 : decode cX1_getValue 10 = .ok (.ifnull 9, 3) := by decide +kernel
theorem dX1_getValue_13 : decode cX1_getValue 13 = .ok (.iload_n 3, 1) := by decide +kernel
theorem dX1_getValue_14 : decode cX1_getValue 14 = .ok (.bipush 16, 2) := by decide +kernel
theorem dX1_getValue_16 : decode cX1_getValue 16 = .ok (.if_icmp .lt 12, 3) := by decide +kernel
theorem dX1_getValue_19 : decode cX1_getValue 19 = .ok (.aload_n 0, 1) := by decide +kernel
theorem dX1_getValue_20 : decode cX1_getValue 20 = .ok (.aload_n 0, 1) := by decide +kernel
theorem dX1_getValue_21 : decode cX1_getValue 21 = .ok (.getfield 24, 3) := by decide +kernel
theorem dX1_getValue_24 : decode cX1_getValue 24 = .ok (.putfield 27, 3) := by decide +kernel
theorem dX1_getValue_27 : decode cX1_getValue 27 = .ok (.return_, 1) := by decide +kernel
theorem dX1_getValue_28 : decode cX1_getValue 28 = .ok (.aload_n 1, 1) := by decide +kernel
theorem dX1_getValue_29 : decode cX1_getValue 29 = .ok (.getfield 41, 3) := by decide +kernel
theorem dX1_getValue_32 : decode cX1_getValue 32 = .ok (.getstatic 47, 3) := by decide +kernel
theorem dX1_getValue_35 : decode cX1_getValue 35 = .ok (.if_acmp .ne 11, 3) := by decide +kernel
theorem dX1_getValue_38 : decode cX1_getValue 38 = .ok (.aload_n 0, 1) := by decide +kernel
theorem dX1_getValue_39 : decode cX1_getValue 39 = .ok (.aload_n 1, 1) := by decide +kernel
theorem dX1_getValue_40 : decode cX1_getValue 40 = .ok (.aload_n 2, 1) := by decide +kernel
theorem dX1_getValue_41 : decode cX1_getValue 41 = .ok (.iload_n 3, 1) := by decide +kernel
theorem dX1_getValue_42 : decode cX1_getValue 42 = .ok (.invokevirtual 52, 3) := by decide +kernel
theorem dX1_getValue_45 : decode cX1_getValue 45 = .ok (.return_, 1) := by decide +kernel
theorem dX1_getValue_46 : decode cX1_getValue 46 = .ok (.aload_n 1, 1) := by decide +kernel
theorem dX1_getValue_47 : decode cX1_getValue 47 = .ok (.getfield 55, 3) := by decide +kernel
theorem dX1_getValue_50 : decode cX1_getValue 50 = .ok (.aload_n 0, 1) := by decide +kernel
theorem dX1_getValue_51 : decode cX1_getValue 51 = .ok (.aload_n 2, 1) := by decide +kernel
theorem dX1_getValue_52 : decode cX1_getValue 52 = .ok (.aload_n 1, 1) := by decide +kernel
theorem dX1_getValue_53 : decode cX1_getValue 53 = .ok (.getfield 58, 3) := by decide +kernel
theorem dX1_getValue_56 : decode cX1_getValue 56 = .ok (.aload_n 1, 1) := by decide +kernel
theorem dX1_getValue_57 : decode cX1_getValue 57 = .ok (.getfield 61, 3) := by decide +kernel
theorem dX1_getValue_60 : decode cX1_getValue 60 = .ok (.aload_n 1, 1) := by decide +kernel
theorem dX1_getValue_61 : decode cX1_getValue 61 = .ok (.getfield 55, 3) := by decide +kernel
theorem dX1_getValue_64 : decode cX1_getValue 64 = .ok (.isub, 1) := by decide +kernel
theorem dX1_getValue_65 : decode cX1_getValue 65 = .ok (.invokevirtual 64, 3) := by decide +kernel
theorem dX1_getValue_68 : decode cX1_getValue 68 = .ok (.iadd, 1) := by decide +kernel
theorem dX1_getValue_69 : decode cX1_getValue 69 = .ok (.istore 4, 2) := by decide +kernel
theorem dX1_getValue_71 : decode cX1_getValue 71 = .ok (.aload_n 0, 1) := by decide +kernel
theorem dX1_getValue_72 : decode cX1_getValue 72 = .ok (.getfield 14, 3) := by decide +kernel
theorem dX1_getValue_75 : decode cX1_getValue 75 = .ok (.iload 4, 2) := by decide +kernel
theorem dX1_getValue_77 : decode cX1_getValue 77 = .ok (.invokevirtual 68, 3) := by decide +kernel
theorem dX1_getValue_80 : decode cX1_getValue 80 = .ok (.aload_n 1, 1) := by decide +kernel
theorem dX1_getValue_81 : decode cX1_getValue 81 = .ok (.getfield 41, 3) := by decide +kernel
theorem dX1_getValue_84 : decode cX1_getValue 84 = .ok (.getstatic 71, 3) := by decide +kernel
theorem dX1_getValue_87 : decode cX1_getValue 87 = .ok (.if_acmp .ne 46, 3) := by decide +kernel
theorem dX1_getValue_90 : decode cX1_getValue 90 = .ok (.iconst 0, 1) := by decide +kernel
theorem dX1_getValue_91 : decode cX1_getValue 91 = .ok (.istore 5, 2) := by decide +kernel
theorem dX1_getValue_93 : decode cX1_getValue 93 = .ok (.iload 5, 2) := by decide +kernel
theorem dX1_getValue_95 : decode cX1_getValue 95 = .ok (.iload 4, 2) := by decide +kernel
theorem dX1_getValue_97 : decode cX1_getValue 97 = .ok (.if_icmp .ge 33, 3) := by decide +kernel
theorem dX1_getValue_100 : decode cX1_getValue 100 = .ok (.aload_n 0, 1) := by decide +kernel
theorem dX1_getValue_101 : decode cX1_getValue 101 = .ok (.getfield 27, 3) := by decide +kernel
theorem dX1_getValue_104 : decode cX1_getValue 104 = .ok (.iconst (-1), 1) := by decide +kernel
theorem dX1_getValue_105 : decode cX1_getValue 105 = .ok (.if_icmp .ne 25, 3) := by decide +kernel
theorem dX1_getValue_108 : decode cX1_getValue 108 = .ok (.aload_n 0, 1) := by decide +kernel
theorem dX1_getValue_109 : decode cX1_getValue 109 = .ok (.aload_n 1, 1) := by decide +kernel
theorem dX1_getValue_110 : decode cX1_getValue 110 = .ok (.getfield 74, 3) := by decide +kernel
theorem dX1_getValue_113 : decode cX1_getValue 113 = .ok (.iconst 0, 1) := by decide +kernel
theorem dX1_getValue_114 : decode cX1_getValue 114 = .ok (.invokevirtual 78, 3) := by decide +kernel
theorem dX1_getValue_117 : decode cX1_getValue 117 = .ok (.aload_n 2, 1) := by decide +kernel
theorem dX1_getValue_118 : decode cX1_getValue 118 = .ok (.iload_n 3, 1) := by decide +kernel
theorem dX1_getValue_119 : decode cX1_getValue 119 = .ok (.iconst 1, 1) := by decide +kernel
theorem dX1_getValue_120 : decode cX1_getValue 120 = .ok (.iadd, 1) := by decide +kernel
theorem dX1_getValue_121 : decode cX1_getValue 121 = .ok (.invokevirtual 33, 3) := by decide +kernel
theorem dX1_getValue_124 : decode cX1_getValue 124 = .ok (.iinc 5 1, 3) := by decide +kernel
theorem dX1_getValue_127 : decode cX1_getValue 127 = .ok (.goto (-34), 3) := by decide +kernel
theorem dX1_getValue_130 : decode cX1_getValue 130 = .ok (.goto 30, 3) := by decide +kernel
theorem dX1_getValue_133 : decode cX1_getValue 133 = .ok (.aload_n 1, 1) := by decide +kernel
theorem dX1_getValue_134 : decode cX1_getValue 134 = .ok (.getfield 41, 3) := by decide +kernel
theorem dX1_getValue_137 : decode cX1_getValue 137 = .ok (.getstatic 84, 3) := by decide +kernel
theorem dX1_getValue_140 : decode cX1_getValue 140 = .ok (.if_acmp .ne 20, 3) := by decide +kernel
theorem dX1_getValue_143 : decode cX1_getValue 143 = .ok (.aload_n 0, 1) := by decide +kernel
theorem dX1_getValue_144 : decode cX1_getValue 144 = .ok (.aload_n 1, 1) := by decide +kernel
theorem dX1_getValue_145 : decode cX1_getValue 145 = .ok (.getfield 74, 3) := by decide +kernel
theorem dX1_getValue_148 : decode cX1_getValue 148 = .ok (.iload 4, 2) := by decide +kernel
theorem dX1_getValue_150 : decode cX1_getValue 150 = .ok (.invokevirtual 78, 3) := by decide +kernel
theorem dX1_getValue_153 : decode cX1_getValue 153 = .ok (.aload_n 2, 1) := by decide +kernel
theorem dX1_getValue_154 : decode cX1_getValue 154 = .ok (.iload_n 3, 1) := by decide +kernel
theorem dX1_getValue_155 : decode cX1_getValue 155 = .ok (.iconst 1, 1) := by decide +kernel
theorem dX1_getValue_156 : decode cX1_getValue 156 = .ok (.iadd, 1) := by decide +kernel
theorem dX1_getValue_157 : decode cX1_getValue 157 = .ok (.invokevirtual 33, 3) := by decide +kernel
theorem dX1_getValue_160 : decode cX1_getValue 160 = .ok (.return_, 1) := by decide +kernel
def wb_X1_getValue_93 (o : Nat) (kd : Nat → Nat) (GV : Nat → Option Nat → Nat → Int32 → Mm → (Mm → Prop) → Prop) (post : Mm → Prop)  : Nat → Nat → Nat → Int32 → Int32 → Int32 → Mm → Prop
  | 0 => fun _ _ _ _ _ _ => False
  | n + 1 => fun v1 v2 v3 v4 v5 μ => (v4 ≤ v5 → (post μ)) ∧ (¬ v4 ≤ v5 → (∃ f78 g79, μ o = some (.inl (0, f78)) ∧ f78[3]? = some (.int g79) ∧ (¬ g79 = (-1 : Int32) → (post μ)) ∧ (g79 = (-1 : Int32) → (∃ f83 g84, μ v1 = some (.inl (2, f83)) ∧ f83[4]? = some (.ref g84) ∧ (∃ f94, μ g84 = some (.inl (3, f94))) ∧ wp_X4_at g84 (0 : Int32) μ (fun r87 μ88 => (∃ f92, μ88 o = some (.inl (0, f92))) ∧ GV o r87 v2 (v3 + (1 : Int32)) μ88 (fun μ90 => wb_X1_getValue_93 o kd GV post n v1 v2 v3 v4 (v5 + 1) μ90))))))
set_option maxHeartbeats 4000000 in
set_option maxRecDepth 100000 in
theorem tb_X1_getValue_93 {p : Program} {l : Launch} {e : Env} {s : State} {m : MethodId} {args : Array Value} {below : List Frame} {meth : Method} {c : Code} {G : gG} {A : Nat → Prop} {o : Nat} {kd : Nat → Nat} {GV : Nat → Option Nat → Nat → Int32 → Mm → (Mm → Prop) → Prop} {post : Mm → Prop} (X : Cx p l s m args meth c cX1_getValue 6 none RX1 G A) (hkd : G.2.2 = kd) (kv : Nat) (hkv : 6 ≤ kv) (hGV : ∀ (o : Nat) (x1 : Option Nat) (x2 : Nat) (x3 : Int32) (μ : Mm) (post : Mm → Prop), GV o x1 x2 x3 μ post → Met l yX1_getValue (.code yX1_getValue cX1_getValue 6 none :: wsA) (rmL kv 0 0) (PcG G A μ [.ref o, va_rf x1, .ref x2, .int x3]) (QG G A (pV post)) 0 0 A) : ∀ (n : Nat) (v1 : Nat) (v2 : Nat) (v3 : Int32) (v4 : Int32) (v5 : Int32) (μ : Mm), wb_X1_getValue_93 o kd GV post n v1 v2 v3 v4 v5 μ → J p l e (rmL (kv + 4) 0 0) s m args below meth c 6 G A (MQ below (QG G A (pV post)) args s 0 0 A) 0 0 93 [(0, .ref o), (1, .ref v1), (2, .ref v2), (3, .int v3), (4, .int v4), (5, .int v5)] [] μ := by
  intro n
  induction n with
  | zero => intro v1 v2 v3 v4 v5 μ hw; exact hw.elim
  | succ n ih =>
    intro v1 v2 v3 v4 v5 μ hw
    rw [wb_X1_getValue_93] at hw
    refine j_iload X (pc' := 95) (i := 5) 5 rfl dX1_getValue_93 rfl ?_
    refine j_iload X (pc' := 97) (i := 4) 4 rfl dX1_getValue_95 rfl ?_
    refine j_icmp_ge X (pc' := 100) (tgt := 130) dX1_getValue_97 rfl (by decide) (fun c77 => ?_) (fun c77 => ?_)
    · have hw1 := hw.1 c77
      refine j_goto X (tgt := 160) dX1_getValue_130 (by decide) ?_
      exact j_vret X ⟨rfl, hw1⟩ (Nat.le_of_ble_eq_true rfl) (Nat.le_of_ble_eq_true rfl) dX1_getValue_160
    · have hw2 := hw.2 c77
      refine j_aload_n X (pc' := 101) (kk := 0) (i := 0) 0 rfl rfl dX1_getValue_100 rfl ?_
      obtain ⟨f78, g79, hm80, hv81, hw3⟩ := hw2
      refine j_getf X (pc' := 104) hm80 3 hv81 rfl fw_TX1 (by decide) wt_1_88 dX1_getValue_101 rfl ?_
      refine j_iconst X (pc' := 105) (v := (-1)) (by decide) dX1_getValue_104 rfl ?_
      refine j_icmp_ne X (pc' := 108) (tgt := 130) dX1_getValue_105 rfl (by decide) (fun c82 => ?_) (fun c82 => ?_)
      · have hw4 := hw3.1 c82
        refine j_goto X (tgt := 160) dX1_getValue_130 (by decide) ?_
        exact j_vret X ⟨rfl, hw4⟩ (Nat.le_of_ble_eq_true rfl) (Nat.le_of_ble_eq_true rfl) dX1_getValue_160
      · have hw5 := hw3.2 c82
        refine j_aload_n X (pc' := 109) (kk := 0) (i := 0) 0 rfl rfl dX1_getValue_108 rfl ?_
        refine j_aload_n X (pc' := 110) (kk := 1) (i := 1) 1 rfl rfl dX1_getValue_109 rfl ?_
        obtain ⟨f83, g84, hm85, hv86, hw6⟩ := hw5
        refine j_getfN X (pc' := 113) hm85 4 hv86 rfl fw_TX3 (by decide) (List.mem_of_getElem? (i := 12) rfl) dX1_getValue_110 rfl ?_
        refine j_iconst X (pc' := 114) (v := 0) (by decide) dX1_getValue_113 rfl ?_
        obtain ⟨⟨f94, hm93⟩, hw7⟩ := hw6
        refine j_callVq (As := [.int (0 : Int32)]) (rest := [.ref o]) X (pc' := 117) (cells' := 0) (slots' := 0) (c_X4_at l G A g84 (0 : Int32) μ _ hw7) (gk_X4_at wt_3_120) hd_X4_at (rmL_fit (k1 := 0) (k := kv + 4) (by omega) (by decide)) hm93 rfl rfl rfl (Nat.le_of_ble_eq_true rfl) dX1_getValue_114 rfl ⟨Nat.le_of_ble_eq_true rfl, Nat.le_of_ble_eq_true rfl⟩ rfl rfl (fun r87 μ88 hw8 => ?_)
        refine j_aload_n X (pc' := 118) (kk := 2) (i := 2) 2 rfl rfl dX1_getValue_117 rfl ?_
        refine j_iload_n X (pc' := 119) (kk := 3) (i := 3) 3 rfl rfl dX1_getValue_118 rfl ?_
        refine j_iconst X (pc' := 120) (v := 1) (by decide) dX1_getValue_119 rfl ?_
        refine j_iadd X (pc' := 121) dX1_getValue_120 rfl ?_
        obtain ⟨⟨f92, hm91⟩, hw9⟩ := hw8
        refine j_callVv (As := [va_rf r87, .ref v2, .int (v3 + (1 : Int32))]) (rest := []) X (pc' := 124) (cells' := 0) (slots' := 0) (hGV o r87 v2 (v3 + (1 : Int32)) μ88 _ hw9) (gk_X1_getValue wt_3_98) hd_X1_getValue (rmL_fit (k1 := kv) (k := kv + 4) (by omega) (by decide)) hm91 rfl rfl rfl (Nat.le_of_ble_eq_true rfl) dX1_getValue_121 rfl ⟨Nat.le_of_ble_eq_true rfl, Nat.le_of_ble_eq_true rfl⟩ rfl rfl (fun μ90 hw10 => ?_)
        refine j_iinc X (pc' := 127) (i := 5) (v := v5 + 1) (loc' := [(5, .int (v5 + 1)), (0, .ref o), (1, .ref v1), (2, .ref v2), (3, .int v3), (4, .int v4)]) 5 rfl rfl dX1_getValue_124 rfl (by decide) rfl ?_
        refine j_goto X (tgt := 93) dX1_getValue_127 (by decide) ?_
        refine j_loc [1, 2, 3, 4, 5, 0] rfl ?_
        exact ih _ _ _ _ _ _ hw10
def wb_X1_getValue_19 (o : Nat) (kd : Nat → Nat) (GV : Nat → Option Nat → Nat → Int32 → Mm → (Mm → Prop) → Prop) (post : Mm → Prop)   (μ : Mm) : Prop := ∃ f68 g69, μ o = some (.inl (0, f68)) ∧ f68[2]? = some (.int g69) ∧ ∃ f72, μ o = some (.inl (0, f72)) ∧ 3 < f72.length ∧ ∀ μ75, μ75 = ups μ o (.inl (0, f72.set 3 (.int g69))) → post μ75
set_option maxHeartbeats 4000000 in
set_option maxRecDepth 100000 in
theorem tb_X1_getValue_19 {p : Program} {l : Launch} {e : Env} {s : State} {m : MethodId} {args : Array Value} {below : List Frame} {meth : Method} {c : Code} {G : gG} {A : Nat → Prop} {o : Nat} {kd : Nat → Nat} {GV : Nat → Option Nat → Nat → Int32 → Mm → (Mm → Prop) → Prop} {post : Mm → Prop} (X : Cx p l s m args meth c cX1_getValue 6 none RX1 G A) (hkd : G.2.2 = kd) (kv : Nat) (hkv : 6 ≤ kv) (hGV : ∀ (o : Nat) (x1 : Option Nat) (x2 : Nat) (x3 : Int32) (μ : Mm) (post : Mm → Prop), GV o x1 x2 x3 μ post → Met l yX1_getValue (.code yX1_getValue cX1_getValue 6 none :: wsA) (rmL kv 0 0) (PcG G A μ [.ref o, va_rf x1, .ref x2, .int x3]) (QG G A (pV post)) 0 0 A) : ∀ (μ : Mm), wb_X1_getValue_19 o kd GV post μ → J p l e (rmL (kv + 4) 0 0) s m args below meth c 6 G A (MQ below (QG G A (pV post)) args s 0 0 A) 0 0 19 [(0, .ref o)] [] μ := by
  intro μ hw
  unfold wb_X1_getValue_19 at hw
  refine j_aload_n X (pc' := 20) (kk := 0) (i := 0) 0 rfl rfl dX1_getValue_19 rfl ?_
  refine j_aload_n X (pc' := 21) (kk := 0) (i := 0) 0 rfl rfl dX1_getValue_20 rfl ?_
  obtain ⟨f68, g69, hm70, hv71, hw1⟩ := hw
  refine j_getf X (pc' := 24) hm70 2 hv71 rfl fw_TX1 (by decide) wt_1_87 dX1_getValue_21 rfl ?_
  obtain ⟨f72, hm73, hl74, hw2⟩ := hw1
  refine jp_putf X (pc' := 27) (ty := .int) hm73 3 hl74 rfl fw_TX1 tyX1_ok nmX1 (by decide) rfl wt_1_88 (by decide +kernel) rfl rfl dX1_getValue_24 rfl (fun μ75 e76 => ?_)
  have hw3 := hw2 μ75 e76
  exact j_vret X ⟨rfl, hw3⟩ (Nat.le_of_ble_eq_true rfl) (Nat.le_of_ble_eq_true rfl) dX1_getValue_27
def wp_X1_getValue (o : Nat) (kd : Nat → Nat) (GV : Nat → Option Nat → Nat → Int32 → Mm → (Mm → Prop) → Prop) (x1 : Option Nat) (x2 : Nat) (x3 : Int32) (μ : Mm) (post : Mm → Prop) : Prop := ∃ f1 g2, μ o = some (.inl (0, f1)) ∧ f1[3]? = some (.int g2) ∧ (g2 = (-1 : Int32) → ((x1 = none → (wb_X1_getValue_19 o kd GV post μ)) ∧ (∀ a7, x1 = some a7 → ((x3 < (16 : Int32) → (∃ f9 g10, μ a7 = some (.inl (2, f9)) ∧ f9[0]? = some (.ref g10) ∧ (¬ some g10 = some (kd 2) → (∃ f14 g15, μ a7 = some (.inl (2, f14)) ∧ f14[1]? = some (.int g15) ∧ ∃ f18 g19, μ a7 = some (.inl (2, f18)) ∧ f18[3]? = some (.int g19) ∧ ∃ f22 g23, μ a7 = some (.inl (2, f22)) ∧ f22[2]? = some (.int g23) ∧ ∃ f26 g27, μ a7 = some (.inl (2, f26)) ∧ f26[1]? = some (.int g27) ∧ (∃ f63, μ o = some (.inl (0, f63))) ∧ wp_X1_next o x2 g19 (g23 - g27) μ (fun r30 μ31 => ∃ f32 g33, μ31 o = some (.inl (0, f32)) ∧ f32[0]? = some (.ref g33) ∧ (∃ f61, μ31 g33 = some (.inl (1, f61))) ∧ wp_X2_append g33 (g15 + r30) μ31 (fun μ37 => ∃ f38 g39, μ37 a7 = some (.inl (2, f38)) ∧ f38[0]? = some (.ref g39) ∧ (¬ some g39 = some (kd 1) → (∃ f43 g44, μ37 a7 = some (.inl (2, f43)) ∧ f43[0]? = some (.ref g44) ∧ (¬ some g44 = some (kd 3) → (post μ37)) ∧ (some g44 = some (kd 3) → (∃ f48 g49, μ37 a7 = some (.inl (2, f48)) ∧ f48[4]? = some (.ref g49) ∧ (∃ f59, μ37 g49 = some (.inl (3, f59))) ∧ wp_X4_at g49 (g15 + r30) μ37 (fun r52 μ53 => (∃ f57, μ53 o = some (.inl (0, f57))) ∧ GV o r52 x2 (x3 + (1 : Int32)) μ53 (fun μ55 => post μ55)))))) ∧ (some g39 = some (kd 1) → (∃ n, wb_X1_getValue_93 o kd GV post n a7 x2 x3 (g15 + r30) (0 : Int32) μ37)))))) ∧ (some g10 = some (kd 2) → ((∃ f67, μ o = some (.inl (0, f67))) ∧ wp_X1_getSequence o kd GV a7 x2 x3 μ (fun μ65 => post μ65))))) ∧ (¬ x3 < (16 : Int32) → (wb_X1_getValue_19 o kd GV post μ)))))) ∧ (¬ g2 = (-1 : Int32) → (post μ))
set_option maxHeartbeats 4000000 in
set_option maxRecDepth 100000 in
theorem c_X1_getValue (l : Launch) (G : gG) (A : Nat → Prop) (kd : Nat → Nat) (hkd : G.2.2 = kd) (GV : Nat → Option Nat → Nat → Int32 → Mm → (Mm → Prop) → Prop) (kv : Nat) (hkv : 6 ≤ kv) (hGV : ∀ (o : Nat) (x1 : Option Nat) (x2 : Nat) (x3 : Int32) (μ : Mm) (post : Mm → Prop), GV o x1 x2 x3 μ post → Met l yX1_getValue (.code yX1_getValue cX1_getValue 6 none :: wsA) (rmL kv 0 0) (PcG G A μ [.ref o, va_rf x1, .ref x2, .int x3]) (QG G A (pV post)) 0 0 A) (o : Nat) (x1 : Option Nat) (x2 : Nat) (x3 : Int32) (μ : Mm) (post : Mm → Prop) (h : wp_X1_getValue o kd GV x1 x2 x3 μ post) : Met l yX1_getValue (.code yX1_getValue cX1_getValue 6 none :: wsA) (rmL (kv + 4) 0 0) (PcG G A μ [.ref o, va_rf x1, .ref x2, .int x3]) (QG G A (pV post)) 0 0 A := by
  refine met_J (loc := [(0, .ref o), (1, va_rf x1), (2, .ref x2), (3, .int x3)]) (by decide +kernel) (by cases x1 <;> exact Nat.le_of_ble_eq_true rfl) (by cases x1 <;> rfl) ?_
  intro p e s m args below meth c X hin
  have X : Cx p l s m args meth c cX1_getValue 6 none RX1 G A := X
  have hw := h
  unfold wp_X1_getValue at hw
  refine j_aload_n X (pc' := 1) (kk := 0) (i := 0) 0 rfl rfl dX1_getValue_0 rfl ?_
  obtain ⟨f1, g2, hm3, hv4, hw1⟩ := hw
  refine j_getf X (pc' := 4) hm3 3 hv4 rfl fw_TX1 (by decide) wt_1_88 dX1_getValue_1 rfl ?_
  refine j_iconst X (pc' := 5) (v := (-1)) (by decide) dX1_getValue_4 rfl ?_
  refine j_icmp_eq X (pc' := 8) (tgt := 9) dX1_getValue_5 rfl (by decide) (fun c5 => ?_) (fun c5 => ?_)
  · have hw2 := hw1.1 c5
    refine j_aload_nq X (pc' := 10) (kk := 1) (i := 1) (x := x1) 1 rfl rfl dX1_getValue_9 rfl ?_
    refine j_ifnull X (pc' := 13) (x := x1) (tgt := 19) dX1_getValue_10 rfl (by decide) (fun c6 => ?_) (fun a7 c6 => ?_)
    · have hw3 := hw2.1 c6
      refine j_loc [0] rfl ?_
      exact tb_X1_getValue_19 X hkd kv hkv hGV  _ hw3
    · have hw4 := hw2.2 a7 c6
      subst c6
      refine j_iload_n X (pc' := 14) (kk := 3) (i := 3) 3 rfl rfl dX1_getValue_13 rfl ?_
      refine j_bipush X (pc' := 16) (v := 16) (by decide) dX1_getValue_14 rfl ?_
      refine j_icmp_lt X (pc' := 19) (tgt := 28) dX1_getValue_16 rfl (by decide) (fun c8 => ?_) (fun c8 => ?_)
      · have hw5 := hw4.1 c8
        refine j_aload_n X (pc' := 29) (kk := 1) (i := 1) 1 rfl rfl dX1_getValue_28 rfl ?_
        obtain ⟨f9, g10, hm11, hv12, hw6⟩ := hw5
        refine j_getfN X (pc' := 32) hm11 0 hv12 rfl fw_TX3 (by decide) (List.mem_of_getElem? (i := 3) rfl) dX1_getValue_29 rfl ?_
        refine jp_kind X (pc' := 35) hkd 2 (by decide) wt_3_102 dX1_getValue_32 rfl ?_
        refine j_acmp_ne X (rx := some g10) (ry := some (kd 2)) (pc' := 38) (tgt := 46) dX1_getValue_35 rfl (by decide) (fun c13 => ?_) (fun c13 => ?_)
        · have hw7 := hw6.1 c13
          refine j_aload_n X (pc' := 47) (kk := 1) (i := 1) 1 rfl rfl dX1_getValue_46 rfl ?_
          obtain ⟨f14, g15, hm16, hv17, hw8⟩ := hw7
          refine j_getfN X (pc' := 50) hm16 1 hv17 rfl fw_TX3 (by decide) (List.mem_of_getElem? (i := 5) rfl) dX1_getValue_47 rfl ?_
          refine j_aload_n X (pc' := 51) (kk := 0) (i := 0) 0 rfl rfl dX1_getValue_50 rfl ?_
          refine j_aload_n X (pc' := 52) (kk := 2) (i := 2) 2 rfl rfl dX1_getValue_51 rfl ?_
          refine j_aload_n X (pc' := 53) (kk := 1) (i := 1) 1 rfl rfl dX1_getValue_52 rfl ?_
          obtain ⟨f18, g19, hm20, hv21, hw9⟩ := hw8
          refine j_getfN X (pc' := 56) hm20 3 hv21 rfl fw_TX3 (by decide) (List.mem_of_getElem? (i := 9) rfl) dX1_getValue_53 rfl ?_
          refine j_aload_n X (pc' := 57) (kk := 1) (i := 1) 1 rfl rfl dX1_getValue_56 rfl ?_
          obtain ⟨f22, g23, hm24, hv25, hw10⟩ := hw9
          refine j_getfN X (pc' := 60) hm24 2 hv25 rfl fw_TX3 (by decide) (List.mem_of_getElem? (i := 8) rfl) dX1_getValue_57 rfl ?_
          refine j_aload_n X (pc' := 61) (kk := 1) (i := 1) 1 rfl rfl dX1_getValue_60 rfl ?_
          obtain ⟨f26, g27, hm28, hv29, hw11⟩ := hw10
          refine j_getfN X (pc' := 64) hm28 1 hv29 rfl fw_TX3 (by decide) (List.mem_of_getElem? (i := 5) rfl) dX1_getValue_61 rfl ?_
          refine j_isub X (pc' := 65) dX1_getValue_64 rfl ?_
          obtain ⟨⟨f63, hm62⟩, hw12⟩ := hw11
          refine j_callVi (As := [.ref x2, .int g19, .int (g23 - g27)]) (rest := [.int g15]) X (pc' := 68) (cells' := 0) (slots' := 0) (c_X1_next l G A o x2 g19 (g23 - g27) μ _ hw12) (gk_X1_next wt_3_107) hd_X1_next (rmL_fit (k1 := 1) (k := kv + 4) (by omega) (by decide)) hm62 rfl rfl rfl (Nat.le_of_ble_eq_true rfl) dX1_getValue_65 rfl ⟨Nat.le_of_ble_eq_true rfl, Nat.le_of_ble_eq_true rfl⟩ rfl rfl (fun r30 μ31 hw13 => ?_)
          refine j_iadd X (pc' := 69) dX1_getValue_68 rfl ?_
          refine j_istore X (pc' := 71) (i := 4) (loc' := [(4, .int (g15 + r30)), (0, .ref o), (1, .ref a7), (2, .ref x2), (3, .int x3)]) dX1_getValue_69 rfl (by decide) rfl ?_
          refine j_aload_n X (pc' := 72) (kk := 0) (i := 0) 1 rfl rfl dX1_getValue_71 rfl ?_
          obtain ⟨f32, g33, hm34, hv35, hw14⟩ := hw13
          refine j_getf X (pc' := 75) hm34 0 hv35 rfl fw_TX1 (by decide) wt_1_84 dX1_getValue_72 rfl ?_
          refine j_iload X (pc' := 77) (i := 4) 0 rfl dX1_getValue_75 rfl ?_
          obtain ⟨⟨f61, hm60⟩, hw15⟩ := hw14
          refine j_callVv (As := [.int (g15 + r30)]) (rest := []) X (pc' := 80) (cells' := 0) (slots' := 0) (c_X2_append l G A g33 (g15 + r30) μ31 _ hw15) (gk_X2_append wt_3_119) hd_X2_append (rmL_fit (k1 := 0) (k := kv + 4) (by omega) (by decide)) hm60 rfl rfl rfl (Nat.le_of_ble_eq_true rfl) dX1_getValue_77 rfl ⟨Nat.le_of_ble_eq_true rfl, Nat.le_of_ble_eq_true rfl⟩ rfl rfl (fun μ37 hw16 => ?_)
          refine j_aload_n X (pc' := 81) (kk := 1) (i := 1) 2 rfl rfl dX1_getValue_80 rfl ?_
          obtain ⟨f38, g39, hm40, hv41, hw17⟩ := hw16
          refine j_getfN X (pc' := 84) hm40 0 hv41 rfl fw_TX3 (by decide) (List.mem_of_getElem? (i := 3) rfl) dX1_getValue_81 rfl ?_
          refine jp_kind X (pc' := 87) hkd 1 (by decide) wt_3_135 dX1_getValue_84 rfl ?_
          refine j_acmp_ne X (rx := some g39) (ry := some (kd 1)) (pc' := 90) (tgt := 133) dX1_getValue_87 rfl (by decide) (fun c42 => ?_) (fun c42 => ?_)
          · have hw18 := hw17.1 c42
            refine j_aload_n X (pc' := 134) (kk := 1) (i := 1) 2 rfl rfl dX1_getValue_133 rfl ?_
            obtain ⟨f43, g44, hm45, hv46, hw19⟩ := hw18
            refine j_getfN X (pc' := 137) hm45 0 hv46 rfl fw_TX3 (by decide) (List.mem_of_getElem? (i := 3) rfl) dX1_getValue_134 rfl ?_
            refine jp_kind X (pc' := 140) hkd 3 (by decide) wt_3_136 dX1_getValue_137 rfl ?_
            refine j_acmp_ne X (rx := some g44) (ry := some (kd 3)) (pc' := 143) (tgt := 160) dX1_getValue_140 rfl (by decide) (fun c47 => ?_) (fun c47 => ?_)
            · have hw20 := hw19.1 c47
              exact j_vret X ⟨rfl, hw20⟩ (Nat.le_of_ble_eq_true rfl) (Nat.le_of_ble_eq_true rfl) dX1_getValue_160
            · have hw21 := hw19.2 c47
              refine j_aload_n X (pc' := 144) (kk := 0) (i := 0) 1 rfl rfl dX1_getValue_143 rfl ?_
              refine j_aload_n X (pc' := 145) (kk := 1) (i := 1) 2 rfl rfl dX1_getValue_144 rfl ?_
              obtain ⟨f48, g49, hm50, hv51, hw22⟩ := hw21
              refine j_getfN X (pc' := 148) hm50 4 hv51 rfl fw_TX3 (by decide) (List.mem_of_getElem? (i := 12) rfl) dX1_getValue_145 rfl ?_
              refine j_iload X (pc' := 150) (i := 4) 0 rfl dX1_getValue_148 rfl ?_
              obtain ⟨⟨f59, hm58⟩, hw23⟩ := hw22
              refine j_callVq (As := [.int (g15 + r30)]) (rest := [.ref o]) X (pc' := 153) (cells' := 0) (slots' := 0) (c_X4_at l G A g49 (g15 + r30) μ37 _ hw23) (gk_X4_at wt_3_120) hd_X4_at (rmL_fit (k1 := 0) (k := kv + 4) (by omega) (by decide)) hm58 rfl rfl rfl (Nat.le_of_ble_eq_true rfl) dX1_getValue_150 rfl ⟨Nat.le_of_ble_eq_true rfl, Nat.le_of_ble_eq_true rfl⟩ rfl rfl (fun r52 μ53 hw24 => ?_)
              refine j_aload_n X (pc' := 154) (kk := 2) (i := 2) 3 rfl rfl dX1_getValue_153 rfl ?_
              refine j_iload_n X (pc' := 155) (kk := 3) (i := 3) 4 rfl rfl dX1_getValue_154 rfl ?_
              refine j_iconst X (pc' := 156) (v := 1) (by decide) dX1_getValue_155 rfl ?_
              refine j_iadd X (pc' := 157) dX1_getValue_156 rfl ?_
              obtain ⟨⟨f57, hm56⟩, hw25⟩ := hw24
              refine j_callVv (As := [va_rf r52, .ref x2, .int (x3 + (1 : Int32))]) (rest := []) X (pc' := 160) (cells' := 0) (slots' := 0) (hGV o r52 x2 (x3 + (1 : Int32)) μ53 _ hw25) (gk_X1_getValue wt_3_98) hd_X1_getValue (rmL_fit (k1 := kv) (k := kv + 4) (by omega) (by decide)) hm56 rfl rfl rfl (Nat.le_of_ble_eq_true rfl) dX1_getValue_157 rfl ⟨Nat.le_of_ble_eq_true rfl, Nat.le_of_ble_eq_true rfl⟩ rfl rfl (fun μ55 hw26 => ?_)
              exact j_vret X ⟨rfl, hw26⟩ (Nat.le_of_ble_eq_true rfl) (Nat.le_of_ble_eq_true rfl) dX1_getValue_160
          · have hw27 := hw17.2 c42
            refine j_iconst X (pc' := 91) (v := 0) (by decide) dX1_getValue_90 rfl ?_
            refine j_istore X (pc' := 93) (i := 5) (loc' := [(5, .int ((0 : Int32))), (4, .int (g15 + r30)), (0, .ref o), (1, .ref a7), (2, .ref x2), (3, .int x3)]) dX1_getValue_91 rfl (by decide) rfl ?_
            obtain ⟨n0, hw28⟩ := hw27
            refine j_loc [2, 3, 4, 5, 1, 0] rfl ?_
            exact tb_X1_getValue_93 X hkd kv hkv hGV n0 _ _ _ _ _ _ hw28
        · have hw29 := hw6.2 c13
          refine j_aload_n X (pc' := 39) (kk := 0) (i := 0) 0 rfl rfl dX1_getValue_38 rfl ?_
          refine j_aload_n X (pc' := 40) (kk := 1) (i := 1) 1 rfl rfl dX1_getValue_39 rfl ?_
          refine j_aload_n X (pc' := 41) (kk := 2) (i := 2) 2 rfl rfl dX1_getValue_40 rfl ?_
          refine j_iload_n X (pc' := 42) (kk := 3) (i := 3) 3 rfl rfl dX1_getValue_41 rfl ?_
          obtain ⟨⟨f67, hm66⟩, hw30⟩ := hw29
          refine j_callVv (As := [.ref a7, .ref x2, .int x3]) (rest := []) X (pc' := 45) (cells' := 0) (slots' := 0) (c_X1_getSequence l G A kd hkd GV kv hkv hGV o a7 x2 x3 μ _ hw30) (gk_X1_getSequence wt_3_103) hd_X1_getSequence (rmL_fit (k1 := kv + 3) (k := kv + 4) (by omega) (by decide)) hm66 rfl rfl rfl (Nat.le_of_ble_eq_true rfl) dX1_getValue_42 rfl ⟨Nat.le_of_ble_eq_true rfl, Nat.le_of_ble_eq_true rfl⟩ rfl rfl (fun μ65 hw31 => ?_)
          exact j_vret X ⟨rfl, hw31⟩ (Nat.le_of_ble_eq_true rfl) (Nat.le_of_ble_eq_true rfl) dX1_getValue_45
      · have hw32 := hw4.2 c8
        refine j_loc [0] rfl ?_
        exact tb_X1_getValue_19 X hkd kv hkv hGV  _ hw32
  · have hw33 := hw1.2 c5
    exact j_vret X ⟨rfl, hw33⟩ (Nat.le_of_ble_eq_true rfl) (Nat.le_of_ble_eq_true rfl) dX1_getValue_8
def wr_X1_getValue (kd : Nat → Nat) : Nat → Nat → Option Nat → Nat → Int32 → Mm → (Mm → Prop) → Prop
  | 0 => fun _ _ _ _ _ _ => False
  | d + 1 => fun o x1 x2 x3 μ post => wp_X1_getValue o kd (wr_X1_getValue kd d) x1 x2 x3 μ post
theorem cr_X1_getValue (l : Launch) (G : gG) (A : Nat → Prop) (kd : Nat → Nat) (hkd : G.2.2 = kd) : ∀ (d : Nat) (o : Nat) (x1 : Option Nat) (x2 : Nat) (x3 : Int32) (μ : Mm) (post : Mm → Prop), wr_X1_getValue kd d o x1 x2 x3 μ post → Met l yX1_getValue (.code yX1_getValue cX1_getValue 6 none :: wsA) (rmL (6 + 4 * d) 0 0) (PcG G A μ [.ref o, va_rf x1, .ref x2, .int x3]) (QG G A (pV post)) 0 0 A := by
  intro d
  induction d with
  | zero => intro o x1 x2 x3 μ post h; exact h.elim
  | succ d ih =>
    intro o x1 x2 x3 μ post h
    have e : 6 + 4 * (d + 1) = 6 + 4 * d + 4 := by omega
    rw [e]
    exact c_X1_getValue l G A kd hkd (wr_X1_getValue kd d) (6 + 4 * d) (by omega) (fun o x1 x2 x3 μ post h => ih o x1 x2 x3 μ post h) o x1 x2 x3 μ post h
/-! BitNotation$Reader.walk(LBitNotation$Type;LBitNotation$Row;I)I -/
theorem dX1_walk_0 : decode cX1_walk 0 = .ok (.aload_n 0, 1) := by decide +kernel
theorem dX1_walk_1 : decode cX1_walk 1 = .ok (.getfield 14, 3) := by decide +kernel
theorem dX1_walk_4 : decode cX1_walk 4 = .ok (.iconst 0, 1) := by decide +kernel
theorem dX1_walk_5 : decode cX1_walk 5 = .ok (.invokevirtual 30, 3) := by decide +kernel
theorem dX1_walk_8 : decode cX1_walk 8 = .ok (.aload_n 0, 1) := by decide +kernel
theorem dX1_walk_9 : decode cX1_walk 9 = .ok (.iload_n 3, 1) := by decide +kernel
theorem dX1_walk_10 : decode cX1_walk 10 = .ok (.putfield 20, 3) := by decide +kernel
theorem dX1_walk_13 : decode cX1_walk 13 = .ok (.aload_n 0, 1) := by decide +kernel
theorem dX1_walk_14 : decode cX1_walk 14 = .ok (.iconst 0, 1) := by decide +kernel
theorem dX1_walk_15 : decode cX1_walk 15 = .ok (.putfield 24, 3) := by decide +kernel
theorem dX1_walk_18 : decode cX1_walk 18 = .ok (.aload_n 0, 1) := by decide +kernel
theorem dX1_walk_19 : decode cX1_walk 19 = .ok (.iconst (-1), 1) := by decide +kernel
theorem dX1_walk_20 : decode cX1_walk 20 = .ok (.putfield 27, 3) := by decide +kernel
theorem dX1_walk_23 : decode cX1_walk 23 = .ok (.aload_n 0, 1) := by decide +kernel
theorem dX1_walk_24 : decode cX1_walk 24 = .ok (.aload_n 1, 1) := by decide +kernel
theorem dX1_walk_25 : decode cX1_walk 25 = .ok (.aload_n 2, 1) := by decide +kernel
theorem dX1_walk_26 : decode cX1_walk 26 = .ok (.iconst 0, 1) := by decide +kernel
theorem dX1_walk_27 : decode cX1_walk 27 = .ok (.invokevirtual 33, 3) := by decide +kernel
theorem dX1_walk_30 : decode cX1_walk 30 = .ok (.aload_n 0, 1) := by decide +kernel
theorem dX1_walk_31 : decode cX1_walk 31 = .ok (.getfield 27, 3) := by decide +kernel
theorem dX1_walk_34 : decode cX1_walk 34 = .ok (.iconst (-1), 1) := by decide +kernel
theorem dX1_walk_35 : decode cX1_walk 35 = .ok (.if_icmp .ne 22, 3) := by decide +kernel
theorem dX1_walk_38 : decode cX1_walk 38 = .ok (.aload_n 0, 1) := by decide +kernel
theorem dX1_walk_39 : decode cX1_walk 39 = .ok (.getfield 24, 3) := by decide +kernel
theorem dX1_walk_42 : decode cX1_walk 42 = .ok (.aload_n 2, 1) := by decide +kernel
theorem dX1_walk_43 : decode cX1_walk 43 = .ok (.invokevirtual 37, 3) := by decide +kernel
theorem dX1_walk_46 : decode cX1_walk 46 = .ok (.if_icmp .ge 11, 3) := by decide +kernel
theorem dX1_walk_49 : decode cX1_walk 49 = .ok (.aload_n 0, 1) := by decide +kernel
theorem dX1_walk_50 : decode cX1_walk 50 = .ok (.aload_n 0, 1) := by decide +kernel
theorem dX1_walk_51 : decode cX1_walk 51 = .ok (.getfield 24, 3) := by decide +kernel
theorem dX1_walk_54 : decode cX1_walk 54 = .ok (.putfield 27, 3) := by decide +kernel
theorem dX1_walk_57 : decode cX1_walk 57 = .ok (.aload_n 0, 1) := by decide +kernel
theorem dX1_walk_58 : decode cX1_walk 58 = .ok (.getfield 27, 3) := by decide +kernel
theorem dX1_walk_61 : decode cX1_walk 61 = .ok (.ireturn, 1) := by decide +kernel
def wp_X1_walk (o : Nat) (kd : Nat → Nat) (x1 : Nat) (x2 : Nat) (x3 : Int32) (μ : Mm) (post : Int32 → Mm → Prop) : Prop := ∃ f1 g2, μ o = some (.inl (0, f1)) ∧ f1[0]? = some (.ref g2) ∧ (∃ f62, μ g2 = some (.inl (1, f62))) ∧ wp_X2_keepFirst g2 (0 : Int32) μ (fun μ6 => ∃ f7, μ6 o = some (.inl (0, f7)) ∧ 1 < f7.length ∧ ∀ μ10, μ10 = ups μ6 o (.inl (0, f7.set 1 (.int x3))) → ∃ f12, μ10 o = some (.inl (0, f12)) ∧ 2 < f12.length ∧ ∀ μ15, μ15 = ups μ10 o (.inl (0, f12.set 2 (.int (0 : Int32)))) → ∃ f17, μ15 o = some (.inl (0, f17)) ∧ 3 < f17.length ∧ ∀ μ20, μ20 = ups μ15 o (.inl (0, f17.set 3 (.int (-1 : Int32)))) → (∃ f60, μ20 o = some (.inl (0, f60))) ∧ wr_X1_getValue kd 17 o (some x1) x2 (0 : Int32) μ20 (fun μ23 => ∃ f24 g25, μ23 o = some (.inl (0, f24)) ∧ f24[3]? = some (.int g25) ∧ (¬ g25 = (-1 : Int32) → (∃ f29 g30, μ23 o = some (.inl (0, f29)) ∧ f29[3]? = some (.int g30) ∧ post g30 μ23)) ∧ (g25 = (-1 : Int32) → (∃ f33 g34, μ23 o = some (.inl (0, f33)) ∧ f33[2]? = some (.int g34) ∧ (∃ f58, μ23 x2 = some (.inl (1, f58))) ∧ wp_X2_size x2 μ23 (fun r37 μ38 => (r37 ≤ g34 → (∃ f40 g41, μ38 o = some (.inl (0, f40)) ∧ f40[3]? = some (.int g41) ∧ post g41 μ38)) ∧ (¬ r37 ≤ g34 → (∃ f44 g45, μ38 o = some (.inl (0, f44)) ∧ f44[2]? = some (.int g45) ∧ ∃ f48, μ38 o = some (.inl (0, f48)) ∧ 3 < f48.length ∧ ∀ μ51, μ51 = ups μ38 o (.inl (0, f48.set 3 (.int g45))) → ∃ f53 g54, μ51 o = some (.inl (0, f53)) ∧ f53[3]? = some (.int g54) ∧ post g54 μ51)))))))
set_option maxHeartbeats 4000000 in
set_option maxRecDepth 100000 in
theorem c_X1_walk (l : Launch) (G : gG) (A : Nat → Prop) (kd : Nat → Nat) (hkd : G.2.2 = kd) (o : Nat) (x1 : Nat) (x2 : Nat) (x3 : Int32) (μ : Mm) (post : Int32 → Mm → Prop) (h : wp_X1_walk o kd x1 x2 x3 μ post) : Met l yX1_walk (.code yX1_walk cX1_walk 4 (some .int) :: wsA) (rmL (75) 0 0) (PcG G A μ [.ref o, .ref x1, .ref x2, .int x3]) (QG G A (pI post)) 0 0 A := by
  refine met_J (loc := [(0, .ref o), (1, .ref x1), (2, .ref x2), (3, .int x3)]) (by decide +kernel) (Nat.le_of_ble_eq_true rfl) rfl ?_
  intro p e s m args below meth c X hin
  have X : Cx p l s m args meth c cX1_walk 4 (some .int) RX1 G A := X
  have hw := h
  unfold wp_X1_walk at hw
  refine j_aload_n X (pc' := 1) (kk := 0) (i := 0) 0 rfl rfl dX1_walk_0 rfl ?_
  obtain ⟨f1, g2, hm3, hv4, hw1⟩ := hw
  refine j_getf X (pc' := 4) hm3 0 hv4 rfl fw_TX1 (by decide) wt_1_84 dX1_walk_1 rfl ?_
  refine j_iconst X (pc' := 5) (v := 0) (by decide) dX1_walk_4 rfl ?_
  obtain ⟨⟨f62, hm61⟩, hw2⟩ := hw1
  refine j_callVv (As := [.int (0 : Int32)]) (rest := []) X (pc' := 8) (cells' := 0) (slots' := 0) (c_X2_keepFirst l G A g2 (0 : Int32) μ _ hw2) (gk_X2_keepFirst wt_3_97) hd_X2_keepFirst (rmL_fit (k1 := 0) (k := 75) (by omega) (by decide)) hm61 rfl rfl rfl (Nat.le_of_ble_eq_true rfl) dX1_walk_5 rfl ⟨Nat.le_of_ble_eq_true rfl, Nat.le_of_ble_eq_true rfl⟩ rfl rfl (fun μ6 hw3 => ?_)
  refine j_aload_n X (pc' := 9) (kk := 0) (i := 0) 0 rfl rfl dX1_walk_8 rfl ?_
  refine j_iload_n X (pc' := 10) (kk := 3) (i := 3) 3 rfl rfl dX1_walk_9 rfl ?_
  obtain ⟨f7, hm8, hl9, hw4⟩ := hw3
  refine jp_putf X (pc' := 13) (ty := .int) hm8 1 hl9 rfl fw_TX1 tyX1_ok nmX1 (by decide) rfl wt_1_86 (by decide +kernel) rfl rfl dX1_walk_10 rfl (fun μ10 e11 => ?_)
  have hw5 := hw4 μ10 e11
  refine j_aload_n X (pc' := 14) (kk := 0) (i := 0) 0 rfl rfl dX1_walk_13 rfl ?_
  refine j_iconst X (pc' := 15) (v := 0) (by decide) dX1_walk_14 rfl ?_
  obtain ⟨f12, hm13, hl14, hw6⟩ := hw5
  refine jp_putf X (pc' := 18) (ty := .int) hm13 2 hl14 rfl fw_TX1 tyX1_ok nmX1 (by decide) rfl wt_1_87 (by decide +kernel) rfl rfl dX1_walk_15 rfl (fun μ15 e16 => ?_)
  have hw7 := hw6 μ15 e16
  refine j_aload_n X (pc' := 19) (kk := 0) (i := 0) 0 rfl rfl dX1_walk_18 rfl ?_
  refine j_iconst X (pc' := 20) (v := (-1)) (by decide) dX1_walk_19 rfl ?_
  obtain ⟨f17, hm18, hl19, hw8⟩ := hw7
  refine jp_putf X (pc' := 23) (ty := .int) hm18 3 hl19 rfl fw_TX1 tyX1_ok nmX1 (by decide) rfl wt_1_88 (by decide +kernel) rfl rfl dX1_walk_20 rfl (fun μ20 e21 => ?_)
  have hw9 := hw8 μ20 e21
  refine j_aload_n X (pc' := 24) (kk := 0) (i := 0) 0 rfl rfl dX1_walk_23 rfl ?_
  refine j_aload_n X (pc' := 25) (kk := 1) (i := 1) 1 rfl rfl dX1_walk_24 rfl ?_
  refine j_aload_n X (pc' := 26) (kk := 2) (i := 2) 2 rfl rfl dX1_walk_25 rfl ?_
  refine j_iconst X (pc' := 27) (v := 0) (by decide) dX1_walk_26 rfl ?_
  obtain ⟨⟨f60, hm59⟩, hw10⟩ := hw9
  refine j_callVv (As := [va_rf (some x1), .ref x2, .int (0 : Int32)]) (rest := []) X (pc' := 30) (cells' := 0) (slots' := 0) (cr_X1_getValue l G A kd hkd 17 o (some x1) x2 (0 : Int32) μ20 _ hw10) (gk_X1_getValue wt_3_98) hd_X1_getValue (rmL_fit (k1 := 74) (k := 75) (by omega) (by decide)) hm59 rfl rfl rfl (Nat.le_of_ble_eq_true rfl) dX1_walk_27 rfl ⟨Nat.le_of_ble_eq_true rfl, Nat.le_of_ble_eq_true rfl⟩ rfl rfl (fun μ23 hw11 => ?_)
  refine j_aload_n X (pc' := 31) (kk := 0) (i := 0) 0 rfl rfl dX1_walk_30 rfl ?_
  obtain ⟨f24, g25, hm26, hv27, hw12⟩ := hw11
  refine j_getf X (pc' := 34) hm26 3 hv27 rfl fw_TX1 (by decide) wt_1_88 dX1_walk_31 rfl ?_
  refine j_iconst X (pc' := 35) (v := (-1)) (by decide) dX1_walk_34 rfl ?_
  refine j_icmp_ne X (pc' := 38) (tgt := 57) dX1_walk_35 rfl (by decide) (fun c28 => ?_) (fun c28 => ?_)
  · have hw13 := hw12.1 c28
    refine j_aload_n X (pc' := 58) (kk := 0) (i := 0) 0 rfl rfl dX1_walk_57 rfl ?_
    obtain ⟨f29, g30, hm31, hv32, hw14⟩ := hw13
    refine j_getf X (pc' := 61) hm31 3 hv32 rfl fw_TX1 (by decide) wt_1_88 dX1_walk_58 rfl ?_
    exact j_iret X ⟨_, rfl, hw14⟩ (Nat.le_of_ble_eq_true rfl) (Nat.le_of_ble_eq_true rfl) dX1_walk_61
  · have hw15 := hw12.2 c28
    refine j_aload_n X (pc' := 39) (kk := 0) (i := 0) 0 rfl rfl dX1_walk_38 rfl ?_
    obtain ⟨f33, g34, hm35, hv36, hw16⟩ := hw15
    refine j_getf X (pc' := 42) hm35 2 hv36 rfl fw_TX1 (by decide) wt_1_87 dX1_walk_39 rfl ?_
    refine j_aload_n X (pc' := 43) (kk := 2) (i := 2) 2 rfl rfl dX1_walk_42 rfl ?_
    obtain ⟨⟨f58, hm57⟩, hw17⟩ := hw16
    refine j_callVi (As := []) (rest := [.int g34]) X (pc' := 46) (cells' := 0) (slots' := 0) (c_X2_size l G A x2 μ23 _ hw17) (gk_X2_size wt_3_112) hd_X2_size (rmL_fit (k1 := 0) (k := 75) (by omega) (by decide)) hm57 rfl rfl rfl (Nat.le_of_ble_eq_true rfl) dX1_walk_43 rfl ⟨Nat.le_of_ble_eq_true rfl, Nat.le_of_ble_eq_true rfl⟩ rfl rfl (fun r37 μ38 hw18 => ?_)
    refine j_icmp_ge X (pc' := 49) (tgt := 57) dX1_walk_46 rfl (by decide) (fun c39 => ?_) (fun c39 => ?_)
    · have hw19 := hw18.1 c39
      refine j_aload_n X (pc' := 58) (kk := 0) (i := 0) 0 rfl rfl dX1_walk_57 rfl ?_
      obtain ⟨f40, g41, hm42, hv43, hw20⟩ := hw19
      refine j_getf X (pc' := 61) hm42 3 hv43 rfl fw_TX1 (by decide) wt_1_88 dX1_walk_58 rfl ?_
      exact j_iret X ⟨_, rfl, hw20⟩ (Nat.le_of_ble_eq_true rfl) (Nat.le_of_ble_eq_true rfl) dX1_walk_61
    · have hw21 := hw18.2 c39
      refine j_aload_n X (pc' := 50) (kk := 0) (i := 0) 0 rfl rfl dX1_walk_49 rfl ?_
      refine j_aload_n X (pc' := 51) (kk := 0) (i := 0) 0 rfl rfl dX1_walk_50 rfl ?_
      obtain ⟨f44, g45, hm46, hv47, hw22⟩ := hw21
      refine j_getf X (pc' := 54) hm46 2 hv47 rfl fw_TX1 (by decide) wt_1_87 dX1_walk_51 rfl ?_
      obtain ⟨f48, hm49, hl50, hw23⟩ := hw22
      refine jp_putf X (pc' := 57) (ty := .int) hm49 3 hl50 rfl fw_TX1 tyX1_ok nmX1 (by decide) rfl wt_1_88 (by decide +kernel) rfl rfl dX1_walk_54 rfl (fun μ51 e52 => ?_)
      have hw24 := hw23 μ51 e52
      refine j_aload_n X (pc' := 58) (kk := 0) (i := 0) 0 rfl rfl dX1_walk_57 rfl ?_
      obtain ⟨f53, g54, hm55, hv56, hw25⟩ := hw24
      refine j_getf X (pc' := 61) hm55 3 hv56 rfl fw_TX1 (by decide) wt_1_88 dX1_walk_58 rfl ?_
      exact j_iret X ⟨_, rfl, hw25⟩ (Nat.le_of_ble_eq_true rfl) (Nat.le_of_ble_eq_true rfl) dX1_walk_61
/-! BitNotation$Writer.<init>()V -/
theorem dX5_init_0 : decode cX5_init 0 = .ok (.aload_n 0, 1) := by decide +kernel
theorem dX5_init_1 : decode cX5_init 1 = .ok (.invokespecial 3, 3) := by decide +kernel
theorem dX5_init_4 : decode cX5_init 4 = .ok (.aload_n 0, 1) := by decide +kernel
theorem dX5_init_5 : decode cX5_init 5 = .ok (.new 9, 3) := by decide +kernel
theorem dX5_init_8 : decode cX5_init 8 = .ok (.dup, 1) := by decide +kernel
theorem dX5_init_9 : decode cX5_init 9 = .ok (.sipush 240, 3) := by decide +kernel
theorem dX5_init_12 : decode cX5_init 12 = .ok (.invokespecial 11, 3) := by decide +kernel
theorem dX5_init_15 : decode cX5_init 15 = .ok (.putfield 14, 3) := by decide +kernel
theorem dX5_init_18 : decode cX5_init 18 = .ok (.aload_n 0, 1) := by decide +kernel
theorem dX5_init_19 : decode cX5_init 19 = .ok (.iconst 0, 1) := by decide +kernel
theorem dX5_init_20 : decode cX5_init 20 = .ok (.putfield 20, 3) := by decide +kernel
theorem dX5_init_23 : decode cX5_init 23 = .ok (.aload_n 0, 1) := by decide +kernel
theorem dX5_init_24 : decode cX5_init 24 = .ok (.iconst (-1), 1) := by decide +kernel
theorem dX5_init_25 : decode cX5_init 25 = .ok (.putfield 24, 3) := by decide +kernel
theorem dX5_init_28 : decode cX5_init 28 = .ok (.return_, 1) := by decide +kernel
def wp_X5_init (o : Nat) (μ : Mm) (post : Mm → Prop) : Prop := ∀ q1, μ q1 = none → ∀ μ3, μ3 = ups μ q1 (.inl (1, [.null, .int 0])) → wp_X2_init q1 240 (240 : Int32) μ3 (fun μ6 => ∃ f7, μ6 o = some (.inl (4, f7)) ∧ 0 < f7.length ∧ ∀ μ10, μ10 = ups μ6 o (.inl (4, f7.set 0 (.ref q1))) → ∃ f12, μ10 o = some (.inl (4, f12)) ∧ 1 < f12.length ∧ ∀ μ15, μ15 = ups μ10 o (.inl (4, f12.set 1 (.int (0 : Int32)))) → ∃ f17, μ15 o = some (.inl (4, f17)) ∧ 2 < f17.length ∧ ∀ μ20, μ20 = ups μ15 o (.inl (4, f17.set 2 (.int (-1 : Int32)))) → post μ20)
set_option maxHeartbeats 4000000 in
set_option maxRecDepth 100000 in
theorem c_X5_init (l : Launch) (G : gG) (A : Nat → Prop) (o : Nat) (μ : Mm) (post : Mm → Prop) (h : wp_X5_init o μ post) : Met l yX5_init (.code yX5_init cX5_init 1 none :: wsA) (rmL (1) 2 242) (PcG G A μ [.ref o]) (QG G A (pV post)) 2 242 A := by
  refine met_J (loc := [(0, .ref o)]) (by decide +kernel) (Nat.le_of_ble_eq_true rfl) rfl ?_
  intro p e s m args below meth c X hin
  have X : Cx p l s m args meth c cX5_init 1 none RX5 G A := X
  have hw := h
  unfold wp_X5_init at hw
  refine j_aload_n X (pc' := 1) (kk := 0) (i := 0) 0 rfl rfl dX5_init_0 rfl ?_
  refine j_objInit X (pc' := 4) wt_1_62 wt_1_22 wt_1_23 (by show 1 ≤ _ + 6; omega) (Nat.le_trans (m := 120) (Nat.le_of_ble_eq_true rfl) (by show 120 ≤ 40 * _ + 120; omega)) dX5_init_1 rfl ?_
  refine j_aload_n X (pc' := 5) (kk := 0) (i := 0) 0 rfl rfl dX5_init_4 rfl ?_
  refine jp_new X (pc' := 8) (cells' := 1) (slots' := 2) (ci := 1) (fs := [.null, .int 0]) rfl fw_TX2 tyX2_ok wt_1_63 wt_1_43 wt_1_4 df_X2 (Nat.le_of_ble_eq_true rfl) (Nat.le_of_ble_eq_true rfl) rfl rfl dX5_init_5 rfl (fun q1 hq2 μ3 e4 => ?_)
  have hw1 := hw q1 hq2 μ3 e4
  refine j_dup X (pc' := 9) rfl dX5_init_8 rfl ?_
  refine j_sipush X (pc' := 12) (v := 240) (by decide) dX5_init_9 rfl ?_
  refine j_callIv (As := [.int (240 : Int32)]) (rest := [.ref q1, .ref o]) X (pc' := 15) (cells' := 2) (slots' := 242) (c_X2_init l G A 240 (by decide) q1 (240 : Int32) μ3 _ hw1) wt_1_64 wt_1_45 wt_1_4 wt_1_46 rfl hd_X2_init (rmL_fit (k1 := 0) (k := 1) (by omega) (by decide)) rfl rfl (Nat.le_of_ble_eq_true rfl) dX5_init_12 rfl ⟨Nat.le_of_ble_eq_true rfl, Nat.le_of_ble_eq_true rfl⟩ rfl rfl (fun μ6 hw2 => ?_)
  obtain ⟨f7, hm8, hl9, hw3⟩ := hw2
  refine jp_putF X (pc' := 18) (ty := (.object "BitNotation$Row")) hin hm8 0 hl9 rfl fw_TX5 tyX5_ok nmX5 (by decide) rfl rfl wt_1_65 (by decide +kernel) rfl rfl dX5_init_15 rfl (fun μ10 e11 => ?_)
  have hw4 := hw3 μ10 e11
  refine j_aload_n X (pc' := 19) (kk := 0) (i := 0) 0 rfl rfl dX5_init_18 rfl ?_
  refine j_iconst X (pc' := 20) (v := 0) (by decide) dX5_init_19 rfl ?_
  obtain ⟨f12, hm13, hl14, hw5⟩ := hw4
  refine jp_putf X (pc' := 23) (ty := .int) hm13 1 hl14 rfl fw_TX5 tyX5_ok nmX5 (by decide) rfl wt_1_67 (by decide +kernel) rfl rfl dX5_init_20 rfl (fun μ15 e16 => ?_)
  have hw6 := hw5 μ15 e16
  refine j_aload_n X (pc' := 24) (kk := 0) (i := 0) 0 rfl rfl dX5_init_23 rfl ?_
  refine j_iconst X (pc' := 25) (v := (-1)) (by decide) dX5_init_24 rfl ?_
  obtain ⟨f17, hm18, hl19, hw7⟩ := hw6
  refine jp_putf X (pc' := 28) (ty := .int) hm18 2 hl19 rfl fw_TX5 tyX5_ok nmX5 (by decide) rfl wt_1_68 (by decide +kernel) rfl rfl dX5_init_25 rfl (fun μ20 e21 => ?_)
  have hw8 := hw7 μ20 e21
  exact j_vret X ⟨rfl, hw8⟩ (Nat.le_of_ble_eq_true rfl) (Nat.le_of_ble_eq_true rfl) dX5_init_28
/-! BitNotation$Writer.next(LBitNotation$Row;II)I -/
theorem dX5_next_0 : decode cX5_next 0 = .ok (.aload_n 1, 1) := by decide +kernel
theorem dX5_next_1 : decode cX5_next 1 = .ok (.aload_n 0, 1) := by decide +kernel
theorem dX5_next_2 : decode cX5_next 2 = .ok (.getfield 20, 3) := by decide +kernel
theorem dX5_next_5 : decode cX5_next 5 = .ok (.invokevirtual 103, 3) := by decide +kernel
theorem dX5_next_8 : decode cX5_next 8 = .ok (.istore 4, 2) := by decide +kernel
theorem dX5_next_10 : decode cX5_next 10 = .ok (.aload_n 0, 1) := by decide +kernel
theorem dX5_next_11 : decode cX5_next 11 = .ok (.getfield 24, 3) := by decide +kernel
theorem dX5_next_14 : decode cX5_next 14 = .ok (.iconst (-1), 1) := by decide +kernel
theorem dX5_next_15 : decode cX5_next 15 = .ok (.if_icmp .ne 32, 3) := by decide +kernel
theorem dX5_next_18 : decode cX5_next 18 = .ok (.aload_n 1, 1) := by decide +kernel
theorem dX5_next_19 : decode cX5_next 19 = .ok (.aload_n 0, 1) := by decide +kernel
theorem dX5_next_20 : decode cX5_next 20 = .ok (.getfield 20, 3) := by decide +kernel
theorem dX5_next_23 : decode cX5_next 23 = .ok (.invokevirtual 106, 3) := by decide +kernel
theorem dX5_next_26 : decode cX5_next 26 = .ok (.ifCond .eq 13, 3) := by decide +kernel
theorem dX5_next_29 : decode cX5_next 29 = .ok (.iload 4, 2) := by decide +kernel
theorem dX5_next_31 : decode cX5_next 31 = .ok (.iload_n 2, 1) := by decide +kernel
theorem dX5_next_32 : decode cX5_next 32 = .ok (.iload_n 3, 1) := by decide +kernel
theorem dX5_next_33 : decode cX5_next 33 = .ok (.invokestatic 109, 3) := by decide +kernel
theorem dX5_next_36 : decode cX5_next 36 = .ok (.ifCond .eq 11, 3) := by decide +kernel
theorem dX5_next_39 : decode cX5_next 39 = .ok (.aload_n 0, 1) := by decide +kernel
theorem dX5_next_40 : decode cX5_next 40 = .ok (.aload_n 0, 1) := by decide +kernel
theorem dX5_next_41 : decode cX5_next 41 = .ok (.getfield 20, 3) := by decide +kernel
theorem dX5_next_44 : decode cX5_next 44 = .ok (.putfield 24, 3) := by decide +kernel
theorem dX5_next_47 : decode cX5_next 47 = .ok (.aload_n 0, 1) := by decide +kernel
theorem dX5_next_48 : decode cX5_next 48 = .ok (.getfield 24, 3) := by decide +kernel
theorem dX5_next_51 : decode cX5_next 51 = .ok (.iconst (-1), 1) := by decide +kernel
theorem dX5_next_52 : decode cX5_next 52 = .ok (.if_icmp .eq 5, 3) := by decide +kernel
theorem dX5_next_55 : decode cX5_next 55 = .ok (.iload_n 2, 1) := by decide +kernel
theorem dX5_next_56 : decode cX5_next 56 = .ok (.ireturn, 1) := by decide +kernel
theorem dX5_next_57 : decode cX5_next 57 = .ok (.aload_n 0, 1) := by decide +kernel
theorem dX5_next_58 : decode cX5_next 58 = .ok (.dup, 1) := by decide +kernel
theorem dX5_next_59 : decode cX5_next 59 = .ok (.getfield 20, 3) := by decide +kernel
theorem dX5_next_62 : decode cX5_next 62 = .ok (.iconst 1, 1) := by decide +kernel
theorem dX5_next_63 : decode cX5_next 63 = .ok (.iadd, 1) := by decide +kernel
theorem dX5_next_64 : decode cX5_next 64 = .ok (.putfield 20, 3) := by decide +kernel
theorem dX5_next_67 : decode cX5_next 67 = .ok (.iload 4, 2) := by decide +kernel
theorem dX5_next_69 : decode cX5_next 69 = .ok (.ireturn, 1) := by decide +kernel
def wb_X5_next_47 (o : Nat) (post : Int32 → Mm → Prop)  (v2 : Int32) (v4 : Int32) (μ : Mm) : Prop := ∃ f26 g27, μ o = some (.inl (4, f26)) ∧ f26[2]? = some (.int g27) ∧ (g27 = (-1 : Int32) → (∃ f31 g32, μ o = some (.inl (4, f31)) ∧ f31[1]? = some (.int g32) ∧ ∃ f35, μ o = some (.inl (4, f35)) ∧ 1 < f35.length ∧ ∀ μ38, μ38 = ups μ o (.inl (4, f35.set 1 (.int (g32 + (1 : Int32))))) → post v4 μ38)) ∧ (¬ g27 = (-1 : Int32) → (post v2 μ))
set_option maxHeartbeats 4000000 in
set_option maxRecDepth 100000 in
theorem tb_X5_next_47 {p : Program} {l : Launch} {e : Env} {s : State} {m : MethodId} {args : Array Value} {below : List Frame} {meth : Method} {c : Code} {G : gG} {A : Nat → Prop} {o : Nat} {post : Int32 → Mm → Prop} (X : Cx p l s m args meth c cX5_next 5 (some .int) RX5 G A) : ∀ (v2 : Int32) (v4 : Int32) (μ : Mm), wb_X5_next_47 o post v2 v4 μ → J p l e (rmL (1) 0 0) s m args below meth c 5 G A (MQ below (QG G A (pI post)) args s 0 0 A) 0 0 47 [(0, .ref o), (2, .int v2), (4, .int v4)] [] μ := by
  intro v2 v4 μ hw
  unfold wb_X5_next_47 at hw
  refine j_aload_n X (pc' := 48) (kk := 0) (i := 0) 0 rfl rfl dX5_next_47 rfl ?_
  obtain ⟨f26, g27, hm28, hv29, hw1⟩ := hw
  refine j_getf X (pc' := 51) hm28 2 hv29 rfl fw_TX5 (by decide) wt_1_68 dX5_next_48 rfl ?_
  refine j_iconst X (pc' := 52) (v := (-1)) (by decide) dX5_next_51 rfl ?_
  refine j_icmp_eq X (pc' := 55) (tgt := 57) dX5_next_52 rfl (by decide) (fun c30 => ?_) (fun c30 => ?_)
  · have hw2 := hw1.1 c30
    refine j_aload_n X (pc' := 58) (kk := 0) (i := 0) 0 rfl rfl dX5_next_57 rfl ?_
    refine j_dup X (pc' := 59) rfl dX5_next_58 rfl ?_
    obtain ⟨f31, g32, hm33, hv34, hw3⟩ := hw2
    refine j_getf X (pc' := 62) hm33 1 hv34 rfl fw_TX5 (by decide) wt_1_67 dX5_next_59 rfl ?_
    refine j_iconst X (pc' := 63) (v := 1) (by decide) dX5_next_62 rfl ?_
    refine j_iadd X (pc' := 64) dX5_next_63 rfl ?_
    obtain ⟨f35, hm36, hl37, hw4⟩ := hw3
    refine jp_putf X (pc' := 67) (ty := .int) hm36 1 hl37 rfl fw_TX5 tyX5_ok nmX5 (by decide) rfl wt_1_67 (by decide +kernel) rfl rfl dX5_next_64 rfl (fun μ38 e39 => ?_)
    have hw5 := hw4 μ38 e39
    refine j_iload X (pc' := 69) (i := 4) 2 rfl dX5_next_67 rfl ?_
    exact j_iret X ⟨_, rfl, hw5⟩ (Nat.le_of_ble_eq_true rfl) (Nat.le_of_ble_eq_true rfl) dX5_next_69
  · have hw6 := hw1.2 c30
    refine j_iload_n X (pc' := 56) (kk := 2) (i := 2) 1 rfl rfl dX5_next_55 rfl ?_
    exact j_iret X ⟨_, rfl, hw6⟩ (Nat.le_of_ble_eq_true rfl) (Nat.le_of_ble_eq_true rfl) dX5_next_56
def wb_X5_next_39 (o : Nat) (post : Int32 → Mm → Prop)  (v2 : Int32) (v4 : Int32) (μ : Mm) : Prop := ∃ f40 g41, μ o = some (.inl (4, f40)) ∧ f40[1]? = some (.int g41) ∧ ∃ f44, μ o = some (.inl (4, f44)) ∧ 2 < f44.length ∧ ∀ μ47, μ47 = ups μ o (.inl (4, f44.set 2 (.int g41))) → wb_X5_next_47 o post v2 v4 μ47
set_option maxHeartbeats 4000000 in
set_option maxRecDepth 100000 in
theorem tb_X5_next_39 {p : Program} {l : Launch} {e : Env} {s : State} {m : MethodId} {args : Array Value} {below : List Frame} {meth : Method} {c : Code} {G : gG} {A : Nat → Prop} {o : Nat} {post : Int32 → Mm → Prop} (X : Cx p l s m args meth c cX5_next 5 (some .int) RX5 G A) : ∀ (v2 : Int32) (v4 : Int32) (μ : Mm), wb_X5_next_39 o post v2 v4 μ → J p l e (rmL (1) 0 0) s m args below meth c 5 G A (MQ below (QG G A (pI post)) args s 0 0 A) 0 0 39 [(0, .ref o), (2, .int v2), (4, .int v4)] [] μ := by
  intro v2 v4 μ hw
  unfold wb_X5_next_39 at hw
  refine j_aload_n X (pc' := 40) (kk := 0) (i := 0) 0 rfl rfl dX5_next_39 rfl ?_
  refine j_aload_n X (pc' := 41) (kk := 0) (i := 0) 0 rfl rfl dX5_next_40 rfl ?_
  obtain ⟨f40, g41, hm42, hv43, hw1⟩ := hw
  refine j_getf X (pc' := 44) hm42 1 hv43 rfl fw_TX5 (by decide) wt_1_67 dX5_next_41 rfl ?_
  obtain ⟨f44, hm45, hl46, hw2⟩ := hw1
  refine jp_putf X (pc' := 47) (ty := .int) hm45 2 hl46 rfl fw_TX5 tyX5_ok nmX5 (by decide) rfl wt_1_68 (by decide +kernel) rfl rfl dX5_next_44 rfl (fun μ47 e48 => ?_)
  have hw3 := hw2 μ47 e48
  exact tb_X5_next_47 X _ _ _ hw3
def wp_X5_next (o : Nat) (x1 : Nat) (x2 : Int32) (x3 : Int32) (μ : Mm) (post : Int32 → Mm → Prop) : Prop := ∃ f1 g2, μ o = some (.inl (4, f1)) ∧ f1[1]? = some (.int g2) ∧ (∃ f25, μ x1 = some (.inl (1, f25))) ∧ wp_X2_at x1 g2 μ (fun r5 μ6 => ∃ f7 g8, μ6 o = some (.inl (4, f7)) ∧ f7[2]? = some (.int g8) ∧ (¬ g8 = (-1 : Int32) → (wb_X5_next_47 o post x2 r5 μ6)) ∧ (g8 = (-1 : Int32) → (∃ f12 g13, μ6 o = some (.inl (4, f12)) ∧ f12[1]? = some (.int g13) ∧ (∃ f23, μ6 x1 = some (.inl (1, f23))) ∧ wp_X2_has x1 g13 μ6 (fun r16 μ17 => (r16 = 0 → (wb_X5_next_39 o post x2 r5 μ17)) ∧ (¬ r16 = 0 → (wp_X6_isOutside r5 x2 x3 (fun r19 => (r19 = 0 → (wb_X5_next_47 o post x2 r5 μ17)) ∧ (¬ r19 = 0 → (wb_X5_next_39 o post x2 r5 μ17)))))))))
set_option maxHeartbeats 4000000 in
set_option maxRecDepth 100000 in
theorem c_X5_next (l : Launch) (G : gG) (A : Nat → Prop) (o : Nat) (x1 : Nat) (x2 : Int32) (x3 : Int32) (μ : Mm) (post : Int32 → Mm → Prop) (h : wp_X5_next o x1 x2 x3 μ post) : Met l yX5_next (.code yX5_next cX5_next 5 (some .int) :: wsA) (rmL (1) 0 0) (PcG G A μ [.ref o, .ref x1, .int x2, .int x3]) (QG G A (pI post)) 0 0 A := by
  refine met_J (loc := [(0, .ref o), (1, .ref x1), (2, .int x2), (3, .int x3)]) (by decide +kernel) (Nat.le_of_ble_eq_true rfl) rfl ?_
  intro p e s m args below meth c X hin
  have X : Cx p l s m args meth c cX5_next 5 (some .int) RX5 G A := X
  have hw := h
  unfold wp_X5_next at hw
  refine j_aload_n X (pc' := 1) (kk := 1) (i := 1) 1 rfl rfl dX5_next_0 rfl ?_
  refine j_aload_n X (pc' := 2) (kk := 0) (i := 0) 0 rfl rfl dX5_next_1 rfl ?_
  obtain ⟨f1, g2, hm3, hv4, hw1⟩ := hw
  refine j_getf X (pc' := 5) hm3 1 hv4 rfl fw_TX5 (by decide) wt_1_67 dX5_next_2 rfl ?_
  obtain ⟨⟨f25, hm24⟩, hw2⟩ := hw1
  refine j_callVi (As := [.int g2]) (rest := []) X (pc' := 8) (cells' := 0) (slots' := 0) (c_X2_at l G A x1 g2 μ _ hw2) (gk_X2_at wt_3_19) hd_X2_at (rmL_fit (k1 := 0) (k := 1) (by omega) (by decide)) hm24 rfl rfl rfl (Nat.le_of_ble_eq_true rfl) dX5_next_5 rfl ⟨Nat.le_of_ble_eq_true rfl, Nat.le_of_ble_eq_true rfl⟩ rfl rfl (fun r5 μ6 hw3 => ?_)
  refine j_istore X (pc' := 10) (i := 4) (loc' := [(4, .int r5), (0, .ref o), (1, .ref x1), (2, .int x2), (3, .int x3)]) dX5_next_8 rfl (by decide) rfl ?_
  refine j_aload_n X (pc' := 11) (kk := 0) (i := 0) 1 rfl rfl dX5_next_10 rfl ?_
  obtain ⟨f7, g8, hm9, hv10, hw4⟩ := hw3
  refine j_getf X (pc' := 14) hm9 2 hv10 rfl fw_TX5 (by decide) wt_1_68 dX5_next_11 rfl ?_
  refine j_iconst X (pc' := 15) (v := (-1)) (by decide) dX5_next_14 rfl ?_
  refine j_icmp_ne X (pc' := 18) (tgt := 47) dX5_next_15 rfl (by decide) (fun c11 => ?_) (fun c11 => ?_)
  · have hw5 := hw4.1 c11
    refine j_loc [1, 3, 0] rfl ?_
    exact tb_X5_next_47 X _ _ _ hw5
  · have hw6 := hw4.2 c11
    refine j_aload_n X (pc' := 19) (kk := 1) (i := 1) 2 rfl rfl dX5_next_18 rfl ?_
    refine j_aload_n X (pc' := 20) (kk := 0) (i := 0) 1 rfl rfl dX5_next_19 rfl ?_
    obtain ⟨f12, g13, hm14, hv15, hw7⟩ := hw6
    refine j_getf X (pc' := 23) hm14 1 hv15 rfl fw_TX5 (by decide) wt_1_67 dX5_next_20 rfl ?_
    obtain ⟨⟨f23, hm22⟩, hw8⟩ := hw7
    refine j_callVi (As := [.int g13]) (rest := []) X (pc' := 26) (cells' := 0) (slots' := 0) (c_X2_has l G A x1 g13 μ6 _ hw8) (gk_X2_has wt_3_20) hd_X2_has (rmL_fit (k1 := 0) (k := 1) (by omega) (by decide)) hm22 rfl rfl rfl (Nat.le_of_ble_eq_true rfl) dX5_next_23 rfl ⟨Nat.le_of_ble_eq_true rfl, Nat.le_of_ble_eq_true rfl⟩ rfl rfl (fun r16 μ17 hw9 => ?_)
    refine j_if_eq X (pc' := 29) (tgt := 39) dX5_next_26 rfl (by decide) (fun c18 => ?_) (fun c18 => ?_)
    · have hw10 := hw9.1 c18
      refine j_loc [1, 3, 0] rfl ?_
      exact tb_X5_next_39 X _ _ _ hw10
    · have hw11 := hw9.2 c18
      refine j_iload X (pc' := 31) (i := 4) 0 rfl dX5_next_29 rfl ?_
      refine j_iload_n X (pc' := 32) (kk := 2) (i := 2) 3 rfl rfl dX5_next_31 rfl ?_
      refine j_iload_n X (pc' := 33) (kk := 3) (i := 3) 4 rfl rfl dX5_next_32 rfl ?_
      refine j_callSNp (As := [.int r5, .int x2, .int x3]) (rest := []) X (pc' := 36) (cells' := 0) (slots' := 0) (c_X6_isOutside l G A μ17 r5 x2 x3 _ hw11) (List.mem_of_getElem? (i := 3) rfl) wt_1_154 wt_1_1 wt_1_155 hd_X6_isOutside (rmL_fit (k1 := 0) (k := 1) (by omega) (by decide)) rfl rfl (Nat.le_of_ble_eq_true rfl) dX5_next_33 rfl ⟨Nat.le_of_ble_eq_true rfl, Nat.le_of_ble_eq_true rfl⟩ rfl rfl (fun r19 hw12 => ?_)
      refine j_if_eq X (pc' := 39) (tgt := 47) dX5_next_36 rfl (by decide) (fun c20 => ?_) (fun c20 => ?_)
      · have hw13 := hw12.1 c20
        refine j_loc [1, 3, 0] rfl ?_
        exact tb_X5_next_47 X _ _ _ hw13
      · have hw14 := hw12.2 c20
        refine j_loc [1, 3, 0] rfl ?_
        exact tb_X5_next_39 X _ _ _ hw14
/-! BitNotation$Writer.put(II)V -/
theorem dX5_put_0 : decode cX5_put 0 = .ok (.iload_n 2, 1) := by decide +kernel
theorem dX5_put_1 : decode cX5_put 1 = .ok (.iconst 1, 1) := by decide +kernel
theorem dX5_put_2 : decode cX5_put 2 = .ok (.isub, 1) := by decide +kernel
theorem dX5_put_3 : decode cX5_put 3 = .ok (.istore_n 3, 1) := by decide +kernel
theorem dX5_put_4 : decode cX5_put 4 = .ok (.iload_n 3, 1) := by decide +kernel
theorem dX5_put_5 : decode cX5_put 5 = .ok (.ifCond .lt 21, 3) := by decide +kernel
theorem dX5_put_8 : decode cX5_put 8 = .ok (.aload_n 0, 1) := by decide +kernel
theorem dX5_put_9 : decode cX5_put 9 = .ok (.getfield 14, 3) := by decide +kernel
theorem dX5_put_12 : decode cX5_put 12 = .ok (.iload_n 1, 1) := by decide +kernel
theorem dX5_put_13 : decode cX5_put 13 = .ok (.iload_n 3, 1) := by decide +kernel
theorem dX5_put_14 : decode cX5_put 14 = .ok (.ishr, 1) := by decide +kernel
theorem dX5_put_15 : decode cX5_put 15 = .ok (.iconst 1, 1) := by decide +kernel
theorem dX5_put_16 : decode cX5_put 16 = .ok (.iand, 1) := by decide +kernel
theorem dX5_put_17 : decode cX5_put 17 = .ok (.invokevirtual 113, 3) := by decide +kernel
theorem dX5_put_20 : decode cX5_put 20 = .ok (.iinc 3 (-1), 3) := by decide +kernel
theorem dX5_put_23 : decode cX5_put 23 = .ok (.goto (-19), 3) := by decide +kernel
theorem dX5_put_26 : decode cX5_put 26 = .ok (.return_, 1) := by decide +kernel
def wb_X5_put_4 (o : Nat) (post : Mm → Prop)  : Nat → Int32 → Int32 → Mm → Prop
  | 0 => fun _ _ _ => False
  | n + 1 => fun v1 v3 μ => (v3 < 0 → (post μ)) ∧ (¬ v3 < 0 → (∃ f2 g3, μ o = some (.inl (4, f2)) ∧ f2[0]? = some (.ref g3) ∧ (∃ f9, μ g3 = some (.inl (1, f9))) ∧ wp_X2_append g3 ((v1 >>> (v3 &&& 31)) &&& (1 : Int32)) μ (fun μ7 => wb_X5_put_4 o post n v1 (v3 + (-1)) μ7)))
set_option maxHeartbeats 4000000 in
set_option maxRecDepth 100000 in
theorem tb_X5_put_4 {p : Program} {l : Launch} {e : Env} {s : State} {m : MethodId} {args : Array Value} {below : List Frame} {meth : Method} {c : Code} {G : gG} {A : Nat → Prop} {o : Nat} {post : Mm → Prop} (X : Cx p l s m args meth c cX5_put 4 none RX5 G A) : ∀ (n : Nat) (v1 : Int32) (v3 : Int32) (μ : Mm), wb_X5_put_4 o post n v1 v3 μ → J p l e (rmL (1) 0 0) s m args below meth c 4 G A (MQ below (QG G A (pV post)) args s 0 0 A) 0 0 4 [(0, .ref o), (1, .int v1), (3, .int v3)] [] μ := by
  intro n
  induction n with
  | zero => intro v1 v3 μ hw; exact hw.elim
  | succ n ih =>
    intro v1 v3 μ hw
    rw [wb_X5_put_4] at hw
    refine j_iload_n X (pc' := 5) (kk := 3) (i := 3) 2 rfl rfl dX5_put_4 rfl ?_
    refine j_if_lt X (pc' := 8) (tgt := 26) dX5_put_5 rfl (by decide) (fun c1 => ?_) (fun c1 => ?_)
    · have hw1 := hw.1 c1
      exact j_vret X ⟨rfl, hw1⟩ (Nat.le_of_ble_eq_true rfl) (Nat.le_of_ble_eq_true rfl) dX5_put_26
    · have hw2 := hw.2 c1
      refine j_aload_n X (pc' := 9) (kk := 0) (i := 0) 0 rfl rfl dX5_put_8 rfl ?_
      obtain ⟨f2, g3, hm4, hv5, hw3⟩ := hw2
      refine j_getf X (pc' := 12) hm4 0 hv5 rfl fw_TX5 (by decide) wt_1_65 dX5_put_9 rfl ?_
      refine j_iload_n X (pc' := 13) (kk := 1) (i := 1) 1 rfl rfl dX5_put_12 rfl ?_
      refine j_iload_n X (pc' := 14) (kk := 3) (i := 3) 2 rfl rfl dX5_put_13 rfl ?_
      refine j_ishr X (pc' := 15) dX5_put_14 rfl ?_
      refine j_iconst X (pc' := 16) (v := 1) (by decide) dX5_put_15 rfl ?_
      refine j_iand X (pc' := 17) dX5_put_16 rfl ?_
      obtain ⟨⟨f9, hm8⟩, hw4⟩ := hw3
      refine j_callVv (As := [.int ((v1 >>> (v3 &&& 31)) &&& (1 : Int32))]) (rest := []) X (pc' := 20) (cells' := 0) (slots' := 0) (c_X2_append l G A g3 ((v1 >>> (v3 &&& 31)) &&& (1 : Int32)) μ _ hw4) (gk_X2_append wt_3_26) hd_X2_append (rmL_fit (k1 := 0) (k := 1) (by omega) (by decide)) hm8 rfl rfl rfl (Nat.le_of_ble_eq_true rfl) dX5_put_17 rfl ⟨Nat.le_of_ble_eq_true rfl, Nat.le_of_ble_eq_true rfl⟩ rfl rfl (fun μ7 hw5 => ?_)
      refine j_iinc X (pc' := 23) (i := 3) (v := v3 + (-1)) (loc' := [(3, .int (v3 + (-1))), (0, .ref o), (1, .int v1)]) 2 rfl (ii_m1 _) dX5_put_20 rfl (by decide) rfl ?_
      refine j_goto X (tgt := 4) dX5_put_23 (by decide) ?_
      refine j_loc [1, 2, 0] rfl ?_
      exact ih _ _ _ hw5
def wp_X5_put (o : Nat) (x1 : Int32) (x2 : Int32) (μ : Mm) (post : Mm → Prop) : Prop := ∃ n, wb_X5_put_4 o post n x1 (x2 - (1 : Int32)) μ
set_option maxHeartbeats 4000000 in
set_option maxRecDepth 100000 in
theorem c_X5_put (l : Launch) (G : gG) (A : Nat → Prop) (o : Nat) (x1 : Int32) (x2 : Int32) (μ : Mm) (post : Mm → Prop) (h : wp_X5_put o x1 x2 μ post) : Met l yX5_put (.code yX5_put cX5_put 4 none :: wsA) (rmL (1) 0 0) (PcG G A μ [.ref o, .int x1, .int x2]) (QG G A (pV post)) 0 0 A := by
  refine met_J (loc := [(0, .ref o), (1, .int x1), (2, .int x2)]) (by decide +kernel) (Nat.le_of_ble_eq_true rfl) rfl ?_
  intro p e s m args below meth c X hin
  have X : Cx p l s m args meth c cX5_put 4 none RX5 G A := X
  have hw := h
  unfold wp_X5_put at hw
  refine j_iload_n X (pc' := 1) (kk := 2) (i := 2) 2 rfl rfl dX5_put_0 rfl ?_
  refine j_iconst X (pc' := 2) (v := 1) (by decide) dX5_put_1 rfl ?_
  refine j_isub X (pc' := 3) dX5_put_2 rfl ?_
  refine j_istore_n X (pc' := 4) (kk := 3) (i := 3) (loc' := [(3, .int (x2 - (1 : Int32))), (0, .ref o), (1, .int x1), (2, .int x2)]) dX5_put_3 rfl rfl (by decide) rfl ?_
  obtain ⟨n0, hw1⟩ := hw
  refine j_loc [1, 2, 0] rfl ?_
  exact tb_X5_put_4 X n0 _ _ _ hw1
/-! BitNotation$Writer.nextParts(LBitNotation$Type;LBitNotation$Row;)I -/
theorem dX5_nextParts_0 : decode cX5_nextParts 0 = .ok (.iconst 0, 1) := by decide +kernel
theorem dX5_nextParts_1 : decode cX5_nextParts 1 = .ok (.istore_n 3, 1) := by decide +kernel
theorem dX5_nextParts_2 : decode cX5_nextParts 2 = .ok (.iconst 0, 1) := by decide +kernel
theorem dX5_nextParts_3 : decode cX5_nextParts 3 = .ok (.istore 4, 2) := by decide +kernel
theorem dX5_nextParts_5 : decode cX5_nextParts 5 = .ok (.iload 4, 2) := by decide +kernel
theorem dX5_nextParts_7 : decode cX5_nextParts 7 = .ok (.aload_n 1, 1) := by decide +kernel
theorem dX5_nextParts_8 : decode cX5_nextParts 8 = .ok (.getfield 72, 3) := by decide +kernel
theorem dX5_nextParts_11 : decode cX5_nextParts 11 = .ok (.invokevirtual 92, 3) := by decide +kernel
theorem dX5_nextParts_14 : decode cX5_nextParts 14 = .ok (.if_icmp .ge 35, 3) := by decide +kernel
theorem dX5_nextParts_17 : decode cX5_nextParts 17 = .ok (.iload_n 3, 1) := by decide +kernel
theorem dX5_nextParts_18 : decode cX5_nextParts 18 = .ok (.aload_n 1, 1) := by decide +kernel
theorem dX5_nextParts_19 : decode cX5_nextParts 19 = .ok (.iload 4, 2) := by decide +kernel
theorem dX5_nextParts_21 : decode cX5_nextParts 21 = .ok (.invokevirtual 93, 3) := by decide +kernel
theorem dX5_nextParts_24 : decode cX5_nextParts 24 = .ok (.ifCond .eq 13, 3) := by decide +kernel
theorem dX5_nextParts_27 : decode cX5_nextParts 27 = .ok (.aload_n 0, 1) := by decide +kernel
theorem dX5_nextParts_28 : decode cX5_nextParts 28 = .ok (.aload_n 2, 1) := by decide +kernel
theorem dX5_nextParts_29 : decode cX5_nextParts 29 = .ok (.iconst 0, 1) := by decide +kernel
theorem dX5_nextParts_30 : decode cX5_nextParts 30 = .ok (.iconst 1, 1) := by decide +kernel
theorem dX5_nextParts_31 : decode cX5_nextParts 31 = .ok (.invokevirtual 58, 3) := by decide +kernel
theorem dX5_nextParts_34 : decode cX5_nextParts 34 = .ok (.goto 4, 3) := by decide +kernel
theorem dX5_nextParts_37 : decode cX5_nextParts 37 = .ok (.iconst 1, 1) := by decide +kernel
theorem dX5_nextParts_38 : decode cX5_nextParts 38 = .ok (.iload 4, 2) := by decide +kernel
theorem dX5_nextParts_40 : decode cX5_nextParts 40 = .ok (.ishl, 1) := by decide +kernel
theorem dX5_nextParts_41 : decode cX5_nextParts 41 = .ok (.ior, 1) := by decide +kernel
theorem dX5_nextParts_42 : decode cX5_nextParts 42 = .ok (.istore_n 3, 1) := by decide +kernel
theorem dX5_nextParts_43 : decode cX5_nextParts 43 = .ok (.iinc 4 1, 3) := by decide +kernel
theorem dX5_nextParts_46 : decode cX5_nextParts 46 = .ok (.goto (-41), 3) := by decide +kernel
theorem dX5_nextParts_49 : decode cX5_nextParts 49 = .ok (.iload_n 3, 1) := by decide +kernel
theorem dX5_nextParts_50 : decode cX5_nextParts 50 = .ok (.ireturn, 1) := by decide +kernel
def wb_X5_nextParts_38 (o : Nat) (post : Int32 → Mm → Prop) (K5 : Nat → Nat → Int32 → Int32 → Mm → Prop) (v1 : Nat) (v2 : Nat) (v4 : Int32) (s0 : Int32) (s1 : Int32) (μ : Mm) : Prop := K5 v1 v2 (s1 ||| (s0 <<< (v4 &&& 31))) (v4 + 1) μ
set_option maxHeartbeats 4000000 in
set_option maxRecDepth 100000 in
theorem tb_X5_nextParts_38 {p : Program} {l : Launch} {e : Env} {s : State} {m : MethodId} {args : Array Value} {below : List Frame} {meth : Method} {c : Code} {G : gG} {A : Nat → Prop} {o : Nat} {post : Int32 → Mm → Prop} {K5 : Nat → Nat → Int32 → Int32 → Mm → Prop} (X : Cx p l s m args meth c cX5_nextParts 5 (some .int) RX5 G A) (hK5 : ∀ (v1 : Nat) (v2 : Nat) (v3 : Int32) (v4 : Int32) (μ : Mm), K5 v1 v2 v3 v4 μ → J p l e (rmL (2) 0 0) s m args below meth c 5 G A (MQ below (QG G A (pI post)) args s 0 0 A) 0 0 5 [(0, .ref o), (1, .ref v1), (2, .ref v2), (3, .int v3), (4, .int v4)] [] μ) : ∀ (v1 : Nat) (v2 : Nat) (v4 : Int32) (s0 : Int32) (s1 : Int32) (μ : Mm), wb_X5_nextParts_38 o post K5 v1 v2 v4 s0 s1 μ → J p l e (rmL (2) 0 0) s m args below meth c 5 G A (MQ below (QG G A (pI post)) args s 0 0 A) 0 0 38 [(0, .ref o), (1, .ref v1), (2, .ref v2), (4, .int v4)] [.int s0, .int s1] μ := by
  intro v1 v2 v4 s0 s1 μ hw
  unfold wb_X5_nextParts_38 at hw
  refine j_iload X (pc' := 40) (i := 4) 3 rfl dX5_nextParts_38 rfl ?_
  refine j_ishl X (pc' := 41) dX5_nextParts_40 rfl ?_
  refine j_ior X (pc' := 42) dX5_nextParts_41 rfl ?_
  refine j_istore_n X (pc' := 43) (kk := 3) (i := 3) (loc' := [(3, .int (s1 ||| (s0 <<< (v4 &&& 31)))), (0, .ref o), (1, .ref v1), (2, .ref v2), (4, .int v4)]) dX5_nextParts_42 rfl rfl (by decide) rfl ?_
  refine j_iinc X (pc' := 46) (i := 4) (v := v4 + 1) (loc' := [(4, .int (v4 + 1)), (3, .int (s1 ||| (s0 <<< (v4 &&& 31)))), (0, .ref o), (1, .ref v1), (2, .ref v2)]) 4 rfl rfl dX5_nextParts_43 rfl (by decide) rfl ?_
  refine j_goto X (tgt := 5) dX5_nextParts_46 (by decide) ?_
  refine j_loc [2, 3, 4, 1, 0] rfl ?_
  exact hK5 _ _ _ _ _ hw
def wb_X5_nextParts_5 (o : Nat) (post : Int32 → Mm → Prop)  : Nat → Nat → Nat → Int32 → Int32 → Mm → Prop
  | 0 => fun _ _ _ _ _ => False
  | n + 1 => fun v1 v2 v3 v4 μ => ∃ f1 g2, μ v1 = some (.inl (2, f1)) ∧ f1[4]? = some (.ref g2) ∧ (∃ f18, μ g2 = some (.inl (3, f18))) ∧ wp_X4_size g2 μ (fun r5 μ6 => (r5 ≤ v4 → (post v3 μ6)) ∧ (¬ r5 ≤ v4 → ((∃ f16, μ6 v1 = some (.inl (2, f16))) ∧ wp_X3_isOptional v1 v4 μ6 (fun r8 μ9 => (r8 = 0 → (wb_X5_nextParts_38 o post (wb_X5_nextParts_5 o post n) v1 v2 v4 (1 : Int32) v3 μ9)) ∧ (¬ r8 = 0 → ((∃ f14, μ9 o = some (.inl (4, f14))) ∧ wp_X5_next o v2 (0 : Int32) (1 : Int32) μ9 (fun r11 μ12 => wb_X5_nextParts_38 o post (wb_X5_nextParts_5 o post n) v1 v2 v4 r11 v3 μ12)))))))
set_option maxHeartbeats 4000000 in
set_option maxRecDepth 100000 in
theorem tb_X5_nextParts_5 {p : Program} {l : Launch} {e : Env} {s : State} {m : MethodId} {args : Array Value} {below : List Frame} {meth : Method} {c : Code} {G : gG} {A : Nat → Prop} {o : Nat} {post : Int32 → Mm → Prop} (X : Cx p l s m args meth c cX5_nextParts 5 (some .int) RX5 G A) : ∀ (n : Nat) (v1 : Nat) (v2 : Nat) (v3 : Int32) (v4 : Int32) (μ : Mm), wb_X5_nextParts_5 o post n v1 v2 v3 v4 μ → J p l e (rmL (2) 0 0) s m args below meth c 5 G A (MQ below (QG G A (pI post)) args s 0 0 A) 0 0 5 [(0, .ref o), (1, .ref v1), (2, .ref v2), (3, .int v3), (4, .int v4)] [] μ := by
  intro n
  induction n with
  | zero => intro v1 v2 v3 v4 μ hw; exact hw.elim
  | succ n ih =>
    intro v1 v2 v3 v4 μ hw
    rw [wb_X5_nextParts_5] at hw
    refine j_iload X (pc' := 7) (i := 4) 4 rfl dX5_nextParts_5 rfl ?_
    refine j_aload_n X (pc' := 8) (kk := 1) (i := 1) 1 rfl rfl dX5_nextParts_7 rfl ?_
    obtain ⟨f1, g2, hm3, hv4, hw1⟩ := hw
    refine j_getfN X (pc' := 11) hm3 4 hv4 rfl fw_TX3 (by decide) (List.mem_of_getElem? (i := 11) rfl) dX5_nextParts_8 rfl ?_
    obtain ⟨⟨f18, hm17⟩, hw2⟩ := hw1
    refine j_callVi (As := []) (rest := [.int v4]) X (pc' := 14) (cells' := 0) (slots' := 0) (c_X4_size l G A g2 μ _ hw2) (gk_X4_size wt_3_13) hd_X4_size (rmL_fit (k1 := 0) (k := 2) (by omega) (by decide)) hm17 rfl rfl rfl (Nat.le_of_ble_eq_true rfl) dX5_nextParts_11 rfl ⟨Nat.le_of_ble_eq_true rfl, Nat.le_of_ble_eq_true rfl⟩ rfl rfl (fun r5 μ6 hw3 => ?_)
    refine j_icmp_ge X (pc' := 17) (tgt := 49) dX5_nextParts_14 rfl (by decide) (fun c7 => ?_) (fun c7 => ?_)
    · have hw4 := hw3.1 c7
      refine j_iload_n X (pc' := 50) (kk := 3) (i := 3) 3 rfl rfl dX5_nextParts_49 rfl ?_
      exact j_iret X ⟨_, rfl, hw4⟩ (Nat.le_of_ble_eq_true rfl) (Nat.le_of_ble_eq_true rfl) dX5_nextParts_50
    · have hw5 := hw3.2 c7
      refine j_iload_n X (pc' := 18) (kk := 3) (i := 3) 3 rfl rfl dX5_nextParts_17 rfl ?_
      refine j_aload_n X (pc' := 19) (kk := 1) (i := 1) 1 rfl rfl dX5_nextParts_18 rfl ?_
      refine j_iload X (pc' := 21) (i := 4) 4 rfl dX5_nextParts_19 rfl ?_
      obtain ⟨⟨f16, hm15⟩, hw6⟩ := hw5
      refine j_callVi (As := [.int v4]) (rest := [.int v3]) X (pc' := 24) (cells' := 0) (slots' := 0) (c_X3_isOptional l G A v1 v4 μ6 _ hw6) (gk_X3_isOptional wt_3_14) hd_X3_isOptional (rmL_fit (k1 := 0) (k := 2) (by omega) (by decide)) hm15 rfl rfl rfl (Nat.le_of_ble_eq_true rfl) dX5_nextParts_21 rfl ⟨Nat.le_of_ble_eq_true rfl, Nat.le_of_ble_eq_true rfl⟩ rfl rfl (fun r8 μ9 hw7 => ?_)
      refine j_if_eq X (pc' := 27) (tgt := 37) dX5_nextParts_24 rfl (by decide) (fun c10 => ?_) (fun c10 => ?_)
      · have hw8 := hw7.1 c10
        refine j_iconst X (pc' := 38) (v := 1) (by decide) dX5_nextParts_37 rfl ?_
        refine j_loc [0, 1, 2, 4] rfl ?_
        exact tb_X5_nextParts_38 X ih _ _ _ _ _ _ hw8
      · have hw9 := hw7.2 c10
        refine j_aload_n X (pc' := 28) (kk := 0) (i := 0) 0 rfl rfl dX5_nextParts_27 rfl ?_
        refine j_aload_n X (pc' := 29) (kk := 2) (i := 2) 2 rfl rfl dX5_nextParts_28 rfl ?_
        refine j_iconst X (pc' := 30) (v := 0) (by decide) dX5_nextParts_29 rfl ?_
        refine j_iconst X (pc' := 31) (v := 1) (by decide) dX5_nextParts_30 rfl ?_
        obtain ⟨⟨f14, hm13⟩, hw10⟩ := hw9
        refine j_callVi (As := [.ref v2, .int (0 : Int32), .int (1 : Int32)]) (rest := [.int v3]) X (pc' := 34) (cells' := 0) (slots' := 0) (c_X5_next l G A o v2 (0 : Int32) (1 : Int32) μ9 _ hw10) (gk_X5_next wt_3_15) hd_X5_next (rmL_fit (k1 := 1) (k := 2) (by omega) (by decide)) hm13 rfl rfl rfl (Nat.le_of_ble_eq_true rfl) dX5_nextParts_31 rfl ⟨Nat.le_of_ble_eq_true rfl, Nat.le_of_ble_eq_true rfl⟩ rfl rfl (fun r11 μ12 hw11 => ?_)
        refine j_goto X (tgt := 38) dX5_nextParts_34 (by decide) ?_
        refine j_loc [0, 1, 2, 4] rfl ?_
        exact tb_X5_nextParts_38 X ih _ _ _ _ _ _ hw11
def wp_X5_nextParts (o : Nat) (x1 : Nat) (x2 : Nat) (μ : Mm) (post : Int32 → Mm → Prop) : Prop := ∃ n, wb_X5_nextParts_5 o post n x1 x2 (0 : Int32) (0 : Int32) μ
set_option maxHeartbeats 4000000 in
set_option maxRecDepth 100000 in
theorem c_X5_nextParts (l : Launch) (G : gG) (A : Nat → Prop) (o : Nat) (x1 : Nat) (x2 : Nat) (μ : Mm) (post : Int32 → Mm → Prop) (h : wp_X5_nextParts o x1 x2 μ post) : Met l yX5_nextParts (.code yX5_nextParts cX5_nextParts 5 (some .int) :: wsA) (rmL (2) 0 0) (PcG G A μ [.ref o, .ref x1, .ref x2]) (QG G A (pI post)) 0 0 A := by
  refine met_J (loc := [(0, .ref o), (1, .ref x1), (2, .ref x2)]) (by decide +kernel) (Nat.le_of_ble_eq_true rfl) rfl ?_
  intro p e s m args below meth c X hin
  have X : Cx p l s m args meth c cX5_nextParts 5 (some .int) RX5 G A := X
  have hw := h
  unfold wp_X5_nextParts at hw
  refine j_iconst X (pc' := 1) (v := 0) (by decide) dX5_nextParts_0 rfl ?_
  refine j_istore_n X (pc' := 2) (kk := 3) (i := 3) (loc' := [(3, .int ((0 : Int32))), (0, .ref o), (1, .ref x1), (2, .ref x2)]) dX5_nextParts_1 rfl rfl (by decide) rfl ?_
  refine j_iconst X (pc' := 3) (v := 0) (by decide) dX5_nextParts_2 rfl ?_
  refine j_istore X (pc' := 5) (i := 4) (loc' := [(4, .int ((0 : Int32))), (3, .int ((0 : Int32))), (0, .ref o), (1, .ref x1), (2, .ref x2)]) dX5_nextParts_3 rfl (by decide) rfl ?_
  obtain ⟨n0, hw1⟩ := hw
  refine j_loc [2, 3, 4, 1, 0] rfl ?_
  exact tb_X5_nextParts_5 X n0 _ _ _ _ _ hw1
/-! BitNotation$Writer.putAddition(LBitNotation$Type;LBitNotation$Row;I)V -/
theorem dX5_putAddition_0 : decode cX5_putAddition 0 = .ok (.aload_n 0, 1) := by decide +kernel
theorem dX5_putAddition_1 : decode cX5_putAddition 1 = .ok (.getfield 14, 3) := by decide +kernel
theorem dX5_putAddition_4 : decode cX5_putAddition 4 = .ok (.invokevirtual 34, 3) := by decide +kernel
theorem dX5_putAddition_7 : decode cX5_putAddition 7 = .ok (.istore 4, 2) := by decide +kernel
theorem dX5_putAddition_9 : decode cX5_putAddition 9 = .ok (.aload_n 0, 1) := by decide +kernel
theorem dX5_putAddition_10 : decode cX5_putAddition 10 = .ok (.iconst 0, 1) := by decide +kernel
theorem dX5_putAddition_11 : decode cX5_putAddition 11 = .ok (.bipush 8, 2) := by decide +kernel
theorem dX5_putAddition_13 : decode cX5_putAddition 13 = .ok (.invokevirtual 65, 3) := by decide +kernel
theorem dX5_putAddition_16 : decode cX5_putAddition 16 = .ok (.aload_n 0, 1) := by decide +kernel
theorem dX5_putAddition_17 : decode cX5_putAddition 17 = .ok (.getfield 14, 3) := by decide +kernel
theorem dX5_putAddition_20 : decode cX5_putAddition 20 = .ok (.invokevirtual 34, 3) := by decide +kernel
theorem dX5_putAddition_23 : decode cX5_putAddition 23 = .ok (.istore 5, 2) := by decide +kernel
theorem dX5_putAddition_25 : decode cX5_putAddition 25 = .ok (.aload_n 0, 1) := by decide +kernel
theorem dX5_putAddition_26 : decode cX5_putAddition 26 = .ok (.aload_n 1, 1) := by decide +kernel
theorem dX5_putAddition_27 : decode cX5_putAddition 27 = .ok (.aload_n 2, 1) := by decide +kernel
theorem dX5_putAddition_28 : decode cX5_putAddition 28 = .ok (.iload_n 3, 1) := by decide +kernel
theorem dX5_putAddition_29 : decode cX5_putAddition 29 = .ok (.iconst 1, 1) := by decide +kernel
theorem dX5_putAddition_30 : decode cX5_putAddition 30 = .ok (.iadd, 1) := by decide +kernel
theorem dX5_putAddition_31 : decode cX5_putAddition 31 = .ok (.invokevirtual 30, 3) := by decide +kernel
theorem dX5_putAddition_34 : decode cX5_putAddition 34 = .ok (.aload_n 0, 1) := by decide +kernel
theorem dX5_putAddition_35 : decode cX5_putAddition 35 = .ok (.getfield 14, 3) := by decide +kernel
theorem dX5_putAddition_38 : decode cX5_putAddition 38 = .ok (.invokevirtual 34, 3) := by decide +kernel
theorem dX5_putAddition_41 : decode cX5_putAddition 41 = .ok (.iload 5, 2) := by decide +kernel
theorem dX5_putAddition_43 : decode cX5_putAddition 43 = .ok (.isub, 1) := by decide +kernel
theorem dX5_putAddition_44 : decode cX5_putAddition 44 = .ok (.istore 6, 2) := by decide +kernel
theorem dX5_putAddition_46 : decode cX5_putAddition 46 = .ok (.iconst 0, 1) := by decide +kernel
theorem dX5_putAddition_47 : decode cX5_putAddition 47 = .ok (.istore 7, 2) := by decide +kernel
theorem dX5_putAddition_49 : decode cX5_putAddition 49 = .ok (.iload 7, 2) := by decide +kernel
theorem dX5_putAddition_51 : decode cX5_putAddition 51 = .ok (.bipush 8, 2) := by decide +kernel
theorem dX5_putAddition_53 : decode cX5_putAddition 53 = .ok (.if_icmp .ge 31, 3) := by decide +kernel
theorem dX5_putAddition_56 : decode cX5_putAddition 56 = .ok (.aload_n 0, 1) := by decide +kernel
theorem dX5_putAddition_57 : decode cX5_putAddition 57 = .ok (.getfield 14, 3) := by decide +kernel
theorem dX5_putAddition_60 : decode cX5_putAddition 60 = .ok (.iload 4, 2) := by decide +kernel
theorem dX5_putAddition_62 : decode cX5_putAddition 62 = .ok (.iload 7, 2) := by decide +kernel
theorem dX5_putAddition_64 : decode cX5_putAddition 64 = .ok (.iadd, 1) := by decide +kernel
theorem dX5_putAddition_65 : decode cX5_putAddition 65 = .ok (.iload 6, 2) := by decide +kernel
theorem dX5_putAddition_67 : decode cX5_putAddition 67 = .ok (.bipush 7, 2) := by decide +kernel
theorem dX5_putAddition_69 : decode cX5_putAddition 69 = .ok (.iload 7, 2) := by decide +kernel
theorem dX5_putAddition_71 : decode cX5_putAddition 71 = .ok (.isub, 1) := by decide +kernel
theorem dX5_putAddition_72 : decode cX5_putAddition 72 = .ok (.ishr, 1) := by decide +kernel
theorem dX5_putAddition_73 : decode cX5_putAddition 73 = .ok (.iconst 1, 1) := by decide +kernel
theorem dX5_putAddition_74 : decode cX5_putAddition 74 = .ok (.iand, 1) := by decide +kernel
theorem dX5_putAddition_75 : decode cX5_putAddition 75 = .ok (.invokevirtual 100, 3) := by decide +kernel
theorem dX5_putAddition_78 : decode cX5_putAddition 78 = .ok (.iinc 7 1, 3) := by decide +kernel
theorem dX5_putAddition_81 : decode cX5_putAddition 81 = .ok (.goto (-32), 3) := by decide +kernel
theorem dX5_putAddition_84 : decode cX5_putAddition 84 = .ok (.return_, 1) := by decide +kernel
def wb_X5_putAddition_49 (o : Nat) (kd : Nat → Nat) (GV : Nat → Option Nat → Nat → Int32 → Mm → (Mm → Prop) → Prop) (post : Mm → Prop)  : Nat → Int32 → Int32 → Int32 → Mm → Prop
  | 0 => fun _ _ _ _ => False
  | n + 1 => fun v4 v6 v7 μ => ((8 : Int32) ≤ v7 → (post μ)) ∧ (¬ (8 : Int32) ≤ v7 → (∃ f34 g35, μ o = some (.inl (4, f34)) ∧ f34[0]? = some (.ref g35) ∧ (∃ f41, μ g35 = some (.inl (1, f41))) ∧ wp_X2_replace g35 (v4 + v7) ((v6 >>> (((7 : Int32) - v7) &&& 31)) &&& (1 : Int32)) μ (fun μ39 => wb_X5_putAddition_49 o kd GV post n v4 v6 (v7 + 1) μ39)))
set_option maxHeartbeats 4000000 in
set_option maxRecDepth 100000 in
theorem tb_X5_putAddition_49 {p : Program} {l : Launch} {e : Env} {s : State} {m : MethodId} {args : Array Value} {below : List Frame} {meth : Method} {c : Code} {G : gG} {A : Nat → Prop} {o : Nat} {kd : Nat → Nat} {GV : Nat → Option Nat → Nat → Int32 → Mm → (Mm → Prop) → Prop} {post : Mm → Prop} (X : Cx p l s m args meth c cX5_putAddition 8 none RX5 G A) (hkd : G.2.2 = kd) (kv : Nat) (hkv : 6 ≤ kv) (hGV : ∀ (o : Nat) (x1 : Option Nat) (x2 : Nat) (x3 : Int32) (μ : Mm) (post : Mm → Prop), GV o x1 x2 x3 μ post → Met l yX5_putValue (.code yX5_putValue cX5_putValue 6 none :: wsA) (rmL kv 0 0) (PcG G A μ [.ref o, va_rf x1, .ref x2, .int x3]) (QG G A (pV post)) 0 0 A) : ∀ (n : Nat) (v4 : Int32) (v6 : Int32) (v7 : Int32) (μ : Mm), wb_X5_putAddition_49 o kd GV post n v4 v6 v7 μ → J p l e (rmL (kv + 2) 0 0) s m args below meth c 8 G A (MQ below (QG G A (pV post)) args s 0 0 A) 0 0 49 [(0, .ref o), (4, .int v4), (6, .int v6), (7, .int v7)] [] μ := by
  intro n
  induction n with
  | zero => intro v4 v6 v7 μ hw; exact hw.elim
  | succ n ih =>
    intro v4 v6 v7 μ hw
    rw [wb_X5_putAddition_49] at hw
    refine j_iload X (pc' := 51) (i := 7) 3 rfl dX5_putAddition_49 rfl ?_
    refine j_bipush X (pc' := 53) (v := 8) (by decide) dX5_putAddition_51 rfl ?_
    refine j_icmp_ge X (pc' := 56) (tgt := 84) dX5_putAddition_53 rfl (by decide) (fun c33 => ?_) (fun c33 => ?_)
    · have hw1 := hw.1 c33
      exact j_vret X ⟨rfl, hw1⟩ (Nat.le_of_ble_eq_true rfl) (Nat.le_of_ble_eq_true rfl) dX5_putAddition_84
    · have hw2 := hw.2 c33
      refine j_aload_n X (pc' := 57) (kk := 0) (i := 0) 0 rfl rfl dX5_putAddition_56 rfl ?_
      obtain ⟨f34, g35, hm36, hv37, hw3⟩ := hw2
      refine j_getf X (pc' := 60) hm36 0 hv37 rfl fw_TX5 (by decide) wt_1_65 dX5_putAddition_57 rfl ?_
      refine j_iload X (pc' := 62) (i := 4) 1 rfl dX5_putAddition_60 rfl ?_
      refine j_iload X (pc' := 64) (i := 7) 3 rfl dX5_putAddition_62 rfl ?_
      refine j_iadd X (pc' := 65) dX5_putAddition_64 rfl ?_
      refine j_iload X (pc' := 67) (i := 6) 2 rfl dX5_putAddition_65 rfl ?_
      refine j_bipush X (pc' := 69) (v := 7) (by decide) dX5_putAddition_67 rfl ?_
      refine j_iload X (pc' := 71) (i := 7) 3 rfl dX5_putAddition_69 rfl ?_
      refine j_isub X (pc' := 72) dX5_putAddition_71 rfl ?_
      refine j_ishr X (pc' := 73) dX5_putAddition_72 rfl ?_
      refine j_iconst X (pc' := 74) (v := 1) (by decide) dX5_putAddition_73 rfl ?_
      refine j_iand X (pc' := 75) dX5_putAddition_74 rfl ?_
      obtain ⟨⟨f41, hm40⟩, hw4⟩ := hw3
      refine j_callVv (As := [.int (v4 + v7), .int ((v6 >>> (((7 : Int32) - v7) &&& 31)) &&& (1 : Int32))]) (rest := []) X (pc' := 78) (cells' := 0) (slots' := 0) (c_X2_replace l G A g35 (v4 + v7) ((v6 >>> (((7 : Int32) - v7) &&& 31)) &&& (1 : Int32)) μ _ hw4) (gk_X2_replace wt_3_33) hd_X2_replace (rmL_fit (k1 := 1) (k := kv + 2) (by omega) (by decide)) hm40 rfl rfl rfl (Nat.le_of_ble_eq_true rfl) dX5_putAddition_75 rfl ⟨Nat.le_of_ble_eq_true rfl, Nat.le_of_ble_eq_true rfl⟩ rfl rfl (fun μ39 hw5 => ?_)
      refine j_iinc X (pc' := 81) (i := 7) (v := v7 + 1) (loc' := [(7, .int (v7 + 1)), (0, .ref o), (4, .int v4), (6, .int v6)]) 3 rfl rfl dX5_putAddition_78 rfl (by decide) rfl ?_
      refine j_goto X (tgt := 49) dX5_putAddition_81 (by decide) ?_
      refine j_loc [1, 2, 3, 0] rfl ?_
      exact ih _ _ _ _ hw5
def wp_X5_putAddition (o : Nat) (kd : Nat → Nat) (GV : Nat → Option Nat → Nat → Int32 → Mm → (Mm → Prop) → Prop) (x1 : Option Nat) (x2 : Nat) (x3 : Int32) (μ : Mm) (post : Mm → Prop) : Prop := ∃ f1 g2, μ o = some (.inl (4, f1)) ∧ f1[0]? = some (.ref g2) ∧ (∃ f32, μ g2 = some (.inl (1, f32))) ∧ wp_X2_size g2 μ (fun r5 μ6 => (∃ f30, μ6 o = some (.inl (4, f30))) ∧ wp_X5_put o (0 : Int32) (8 : Int32) μ6 (fun μ8 => ∃ f9 g10, μ8 o = some (.inl (4, f9)) ∧ f9[0]? = some (.ref g10) ∧ (∃ f28, μ8 g10 = some (.inl (1, f28))) ∧ wp_X2_size g10 μ8 (fun r13 μ14 => (∃ f26, μ14 o = some (.inl (4, f26))) ∧ GV o x1 x2 (x3 + (1 : Int32)) μ14 (fun μ16 => ∃ f17 g18, μ16 o = some (.inl (4, f17)) ∧ f17[0]? = some (.ref g18) ∧ (∃ f24, μ16 g18 = some (.inl (1, f24))) ∧ wp_X2_size g18 μ16 (fun r21 μ22 => ∃ n, wb_X5_putAddition_49 o kd GV post n r5 (r21 - r13) (0 : Int32) μ22)))))
set_option maxHeartbeats 4000000 in
set_option maxRecDepth 100000 in
theorem c_X5_putAddition (l : Launch) (G : gG) (A : Nat → Prop) (kd : Nat → Nat) (hkd : G.2.2 = kd) (GV : Nat → Option Nat → Nat → Int32 → Mm → (Mm → Prop) → Prop) (kv : Nat) (hkv : 6 ≤ kv) (hGV : ∀ (o : Nat) (x1 : Option Nat) (x2 : Nat) (x3 : Int32) (μ : Mm) (post : Mm → Prop), GV o x1 x2 x3 μ post → Met l yX5_putValue (.code yX5_putValue cX5_putValue 6 none :: wsA) (rmL kv 0 0) (PcG G A μ [.ref o, va_rf x1, .ref x2, .int x3]) (QG G A (pV post)) 0 0 A) (o : Nat) (x1 : Option Nat) (x2 : Nat) (x3 : Int32) (μ : Mm) (post : Mm → Prop) (h : wp_X5_putAddition o kd GV x1 x2 x3 μ post) : Met l yX5_putAddition (.code yX5_putAddition cX5_putAddition 8 none :: wsA) (rmL (kv + 2) 0 0) (PcG G A μ [.ref o, va_rf x1, .ref x2, .int x3]) (QG G A (pV post)) 0 0 A := by
  refine met_J (loc := [(0, .ref o), (1, va_rf x1), (2, .ref x2), (3, .int x3)]) (by decide +kernel) (by cases x1 <;> exact Nat.le_of_ble_eq_true rfl) (by cases x1 <;> rfl) ?_
  intro p e s m args below meth c X hin
  have X : Cx p l s m args meth c cX5_putAddition 8 none RX5 G A := X
  have hw := h
  unfold wp_X5_putAddition at hw
  refine j_aload_n X (pc' := 1) (kk := 0) (i := 0) 0 rfl rfl dX5_putAddition_0 rfl ?_
  obtain ⟨f1, g2, hm3, hv4, hw1⟩ := hw
  refine j_getf X (pc' := 4) hm3 0 hv4 rfl fw_TX5 (by decide) wt_1_65 dX5_putAddition_1 rfl ?_
  obtain ⟨⟨f32, hm31⟩, hw2⟩ := hw1
  refine j_callVi (As := []) (rest := []) X (pc' := 7) (cells' := 0) (slots' := 0) (c_X2_size l G A g2 μ _ hw2) (gk_X2_size wt_3_32) hd_X2_size (rmL_fit (k1 := 0) (k := kv + 2) (by omega) (by decide)) hm31 rfl rfl rfl (Nat.le_of_ble_eq_true rfl) dX5_putAddition_4 rfl ⟨Nat.le_of_ble_eq_true rfl, Nat.le_of_ble_eq_true rfl⟩ rfl rfl (fun r5 μ6 hw3 => ?_)
  refine j_istore X (pc' := 9) (i := 4) (loc' := [(4, .int r5), (0, .ref o), (1, va_rf x1), (2, .ref x2), (3, .int x3)]) dX5_putAddition_7 rfl (by decide) rfl ?_
  refine j_aload_n X (pc' := 10) (kk := 0) (i := 0) 1 rfl rfl dX5_putAddition_9 rfl ?_
  refine j_iconst X (pc' := 11) (v := 0) (by decide) dX5_putAddition_10 rfl ?_
  refine j_bipush X (pc' := 13) (v := 8) (by decide) dX5_putAddition_11 rfl ?_
  obtain ⟨⟨f30, hm29⟩, hw4⟩ := hw3
  refine j_callVv (As := [.int (0 : Int32), .int (8 : Int32)]) (rest := []) X (pc' := 16) (cells' := 0) (slots' := 0) (c_X5_put l G A o (0 : Int32) (8 : Int32) μ6 _ hw4) (gk_X5_put wt_3_22) hd_X5_put (rmL_fit (k1 := 1) (k := kv + 2) (by omega) (by decide)) hm29 rfl rfl rfl (Nat.le_of_ble_eq_true rfl) dX5_putAddition_13 rfl ⟨Nat.le_of_ble_eq_true rfl, Nat.le_of_ble_eq_true rfl⟩ rfl rfl (fun μ8 hw5 => ?_)
  refine j_aload_n X (pc' := 17) (kk := 0) (i := 0) 1 rfl rfl dX5_putAddition_16 rfl ?_
  obtain ⟨f9, g10, hm11, hv12, hw6⟩ := hw5
  refine j_getf X (pc' := 20) hm11 0 hv12 rfl fw_TX5 (by decide) wt_1_65 dX5_putAddition_17 rfl ?_
  obtain ⟨⟨f28, hm27⟩, hw7⟩ := hw6
  refine j_callVi (As := []) (rest := []) X (pc' := 23) (cells' := 0) (slots' := 0) (c_X2_size l G A g10 μ8 _ hw7) (gk_X2_size wt_3_32) hd_X2_size (rmL_fit (k1 := 0) (k := kv + 2) (by omega) (by decide)) hm27 rfl rfl rfl (Nat.le_of_ble_eq_true rfl) dX5_putAddition_20 rfl ⟨Nat.le_of_ble_eq_true rfl, Nat.le_of_ble_eq_true rfl⟩ rfl rfl (fun r13 μ14 hw8 => ?_)
  refine j_istore X (pc' := 25) (i := 5) (loc' := [(5, .int r13), (4, .int r5), (0, .ref o), (1, va_rf x1), (2, .ref x2), (3, .int x3)]) dX5_putAddition_23 rfl (by decide) rfl ?_
  refine j_aload_n X (pc' := 26) (kk := 0) (i := 0) 2 rfl rfl dX5_putAddition_25 rfl ?_
  refine j_aload_nq X (pc' := 27) (kk := 1) (i := 1) (x := x1) 3 rfl rfl dX5_putAddition_26 rfl ?_
  refine j_aload_n X (pc' := 28) (kk := 2) (i := 2) 4 rfl rfl dX5_putAddition_27 rfl ?_
  refine j_iload_n X (pc' := 29) (kk := 3) (i := 3) 5 rfl rfl dX5_putAddition_28 rfl ?_
  refine j_iconst X (pc' := 30) (v := 1) (by decide) dX5_putAddition_29 rfl ?_
  refine j_iadd X (pc' := 31) dX5_putAddition_30 rfl ?_
  obtain ⟨⟨f26, hm25⟩, hw9⟩ := hw8
  refine j_callVv (As := [va_rf x1, .ref x2, .int (x3 + (1 : Int32))]) (rest := []) X (pc' := 34) (cells' := 0) (slots' := 0) (hGV o x1 x2 (x3 + (1 : Int32)) μ14 _ hw9) (gk_X5_putValue wt_3_0) hd_X5_putValue (rmL_fit (k1 := kv) (k := kv + 2) (by omega) (by decide)) hm25 rfl rfl rfl (Nat.le_of_ble_eq_true rfl) dX5_putAddition_31 rfl ⟨Nat.le_of_ble_eq_true rfl, Nat.le_of_ble_eq_true rfl⟩ rfl rfl (fun μ16 hw10 => ?_)
  refine j_aload_n X (pc' := 35) (kk := 0) (i := 0) 2 rfl rfl dX5_putAddition_34 rfl ?_
  obtain ⟨f17, g18, hm19, hv20, hw11⟩ := hw10
  refine j_getf X (pc' := 38) hm19 0 hv20 rfl fw_TX5 (by decide) wt_1_65 dX5_putAddition_35 rfl ?_
  obtain ⟨⟨f24, hm23⟩, hw12⟩ := hw11
  refine j_callVi (As := []) (rest := []) X (pc' := 41) (cells' := 0) (slots' := 0) (c_X2_size l G A g18 μ16 _ hw12) (gk_X2_size wt_3_32) hd_X2_size (rmL_fit (k1 := 0) (k := kv + 2) (by omega) (by decide)) hm23 rfl rfl rfl (Nat.le_of_ble_eq_true rfl) dX5_putAddition_38 rfl ⟨Nat.le_of_ble_eq_true rfl, Nat.le_of_ble_eq_true rfl⟩ rfl rfl (fun r21 μ22 hw13 => ?_)
  refine j_iload X (pc' := 43) (i := 5) 0 rfl dX5_putAddition_41 rfl ?_
  refine j_isub X (pc' := 44) dX5_putAddition_43 rfl ?_
  refine j_istore X (pc' := 46) (i := 6) (loc' := [(6, .int (r21 - r13)), (5, .int r13), (4, .int r5), (0, .ref o), (1, va_rf x1), (2, .ref x2), (3, .int x3)]) dX5_putAddition_44 rfl (by decide) rfl ?_
  refine j_iconst X (pc' := 47) (v := 0) (by decide) dX5_putAddition_46 rfl ?_
  refine j_istore X (pc' := 49) (i := 7) (loc' := [(7, .int ((0 : Int32))), (6, .int (r21 - r13)), (5, .int r13), (4, .int r5), (0, .ref o), (1, va_rf x1), (2, .ref x2), (3, .int x3)]) dX5_putAddition_47 rfl (by decide) rfl ?_
  obtain ⟨n0, hw14⟩ := hw13
  refine j_loc [4, 3, 1, 0] rfl ?_
  exact tb_X5_putAddition_49 X hkd kv hkv hGV n0 _ _ _ _ hw14
/-! BitNotation$Writer.putSequence(LBitNotation$Type;LBitNotation$Row;I)V -/
theorem dX5_putSequence_0 : decode cX5_putSequence 0 = .ok (.aload_n 0, 1) := by decide +kernel
theorem dX5_putSequence_1 : decode cX5_putSequence 1 = .ok (.aload_n 1, 1) := by decide +kernel
theorem dX5_putSequence_2 : decode cX5_putSequence 2 = .ok (.aload_n 2, 1) := by decide +kernel
theorem dX5_putSequence_3 : decode cX5_putSequence 3 = .ok (.invokevirtual 85, 3) := by decide +kernel
theorem dX5_putSequence_6 : decode cX5_putSequence 6 = .ok (.istore 4, 2) := by decide +kernel
theorem dX5_putSequence_8 : decode cX5_putSequence 8 = .ok (.aload_n 0, 1) := by decide +kernel
theorem dX5_putSequence_9 : decode cX5_putSequence 9 = .ok (.aload_n 2, 1) := by decide +kernel
theorem dX5_putSequence_10 : decode cX5_putSequence 10 = .ok (.iconst 0, 1) := by decide +kernel
theorem dX5_putSequence_11 : decode cX5_putSequence 11 = .ok (.aload_n 1, 1) := by decide +kernel
theorem dX5_putSequence_12 : decode cX5_putSequence 12 = .ok (.getfield 89, 3) := by decide +kernel
theorem dX5_putSequence_15 : decode cX5_putSequence 15 = .ok (.invokevirtual 92, 3) := by decide +kernel
theorem dX5_putSequence_18 : decode cX5_putSequence 18 = .ok (.invokevirtual 58, 3) := by decide +kernel
theorem dX5_putSequence_21 : decode cX5_putSequence 21 = .ok (.istore 5, 2) := by decide +kernel
theorem dX5_putSequence_23 : decode cX5_putSequence 23 = .ok (.aload_n 0, 1) := by decide +kernel
theorem dX5_putSequence_24 : decode cX5_putSequence 24 = .ok (.iload 5, 2) := by decide +kernel
theorem dX5_putSequence_26 : decode cX5_putSequence 26 = .ok (.ifCond .le 7, 3) := by decide +kernel
theorem dX5_putSequence_29 : decode cX5_putSequence 29 = .ok (.iconst 1, 1) := by decide +kernel
theorem dX5_putSequence_30 : decode cX5_putSequence 30 = .ok (.goto 4, 3) := by decide +kernel
theorem dX5_putSequence_33 : decode cX5_putSequence 33 = .ok (.iconst 0, 1) := by decide +kernel
theorem dX5_putSequence_34 : decode cX5_putSequence 34 = .ok (.iconst 1, 1) := by decide +kernel
theorem dX5_putSequence_35 : decode cX5_putSequence 35 = .ok (.invokevirtual 65, 3) := by decide +kernel
theorem dX5_putSequence_38 : decode cX5_putSequence 38 = .ok (.iconst 0, 1) := by decide +kernel
theorem dX5_putSequence_39 : decode cX5_putSequence 39 = .ok (.istore 6, 2) := by decide +kernel
theorem dX5_putSequence_41 : decode cX5_putSequence 41 = .ok (.iload 6, 2) := by decide +kernel
theorem dX5_putSequence_43 : decode cX5_putSequence 43 = .ok (.aload_n 1, 1) := by decide +kernel
theorem dX5_putSequence_44 : decode cX5_putSequence 44 = .ok (.getfield 72, 3) := by decide +kernel
theorem dX5_putSequence_47 : decode cX5_putSequence 47 = .ok (.invokevirtual 92, 3) := by decide +kernel
theorem dX5_putSequence_50 : decode cX5_putSequence 50 = .ok (.if_icmp .ge 30, 3) := by decide +kernel
theorem dX5_putSequence_53 : decode cX5_putSequence 53 = .ok (.aload_n 1, 1) := by decide +kernel
theorem dX5_putSequence_54 : decode cX5_putSequence 54 = .ok (.iload 6, 2) := by decide +kernel
theorem dX5_putSequence_56 : decode cX5_putSequence 56 = .ok (.invokevirtual 93, 3) := by decide +kernel
theorem dX5_putSequence_59 : decode cX5_putSequence 59 = .ok (.ifCond .eq 15, 3) := by decide +kernel
theorem dX5_putSequence_62 : decode cX5_putSequence 62 = .ok (.aload_n 0, 1) := by decide +kernel
theorem dX5_putSequence_63 : decode cX5_putSequence 63 = .ok (.iload 4, 2) := by decide +kernel
theorem dX5_putSequence_65 : decode cX5_putSequence 65 = .ok (.iload 6, 2) := by decide +kernel
theorem dX5_putSequence_67 : decode cX5_putSequence 67 = .ok (.ishr, 1) := by decide +kernel
theorem dX5_putSequence_68 : decode cX5_putSequence 68 = .ok (.iconst 1, 1) := by decide +kernel
theorem dX5_putSequence_69 : decode cX5_putSequence 69 = .ok (.iand, 1) := by decide +kernel
theorem dX5_putSequence_70 : decode cX5_putSequence 70 = .ok (.iconst 1, 1) := by decide +kernel
theorem dX5_putSequence_71 : decode cX5_putSequence 71 = .ok (.invokevirtual 65, 3) := by decide +kernel
theorem dX5_putSequence_74 : decode cX5_putSequence 74 = .ok (.iinc 6 1, 3) := by decide +kernel
theorem dX5_putSequence_77 : decode cX5_putSequence 77 = .ok (.goto (-36), 3) := by decide +kernel
theorem dX5_putSequence_80 : decode cX5_putSequence 80 = .ok (.iconst 0, 1) := by decide +kernel
theorem dX5_putSequence_81 : decode cX5_putSequence 81 = .ok (.istore 6, 2) := by decide +kernel
theorem dX5_putSequence_83 : decode cX5_putSequence 83 = .ok (.iload 6, 2) := by decide +kernel
theorem dX5_putSequence_85 : decode cX5_putSequence 85 = .ok (.aload_n 1, 1) := by decide +kernel
theorem dX5_putSequence_86 : decode cX5_putSequence 86 = .ok (.getfield 72, 3) := by decide +kernel
theorem dX5_putSequence_89 : decode cX5_putSequence 89 = .ok (.invokevirtual 92, 3) := by decide +kernel
theorem dX5_putSequence_92 : decode cX5_putSequence 92 = .ok (.if_icmp .ge 37, 3) := by decide +kernel
theorem dX5_putSequence_95 : decode cX5_putSequence 95 = .ok (.iload 4, 2) := by decide +kernel
theorem dX5_putSequence_97 : decode cX5_putSequence 97 = .ok (.iload 6, 2) := by decide +kernel
theorem dX5_putSequence_99 : decode cX5_putSequence 99 = .ok (.ishr, 1) := by decide +kernel
theorem dX5_putSequence_100 : decode cX5_putSequence 100 = .ok (.iconst 1, 1) := by decide +kernel
theorem dX5_putSequence_101 : decode cX5_putSequence 101 = .ok (.iand, 1) := by decide +kernel
theorem dX5_putSequence_102 : decode cX5_putSequence 102 = .ok (.iconst 1, 1) := by decide +kernel
theorem dX5_putSequence_103 : decode cX5_putSequence 103 = .ok (.if_icmp .ne 20, 3) := by decide +kernel
theorem dX5_putSequence_106 : decode cX5_putSequence 106 = .ok (.aload_n 0, 1) := by decide +kernel
theorem dX5_putSequence_107 : decode cX5_putSequence 107 = .ok (.aload_n 1, 1) := by decide +kernel
theorem dX5_putSequence_108 : decode cX5_putSequence 108 = .ok (.getfield 72, 3) := by decide +kernel
theorem dX5_putSequence_111 : decode cX5_putSequence 111 = .ok (.iload 6, 2) := by decide +kernel
theorem dX5_putSequence_113 : decode cX5_putSequence 113 = .ok (.invokevirtual 76, 3) := by decide +kernel
theorem dX5_putSequence_116 : decode cX5_putSequence 116 = .ok (.aload_n 2, 1) := by decide +kernel
theorem dX5_putSequence_117 : decode cX5_putSequence 117 = .ok (.iload_n 3, 1) := by decide +kernel
theorem dX5_putSequence_118 : decode cX5_putSequence 118 = .ok (.iconst 1, 1) := by decide +kernel
theorem dX5_putSequence_119 : decode cX5_putSequence 119 = .ok (.iadd, 1) := by decide +kernel
theorem dX5_putSequence_120 : decode cX5_putSequence 120 = .ok (.invokevirtual 30, 3) := by decide +kernel
theorem dX5_putSequence_123 : decode cX5_putSequence 123 = .ok (.iinc 6 1, 3) := by decide +kernel
theorem dX5_putSequence_126 : decode cX5_putSequence 126 = .ok (.goto (-43), 3) := by decide +kernel
theorem dX5_putSequence_129 : decode cX5_putSequence 129 = .ok (.iload 5, 2) := by decide +kernel
theorem dX5_putSequence_131 : decode cX5_putSequence 131 = .ok (.ifCond .le 12, 3) := by decide +kernel
theorem dX5_putSequence_134 : decode cX5_putSequence 134 = .ok (.aload_n 0, 1) := by decide +kernel
theorem dX5_putSequence_135 : decode cX5_putSequence 135 = .ok (.iload 5, 2) := by decide +kernel
theorem dX5_putSequence_137 : decode cX5_putSequence 137 = .ok (.iconst 1, 1) := by decide +kernel
theorem dX5_putSequence_138 : decode cX5_putSequence 138 = .ok (.isub, 1) := by decide +kernel
theorem dX5_putSequence_139 : decode cX5_putSequence 139 = .ok (.iconst 2, 1) := by decide +kernel
theorem dX5_putSequence_140 : decode cX5_putSequence 140 = .ok (.invokevirtual 65, 3) := by decide +kernel
theorem dX5_putSequence_143 : decode cX5_putSequence 143 = .ok (.iconst 0, 1) := by decide +kernel
theorem dX5_putSequence_144 : decode cX5_putSequence 144 = .ok (.istore 6, 2) := by decide +kernel
theorem dX5_putSequence_146 : decode cX5_putSequence 146 = .ok (.iload 6, 2) := by decide +kernel
theorem dX5_putSequence_148 : decode cX5_putSequence 148 = .ok (.iload 5, 2) := by decide +kernel
theorem dX5_putSequence_150 : decode cX5_putSequence 150 = .ok (.if_icmp .ge 24, 3) := by decide +kernel
theorem dX5_putSequence_153 : decode cX5_putSequence 153 = .ok (.aload_n 0, 1) := by decide +kernel
theorem dX5_putSequence_154 : decode cX5_putSequence 154 = .ok (.aload_n 1, 1) := by decide +kernel
theorem dX5_putSequence_155 : decode cX5_putSequence 155 = .ok (.getfield 89, 3) := by decide +kernel
theorem dX5_putSequence_158 : decode cX5_putSequence 158 = .ok (.iload 6, 2) := by decide +kernel
theorem dX5_putSequence_160 : decode cX5_putSequence 160 = .ok (.invokevirtual 76, 3) := by decide +kernel
theorem dX5_putSequence_163 : decode cX5_putSequence 163 = .ok (.aload_n 2, 1) := by decide +kernel
theorem dX5_putSequence_164 : decode cX5_putSequence 164 = .ok (.iload_n 3, 1) := by decide +kernel
theorem dX5_putSequence_165 : decode cX5_putSequence 165 = .ok (.invokevirtual 97, 3) := by decide +kernel
theorem dX5_putSequence_168 : decode cX5_putSequence 168 = .ok (.iinc 6 1, 3) := by decide +kernel
theorem dX5_putSequence_171 : decode cX5_putSequence 171 = .ok (.goto (-25), 3) := by decide +kernel
theorem dX5_putSequence_174 : decode cX5_putSequence 174 = .ok (.return_, 1) := by decide +kernel
def wb_X5_putSequence_146 (o : Nat) (kd : Nat → Nat) (GV : Nat → Option Nat → Nat → Int32 → Mm → (Mm → Prop) → Prop) (post : Mm → Prop)  : Nat → Nat → Nat → Int32 → Int32 → Int32 → Mm → Prop
  | 0 => fun _ _ _ _ _ _ => False
  | n + 1 => fun v1 v2 v3 v5 v6 μ => (v5 ≤ v6 → (post μ)) ∧ (¬ v5 ≤ v6 → (∃ f68 g69, μ v1 = some (.inl (2, f68)) ∧ f68[6]? = some (.ref g69) ∧ (∃ f79, μ g69 = some (.inl (3, f79))) ∧ wp_X4_at g69 v6 μ (fun r72 μ73 => (∃ f77, μ73 o = some (.inl (4, f77))) ∧ wp_X5_putAddition o kd GV r72 v2 v3 μ73 (fun μ75 => wb_X5_putSequence_146 o kd GV post n v1 v2 v3 v5 (v6 + 1) μ75))))
set_option maxHeartbeats 4000000 in
set_option maxRecDepth 100000 in
theorem tb_X5_putSequence_146 {p : Program} {l : Launch} {e : Env} {s : State} {m : MethodId} {args : Array Value} {below : List Frame} {meth : Method} {c : Code} {G : gG} {A : Nat → Prop} {o : Nat} {kd : Nat → Nat} {GV : Nat → Option Nat → Nat → Int32 → Mm → (Mm → Prop) → Prop} {post : Mm → Prop} (X : Cx p l s m args meth c cX5_putSequence 7 none RX5 G A) (hkd : G.2.2 = kd) (kv : Nat) (hkv : 6 ≤ kv) (hGV : ∀ (o : Nat) (x1 : Option Nat) (x2 : Nat) (x3 : Int32) (μ : Mm) (post : Mm → Prop), GV o x1 x2 x3 μ post → Met l yX5_putValue (.code yX5_putValue cX5_putValue 6 none :: wsA) (rmL kv 0 0) (PcG G A μ [.ref o, va_rf x1, .ref x2, .int x3]) (QG G A (pV post)) 0 0 A) : ∀ (n : Nat) (v1 : Nat) (v2 : Nat) (v3 : Int32) (v5 : Int32) (v6 : Int32) (μ : Mm), wb_X5_putSequence_146 o kd GV post n v1 v2 v3 v5 v6 μ → J p l e (rmL (kv + 3) 0 0) s m args below meth c 7 G A (MQ below (QG G A (pV post)) args s 0 0 A) 0 0 146 [(0, .ref o), (1, .ref v1), (2, .ref v2), (3, .int v3), (5, .int v5), (6, .int v6)] [] μ := by
  intro n
  induction n with
  | zero => intro v1 v2 v3 v5 v6 μ hw; exact hw.elim
  | succ n ih =>
    intro v1 v2 v3 v5 v6 μ hw
    rw [wb_X5_putSequence_146] at hw
    refine j_iload X (pc' := 148) (i := 6) 5 rfl dX5_putSequence_146 rfl ?_
    refine j_iload X (pc' := 150) (i := 5) 4 rfl dX5_putSequence_148 rfl ?_
    refine j_icmp_ge X (pc' := 153) (tgt := 174) dX5_putSequence_150 rfl (by decide) (fun c67 => ?_) (fun c67 => ?_)
    · have hw1 := hw.1 c67
      exact j_vret X ⟨rfl, hw1⟩ (Nat.le_of_ble_eq_true rfl) (Nat.le_of_ble_eq_true rfl) dX5_putSequence_174
    · have hw2 := hw.2 c67
      refine j_aload_n X (pc' := 154) (kk := 0) (i := 0) 0 rfl rfl dX5_putSequence_153 rfl ?_
      refine j_aload_n X (pc' := 155) (kk := 1) (i := 1) 1 rfl rfl dX5_putSequence_154 rfl ?_
      obtain ⟨f68, g69, hm70, hv71, hw3⟩ := hw2
      refine j_getfN X (pc' := 158) hm70 6 hv71 rfl fw_TX3 (by decide) (List.mem_of_getElem? (i := 13) rfl) dX5_putSequence_155 rfl ?_
      refine j_iload X (pc' := 160) (i := 6) 5 rfl dX5_putSequence_158 rfl ?_
      obtain ⟨⟨f79, hm78⟩, hw4⟩ := hw3
      refine j_callVq (As := [.int v6]) (rest := [.ref o]) X (pc' := 163) (cells' := 0) (slots' := 0) (c_X4_at l G A g69 v6 μ _ hw4) (gk_X4_at wt_3_27) hd_X4_at (rmL_fit (k1 := 0) (k := kv + 3) (by omega) (by decide)) hm78 rfl rfl rfl (Nat.le_of_ble_eq_true rfl) dX5_putSequence_160 rfl ⟨Nat.le_of_ble_eq_true rfl, Nat.le_of_ble_eq_true rfl⟩ rfl rfl (fun r72 μ73 hw5 => ?_)
      refine j_aload_n X (pc' := 164) (kk := 2) (i := 2) 2 rfl rfl dX5_putSequence_163 rfl ?_
      refine j_iload_n X (pc' := 165) (kk := 3) (i := 3) 3 rfl rfl dX5_putSequence_164 rfl ?_
      obtain ⟨⟨f77, hm76⟩, hw6⟩ := hw5
      refine j_callVv (As := [va_rf r72, .ref v2, .int v3]) (rest := []) X (pc' := 168) (cells' := 0) (slots' := 0) (c_X5_putAddition l G A kd hkd GV kv hkv hGV o r72 v2 v3 μ73 _ hw6) (gk_X5_putAddition wt_3_28) hd_X5_putAddition (rmL_fit (k1 := kv + 2) (k := kv + 3) (by omega) (by decide)) hm76 rfl rfl rfl (Nat.le_of_ble_eq_true rfl) dX5_putSequence_165 rfl ⟨Nat.le_of_ble_eq_true rfl, Nat.le_of_ble_eq_true rfl⟩ rfl rfl (fun μ75 hw7 => ?_)
      refine j_iinc X (pc' := 171) (i := 6) (v := v6 + 1) (loc' := [(6, .int (v6 + 1)), (0, .ref o), (1, .ref v1), (2, .ref v2), (3, .int v3), (5, .int v5)]) 5 rfl rfl dX5_putSequence_168 rfl (by decide) rfl ?_
      refine j_goto X (tgt := 146) dX5_putSequence_171 (by decide) ?_
      refine j_loc [1, 2, 3, 4, 5, 0] rfl ?_
      exact ih _ _ _ _ _ _ hw7
def wb_X5_putSequence_143 (o : Nat) (kd : Nat → Nat) (GV : Nat → Option Nat → Nat → Int32 → Mm → (Mm → Prop) → Prop) (post : Mm → Prop)  (v1 : Nat) (v2 : Nat) (v3 : Int32) (v5 : Int32) (μ : Mm) : Prop := ∃ n, wb_X5_putSequence_146 o kd GV post n v1 v2 v3 v5 (0 : Int32) μ
set_option maxHeartbeats 4000000 in
set_option maxRecDepth 100000 in
theorem tb_X5_putSequence_143 {p : Program} {l : Launch} {e : Env} {s : State} {m : MethodId} {args : Array Value} {below : List Frame} {meth : Method} {c : Code} {G : gG} {A : Nat → Prop} {o : Nat} {kd : Nat → Nat} {GV : Nat → Option Nat → Nat → Int32 → Mm → (Mm → Prop) → Prop} {post : Mm → Prop} (X : Cx p l s m args meth c cX5_putSequence 7 none RX5 G A) (hkd : G.2.2 = kd) (kv : Nat) (hkv : 6 ≤ kv) (hGV : ∀ (o : Nat) (x1 : Option Nat) (x2 : Nat) (x3 : Int32) (μ : Mm) (post : Mm → Prop), GV o x1 x2 x3 μ post → Met l yX5_putValue (.code yX5_putValue cX5_putValue 6 none :: wsA) (rmL kv 0 0) (PcG G A μ [.ref o, va_rf x1, .ref x2, .int x3]) (QG G A (pV post)) 0 0 A) : ∀ (v1 : Nat) (v2 : Nat) (v3 : Int32) (v5 : Int32) (μ : Mm), wb_X5_putSequence_143 o kd GV post v1 v2 v3 v5 μ → J p l e (rmL (kv + 3) 0 0) s m args below meth c 7 G A (MQ below (QG G A (pV post)) args s 0 0 A) 0 0 143 [(0, .ref o), (1, .ref v1), (2, .ref v2), (3, .int v3), (5, .int v5)] [] μ := by
  intro v1 v2 v3 v5 μ hw
  unfold wb_X5_putSequence_143 at hw
  refine j_iconst X (pc' := 144) (v := 0) (by decide) dX5_putSequence_143 rfl ?_
  refine j_istore X (pc' := 146) (i := 6) (loc' := [(6, .int ((0 : Int32))), (0, .ref o), (1, .ref v1), (2, .ref v2), (3, .int v3), (5, .int v5)]) dX5_putSequence_144 rfl (by decide) rfl ?_
  obtain ⟨n0, hw1⟩ := hw
  refine j_loc [1, 2, 3, 4, 5, 0] rfl ?_
  exact tb_X5_putSequence_146 X hkd kv hkv hGV n0 _ _ _ _ _ _ hw1
def wb_X5_putSequence_83 (o : Nat) (kd : Nat → Nat) (GV : Nat → Option Nat → Nat → Int32 → Mm → (Mm → Prop) → Prop) (post : Mm → Prop)  : Nat → Nat → Nat → Int32 → Int32 → Int32 → Int32 → Mm → Prop
  | 0 => fun _ _ _ _ _ _ _ => False
  | n + 1 => fun v1 v2 v3 v4 v5 v6 μ => ∃ f40 g41, μ v1 = some (.inl (2, f40)) ∧ f40[4]? = some (.ref g41) ∧ (∃ f66, μ g41 = some (.inl (3, f66))) ∧ wp_X4_size g41 μ (fun r44 μ45 => (r44 ≤ v6 → ((v5 ≤ 0 → (wb_X5_putSequence_143 o kd GV post v1 v2 v3 v5 μ45)) ∧ (¬ v5 ≤ 0 → ((∃ f51, μ45 o = some (.inl (4, f51))) ∧ wp_X5_put o (v5 - (1 : Int32)) (2 : Int32) μ45 (fun μ49 => wb_X5_putSequence_143 o kd GV post v1 v2 v3 v5 μ49))))) ∧ (¬ r44 ≤ v6 → ((¬ ((v4 >>> (v6 &&& 31)) &&& (1 : Int32)) = (1 : Int32) → (wb_X5_putSequence_83 o kd GV post n v1 v2 v3 v4 v5 (v6 + 1) μ45)) ∧ (((v4 >>> (v6 &&& 31)) &&& (1 : Int32)) = (1 : Int32) → (∃ f53 g54, μ45 v1 = some (.inl (2, f53)) ∧ f53[4]? = some (.ref g54) ∧ (∃ f64, μ45 g54 = some (.inl (3, f64))) ∧ wp_X4_at g54 v6 μ45 (fun r57 μ58 => (∃ f62, μ58 o = some (.inl (4, f62))) ∧ GV o r57 v2 (v3 + (1 : Int32)) μ58 (fun μ60 => wb_X5_putSequence_83 o kd GV post n v1 v2 v3 v4 v5 (v6 + 1) μ60)))))))
set_option maxHeartbeats 4000000 in
set_option maxRecDepth 100000 in
theorem tb_X5_putSequence_83 {p : Program} {l : Launch} {e : Env} {s : State} {m : MethodId} {args : Array Value} {below : List Frame} {meth : Method} {c : Code} {G : gG} {A : Nat → Prop} {o : Nat} {kd : Nat → Nat} {GV : Nat → Option Nat → Nat → Int32 → Mm → (Mm → Prop) → Prop} {post : Mm → Prop} (X : Cx p l s m args meth c cX5_putSequence 7 none RX5 G A) (hkd : G.2.2 = kd) (kv : Nat) (hkv : 6 ≤ kv) (hGV : ∀ (o : Nat) (x1 : Option Nat) (x2 : Nat) (x3 : Int32) (μ : Mm) (post : Mm → Prop), GV o x1 x2 x3 μ post → Met l yX5_putValue (.code yX5_putValue cX5_putValue 6 none :: wsA) (rmL kv 0 0) (PcG G A μ [.ref o, va_rf x1, .ref x2, .int x3]) (QG G A (pV post)) 0 0 A) : ∀ (n : Nat) (v1 : Nat) (v2 : Nat) (v3 : Int32) (v4 : Int32) (v5 : Int32) (v6 : Int32) (μ : Mm), wb_X5_putSequence_83 o kd GV post n v1 v2 v3 v4 v5 v6 μ → J p l e (rmL (kv + 3) 0 0) s m args below meth c 7 G A (MQ below (QG G A (pV post)) args s 0 0 A) 0 0 83 [(0, .ref o), (1, .ref v1), (2, .ref v2), (3, .int v3), (4, .int v4), (5, .int v5), (6, .int v6)] [] μ := by
  intro n
  induction n with
  | zero => intro v1 v2 v3 v4 v5 v6 μ hw; exact hw.elim
  | succ n ih =>
    intro v1 v2 v3 v4 v5 v6 μ hw
    rw [wb_X5_putSequence_83] at hw
    refine j_iload X (pc' := 85) (i := 6) 6 rfl dX5_putSequence_83 rfl ?_
    refine j_aload_n X (pc' := 86) (kk := 1) (i := 1) 1 rfl rfl dX5_putSequence_85 rfl ?_
    obtain ⟨f40, g41, hm42, hv43, hw1⟩ := hw
    refine j_getfN X (pc' := 89) hm42 4 hv43 rfl fw_TX3 (by decide) (List.mem_of_getElem? (i := 11) rfl) dX5_putSequence_86 rfl ?_
    obtain ⟨⟨f66, hm65⟩, hw2⟩ := hw1
    refine j_callVi (As := []) (rest := [.int v6]) X (pc' := 92) (cells' := 0) (slots' := 0) (c_X4_size l G A g41 μ _ hw2) (gk_X4_size wt_3_13) hd_X4_size (rmL_fit (k1 := 0) (k := kv + 3) (by omega) (by decide)) hm65 rfl rfl rfl (Nat.le_of_ble_eq_true rfl) dX5_putSequence_89 rfl ⟨Nat.le_of_ble_eq_true rfl, Nat.le_of_ble_eq_true rfl⟩ rfl rfl (fun r44 μ45 hw3 => ?_)
    refine j_icmp_ge X (pc' := 95) (tgt := 129) dX5_putSequence_92 rfl (by decide) (fun c46 => ?_) (fun c46 => ?_)
    · have hw4 := hw3.1 c46
      refine j_iload X (pc' := 131) (i := 5) 5 rfl dX5_putSequence_129 rfl ?_
      refine j_if_le X (pc' := 134) (tgt := 143) dX5_putSequence_131 rfl (by decide) (fun c47 => ?_) (fun c47 => ?_)
      · have hw5 := hw4.1 c47
        refine j_loc [0, 1, 2, 3, 5] rfl ?_
        exact tb_X5_putSequence_143 X hkd kv hkv hGV _ _ _ _ _ hw5
      · have hw6 := hw4.2 c47
        refine j_aload_n X (pc' := 135) (kk := 0) (i := 0) 0 rfl rfl dX5_putSequence_134 rfl ?_
        refine j_iload X (pc' := 137) (i := 5) 5 rfl dX5_putSequence_135 rfl ?_
        refine j_iconst X (pc' := 138) (v := 1) (by decide) dX5_putSequence_137 rfl ?_
        refine j_isub X (pc' := 139) dX5_putSequence_138 rfl ?_
        refine j_iconst X (pc' := 140) (v := 2) (by decide) dX5_putSequence_139 rfl ?_
        obtain ⟨⟨f51, hm50⟩, hw7⟩ := hw6
        refine j_callVv (As := [.int (v5 - (1 : Int32)), .int (2 : Int32)]) (rest := []) X (pc' := 143) (cells' := 0) (slots' := 0) (c_X5_put l G A o (v5 - (1 : Int32)) (2 : Int32) μ45 _ hw7) (gk_X5_put wt_3_22) hd_X5_put (rmL_fit (k1 := 1) (k := kv + 3) (by omega) (by decide)) hm50 rfl rfl rfl (Nat.le_of_ble_eq_true rfl) dX5_putSequence_140 rfl ⟨Nat.le_of_ble_eq_true rfl, Nat.le_of_ble_eq_true rfl⟩ rfl rfl (fun μ49 hw8 => ?_)
        refine j_loc [0, 1, 2, 3, 5] rfl ?_
        exact tb_X5_putSequence_143 X hkd kv hkv hGV _ _ _ _ _ hw8
    · have hw9 := hw3.2 c46
      refine j_iload X (pc' := 97) (i := 4) 4 rfl dX5_putSequence_95 rfl ?_
      refine j_iload X (pc' := 99) (i := 6) 6 rfl dX5_putSequence_97 rfl ?_
      refine j_ishr X (pc' := 100) dX5_putSequence_99 rfl ?_
      refine j_iconst X (pc' := 101) (v := 1) (by decide) dX5_putSequence_100 rfl ?_
      refine j_iand X (pc' := 102) dX5_putSequence_101 rfl ?_
      refine j_iconst X (pc' := 103) (v := 1) (by decide) dX5_putSequence_102 rfl ?_
      refine j_icmp_ne X (pc' := 106) (tgt := 123) dX5_putSequence_103 rfl (by decide) (fun c52 => ?_) (fun c52 => ?_)
      · have hw10 := hw9.1 c52
        refine j_iinc X (pc' := 126) (i := 6) (v := v6 + 1) (loc' := [(6, .int (v6 + 1)), (0, .ref o), (1, .ref v1), (2, .ref v2), (3, .int v3), (4, .int v4), (5, .int v5)]) 6 rfl rfl dX5_putSequence_123 rfl (by decide) rfl ?_
        refine j_goto X (tgt := 83) dX5_putSequence_126 (by decide) ?_
        refine j_loc [1, 2, 3, 4, 5, 6, 0] rfl ?_
        exact ih _ _ _ _ _ _ _ hw10
      · have hw11 := hw9.2 c52
        refine j_aload_n X (pc' := 107) (kk := 0) (i := 0) 0 rfl rfl dX5_putSequence_106 rfl ?_
        refine j_aload_n X (pc' := 108) (kk := 1) (i := 1) 1 rfl rfl dX5_putSequence_107 rfl ?_
        obtain ⟨f53, g54, hm55, hv56, hw12⟩ := hw11
        refine j_getfN X (pc' := 111) hm55 4 hv56 rfl fw_TX3 (by decide) (List.mem_of_getElem? (i := 11) rfl) dX5_putSequence_108 rfl ?_
        refine j_iload X (pc' := 113) (i := 6) 6 rfl dX5_putSequence_111 rfl ?_
        obtain ⟨⟨f64, hm63⟩, hw13⟩ := hw12
        refine j_callVq (As := [.int v6]) (rest := [.ref o]) X (pc' := 116) (cells' := 0) (slots' := 0) (c_X4_at l G A g54 v6 μ45 _ hw13) (gk_X4_at wt_3_27) hd_X4_at (rmL_fit (k1 := 0) (k := kv + 3) (by omega) (by decide)) hm63 rfl rfl rfl (Nat.le_of_ble_eq_true rfl) dX5_putSequence_113 rfl ⟨Nat.le_of_ble_eq_true rfl, Nat.le_of_ble_eq_true rfl⟩ rfl rfl (fun r57 μ58 hw14 => ?_)
        refine j_aload_n X (pc' := 117) (kk := 2) (i := 2) 2 rfl rfl dX5_putSequence_116 rfl ?_
        refine j_iload_n X (pc' := 118) (kk := 3) (i := 3) 3 rfl rfl dX5_putSequence_117 rfl ?_
        refine j_iconst X (pc' := 119) (v := 1) (by decide) dX5_putSequence_118 rfl ?_
        refine j_iadd X (pc' := 120) dX5_putSequence_119 rfl ?_
        obtain ⟨⟨f62, hm61⟩, hw15⟩ := hw14
        refine j_callVv (As := [va_rf r57, .ref v2, .int (v3 + (1 : Int32))]) (rest := []) X (pc' := 123) (cells' := 0) (slots' := 0) (hGV o r57 v2 (v3 + (1 : Int32)) μ58 _ hw15) (gk_X5_putValue wt_3_0) hd_X5_putValue (rmL_fit (k1 := kv) (k := kv + 3) (by omega) (by decide)) hm61 rfl rfl rfl (Nat.le_of_ble_eq_true rfl) dX5_putSequence_120 rfl ⟨Nat.le_of_ble_eq_true rfl, Nat.le_of_ble_eq_true rfl⟩ rfl rfl (fun μ60 hw16 => ?_)
        refine j_iinc X (pc' := 126) (i := 6) (v := v6 + 1) (loc' := [(6, .int (v6 + 1)), (0, .ref o), (1, .ref v1), (2, .ref v2), (3, .int v3), (4, .int v4), (5, .int v5)]) 6 rfl rfl dX5_putSequence_123 rfl (by decide) rfl ?_
        refine j_goto X (tgt := 83) dX5_putSequence_126 (by decide) ?_
        refine j_loc [1, 2, 3, 4, 5, 6, 0] rfl ?_
        exact ih _ _ _ _ _ _ _ hw16
def wb_X5_putSequence_41 (o : Nat) (kd : Nat → Nat) (GV : Nat → Option Nat → Nat → Int32 → Mm → (Mm → Prop) → Prop) (post : Mm → Prop)  : Nat → Nat → Nat → Int32 → Int32 → Int32 → Int32 → Mm → Prop
  | 0 => fun _ _ _ _ _ _ _ => False
  | n + 1 => fun v1 v2 v3 v4 v5 v6 μ => ∃ f22 g23, μ v1 = some (.inl (2, f22)) ∧ f22[4]? = some (.ref g23) ∧ (∃ f39, μ g23 = some (.inl (3, f39))) ∧ wp_X4_size g23 μ (fun r26 μ27 => (r26 ≤ v6 → (∃ n, wb_X5_putSequence_83 o kd GV post n v1 v2 v3 v4 v5 (0 : Int32) μ27)) ∧ (¬ r26 ≤ v6 → ((∃ f37, μ27 v1 = some (.inl (2, f37))) ∧ wp_X3_isOptional v1 v6 μ27 (fun r29 μ30 => (r29 = 0 → (wb_X5_putSequence_41 o kd GV post n v1 v2 v3 v4 v5 (v6 + 1) μ30)) ∧ (¬ r29 = 0 → ((∃ f35, μ30 o = some (.inl (4, f35))) ∧ wp_X5_put o ((v4 >>> (v6 &&& 31)) &&& (1 : Int32)) (1 : Int32) μ30 (fun μ33 => wb_X5_putSequence_41 o kd GV post n v1 v2 v3 v4 v5 (v6 + 1) μ33)))))))
set_option maxHeartbeats 4000000 in
set_option maxRecDepth 100000 in
theorem tb_X5_putSequence_41 {p : Program} {l : Launch} {e : Env} {s : State} {m : MethodId} {args : Array Value} {below : List Frame} {meth : Method} {c : Code} {G : gG} {A : Nat → Prop} {o : Nat} {kd : Nat → Nat} {GV : Nat → Option Nat → Nat → Int32 → Mm → (Mm → Prop) → Prop} {post : Mm → Prop} (X : Cx p l s m args meth c cX5_putSequence 7 none RX5 G A) (hkd : G.2.2 = kd) (kv : Nat) (hkv : 6 ≤ kv) (hGV : ∀ (o : Nat) (x1 : Option Nat) (x2 : Nat) (x3 : Int32) (μ : Mm) (post : Mm → Prop), GV o x1 x2 x3 μ post → Met l yX5_putValue (.code yX5_putValue cX5_putValue 6 none :: wsA) (rmL kv 0 0) (PcG G A μ [.ref o, va_rf x1, .ref x2, .int x3]) (QG G A (pV post)) 0 0 A) : ∀ (n : Nat) (v1 : Nat) (v2 : Nat) (v3 : Int32) (v4 : Int32) (v5 : Int32) (v6 : Int32) (μ : Mm), wb_X5_putSequence_41 o kd GV post n v1 v2 v3 v4 v5 v6 μ → J p l e (rmL (kv + 3) 0 0) s m args below meth c 7 G A (MQ below (QG G A (pV post)) args s 0 0 A) 0 0 41 [(0, .ref o), (1, .ref v1), (2, .ref v2), (3, .int v3), (4, .int v4), (5, .int v5), (6, .int v6)] [] μ := by
  intro n
  induction n with
  | zero => intro v1 v2 v3 v4 v5 v6 μ hw; exact hw.elim
  | succ n ih =>
    intro v1 v2 v3 v4 v5 v6 μ hw
    rw [wb_X5_putSequence_41] at hw
    refine j_iload X (pc' := 43) (i := 6) 6 rfl dX5_putSequence_41 rfl ?_
    refine j_aload_n X (pc' := 44) (kk := 1) (i := 1) 1 rfl rfl dX5_putSequence_43 rfl ?_
    obtain ⟨f22, g23, hm24, hv25, hw1⟩ := hw
    refine j_getfN X (pc' := 47) hm24 4 hv25 rfl fw_TX3 (by decide) (List.mem_of_getElem? (i := 11) rfl) dX5_putSequence_44 rfl ?_
    obtain ⟨⟨f39, hm38⟩, hw2⟩ := hw1
    refine j_callVi (As := []) (rest := [.int v6]) X (pc' := 50) (cells' := 0) (slots' := 0) (c_X4_size l G A g23 μ _ hw2) (gk_X4_size wt_3_13) hd_X4_size (rmL_fit (k1 := 0) (k := kv + 3) (by omega) (by decide)) hm38 rfl rfl rfl (Nat.le_of_ble_eq_true rfl) dX5_putSequence_47 rfl ⟨Nat.le_of_ble_eq_true rfl, Nat.le_of_ble_eq_true rfl⟩ rfl rfl (fun r26 μ27 hw3 => ?_)
    refine j_icmp_ge X (pc' := 53) (tgt := 80) dX5_putSequence_50 rfl (by decide) (fun c28 => ?_) (fun c28 => ?_)
    · have hw4 := hw3.1 c28
      refine j_iconst X (pc' := 81) (v := 0) (by decide) dX5_putSequence_80 rfl ?_
      refine j_istore X (pc' := 83) (i := 6) (loc' := [(6, .int ((0 : Int32))), (0, .ref o), (1, .ref v1), (2, .ref v2), (3, .int v3), (4, .int v4), (5, .int v5)]) dX5_putSequence_81 rfl (by decide) rfl ?_
      obtain ⟨n0, hw5⟩ := hw4
      refine j_loc [1, 2, 3, 4, 5, 6, 0] rfl ?_
      exact tb_X5_putSequence_83 X hkd kv hkv hGV n0 _ _ _ _ _ _ _ hw5
    · have hw6 := hw3.2 c28
      refine j_aload_n X (pc' := 54) (kk := 1) (i := 1) 1 rfl rfl dX5_putSequence_53 rfl ?_
      refine j_iload X (pc' := 56) (i := 6) 6 rfl dX5_putSequence_54 rfl ?_
      obtain ⟨⟨f37, hm36⟩, hw7⟩ := hw6
      refine j_callVi (As := [.int v6]) (rest := []) X (pc' := 59) (cells' := 0) (slots' := 0) (c_X3_isOptional l G A v1 v6 μ27 _ hw7) (gk_X3_isOptional wt_3_14) hd_X3_isOptional (rmL_fit (k1 := 0) (k := kv + 3) (by omega) (by decide)) hm36 rfl rfl rfl (Nat.le_of_ble_eq_true rfl) dX5_putSequence_56 rfl ⟨Nat.le_of_ble_eq_true rfl, Nat.le_of_ble_eq_true rfl⟩ rfl rfl (fun r29 μ30 hw8 => ?_)
      refine j_if_eq X (pc' := 62) (tgt := 74) dX5_putSequence_59 rfl (by decide) (fun c31 => ?_) (fun c31 => ?_)
      · have hw9 := hw8.1 c31
        refine j_iinc X (pc' := 77) (i := 6) (v := v6 + 1) (loc' := [(6, .int (v6 + 1)), (0, .ref o), (1, .ref v1), (2, .ref v2), (3, .int v3), (4, .int v4), (5, .int v5)]) 6 rfl rfl dX5_putSequence_74 rfl (by decide) rfl ?_
        refine j_goto X (tgt := 41) dX5_putSequence_77 (by decide) ?_
        refine j_loc [1, 2, 3, 4, 5, 6, 0] rfl ?_
        exact ih _ _ _ _ _ _ _ hw9
      · have hw10 := hw8.2 c31
        refine j_aload_n X (pc' := 63) (kk := 0) (i := 0) 0 rfl rfl dX5_putSequence_62 rfl ?_
        refine j_iload X (pc' := 65) (i := 4) 4 rfl dX5_putSequence_63 rfl ?_
        refine j_iload X (pc' := 67) (i := 6) 6 rfl dX5_putSequence_65 rfl ?_
        refine j_ishr X (pc' := 68) dX5_putSequence_67 rfl ?_
        refine j_iconst X (pc' := 69) (v := 1) (by decide) dX5_putSequence_68 rfl ?_
        refine j_iand X (pc' := 70) dX5_putSequence_69 rfl ?_
        refine j_iconst X (pc' := 71) (v := 1) (by decide) dX5_putSequence_70 rfl ?_
        obtain ⟨⟨f35, hm34⟩, hw11⟩ := hw10
        refine j_callVv (As := [.int ((v4 >>> (v6 &&& 31)) &&& (1 : Int32)), .int (1 : Int32)]) (rest := []) X (pc' := 74) (cells' := 0) (slots' := 0) (c_X5_put l G A o ((v4 >>> (v6 &&& 31)) &&& (1 : Int32)) (1 : Int32) μ30 _ hw11) (gk_X5_put wt_3_22) hd_X5_put (rmL_fit (k1 := 1) (k := kv + 3) (by omega) (by decide)) hm34 rfl rfl rfl (Nat.le_of_ble_eq_true rfl) dX5_putSequence_71 rfl ⟨Nat.le_of_ble_eq_true rfl, Nat.le_of_ble_eq_true rfl⟩ rfl rfl (fun μ33 hw12 => ?_)
        refine j_iinc X (pc' := 77) (i := 6) (v := v6 + 1) (loc' := [(6, .int (v6 + 1)), (0, .ref o), (1, .ref v1), (2, .ref v2), (3, .int v3), (4, .int v4), (5, .int v5)]) 6 rfl rfl dX5_putSequence_74 rfl (by decide) rfl ?_
        refine j_goto X (tgt := 41) dX5_putSequence_77 (by decide) ?_
        refine j_loc [1, 2, 3, 4, 5, 6, 0] rfl ?_
        exact ih _ _ _ _ _ _ _ hw12
def wb_X5_putSequence_34 (o : Nat) (kd : Nat → Nat) (GV : Nat → Option Nat → Nat → Int32 → Mm → (Mm → Prop) → Prop) (post : Mm → Prop)  (v1 : Nat) (v2 : Nat) (v3 : Int32) (v4 : Int32) (v5 : Int32) (s0 : Int32) (μ : Mm) : Prop := (∃ f21, μ o = some (.inl (4, f21))) ∧ wp_X5_put o s0 (1 : Int32) μ (fun μ19 => ∃ n, wb_X5_putSequence_41 o kd GV post n v1 v2 v3 v4 v5 (0 : Int32) μ19)
set_option maxHeartbeats 4000000 in
set_option maxRecDepth 100000 in
theorem tb_X5_putSequence_34 {p : Program} {l : Launch} {e : Env} {s : State} {m : MethodId} {args : Array Value} {below : List Frame} {meth : Method} {c : Code} {G : gG} {A : Nat → Prop} {o : Nat} {kd : Nat → Nat} {GV : Nat → Option Nat → Nat → Int32 → Mm → (Mm → Prop) → Prop} {post : Mm → Prop} (X : Cx p l s m args meth c cX5_putSequence 7 none RX5 G A) (hkd : G.2.2 = kd) (kv : Nat) (hkv : 6 ≤ kv) (hGV : ∀ (o : Nat) (x1 : Option Nat) (x2 : Nat) (x3 : Int32) (μ : Mm) (post : Mm → Prop), GV o x1 x2 x3 μ post → Met l yX5_putValue (.code yX5_putValue cX5_putValue 6 none :: wsA) (rmL kv 0 0) (PcG G A μ [.ref o, va_rf x1, .ref x2, .int x3]) (QG G A (pV post)) 0 0 A) : ∀ (v1 : Nat) (v2 : Nat) (v3 : Int32) (v4 : Int32) (v5 : Int32) (s0 : Int32) (μ : Mm), wb_X5_putSequence_34 o kd GV post v1 v2 v3 v4 v5 s0 μ → J p l e (rmL (kv + 3) 0 0) s m args below meth c 7 G A (MQ below (QG G A (pV post)) args s 0 0 A) 0 0 34 [(0, .ref o), (1, .ref v1), (2, .ref v2), (3, .int v3), (4, .int v4), (5, .int v5)] [.int s0, .ref o] μ := by
  intro v1 v2 v3 v4 v5 s0 μ hw
  unfold wb_X5_putSequence_34 at hw
  refine j_iconst X (pc' := 35) (v := 1) (by decide) dX5_putSequence_34 rfl ?_
  obtain ⟨⟨f21, hm20⟩, hw1⟩ := hw
  refine j_callVv (As := [.int s0, .int (1 : Int32)]) (rest := []) X (pc' := 38) (cells' := 0) (slots' := 0) (c_X5_put l G A o s0 (1 : Int32) μ _ hw1) (gk_X5_put wt_3_22) hd_X5_put (rmL_fit (k1 := 1) (k := kv + 3) (by omega) (by decide)) hm20 rfl rfl rfl (Nat.le_of_ble_eq_true rfl) dX5_putSequence_35 rfl ⟨Nat.le_of_ble_eq_true rfl, Nat.le_of_ble_eq_true rfl⟩ rfl rfl (fun μ19 hw2 => ?_)
  refine j_iconst X (pc' := 39) (v := 0) (by decide) dX5_putSequence_38 rfl ?_
  refine j_istore X (pc' := 41) (i := 6) (loc' := [(6, .int ((0 : Int32))), (0, .ref o), (1, .ref v1), (2, .ref v2), (3, .int v3), (4, .int v4), (5, .int v5)]) dX5_putSequence_39 rfl (by decide) rfl ?_
  obtain ⟨n0, hw3⟩ := hw2
  refine j_loc [1, 2, 3, 4, 5, 6, 0] rfl ?_
  exact tb_X5_putSequence_41 X hkd kv hkv hGV n0 _ _ _ _ _ _ _ hw3
def wp_X5_putSequence (o : Nat) (kd : Nat → Nat) (GV : Nat → Option Nat → Nat → Int32 → Mm → (Mm → Prop) → Prop) (x1 : Nat) (x2 : Nat) (x3 : Int32) (μ : Mm) (post : Mm → Prop) : Prop := (∃ f17, μ o = some (.inl (4, f17))) ∧ wp_X5_nextParts o x1 x2 μ (fun r1 μ2 => ∃ f3 g4, μ2 x1 = some (.inl (2, f3)) ∧ f3[6]? = some (.ref g4) ∧ (∃ f15, μ2 g4 = some (.inl (3, f15))) ∧ wp_X4_size g4 μ2 (fun r7 μ8 => (∃ f13, μ8 o = some (.inl (4, f13))) ∧ wp_X5_next o x2 (0 : Int32) r7 μ8 (fun r9 μ10 => (r9 ≤ 0 → (wb_X5_putSequence_34 o kd GV post x1 x2 x3 r1 r9 (0 : Int32) μ10)) ∧ (¬ r9 ≤ 0 → (wb_X5_putSequence_34 o kd GV post x1 x2 x3 r1 r9 (1 : Int32) μ10)))))
set_option maxHeartbeats 4000000 in
set_option maxRecDepth 100000 in
theorem c_X5_putSequence (l : Launch) (G : gG) (A : Nat → Prop) (kd : Nat → Nat) (hkd : G.2.2 = kd) (GV : Nat → Option Nat → Nat → Int32 → Mm → (Mm → Prop) → Prop) (kv : Nat) (hkv : 6 ≤ kv) (hGV : ∀ (o : Nat) (x1 : Option Nat) (x2 : Nat) (x3 : Int32) (μ : Mm) (post : Mm → Prop), GV o x1 x2 x3 μ post → Met l yX5_putValue (.code yX5_putValue cX5_putValue 6 none :: wsA) (rmL kv 0 0) (PcG G A μ [.ref o, va_rf x1, .ref x2, .int x3]) (QG G A (pV post)) 0 0 A) (o : Nat) (x1 : Nat) (x2 : Nat) (x3 : Int32) (μ : Mm) (post : Mm → Prop) (h : wp_X5_putSequence o kd GV x1 x2 x3 μ post) : Met l yX5_putSequence (.code yX5_putSequence cX5_putSequence 7 none :: wsA) (rmL (kv + 3) 0 0) (PcG G A μ [.ref o, .ref x1, .ref x2, .int x3]) (QG G A (pV post)) 0 0 A := by
  refine met_J (loc := [(0, .ref o), (1, .ref x1), (2, .ref x2), (3, .int x3)]) (by decide +kernel) (Nat.le_of_ble_eq_true rfl) rfl ?_
  intro p e s m args below meth c X hin
  have X : Cx p l s m args meth c cX5_putSequence 7 none RX5 G A := X
  have hw := h
  unfold wp_X5_putSequence at hw
  refine j_aload_n X (pc' := 1) (kk := 0) (i := 0) 0 rfl rfl dX5_putSequence_0 rfl ?_
  refine j_aload_n X (pc' := 2) (kk := 1) (i := 1) 1 rfl rfl dX5_putSequence_1 rfl ?_
  refine j_aload_n X (pc' := 3) (kk := 2) (i := 2) 2 rfl rfl dX5_putSequence_2 rfl ?_
  obtain ⟨⟨f17, hm16⟩, hw1⟩ := hw
  refine j_callVi (As := [.ref x1, .ref x2]) (rest := []) X (pc' := 6) (cells' := 0) (slots' := 0) (c_X5_nextParts l G A o x1 x2 μ _ hw1) (gk_X5_nextParts wt_3_9) hd_X5_nextParts (rmL_fit (k1 := 2) (k := kv + 3) (by omega) (by decide)) hm16 rfl rfl rfl (Nat.le_of_ble_eq_true rfl) dX5_putSequence_3 rfl ⟨Nat.le_of_ble_eq_true rfl, Nat.le_of_ble_eq_true rfl⟩ rfl rfl (fun r1 μ2 hw2 => ?_)
  refine j_istore X (pc' := 8) (i := 4) (loc' := [(4, .int r1), (0, .ref o), (1, .ref x1), (2, .ref x2), (3, .int x3)]) dX5_putSequence_6 rfl (by decide) rfl ?_
  refine j_aload_n X (pc' := 9) (kk := 0) (i := 0) 1 rfl rfl dX5_putSequence_8 rfl ?_
  refine j_aload_n X (pc' := 10) (kk := 2) (i := 2) 3 rfl rfl dX5_putSequence_9 rfl ?_
  refine j_iconst X (pc' := 11) (v := 0) (by decide) dX5_putSequence_10 rfl ?_
  refine j_aload_n X (pc' := 12) (kk := 1) (i := 1) 2 rfl rfl dX5_putSequence_11 rfl ?_
  obtain ⟨f3, g4, hm5, hv6, hw3⟩ := hw2
  refine j_getfN X (pc' := 15) hm5 6 hv6 rfl fw_TX3 (by decide) (List.mem_of_getElem? (i := 13) rfl) dX5_putSequence_12 rfl ?_
  obtain ⟨⟨f15, hm14⟩, hw4⟩ := hw3
  refine j_callVi (As := []) (rest := [.int ((0 : Int32)), .ref x2, .ref o]) X (pc' := 18) (cells' := 0) (slots' := 0) (c_X4_size l G A g4 μ2 _ hw4) (gk_X4_size wt_3_13) hd_X4_size (rmL_fit (k1 := 0) (k := kv + 3) (by omega) (by decide)) hm14 rfl rfl rfl (Nat.le_of_ble_eq_true rfl) dX5_putSequence_15 rfl ⟨Nat.le_of_ble_eq_true rfl, Nat.le_of_ble_eq_true rfl⟩ rfl rfl (fun r7 μ8 hw5 => ?_)
  obtain ⟨⟨f13, hm12⟩, hw6⟩ := hw5
  refine j_callVi (As := [.ref x2, .int (0 : Int32), .int r7]) (rest := []) X (pc' := 21) (cells' := 0) (slots' := 0) (c_X5_next l G A o x2 (0 : Int32) r7 μ8 _ hw6) (gk_X5_next wt_3_15) hd_X5_next (rmL_fit (k1 := 1) (k := kv + 3) (by omega) (by decide)) hm12 rfl rfl rfl (Nat.le_of_ble_eq_true rfl) dX5_putSequence_18 rfl ⟨Nat.le_of_ble_eq_true rfl, Nat.le_of_ble_eq_true rfl⟩ rfl rfl (fun r9 μ10 hw7 => ?_)
  refine j_istore X (pc' := 23) (i := 5) (loc' := [(5, .int r9), (4, .int r1), (0, .ref o), (1, .ref x1), (2, .ref x2), (3, .int x3)]) dX5_putSequence_21 rfl (by decide) rfl ?_
  refine j_aload_n X (pc' := 24) (kk := 0) (i := 0) 2 rfl rfl dX5_putSequence_23 rfl ?_
  refine j_iload X (pc' := 26) (i := 5) 0 rfl dX5_putSequence_24 rfl ?_
  refine j_if_le X (pc' := 29) (tgt := 33) dX5_putSequence_26 rfl (by decide) (fun c11 => ?_) (fun c11 => ?_)
  · have hw8 := hw7.1 c11
    refine j_iconst X (pc' := 34) (v := 0) (by decide) dX5_putSequence_33 rfl ?_
    refine j_loc [2, 3, 4, 5, 1, 0] rfl ?_
    exact tb_X5_putSequence_34 X hkd kv hkv hGV _ _ _ _ _ _ _ hw8
  · have hw9 := hw7.2 c11
    refine j_iconst X (pc' := 30) (v := 1) (by decide) dX5_putSequence_29 rfl ?_
    refine j_goto X (tgt := 34) dX5_putSequence_30 (by decide) ?_
    refine j_loc [2, 3, 4, 5, 1, 0] rfl ?_
    exact tb_X5_putSequence_34 X hkd kv hkv hGV _ _ _ _ _ _ _ hw9
/-! BitNotation$Writer.putValue(LBitNotation$Type;LBitNotation$Row;I)V -/
theorem dX5_putValue_0 : decode cX5_putValue 0 = .ok (.aload_n 0, 1) := by decide +kernel
theorem dX5_putValue_1 : decode cX5_putValue 1 = .ok (.getfield 24, 3) := by decide +kernel
theorem dX5_putValue_4 : decode cX5_putValue 4 = .ok (.iconst (-1), 1) := by decide +kernel
theorem dX5_putValue_5 : decode cX5_putValue 5 = .ok (.if_icmp .eq 4, 3) := by decide +kernel
theorem dX5_putValue_8 : decode cX5_putValue 8 = .ok (.return_, 1) := by decide +kernel
theorem dX5_putValue_9 : decode cX5_putValue 9 = .ok (.aload_n 1, 1) := by decide +kernel
theorem dX5_putValue_10 : decode cX5_putValue 10 = .ok (.ifnull 9, 3) := by decide +kernel
theorem dX5_putValue_13 : decode cX5_putValue 13 = .ok (.iload_n 3, 1) := by decide +kernel
theorem dX5_putValue_14 : decode cX5_putValue 14 = .ok (.bipush 16, 2) := by decide +kernel
theorem dX5_putValue_16 : decode cX5_putValue 16 = .ok (.if_icmp .lt 12, 3) := by decide +kernel
theorem dX5_putValue_19 : decode cX5_putValue 19 = .ok (.aload_n 0, 1) := by decide +kernel
theorem dX5_putValue_20 : decode cX5_putValue 20 = .ok (.aload_n 0, 1) := by decide +kernel
theorem dX5_putValue_21 : decode cX5_putValue 21 = .ok (.getfield 20, 3) := by decide +kernel
theorem dX5_putValue_24 : decode cX5_putValue 24 = .ok (.putfield 24, 3) := by decide +kernel
theorem dX5_putValue_27 : decode cX5_putValue 27 = .ok (.return_, 1) := by decide +kernel
theorem dX5_putValue_28 : decode cX5_putValue 28 = .ok (.aload_n 1, 1) := by decide +kernel
theorem dX5_putValue_29 : decode cX5_putValue 29 = .ok (.getfield 38, 3) := by decide +kernel
theorem dX5_putValue_32 : decode cX5_putValue 32 = .ok (.getstatic 44, 3) := by decide +kernel
theorem dX5_putValue_35 : decode cX5_putValue 35 = .ok (.if_acmp .ne 11, 3) := by decide +kernel
theorem dX5_putValue_38 : decode cX5_putValue 38 = .ok (.aload_n 0, 1) := by decide +kernel
theorem dX5_putValue_39 : decode cX5_putValue 39 = .ok (.aload_n 1, 1) := by decide +kernel
theorem dX5_putValue_40 : decode cX5_putValue 40 = .ok (.aload_n 2, 1) := by decide +kernel
theorem dX5_putValue_41 : decode cX5_putValue 41 = .ok (.iload_n 3, 1) := by decide +kernel
theorem dX5_putValue_42 : decode cX5_putValue 42 = .ok (.invokevirtual 49, 3) := by decide +kernel
theorem dX5_putValue_45 : decode cX5_putValue 45 = .ok (.return_, 1) := by decide +kernel
theorem dX5_putValue_46 : decode cX5_putValue 46 = .ok (.aload_n 0, 1) := by decide +kernel
theorem dX5_putValue_47 : decode cX5_putValue 47 = .ok (.aload_n 2, 1) := by decide +kernel
theorem dX5_putValue_48 : decode cX5_putValue 48 = .ok (.aload_n 1, 1) := by decide +kernel
theorem dX5_putValue_49 : decode cX5_putValue 49 = .ok (.getfield 52, 3) := by decide +kernel
theorem dX5_putValue_52 : decode cX5_putValue 52 = .ok (.aload_n 1, 1) := by decide +kernel
theorem dX5_putValue_53 : decode cX5_putValue 53 = .ok (.getfield 55, 3) := by decide +kernel
theorem dX5_putValue_56 : decode cX5_putValue 56 = .ok (.invokevirtual 58, 3) := by decide +kernel
theorem dX5_putValue_59 : decode cX5_putValue 59 = .ok (.istore 4, 2) := by decide +kernel
theorem dX5_putValue_61 : decode cX5_putValue 61 = .ok (.aload_n 0, 1) := by decide +kernel
theorem dX5_putValue_62 : decode cX5_putValue 62 = .ok (.iload 4, 2) := by decide +kernel
theorem dX5_putValue_64 : decode cX5_putValue 64 = .ok (.aload_n 1, 1) := by decide +kernel
theorem dX5_putValue_65 : decode cX5_putValue 65 = .ok (.getfield 52, 3) := by decide +kernel
theorem dX5_putValue_68 : decode cX5_putValue 68 = .ok (.isub, 1) := by decide +kernel
theorem dX5_putValue_69 : decode cX5_putValue 69 = .ok (.aload_n 1, 1) := by decide +kernel
theorem dX5_putValue_70 : decode cX5_putValue 70 = .ok (.getfield 62, 3) := by decide +kernel
theorem dX5_putValue_73 : decode cX5_putValue 73 = .ok (.invokevirtual 65, 3) := by decide +kernel
theorem dX5_putValue_76 : decode cX5_putValue 76 = .ok (.aload_n 1, 1) := by decide +kernel
theorem dX5_putValue_77 : decode cX5_putValue 77 = .ok (.getfield 38, 3) := by decide +kernel
theorem dX5_putValue_80 : decode cX5_putValue 80 = .ok (.getstatic 69, 3) := by decide +kernel
theorem dX5_putValue_83 : decode cX5_putValue 83 = .ok (.if_acmp .ne 46, 3) := by decide +kernel
theorem dX5_putValue_86 : decode cX5_putValue 86 = .ok (.iconst 0, 1) := by decide +kernel
theorem dX5_putValue_87 : decode cX5_putValue 87 = .ok (.istore 5, 2) := by decide +kernel
theorem dX5_putValue_89 : decode cX5_putValue 89 = .ok (.iload 5, 2) := by decide +kernel
theorem dX5_putValue_91 : decode cX5_putValue 91 = .ok (.iload 4, 2) := by decide +kernel
theorem dX5_putValue_93 : decode cX5_putValue 93 = .ok (.if_icmp .ge 33, 3) := by decide +kernel
theorem dX5_putValue_96 : decode cX5_putValue 96 = .ok (.aload_n 0, 1) := by decide +kernel
theorem dX5_putValue_97 : decode cX5_putValue 97 = .ok (.getfield 24, 3) := by decide +kernel
theorem dX5_putValue_100 : decode cX5_putValue 100 = .ok (.iconst (-1), 1) := by decide +kernel
theorem dX5_putValue_101 : decode cX5_putValue 101 = .ok (.if_icmp .ne 25, 3) := by decide +kernel
theorem dX5_putValue_104 : decode cX5_putValue 104 = .ok (.aload_n 0, 1) := by decide +kernel
theorem dX5_putValue_105 : decode cX5_putValue 105 = .ok (.aload_n 1, 1) := by decide +kernel
theorem dX5_putValue_106 : decode cX5_putValue 106 = .ok (.getfield 72, 3) := by decide +kernel
theorem dX5_putValue_109 : decode cX5_putValue 109 = .ok (.iconst 0, 1) := by decide +kernel
theorem dX5_putValue_110 : decode cX5_putValue 110 = .ok (.invokevirtual 76, 3) := by decide +kernel
theorem dX5_putValue_113 : decode cX5_putValue 113 = .ok (.aload_n 2, 1) := by decide +kernel
theorem dX5_putValue_114 : decode cX5_putValue 114 = .ok (.iload_n 3, 1) := by decide +kernel
theorem dX5_putValue_115 : decode cX5_putValue 115 = .ok (.iconst 1, 1) := by decide +kernel
theorem dX5_putValue_116 : decode cX5_putValue 116 = .ok (.iadd, 1) := by decide +kernel
theorem dX5_putValue_117 : decode cX5_putValue 117 = .ok (.invokevirtual 30, 3) := by decide +kernel
theorem dX5_putValue_120 : decode cX5_putValue 120 = .ok (.iinc 5 1, 3) := by decide +kernel
theorem dX5_putValue_123 : decode cX5_putValue 123 = .ok (.goto (-34), 3) := by decide +kernel
theorem dX5_putValue_126 : decode cX5_putValue 126 = .ok (.goto 30, 3) := by decide +kernel
theorem dX5_putValue_129 : decode cX5_putValue 129 = .ok (.aload_n 1, 1) := by decide +kernel
theorem dX5_putValue_130 : decode cX5_putValue 130 = .ok (.getfield 38, 3) := by decide +kernel
theorem dX5_putValue_133 : decode cX5_putValue 133 = .ok (.getstatic 82, 3) := by decide +kernel
theorem dX5_putValue_136 : decode cX5_putValue 136 = .ok (.if_acmp .ne 20, 3) := by decide +kernel
theorem dX5_putValue_139 : decode cX5_putValue 139 = .ok (.aload_n 0, 1) := by decide +kernel
theorem dX5_putValue_140 : decode cX5_putValue 140 = .ok (.aload_n 1, 1) := by decide +kernel
theorem dX5_putValue_141 : decode cX5_putValue 141 = .ok (.getfield 72, 3) := by decide +kernel
theorem dX5_putValue_144 : decode cX5_putValue 144 = .ok (.iload 4, 2) := by decide +kernel
theorem dX5_putValue_146 : decode cX5_putValue 146 = .ok (.invokevirtual 76, 3) := by decide +kernel
theorem dX5_putValue_149 : decode cX5_putValue 149 = .ok (.aload_n 2, 1) := by decide +kernel
theorem dX5_putValue_150 : decode cX5_putValue 150 = .ok (.iload_n 3, 1) := by decide +kernel
theorem dX5_putValue_151 : decode cX5_putValue 151 = .ok (.iconst 1, 1) := by decide +kernel
theorem dX5_putValue_152 : decode cX5_putValue 152 = .ok (.iadd, 1) := by decide +kernel
theorem dX5_putValue_153 : decode cX5_putValue 153 = .ok (.invokevirtual 30, 3) := by decide +kernel
theorem dX5_putValue_156 : decode cX5_putValue 156 = .ok (.return_, 1) := by decide +kernel
def wb_X5_putValue_89 (o : Nat) (kd : Nat → Nat) (GV : Nat → Option Nat → Nat → Int32 → Mm → (Mm → Prop) → Prop) (post : Mm → Prop)  : Nat → Nat → Nat → Int32 → Int32 → Int32 → Mm → Prop
  | 0 => fun _ _ _ _ _ _ => False
  | n + 1 => fun v1 v2 v3 v4 v5 μ => (v4 ≤ v5 → (post μ)) ∧ (¬ v4 ≤ v5 → (∃ f74 g75, μ o = some (.inl (4, f74)) ∧ f74[2]? = some (.int g75) ∧ (¬ g75 = (-1 : Int32) → (post μ)) ∧ (g75 = (-1 : Int32) → (∃ f79 g80, μ v1 = some (.inl (2, f79)) ∧ f79[4]? = some (.ref g80) ∧ (∃ f90, μ g80 = some (.inl (3, f90))) ∧ wp_X4_at g80 (0 : Int32) μ (fun r83 μ84 => (∃ f88, μ84 o = some (.inl (4, f88))) ∧ GV o r83 v2 (v3 + (1 : Int32)) μ84 (fun μ86 => wb_X5_putValue_89 o kd GV post n v1 v2 v3 v4 (v5 + 1) μ86))))))
set_option maxHeartbeats 4000000 in
set_option maxRecDepth 100000 in
theorem tb_X5_putValue_89 {p : Program} {l : Launch} {e : Env} {s : State} {m : MethodId} {args : Array Value} {below : List Frame} {meth : Method} {c : Code} {G : gG} {A : Nat → Prop} {o : Nat} {kd : Nat → Nat} {GV : Nat → Option Nat → Nat → Int32 → Mm → (Mm → Prop) → Prop} {post : Mm → Prop} (X : Cx p l s m args meth c cX5_putValue 6 none RX5 G A) (hkd : G.2.2 = kd) (kv : Nat) (hkv : 6 ≤ kv) (hGV : ∀ (o : Nat) (x1 : Option Nat) (x2 : Nat) (x3 : Int32) (μ : Mm) (post : Mm → Prop), GV o x1 x2 x3 μ post → Met l yX5_putValue (.code yX5_putValue cX5_putValue 6 none :: wsA) (rmL kv 0 0) (PcG G A μ [.ref o, va_rf x1, .ref x2, .int x3]) (QG G A (pV post)) 0 0 A) : ∀ (n : Nat) (v1 : Nat) (v2 : Nat) (v3 : Int32) (v4 : Int32) (v5 : Int32) (μ : Mm), wb_X5_putValue_89 o kd GV post n v1 v2 v3 v4 v5 μ → J p l e (rmL (kv + 4) 0 0) s m args below meth c 6 G A (MQ below (QG G A (pV post)) args s 0 0 A) 0 0 89 [(0, .ref o), (1, .ref v1), (2, .ref v2), (3, .int v3), (4, .int v4), (5, .int v5)] [] μ := by
  intro n
  induction n with
  | zero => intro v1 v2 v3 v4 v5 μ hw; exact hw.elim
  | succ n ih =>
    intro v1 v2 v3 v4 v5 μ hw
    rw [wb_X5_putValue_89] at hw
    refine j_iload X (pc' := 91) (i := 5) 5 rfl dX5_putValue_89 rfl ?_
    refine j_iload X (pc' := 93) (i := 4) 4 rfl dX5_putValue_91 rfl ?_
    refine j_icmp_ge X (pc' := 96) (tgt := 126) dX5_putValue_93 rfl (by decide) (fun c73 => ?_) (fun c73 => ?_)
    · have hw1 := hw.1 c73
      refine j_goto X (tgt := 156) dX5_putValue_126 (by decide) ?_
      exact j_vret X ⟨rfl, hw1⟩ (Nat.le_of_ble_eq_true rfl) (Nat.le_of_ble_eq_true rfl) dX5_putValue_156
    · have hw2 := hw.2 c73
      refine j_aload_n X (pc' := 97) (kk := 0) (i := 0) 0 rfl rfl dX5_putValue_96 rfl ?_
      obtain ⟨f74, g75, hm76, hv77, hw3⟩ := hw2
      refine j_getf X (pc' := 100) hm76 2 hv77 rfl fw_TX5 (by decide) wt_1_68 dX5_putValue_97 rfl ?_
      refine j_iconst X (pc' := 101) (v := (-1)) (by decide) dX5_putValue_100 rfl ?_
      refine j_icmp_ne X (pc' := 104) (tgt := 126) dX5_putValue_101 rfl (by decide) (fun c78 => ?_) (fun c78 => ?_)
      · have hw4 := hw3.1 c78
        refine j_goto X (tgt := 156) dX5_putValue_126 (by decide) ?_
        exact j_vret X ⟨rfl, hw4⟩ (Nat.le_of_ble_eq_true rfl) (Nat.le_of_ble_eq_true rfl) dX5_putValue_156
      · have hw5 := hw3.2 c78
        refine j_aload_n X (pc' := 105) (kk := 0) (i := 0) 0 rfl rfl dX5_putValue_104 rfl ?_
        refine j_aload_n X (pc' := 106) (kk := 1) (i := 1) 1 rfl rfl dX5_putValue_105 rfl ?_
        obtain ⟨f79, g80, hm81, hv82, hw6⟩ := hw5
        refine j_getfN X (pc' := 109) hm81 4 hv82 rfl fw_TX3 (by decide) (List.mem_of_getElem? (i := 11) rfl) dX5_putValue_106 rfl ?_
        refine j_iconst X (pc' := 110) (v := 0) (by decide) dX5_putValue_109 rfl ?_
        obtain ⟨⟨f90, hm89⟩, hw7⟩ := hw6
        refine j_callVq (As := [.int (0 : Int32)]) (rest := [.ref o]) X (pc' := 113) (cells' := 0) (slots' := 0) (c_X4_at l G A g80 (0 : Int32) μ _ hw7) (gk_X4_at wt_3_27) hd_X4_at (rmL_fit (k1 := 0) (k := kv + 4) (by omega) (by decide)) hm89 rfl rfl rfl (Nat.le_of_ble_eq_true rfl) dX5_putValue_110 rfl ⟨Nat.le_of_ble_eq_true rfl, Nat.le_of_ble_eq_true rfl⟩ rfl rfl (fun r83 μ84 hw8 => ?_)
        refine j_aload_n X (pc' := 114) (kk := 2) (i := 2) 2 rfl rfl dX5_putValue_113 rfl ?_
        refine j_iload_n X (pc' := 115) (kk := 3) (i := 3) 3 rfl rfl dX5_putValue_114 rfl ?_
        refine j_iconst X (pc' := 116) (v := 1) (by decide) dX5_putValue_115 rfl ?_
        refine j_iadd X (pc' := 117) dX5_putValue_116 rfl ?_
        obtain ⟨⟨f88, hm87⟩, hw9⟩ := hw8
        refine j_callVv (As := [va_rf r83, .ref v2, .int (v3 + (1 : Int32))]) (rest := []) X (pc' := 120) (cells' := 0) (slots' := 0) (hGV o r83 v2 (v3 + (1 : Int32)) μ84 _ hw9) (gk_X5_putValue wt_3_0) hd_X5_putValue (rmL_fit (k1 := kv) (k := kv + 4) (by omega) (by decide)) hm87 rfl rfl rfl (Nat.le_of_ble_eq_true rfl) dX5_putValue_117 rfl ⟨Nat.le_of_ble_eq_true rfl, Nat.le_of_ble_eq_true rfl⟩ rfl rfl (fun μ86 hw10 => ?_)
        refine j_iinc X (pc' := 123) (i := 5) (v := v5 + 1) (loc' := [(5, .int (v5 + 1)), (0, .ref o), (1, .ref v1), (2, .ref v2), (3, .int v3), (4, .int v4)]) 5 rfl rfl dX5_putValue_120 rfl (by decide) rfl ?_
        refine j_goto X (tgt := 89) dX5_putValue_123 (by decide) ?_
        refine j_loc [1, 2, 3, 4, 5, 0] rfl ?_
        exact ih _ _ _ _ _ _ hw10
def wb_X5_putValue_19 (o : Nat) (kd : Nat → Nat) (GV : Nat → Option Nat → Nat → Int32 → Mm → (Mm → Prop) → Prop) (post : Mm → Prop)   (μ : Mm) : Prop := ∃ f64 g65, μ o = some (.inl (4, f64)) ∧ f64[1]? = some (.int g65) ∧ ∃ f68, μ o = some (.inl (4, f68)) ∧ 2 < f68.length ∧ ∀ μ71, μ71 = ups μ o (.inl (4, f68.set 2 (.int g65))) → post μ71
set_option maxHeartbeats 4000000 in
set_option maxRecDepth 100000 in
theorem tb_X5_putValue_19 {p : Program} {l : Launch} {e : Env} {s : State} {m : MethodId} {args : Array Value} {below : List Frame} {meth : Method} {c : Code} {G : gG} {A : Nat → Prop} {o : Nat} {kd : Nat → Nat} {GV : Nat → Option Nat → Nat → Int32 → Mm → (Mm → Prop) → Prop} {post : Mm → Prop} (X : Cx p l s m args meth c cX5_putValue 6 none RX5 G A) (hkd : G.2.2 = kd) (kv : Nat) (hkv : 6 ≤ kv) (hGV : ∀ (o : Nat) (x1 : Option Nat) (x2 : Nat) (x3 : Int32) (μ : Mm) (post : Mm → Prop), GV o x1 x2 x3 μ post → Met l yX5_putValue (.code yX5_putValue cX5_putValue 6 none :: wsA) (rmL kv 0 0) (PcG G A μ [.ref o, va_rf x1, .ref x2, .int x3]) (QG G A (pV post)) 0 0 A) : ∀ (μ : Mm), wb_X5_putValue_19 o kd GV post μ → J p l e (rmL (kv + 4) 0 0) s m args below meth c 6 G A (MQ below (QG G A (pV post)) args s 0 0 A) 0 0 19 [(0, .ref o)] [] μ := by
  intro μ hw
  unfold wb_X5_putValue_19 at hw
  refine j_aload_n X (pc' := 20) (kk := 0) (i := 0) 0 rfl rfl dX5_putValue_19 rfl ?_
  refine j_aload_n X (pc' := 21) (kk := 0) (i := 0) 0 rfl rfl dX5_putValue_20 rfl ?_
  obtain ⟨f64, g65, hm66, hv67, hw1⟩ := hw
  refine j_getf X (pc' := 24) hm66 1 hv67 rfl fw_TX5 (by decide) wt_1_67 dX5_putValue_21 rfl ?_
  obtain ⟨f68, hm69, hl70, hw2⟩ := hw1
  refine jp_putf X (pc' := 27) (ty := .int) hm69 2 hl70 rfl fw_TX5 tyX5_ok nmX5 (by decide) rfl wt_1_68 (by decide +kernel) rfl rfl dX5_putValue_24 rfl (fun μ71 e72 => ?_)
  have hw3 := hw2 μ71 e72
  exact j_vret X ⟨rfl, hw3⟩ (Nat.le_of_ble_eq_true rfl) (Nat.le_of_ble_eq_true rfl) dX5_putValue_27
def wp_X5_putValue (o : Nat) (kd : Nat → Nat) (GV : Nat → Option Nat → Nat → Int32 → Mm → (Mm → Prop) → Prop) (x1 : Option Nat) (x2 : Nat) (x3 : Int32) (μ : Mm) (post : Mm → Prop) : Prop := ∃ f1 g2, μ o = some (.inl (4, f1)) ∧ f1[2]? = some (.int g2) ∧ (g2 = (-1 : Int32) → ((x1 = none → (wb_X5_putValue_19 o kd GV post μ)) ∧ (∀ a7, x1 = some a7 → ((x3 < (16 : Int32) → (∃ f9 g10, μ a7 = some (.inl (2, f9)) ∧ f9[0]? = some (.ref g10) ∧ (¬ some g10 = some (kd 2) → (∃ f14 g15, μ a7 = some (.inl (2, f14)) ∧ f14[1]? = some (.int g15) ∧ ∃ f18 g19, μ a7 = some (.inl (2, f18)) ∧ f18[2]? = some (.int g19) ∧ (∃ f59, μ o = some (.inl (4, f59))) ∧ wp_X5_next o x2 g15 g19 μ (fun r22 μ23 => ∃ f24 g25, μ23 a7 = some (.inl (2, f24)) ∧ f24[1]? = some (.int g25) ∧ ∃ f28 g29, μ23 a7 = some (.inl (2, f28)) ∧ f28[3]? = some (.int g29) ∧ (∃ f57, μ23 o = some (.inl (4, f57))) ∧ wp_X5_put o (r22 - g25) g29 μ23 (fun μ33 => ∃ f34 g35, μ33 a7 = some (.inl (2, f34)) ∧ f34[0]? = some (.ref g35) ∧ (¬ some g35 = some (kd 1) → (∃ f39 g40, μ33 a7 = some (.inl (2, f39)) ∧ f39[0]? = some (.ref g40) ∧ (¬ some g40 = some (kd 3) → (post μ33)) ∧ (some g40 = some (kd 3) → (∃ f44 g45, μ33 a7 = some (.inl (2, f44)) ∧ f44[4]? = some (.ref g45) ∧ (∃ f55, μ33 g45 = some (.inl (3, f55))) ∧ wp_X4_at g45 r22 μ33 (fun r48 μ49 => (∃ f53, μ49 o = some (.inl (4, f53))) ∧ GV o r48 x2 (x3 + (1 : Int32)) μ49 (fun μ51 => post μ51)))))) ∧ (some g35 = some (kd 1) → (∃ n, wb_X5_putValue_89 o kd GV post n a7 x2 x3 r22 (0 : Int32) μ33)))))) ∧ (some g10 = some (kd 2) → ((∃ f63, μ o = some (.inl (4, f63))) ∧ wp_X5_putSequence o kd GV a7 x2 x3 μ (fun μ61 => post μ61))))) ∧ (¬ x3 < (16 : Int32) → (wb_X5_putValue_19 o kd GV post μ)))))) ∧ (¬ g2 = (-1 : Int32) → (post μ))
set_option maxHeartbeats 4000000 in
set_option maxRecDepth 100000 in
theorem c_X5_putValue (l : Launch) (G : gG) (A : Nat → Prop) (kd : Nat → Nat) (hkd : G.2.2 = kd) (GV : Nat → Option Nat → Nat → Int32 → Mm → (Mm → Prop) → Prop) (kv : Nat) (hkv : 6 ≤ kv) (hGV : ∀ (o : Nat) (x1 : Option Nat) (x2 : Nat) (x3 : Int32) (μ : Mm) (post : Mm → Prop), GV o x1 x2 x3 μ post → Met l yX5_putValue (.code yX5_putValue cX5_putValue 6 none :: wsA) (rmL kv 0 0) (PcG G A μ [.ref o, va_rf x1, .ref x2, .int x3]) (QG G A (pV post)) 0 0 A) (o : Nat) (x1 : Option Nat) (x2 : Nat) (x3 : Int32) (μ : Mm) (post : Mm → Prop) (h : wp_X5_putValue o kd GV x1 x2 x3 μ post) : Met l yX5_putValue (.code yX5_putValue cX5_putValue 6 none :: wsA) (rmL (kv + 4) 0 0) (PcG G A μ [.ref o, va_rf x1, .ref x2, .int x3]) (QG G A (pV post)) 0 0 A := by
  refine met_J (loc := [(0, .ref o), (1, va_rf x1), (2, .ref x2), (3, .int x3)]) (by decide +kernel) (by cases x1 <;> exact Nat.le_of_ble_eq_true rfl) (by cases x1 <;> rfl) ?_
  intro p e s m args below meth c X hin
  have X : Cx p l s m args meth c cX5_putValue 6 none RX5 G A := X
  have hw := h
  unfold wp_X5_putValue at hw
  refine j_aload_n X (pc' := 1) (kk := 0) (i := 0) 0 rfl rfl dX5_putValue_0 rfl ?_
  obtain ⟨f1, g2, hm3, hv4, hw1⟩ := hw
  refine j_getf X (pc' := 4) hm3 2 hv4 rfl fw_TX5 (by decide) wt_1_68 dX5_putValue_1 rfl ?_
  refine j_iconst X (pc' := 5) (v := (-1)) (by decide) dX5_putValue_4 rfl ?_
  refine j_icmp_eq X (pc' := 8) (tgt := 9) dX5_putValue_5 rfl (by decide) (fun c5 => ?_) (fun c5 => ?_)
  · have hw2 := hw1.1 c5
    refine j_aload_nq X (pc' := 10) (kk := 1) (i := 1) (x := x1) 1 rfl rfl dX5_putValue_9 rfl ?_
    refine j_ifnull X (pc' := 13) (x := x1) (tgt := 19) dX5_putValue_10 rfl (by decide) (fun c6 => ?_) (fun a7 c6 => ?_)
    · have hw3 := hw2.1 c6
      refine j_loc [0] rfl ?_
      exact tb_X5_putValue_19 X hkd kv hkv hGV  _ hw3
    · have hw4 := hw2.2 a7 c6
      subst c6
      refine j_iload_n X (pc' := 14) (kk := 3) (i := 3) 3 rfl rfl dX5_putValue_13 rfl ?_
      refine j_bipush X (pc' := 16) (v := 16) (by decide) dX5_putValue_14 rfl ?_
      refine j_icmp_lt X (pc' := 19) (tgt := 28) dX5_putValue_16 rfl (by decide) (fun c8 => ?_) (fun c8 => ?_)
      · have hw5 := hw4.1 c8
        refine j_aload_n X (pc' := 29) (kk := 1) (i := 1) 1 rfl rfl dX5_putValue_28 rfl ?_
        obtain ⟨f9, g10, hm11, hv12, hw6⟩ := hw5
        refine j_getfN X (pc' := 32) hm11 0 hv12 rfl fw_TX3 (by decide) (List.mem_of_getElem? (i := 2) rfl) dX5_putValue_29 rfl ?_
        refine jp_kind X (pc' := 35) hkd 2 (by decide) wt_3_4 dX5_putValue_32 rfl ?_
        refine j_acmp_ne X (rx := some g10) (ry := some (kd 2)) (pc' := 38) (tgt := 46) dX5_putValue_35 rfl (by decide) (fun c13 => ?_) (fun c13 => ?_)
        · have hw7 := hw6.1 c13
          refine j_aload_n X (pc' := 47) (kk := 0) (i := 0) 0 rfl rfl dX5_putValue_46 rfl ?_
          refine j_aload_n X (pc' := 48) (kk := 2) (i := 2) 2 rfl rfl dX5_putValue_47 rfl ?_
          refine j_aload_n X (pc' := 49) (kk := 1) (i := 1) 1 rfl rfl dX5_putValue_48 rfl ?_
          obtain ⟨f14, g15, hm16, hv17, hw8⟩ := hw7
          refine j_getfN X (pc' := 52) hm16 1 hv17 rfl fw_TX3 (by decide) (List.mem_of_getElem? (i := 6) rfl) dX5_putValue_49 rfl ?_
          refine j_aload_n X (pc' := 53) (kk := 1) (i := 1) 1 rfl rfl dX5_putValue_52 rfl ?_
          obtain ⟨f18, g19, hm20, hv21, hw9⟩ := hw8
          refine j_getfN X (pc' := 56) hm20 2 hv21 rfl fw_TX3 (by decide) (List.mem_of_getElem? (i := 7) rfl) dX5_putValue_53 rfl ?_
          obtain ⟨⟨f59, hm58⟩, hw10⟩ := hw9
          refine j_callVi (As := [.ref x2, .int g15, .int g19]) (rest := []) X (pc' := 59) (cells' := 0) (slots' := 0) (c_X5_next l G A o x2 g15 g19 μ _ hw10) (gk_X5_next wt_3_15) hd_X5_next (rmL_fit (k1 := 1) (k := kv + 4) (by omega) (by decide)) hm58 rfl rfl rfl (Nat.le_of_ble_eq_true rfl) dX5_putValue_56 rfl ⟨Nat.le_of_ble_eq_true rfl, Nat.le_of_ble_eq_true rfl⟩ rfl rfl (fun r22 μ23 hw11 => ?_)
          refine j_istore X (pc' := 61) (i := 4) (loc' := [(4, .int r22), (0, .ref o), (1, .ref a7), (2, .ref x2), (3, .int x3)]) dX5_putValue_59 rfl (by decide) rfl ?_
          refine j_aload_n X (pc' := 62) (kk := 0) (i := 0) 1 rfl rfl dX5_putValue_61 rfl ?_
          refine j_iload X (pc' := 64) (i := 4) 0 rfl dX5_putValue_62 rfl ?_
          refine j_aload_n X (pc' := 65) (kk := 1) (i := 1) 2 rfl rfl dX5_putValue_64 rfl ?_
          obtain ⟨f24, g25, hm26, hv27, hw12⟩ := hw11
          refine j_getfN X (pc' := 68) hm26 1 hv27 rfl fw_TX3 (by decide) (List.mem_of_getElem? (i := 6) rfl) dX5_putValue_65 rfl ?_
          refine j_isub X (pc' := 69) dX5_putValue_68 rfl ?_
          refine j_aload_n X (pc' := 70) (kk := 1) (i := 1) 2 rfl rfl dX5_putValue_69 rfl ?_
          obtain ⟨f28, g29, hm30, hv31, hw13⟩ := hw12
          refine j_getfN X (pc' := 73) hm30 3 hv31 rfl fw_TX3 (by decide) (List.mem_of_getElem? (i := 10) rfl) dX5_putValue_70 rfl ?_
          obtain ⟨⟨f57, hm56⟩, hw14⟩ := hw13
          refine j_callVv (As := [.int (r22 - g25), .int g29]) (rest := []) X (pc' := 76) (cells' := 0) (slots' := 0) (c_X5_put l G A o (r22 - g25) g29 μ23 _ hw14) (gk_X5_put wt_3_22) hd_X5_put (rmL_fit (k1 := 1) (k := kv + 4) (by omega) (by decide)) hm56 rfl rfl rfl (Nat.le_of_ble_eq_true rfl) dX5_putValue_73 rfl ⟨Nat.le_of_ble_eq_true rfl, Nat.le_of_ble_eq_true rfl⟩ rfl rfl (fun μ33 hw15 => ?_)
          refine j_aload_n X (pc' := 77) (kk := 1) (i := 1) 2 rfl rfl dX5_putValue_76 rfl ?_
          obtain ⟨f34, g35, hm36, hv37, hw16⟩ := hw15
          refine j_getfN X (pc' := 80) hm36 0 hv37 rfl fw_TX3 (by decide) (List.mem_of_getElem? (i := 2) rfl) dX5_putValue_77 rfl ?_
          refine jp_kind X (pc' := 83) hkd 1 (by decide) wt_3_38 dX5_putValue_80 rfl ?_
          refine j_acmp_ne X (rx := some g35) (ry := some (kd 1)) (pc' := 86) (tgt := 129) dX5_putValue_83 rfl (by decide) (fun c38 => ?_) (fun c38 => ?_)
          · have hw17 := hw16.1 c38
            refine j_aload_n X (pc' := 130) (kk := 1) (i := 1) 2 rfl rfl dX5_putValue_129 rfl ?_
            obtain ⟨f39, g40, hm41, hv42, hw18⟩ := hw17
            refine j_getfN X (pc' := 133) hm41 0 hv42 rfl fw_TX3 (by decide) (List.mem_of_getElem? (i := 2) rfl) dX5_putValue_130 rfl ?_
            refine jp_kind X (pc' := 136) hkd 3 (by decide) wt_3_39 dX5_putValue_133 rfl ?_
            refine j_acmp_ne X (rx := some g40) (ry := some (kd 3)) (pc' := 139) (tgt := 156) dX5_putValue_136 rfl (by decide) (fun c43 => ?_) (fun c43 => ?_)
            · have hw19 := hw18.1 c43
              exact j_vret X ⟨rfl, hw19⟩ (Nat.le_of_ble_eq_true rfl) (Nat.le_of_ble_eq_true rfl) dX5_putValue_156
            · have hw20 := hw18.2 c43
              refine j_aload_n X (pc' := 140) (kk := 0) (i := 0) 1 rfl rfl dX5_putValue_139 rfl ?_
              refine j_aload_n X (pc' := 141) (kk := 1) (i := 1) 2 rfl rfl dX5_putValue_140 rfl ?_
              obtain ⟨f44, g45, hm46, hv47, hw21⟩ := hw20
              refine j_getfN X (pc' := 144) hm46 4 hv47 rfl fw_TX3 (by decide) (List.mem_of_getElem? (i := 11) rfl) dX5_putValue_141 rfl ?_
              refine j_iload X (pc' := 146) (i := 4) 0 rfl dX5_putValue_144 rfl ?_
              obtain ⟨⟨f55, hm54⟩, hw22⟩ := hw21
              refine j_callVq (As := [.int r22]) (rest := [.ref o]) X (pc' := 149) (cells' := 0) (slots' := 0) (c_X4_at l G A g45 r22 μ33 _ hw22) (gk_X4_at wt_3_27) hd_X4_at (rmL_fit (k1 := 0) (k := kv + 4) (by omega) (by decide)) hm54 rfl rfl rfl (Nat.le_of_ble_eq_true rfl) dX5_putValue_146 rfl ⟨Nat.le_of_ble_eq_true rfl, Nat.le_of_ble_eq_true rfl⟩ rfl rfl (fun r48 μ49 hw23 => ?_)
              refine j_aload_n X (pc' := 150) (kk := 2) (i := 2) 3 rfl rfl dX5_putValue_149 rfl ?_
              refine j_iload_n X (pc' := 151) (kk := 3) (i := 3) 4 rfl rfl dX5_putValue_150 rfl ?_
              refine j_iconst X (pc' := 152) (v := 1) (by decide) dX5_putValue_151 rfl ?_
              refine j_iadd X (pc' := 153) dX5_putValue_152 rfl ?_
              obtain ⟨⟨f53, hm52⟩, hw24⟩ := hw23
              refine j_callVv (As := [va_rf r48, .ref x2, .int (x3 + (1 : Int32))]) (rest := []) X (pc' := 156) (cells' := 0) (slots' := 0) (hGV o r48 x2 (x3 + (1 : Int32)) μ49 _ hw24) (gk_X5_putValue wt_3_0) hd_X5_putValue (rmL_fit (k1 := kv) (k := kv + 4) (by omega) (by decide)) hm52 rfl rfl rfl (Nat.le_of_ble_eq_true rfl) dX5_putValue_153 rfl ⟨Nat.le_of_ble_eq_true rfl, Nat.le_of_ble_eq_true rfl⟩ rfl rfl (fun μ51 hw25 => ?_)
              exact j_vret X ⟨rfl, hw25⟩ (Nat.le_of_ble_eq_true rfl) (Nat.le_of_ble_eq_true rfl) dX5_putValue_156
          · have hw26 := hw16.2 c38
            refine j_iconst X (pc' := 87) (v := 0) (by decide) dX5_putValue_86 rfl ?_
            refine j_istore X (pc' := 89) (i := 5) (loc' := [(5, .int ((0 : Int32))), (4, .int r22), (0, .ref o), (1, .ref a7), (2, .ref x2), (3, .int x3)]) dX5_putValue_87 rfl (by decide) rfl ?_
            obtain ⟨n0, hw27⟩ := hw26
            refine j_loc [2, 3, 4, 5, 1, 0] rfl ?_
            exact tb_X5_putValue_89 X hkd kv hkv hGV n0 _ _ _ _ _ _ hw27
        · have hw28 := hw6.2 c13
          refine j_aload_n X (pc' := 39) (kk := 0) (i := 0) 0 rfl rfl dX5_putValue_38 rfl ?_
          refine j_aload_n X (pc' := 40) (kk := 1) (i := 1) 1 rfl rfl dX5_putValue_39 rfl ?_
          refine j_aload_n X (pc' := 41) (kk := 2) (i := 2) 2 rfl rfl dX5_putValue_40 rfl ?_
          refine j_iload_n X (pc' := 42) (kk := 3) (i := 3) 3 rfl rfl dX5_putValue_41 rfl ?_
          obtain ⟨⟨f63, hm62⟩, hw29⟩ := hw28
          refine j_callVv (As := [.ref a7, .ref x2, .int x3]) (rest := []) X (pc' := 45) (cells' := 0) (slots' := 0) (c_X5_putSequence l G A kd hkd GV kv hkv hGV o a7 x2 x3 μ _ hw29) (gk_X5_putSequence wt_3_5) hd_X5_putSequence (rmL_fit (k1 := kv + 3) (k := kv + 4) (by omega) (by decide)) hm62 rfl rfl rfl (Nat.le_of_ble_eq_true rfl) dX5_putValue_42 rfl ⟨Nat.le_of_ble_eq_true rfl, Nat.le_of_ble_eq_true rfl⟩ rfl rfl (fun μ61 hw30 => ?_)
          exact j_vret X ⟨rfl, hw30⟩ (Nat.le_of_ble_eq_true rfl) (Nat.le_of_ble_eq_true rfl) dX5_putValue_45
      · have hw31 := hw4.2 c8
        refine j_loc [0] rfl ?_
        exact tb_X5_putValue_19 X hkd kv hkv hGV  _ hw31
  · have hw32 := hw1.2 c5
    exact j_vret X ⟨rfl, hw32⟩ (Nat.le_of_ble_eq_true rfl) (Nat.le_of_ble_eq_true rfl) dX5_putValue_8
def wr_X5_putValue (kd : Nat → Nat) : Nat → Nat → Option Nat → Nat → Int32 → Mm → (Mm → Prop) → Prop
  | 0 => fun _ _ _ _ _ _ => False
  | d + 1 => fun o x1 x2 x3 μ post => wp_X5_putValue o kd (wr_X5_putValue kd d) x1 x2 x3 μ post
theorem cr_X5_putValue (l : Launch) (G : gG) (A : Nat → Prop) (kd : Nat → Nat) (hkd : G.2.2 = kd) : ∀ (d : Nat) (o : Nat) (x1 : Option Nat) (x2 : Nat) (x3 : Int32) (μ : Mm) (post : Mm → Prop), wr_X5_putValue kd d o x1 x2 x3 μ post → Met l yX5_putValue (.code yX5_putValue cX5_putValue 6 none :: wsA) (rmL (6 + 4 * d) 0 0) (PcG G A μ [.ref o, va_rf x1, .ref x2, .int x3]) (QG G A (pV post)) 0 0 A := by
  intro d
  induction d with
  | zero => intro o x1 x2 x3 μ post h; exact h.elim
  | succ d ih =>
    intro o x1 x2 x3 μ post h
    have e : 6 + 4 * (d + 1) = 6 + 4 * d + 4 := by omega
    rw [e]
    exact c_X5_putValue l G A kd hkd (wr_X5_putValue kd d) (6 + 4 * d) (by omega) (fun o x1 x2 x3 μ post h => ih o x1 x2 x3 μ post h) o x1 x2 x3 μ post h
/-! BitNotation$Writer.walk(LBitNotation$Type;LBitNotation$Row;)I -/
theorem dX5_walk_0 : decode cX5_walk 0 = .ok (.aload_n 0, 1) := by decide +kernel
theorem dX5_walk_1 : decode cX5_walk 1 = .ok (.getfield 14, 3) := by decide +kernel
theorem dX5_walk_4 : decode cX5_walk 4 = .ok (.iconst 0, 1) := by decide +kernel
theorem dX5_walk_5 : decode cX5_walk 5 = .ok (.invokevirtual 27, 3) := by decide +kernel
theorem dX5_walk_8 : decode cX5_walk 8 = .ok (.aload_n 0, 1) := by decide +kernel
theorem dX5_walk_9 : decode cX5_walk 9 = .ok (.iconst 0, 1) := by decide +kernel
theorem dX5_walk_10 : decode cX5_walk 10 = .ok (.putfield 20, 3) := by decide +kernel
theorem dX5_walk_13 : decode cX5_walk 13 = .ok (.aload_n 0, 1) := by decide +kernel
theorem dX5_walk_14 : decode cX5_walk 14 = .ok (.iconst (-1), 1) := by decide +kernel
theorem dX5_walk_15 : decode cX5_walk 15 = .ok (.putfield 24, 3) := by decide +kernel
theorem dX5_walk_18 : decode cX5_walk 18 = .ok (.aload_n 0, 1) := by decide +kernel
theorem dX5_walk_19 : decode cX5_walk 19 = .ok (.aload_n 1, 1) := by decide +kernel
theorem dX5_walk_20 : decode cX5_walk 20 = .ok (.aload_n 2, 1) := by decide +kernel
theorem dX5_walk_21 : decode cX5_walk 21 = .ok (.iconst 0, 1) := by decide +kernel
theorem dX5_walk_22 : decode cX5_walk 22 = .ok (.invokevirtual 30, 3) := by decide +kernel
theorem dX5_walk_25 : decode cX5_walk 25 = .ok (.aload_n 0, 1) := by decide +kernel
theorem dX5_walk_26 : decode cX5_walk 26 = .ok (.getfield 24, 3) := by decide +kernel
theorem dX5_walk_29 : decode cX5_walk 29 = .ok (.iconst (-1), 1) := by decide +kernel
theorem dX5_walk_30 : decode cX5_walk 30 = .ok (.if_icmp .ne 22, 3) := by decide +kernel
theorem dX5_walk_33 : decode cX5_walk 33 = .ok (.aload_n 0, 1) := by decide +kernel
theorem dX5_walk_34 : decode cX5_walk 34 = .ok (.getfield 20, 3) := by decide +kernel
theorem dX5_walk_37 : decode cX5_walk 37 = .ok (.aload_n 2, 1) := by decide +kernel
theorem dX5_walk_38 : decode cX5_walk 38 = .ok (.invokevirtual 34, 3) := by decide +kernel
theorem dX5_walk_41 : decode cX5_walk 41 = .ok (.if_icmp .ge 11, 3) := by decide +kernel
theorem dX5_walk_44 : decode cX5_walk 44 = .ok (.aload_n 0, 1) := by decide +kernel
theorem dX5_walk_45 : decode cX5_walk 45 = .ok (.aload_n 0, 1) := by decide +kernel
theorem dX5_walk_46 : decode cX5_walk 46 = .ok (.getfield 20, 3) := by decide +kernel
theorem dX5_walk_49 : decode cX5_walk 49 = .ok (.putfield 24, 3) := by decide +kernel
theorem dX5_walk_52 : decode cX5_walk 52 = .ok (.aload_n 0, 1) := by decide +kernel
theorem dX5_walk_53 : decode cX5_walk 53 = .ok (.getfield 24, 3) := by decide +kernel
theorem dX5_walk_56 : decode cX5_walk 56 = .ok (.ireturn, 1) := by decide +kernel
def wp_X5_walk (o : Nat) (kd : Nat → Nat) (x1 : Nat) (x2 : Nat) (μ : Mm) (post : Int32 → Mm → Prop) : Prop := ∃ f1 g2, μ o = some (.inl (4, f1)) ∧ f1[0]? = some (.ref g2) ∧ (∃ f57, μ g2 = some (.inl (1, f57))) ∧ wp_X2_keepFirst g2 (0 : Int32) μ (fun μ6 => ∃ f7, μ6 o = some (.inl (4, f7)) ∧ 1 < f7.length ∧ ∀ μ10, μ10 = ups μ6 o (.inl (4, f7.set 1 (.int (0 : Int32)))) → ∃ f12, μ10 o = some (.inl (4, f12)) ∧ 2 < f12.length ∧ ∀ μ15, μ15 = ups μ10 o (.inl (4, f12.set 2 (.int (-1 : Int32)))) → (∃ f55, μ15 o = some (.inl (4, f55))) ∧ wr_X5_putValue kd 17 o (some x1) x2 (0 : Int32) μ15 (fun μ18 => ∃ f19 g20, μ18 o = some (.inl (4, f19)) ∧ f19[2]? = some (.int g20) ∧ (¬ g20 = (-1 : Int32) → (∃ f24 g25, μ18 o = some (.inl (4, f24)) ∧ f24[2]? = some (.int g25) ∧ post g25 μ18)) ∧ (g20 = (-1 : Int32) → (∃ f28 g29, μ18 o = some (.inl (4, f28)) ∧ f28[1]? = some (.int g29) ∧ (∃ f53, μ18 x2 = some (.inl (1, f53))) ∧ wp_X2_size x2 μ18 (fun r32 μ33 => (r32 ≤ g29 → (∃ f35 g36, μ33 o = some (.inl (4, f35)) ∧ f35[2]? = some (.int g36) ∧ post g36 μ33)) ∧ (¬ r32 ≤ g29 → (∃ f39 g40, μ33 o = some (.inl (4, f39)) ∧ f39[1]? = some (.int g40) ∧ ∃ f43, μ33 o = some (.inl (4, f43)) ∧ 2 < f43.length ∧ ∀ μ46, μ46 = ups μ33 o (.inl (4, f43.set 2 (.int g40))) → ∃ f48 g49, μ46 o = some (.inl (4, f48)) ∧ f48[2]? = some (.int g49) ∧ post g49 μ46)))))))
set_option maxHeartbeats 4000000 in
set_option maxRecDepth 100000 in
theorem c_X5_walk (l : Launch) (G : gG) (A : Nat → Prop) (kd : Nat → Nat) (hkd : G.2.2 = kd) (o : Nat) (x1 : Nat) (x2 : Nat) (μ : Mm) (post : Int32 → Mm → Prop) (h : wp_X5_walk o kd x1 x2 μ post) : Met l yX5_walk (.code yX5_walk cX5_walk 3 (some .int) :: wsA) (rmL (75) 0 0) (PcG G A μ [.ref o, .ref x1, .ref x2]) (QG G A (pI post)) 0 0 A := by
  refine met_J (loc := [(0, .ref o), (1, .ref x1), (2, .ref x2)]) (by decide +kernel) (Nat.le_of_ble_eq_true rfl) rfl ?_
  intro p e s m args below meth c X hin
  have X : Cx p l s m args meth c cX5_walk 3 (some .int) RX5 G A := X
  have hw := h
  unfold wp_X5_walk at hw
  refine j_aload_n X (pc' := 1) (kk := 0) (i := 0) 0 rfl rfl dX5_walk_0 rfl ?_
  obtain ⟨f1, g2, hm3, hv4, hw1⟩ := hw
  refine j_getf X (pc' := 4) hm3 0 hv4 rfl fw_TX5 (by decide) wt_1_65 dX5_walk_1 rfl ?_
  refine j_iconst X (pc' := 5) (v := 0) (by decide) dX5_walk_4 rfl ?_
  obtain ⟨⟨f57, hm56⟩, hw2⟩ := hw1
  refine j_callVv (As := [.int (0 : Int32)]) (rest := []) X (pc' := 8) (cells' := 0) (slots' := 0) (c_X2_keepFirst l G A g2 (0 : Int32) μ _ hw2) (gk_X2_keepFirst wt_2_236) hd_X2_keepFirst (rmL_fit (k1 := 0) (k := 75) (by omega) (by decide)) hm56 rfl rfl rfl (Nat.le_of_ble_eq_true rfl) dX5_walk_5 rfl ⟨Nat.le_of_ble_eq_true rfl, Nat.le_of_ble_eq_true rfl⟩ rfl rfl (fun μ6 hw3 => ?_)
  refine j_aload_n X (pc' := 9) (kk := 0) (i := 0) 0 rfl rfl dX5_walk_8 rfl ?_
  refine j_iconst X (pc' := 10) (v := 0) (by decide) dX5_walk_9 rfl ?_
  obtain ⟨f7, hm8, hl9, hw4⟩ := hw3
  refine jp_putf X (pc' := 13) (ty := .int) hm8 1 hl9 rfl fw_TX5 tyX5_ok nmX5 (by decide) rfl wt_1_67 (by decide +kernel) rfl rfl dX5_walk_10 rfl (fun μ10 e11 => ?_)
  have hw5 := hw4 μ10 e11
  refine j_aload_n X (pc' := 14) (kk := 0) (i := 0) 0 rfl rfl dX5_walk_13 rfl ?_
  refine j_iconst X (pc' := 15) (v := (-1)) (by decide) dX5_walk_14 rfl ?_
  obtain ⟨f12, hm13, hl14, hw6⟩ := hw5
  refine jp_putf X (pc' := 18) (ty := .int) hm13 2 hl14 rfl fw_TX5 tyX5_ok nmX5 (by decide) rfl wt_1_68 (by decide +kernel) rfl rfl dX5_walk_15 rfl (fun μ15 e16 => ?_)
  have hw7 := hw6 μ15 e16
  refine j_aload_n X (pc' := 19) (kk := 0) (i := 0) 0 rfl rfl dX5_walk_18 rfl ?_
  refine j_aload_n X (pc' := 20) (kk := 1) (i := 1) 1 rfl rfl dX5_walk_19 rfl ?_
  refine j_aload_n X (pc' := 21) (kk := 2) (i := 2) 2 rfl rfl dX5_walk_20 rfl ?_
  refine j_iconst X (pc' := 22) (v := 0) (by decide) dX5_walk_21 rfl ?_
  obtain ⟨⟨f55, hm54⟩, hw8⟩ := hw7
  refine j_callVv (As := [va_rf (some x1), .ref x2, .int (0 : Int32)]) (rest := []) X (pc' := 25) (cells' := 0) (slots' := 0) (cr_X5_putValue l G A kd hkd 17 o (some x1) x2 (0 : Int32) μ15 _ hw8) (gk_X5_putValue wt_3_0) hd_X5_putValue (rmL_fit (k1 := 74) (k := 75) (by omega) (by decide)) hm54 rfl rfl rfl (Nat.le_of_ble_eq_true rfl) dX5_walk_22 rfl ⟨Nat.le_of_ble_eq_true rfl, Nat.le_of_ble_eq_true rfl⟩ rfl rfl (fun μ18 hw9 => ?_)
  refine j_aload_n X (pc' := 26) (kk := 0) (i := 0) 0 rfl rfl dX5_walk_25 rfl ?_
  obtain ⟨f19, g20, hm21, hv22, hw10⟩ := hw9
  refine j_getf X (pc' := 29) hm21 2 hv22 rfl fw_TX5 (by decide) wt_1_68 dX5_walk_26 rfl ?_
  refine j_iconst X (pc' := 30) (v := (-1)) (by decide) dX5_walk_29 rfl ?_
  refine j_icmp_ne X (pc' := 33) (tgt := 52) dX5_walk_30 rfl (by decide) (fun c23 => ?_) (fun c23 => ?_)
  · have hw11 := hw10.1 c23
    refine j_aload_n X (pc' := 53) (kk := 0) (i := 0) 0 rfl rfl dX5_walk_52 rfl ?_
    obtain ⟨f24, g25, hm26, hv27, hw12⟩ := hw11
    refine j_getf X (pc' := 56) hm26 2 hv27 rfl fw_TX5 (by decide) wt_1_68 dX5_walk_53 rfl ?_
    exact j_iret X ⟨_, rfl, hw12⟩ (Nat.le_of_ble_eq_true rfl) (Nat.le_of_ble_eq_true rfl) dX5_walk_56
  · have hw13 := hw10.2 c23
    refine j_aload_n X (pc' := 34) (kk := 0) (i := 0) 0 rfl rfl dX5_walk_33 rfl ?_
    obtain ⟨f28, g29, hm30, hv31, hw14⟩ := hw13
    refine j_getf X (pc' := 37) hm30 1 hv31 rfl fw_TX5 (by decide) wt_1_67 dX5_walk_34 rfl ?_
    refine j_aload_n X (pc' := 38) (kk := 2) (i := 2) 2 rfl rfl dX5_walk_37 rfl ?_
    obtain ⟨⟨f53, hm52⟩, hw15⟩ := hw14
    refine j_callVi (As := []) (rest := [.int g29]) X (pc' := 41) (cells' := 0) (slots' := 0) (c_X2_size l G A x2 μ18 _ hw15) (gk_X2_size wt_3_32) hd_X2_size (rmL_fit (k1 := 0) (k := 75) (by omega) (by decide)) hm52 rfl rfl rfl (Nat.le_of_ble_eq_true rfl) dX5_walk_38 rfl ⟨Nat.le_of_ble_eq_true rfl, Nat.le_of_ble_eq_true rfl⟩ rfl rfl (fun r32 μ33 hw16 => ?_)
    refine j_icmp_ge X (pc' := 44) (tgt := 52) dX5_walk_41 rfl (by decide) (fun c34 => ?_) (fun c34 => ?_)
    · have hw17 := hw16.1 c34
      refine j_aload_n X (pc' := 53) (kk := 0) (i := 0) 0 rfl rfl dX5_walk_52 rfl ?_
      obtain ⟨f35, g36, hm37, hv38, hw18⟩ := hw17
      refine j_getf X (pc' := 56) hm37 2 hv38 rfl fw_TX5 (by decide) wt_1_68 dX5_walk_53 rfl ?_
      exact j_iret X ⟨_, rfl, hw18⟩ (Nat.le_of_ble_eq_true rfl) (Nat.le_of_ble_eq_true rfl) dX5_walk_56
    · have hw19 := hw16.2 c34
      refine j_aload_n X (pc' := 45) (kk := 0) (i := 0) 0 rfl rfl dX5_walk_44 rfl ?_
      refine j_aload_n X (pc' := 46) (kk := 0) (i := 0) 0 rfl rfl dX5_walk_45 rfl ?_
      obtain ⟨f39, g40, hm41, hv42, hw20⟩ := hw19
      refine j_getf X (pc' := 49) hm41 1 hv42 rfl fw_TX5 (by decide) wt_1_67 dX5_walk_46 rfl ?_
      obtain ⟨f43, hm44, hl45, hw21⟩ := hw20
      refine jp_putf X (pc' := 52) (ty := .int) hm44 2 hl45 rfl fw_TX5 tyX5_ok nmX5 (by decide) rfl wt_1_68 (by decide +kernel) rfl rfl dX5_walk_49 rfl (fun μ46 e47 => ?_)
      have hw22 := hw21 μ46 e47
      refine j_aload_n X (pc' := 53) (kk := 0) (i := 0) 0 rfl rfl dX5_walk_52 rfl ?_
      obtain ⟨f48, g49, hm50, hv51, hw23⟩ := hw22
      refine j_getf X (pc' := 56) hm50 2 hv51 rfl fw_TX5 (by decide) wt_1_68 dX5_walk_53 rfl ?_
      exact j_iret X ⟨_, rfl, hw23⟩ (Nat.le_of_ble_eq_true rfl) (Nat.le_of_ble_eq_true rfl) dX5_walk_56
