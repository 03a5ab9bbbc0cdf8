/-! BitNotation$Row.<init>(I)V -/
theorem dX2_init_0 : decode cX2_init 0 = .ok (.aload_n 0, 1) := by decide +kernel
theorem dX2_init_1 : decode cX2_init 1 = .ok (.invokespecial 1, 3) := by decide +kernel
theorem dX2_init_4 : decode cX2_init 4 = .ok (.aload_n 0, 1) := by decide +kernel
theorem dX2_init_5 : decode cX2_init 5 = .ok (.iconst 0, 1) := by decide +kernel
theorem dX2_init_6 : decode cX2_init 6 = .ok (.putfield 7, 3) := by decide +kernel
theorem dX2_init_9 : decode cX2_init 9 = .ok (.aload_n 0, 1) := by decide +kernel
theorem dX2_init_10 : decode cX2_init 10 = .ok (.iload_n 1, 1) := by decide +kernel
theorem dX2_init_11 : decode cX2_init 11 = .ok (.iconst 0, 1) := by decide +kernel
theorem dX2_init_12 : decode cX2_init 12 = .ok (.invokestatic 13, 3) := by decide +kernel
theorem dX2_init_15 : decode cX2_init 15 = .ok (.newarray .int, 2) := by decide +kernel
theorem dX2_init_17 : decode cX2_init 17 = .ok (.putfield 19, 3) := by decide +kernel
theorem dX2_init_20 : decode cX2_init 20 = .ok (.return_, 1) := by decide +kernel
def wp_X2_init (o : Nat) (NB : Nat) (x1 : Int32) (μ : Mm) (post : Mm → Prop) : Prop := ∃ f1, μ o = some (.inl (1, f1)) ∧ 1 < f1.length ∧ ∀ μ4, μ4 = ups μ o (.inl (1, f1.set 1 (.int (0 : Int32)))) → ¬ (if x1 < (0 : Int32) then (0 : Int32) else x1) < 0 ∧ (if x1 < (0 : Int32) then (0 : Int32) else x1).toNatClampNeg ≤ NB ∧ ∀ q6, μ4 q6 = none → ∀ μ8, μ8 = ups μ4 q6 (eI (if x1 < (0 : Int32) then (0 : Int32) else x1).toNatClampNeg (fun _ => 0)) → ∃ f12, μ8 o = some (.inl (1, f12)) ∧ 0 < f12.length ∧ ∀ μ15, μ15 = ups μ8 o (.inl (1, f12.set 0 (.ref q6))) → post μ15
set_option maxHeartbeats 4000000 in
set_option maxRecDepth 100000 in
theorem c_X2_init (l : Launch) (G : gG) (A : Nat → Prop) (NB : Nat) (hNB : NB ≤ 1000) (o : Nat) (x1 : Int32) (μ : Mm) (post : Mm → Prop) (h : wp_X2_init o NB x1 μ post) : Met l yX2_init (.code yX2_init cX2_init 2 none :: wsA) (rmL (0) 1 NB) (PcG G A μ [.ref o, .int x1]) (QG G A (pV post)) 1 NB A := by
  refine met_J (loc := [(0, .ref o), (1, .int x1)]) (by decide +kernel) (Nat.le_of_ble_eq_true rfl) rfl ?_
  intro p e s m args below meth c X hin
  have X : Cx p l s m args meth c cX2_init 2 none RX2 G A := X
  have hw := h
  unfold wp_X2_init at hw
  refine j_aload_n X (pc' := 1) (kk := 0) (i := 0) 0 rfl rfl dX2_init_0 rfl ?_
  refine j_objInit X (pc' := 4) wt_1_47 wt_1_22 wt_1_23 (by show 1 ≤ _ + 6; omega) (Nat.le_trans (m := 120) (Nat.le_of_ble_eq_true rfl) (by show 120 ≤ 40 * _ + 120; omega)) dX2_init_1 rfl ?_
  refine j_aload_n X (pc' := 5) (kk := 0) (i := 0) 0 rfl rfl dX2_init_4 rfl ?_
  refine j_iconst X (pc' := 6) (v := 0) (by decide) dX2_init_5 rfl ?_
  obtain ⟨f1, hm2, hl3, hw1⟩ := hw
  refine jp_putf X (pc' := 9) (ty := .int) hm2 1 hl3 rfl fw_TX2 tyX2_ok nmX2 (by decide) rfl wt_1_50 (by decide +kernel) rfl rfl dX2_init_6 rfl (fun μ4 e5 => ?_)
  have hw2 := hw1 μ4 e5
  refine j_aload_n X (pc' := 10) (kk := 0) (i := 0) 0 rfl rfl dX2_init_9 rfl ?_
  refine j_iload_n X (pc' := 11) (kk := 1) (i := 1) 1 rfl rfl dX2_init_10 rfl ?_
  refine j_iconst X (pc' := 12) (v := 0) (by decide) dX2_init_11 rfl ?_
  refine j_max X (pc' := 15) wt_1_48 wt_1_31 wt_1_3 wt_1_32 (by show 1 ≤ _ + 6; omega) (Nat.le_trans (m := 120) (Nat.le_of_ble_eq_true rfl) (by show 120 ≤ 40 * _ + 120; omega)) (Nat.le_of_ble_eq_true rfl) (Nat.le_of_ble_eq_true rfl) dX2_init_12 rfl ?_
  obtain ⟨h10, h11, hw3⟩ := hw2
  refine jp_newI X (pc' := 17) wt_1_56 h10 rfl (by omega) (Nat.le_refl _) (by show 0 + _ ≤ NB; omega) rfl rfl dX2_init_15 rfl (fun q6 hq7 μ8 e9 => ?_)
  have hw4 := hw3 q6 hq7 μ8 e9
  refine j_widen (k1 := 1) (n1 := NB) (by omega) (by omega) ?_
  obtain ⟨f12, hm13, hl14, hw5⟩ := hw4
  refine jp_putF X (pc' := 20) (ty := (.array .int)) hin hm13 0 hl14 rfl fw_TX2 tyX2_ok nmX2 (by decide) rfl rfl wt_1_49 (by decide +kernel) rfl rfl dX2_init_17 rfl (fun μ15 e16 => ?_)
  have hw6 := hw5 μ15 e16
  exact j_vret X ⟨rfl, hw6⟩ (by omega) (by omega) dX2_init_20
/-! BitNotation$Row.keepFirst(I)V -/
theorem dX2_keepFirst_0 : decode cX2_keepFirst 0 = .ok (.iload_n 1, 1) := by decide +kernel
theorem dX2_keepFirst_1 : decode cX2_keepFirst 1 = .ok (.ifCond .lt 16, 3) := by decide +kernel
theorem dX2_keepFirst_4 : decode cX2_keepFirst 4 = .ok (.iload_n 1, 1) := by decide +kernel
theorem dX2_keepFirst_5 : decode cX2_keepFirst 5 = .ok (.aload_n 0, 1) := by decide +kernel
theorem dX2_keepFirst_6 : decode cX2_keepFirst 6 = .ok (.getfield 7, 3) := by decide +kernel
theorem dX2_keepFirst_9 : decode cX2_keepFirst 9 = .ok (.if_icmp .ge 8, 3) := by decide +kernel
theorem dX2_keepFirst_12 : decode cX2_keepFirst 12 = .ok (.aload_n 0, 1) := by decide +kernel
theorem dX2_keepFirst_13 : decode cX2_keepFirst 13 = .ok (.iload_n 1, 1) := by decide +kernel
theorem dX2_keepFirst_14 : decode cX2_keepFirst 14 = .ok (.putfield 7, 3) := by decide +kernel
theorem dX2_keepFirst_17 : decode cX2_keepFirst 17 = .ok (.return_, 1) := by decide +kernel
def wp_X2_keepFirst (o : Nat) (x1 : Int32) (μ : Mm) (post : Mm → Prop) : Prop := (x1 < 0 → (post μ)) ∧ (¬ x1 < 0 → (∃ f2 g3, μ o = some (.inl (1, f2)) ∧ f2[1]? = some (.int g3) ∧ (g3 ≤ x1 → (post μ)) ∧ (¬ g3 ≤ x1 → (∃ f7, μ o = some (.inl (1, f7)) ∧ 1 < f7.length ∧ ∀ μ10, μ10 = ups μ o (.inl (1, f7.set 1 (.int x1))) → post μ10))))
set_option maxHeartbeats 4000000 in
set_option maxRecDepth 100000 in
theorem c_X2_keepFirst (l : Launch) (G : gG) (A : Nat → Prop) (o : Nat) (x1 : Int32) (μ : Mm) (post : Mm → Prop) (h : wp_X2_keepFirst o x1 μ post) : Met l yX2_keepFirst (.code yX2_keepFirst cX2_keepFirst 2 none :: wsA) (rmL (0) 0 0) (PcG G A μ [.ref o, .int x1]) (QG G A (pV post)) 0 0 A := by
  refine met_J (loc := [(0, .ref o), (1, .int x1)]) (by decide +kernel) (Nat.le_of_ble_eq_true rfl) rfl ?_
  intro p e s m args below meth c X hin
  have X : Cx p l s m args meth c cX2_keepFirst 2 none RX2 G A := X
  have hw := h
  unfold wp_X2_keepFirst at hw
  refine j_iload_n X (pc' := 1) (kk := 1) (i := 1) 1 rfl rfl dX2_keepFirst_0 rfl ?_
  refine j_if_lt X (pc' := 4) (tgt := 17) dX2_keepFirst_1 rfl (by decide) (fun c1 => ?_) (fun c1 => ?_)
  · have hw1 := hw.1 c1
    exact j_vret X ⟨rfl, hw1⟩ (Nat.le_of_ble_eq_true rfl) (Nat.le_of_ble_eq_true rfl) dX2_keepFirst_17
  · have hw2 := hw.2 c1
    refine j_iload_n X (pc' := 5) (kk := 1) (i := 1) 1 rfl rfl dX2_keepFirst_4 rfl ?_
    refine j_aload_n X (pc' := 6) (kk := 0) (i := 0) 0 rfl rfl dX2_keepFirst_5 rfl ?_
    obtain ⟨f2, g3, hm4, hv5, hw3⟩ := hw2
    refine j_getf X (pc' := 9) hm4 1 hv5 rfl fw_TX2 (by decide) wt_1_50 dX2_keepFirst_6 rfl ?_
    refine j_icmp_ge X (pc' := 12) (tgt := 17) dX2_keepFirst_9 rfl (by decide) (fun c6 => ?_) (fun c6 => ?_)
    · have hw4 := hw3.1 c6
      exact j_vret X ⟨rfl, hw4⟩ (Nat.le_of_ble_eq_true rfl) (Nat.le_of_ble_eq_true rfl) dX2_keepFirst_17
    · have hw5 := hw3.2 c6
      refine j_aload_n X (pc' := 13) (kk := 0) (i := 0) 0 rfl rfl dX2_keepFirst_12 rfl ?_
      refine j_iload_n X (pc' := 14) (kk := 1) (i := 1) 1 rfl rfl dX2_keepFirst_13 rfl ?_
      obtain ⟨f7, hm8, hl9, hw6⟩ := hw5
      refine jp_putf X (pc' := 17) (ty := .int) hm8 1 hl9 rfl fw_TX2 tyX2_ok nmX2 (by decide) rfl wt_1_50 (by decide +kernel) rfl rfl dX2_keepFirst_14 rfl (fun μ10 e11 => ?_)
      have hw7 := hw6 μ10 e11
      exact j_vret X ⟨rfl, hw7⟩ (Nat.le_of_ble_eq_true rfl) (Nat.le_of_ble_eq_true rfl) dX2_keepFirst_17
/-! BitNotation$Row.at(I)I -/
theorem dX2_at_0 : decode cX2_at 0 = .ok (.iload_n 1, 1) := by decide +kernel
theorem dX2_at_1 : decode cX2_at 1 = .ok (.ifCond .lt 29, 3) := by decide +kernel
theorem dX2_at_4 : decode cX2_at 4 = .ok (.iload_n 1, 1) := by decide +kernel
theorem dX2_at_5 : decode cX2_at 5 = .ok (.aload_n 0, 1) := by decide +kernel
theorem dX2_at_6 : decode cX2_at 6 = .ok (.getfield 7, 3) := by decide +kernel
theorem dX2_at_9 : decode cX2_at 9 = .ok (.if_icmp .ge 21, 3) := by decide +kernel
theorem dX2_at_12 : decode cX2_at 12 = .ok (.iload_n 1, 1) := by decide +kernel
theorem dX2_at_13 : decode cX2_at 13 = .ok (.aload_n 0, 1) := by decide +kernel
theorem dX2_at_14 : decode cX2_at 14 = .ok (.getfield 19, 3) := by decide +kernel
theorem dX2_at_17 : decode cX2_at 17 = .ok (.arraylength, 1) := by decide +kernel
theorem dX2_at_18 : decode cX2_at 18 = .ok (.if_icmp .ge 12, 3) := by decide +kernel
theorem dX2_at_21 : decode cX2_at 21 = .ok (.aload_n 0, 1) := by decide +kernel
theorem dX2_at_22 : decode cX2_at 22 = .ok (.getfield 19, 3) := by decide +kernel
theorem dX2_at_25 : decode cX2_at 25 = .ok (.iload_n 1, 1) := by decide +kernel
theorem dX2_at_26 : decode cX2_at 26 = .ok (.iaload, 1) := by decide +kernel
theorem dX2_at_27 : decode cX2_at 27 = .ok (.goto 4, 3) := by decide +kernel
theorem dX2_at_30 : decode cX2_at 30 = .ok (.iconst 0, 1) := by decide +kernel
theorem dX2_at_31 : decode cX2_at 31 = .ok (.ireturn, 1) := by decide +kernel
def wp_X2_at (o : Nat) (x1 : Int32) (μ : Mm) (post : Int32 → Mm → Prop) : Prop := (x1 < 0 → (post (0 : Int32) μ)) ∧ (¬ x1 < 0 → (∃ f2 g3, μ o = some (.inl (1, f2)) ∧ f2[1]? = some (.int g3) ∧ (g3 ≤ x1 → (post (0 : Int32) μ)) ∧ (¬ g3 ≤ x1 → (∃ f7 g8, μ o = some (.inl (1, f7)) ∧ f7[0]? = some (.ref g8) ∧ ∃ n11 f12, μ g8 = some (eI n11 f12) ∧ ((nI n11) ≤ x1 → (post (0 : Int32) μ)) ∧ (¬ (nI n11) ≤ x1 → (∃ f15 g16, μ o = some (.inl (1, f15)) ∧ f15[0]? = some (.ref g16) ∧ ∃ n19 f20, μ g16 = some (eI n19 f20) ∧ vp_in x1 n19 ∧ post (f20 x1.toNatClampNeg) μ))))))
set_option maxHeartbeats 4000000 in
set_option maxRecDepth 100000 in
theorem c_X2_at (l : Launch) (G : gG) (A : Nat → Prop) (o : Nat) (x1 : Int32) (μ : Mm) (post : Int32 → Mm → Prop) (h : wp_X2_at o x1 μ post) : Met l yX2_at (.code yX2_at cX2_at 2 (some .int) :: wsA) (rmL (0) 0 0) (PcG G A μ [.ref o, .int x1]) (QG G A (pI post)) 0 0 A := by
  refine met_J (loc := [(0, .ref o), (1, .int x1)]) (by decide +kernel) (Nat.le_of_ble_eq_true rfl) rfl ?_
  intro p e s m args below meth c X hin
  have X : Cx p l s m args meth c cX2_at 2 (some .int) RX2 G A := X
  have hw := h
  unfold wp_X2_at at hw
  refine j_iload_n X (pc' := 1) (kk := 1) (i := 1) 1 rfl rfl dX2_at_0 rfl ?_
  refine j_if_lt X (pc' := 4) (tgt := 30) dX2_at_1 rfl (by decide) (fun c1 => ?_) (fun c1 => ?_)
  · have hw1 := hw.1 c1
    refine j_iconst X (pc' := 31) (v := 0) (by decide) dX2_at_30 rfl ?_
    exact j_iret X ⟨_, rfl, hw1⟩ (Nat.le_of_ble_eq_true rfl) (Nat.le_of_ble_eq_true rfl) dX2_at_31
  · have hw2 := hw.2 c1
    refine j_iload_n X (pc' := 5) (kk := 1) (i := 1) 1 rfl rfl dX2_at_4 rfl ?_
    refine j_aload_n X (pc' := 6) (kk := 0) (i := 0) 0 rfl rfl dX2_at_5 rfl ?_
    obtain ⟨f2, g3, hm4, hv5, hw3⟩ := hw2
    refine j_getf X (pc' := 9) hm4 1 hv5 rfl fw_TX2 (by decide) wt_1_50 dX2_at_6 rfl ?_
    refine j_icmp_ge X (pc' := 12) (tgt := 30) dX2_at_9 rfl (by decide) (fun c6 => ?_) (fun c6 => ?_)
    · have hw4 := hw3.1 c6
      refine j_iconst X (pc' := 31) (v := 0) (by decide) dX2_at_30 rfl ?_
      exact j_iret X ⟨_, rfl, hw4⟩ (Nat.le_of_ble_eq_true rfl) (Nat.le_of_ble_eq_true rfl) dX2_at_31
    · have hw5 := hw3.2 c6
      refine j_iload_n X (pc' := 13) (kk := 1) (i := 1) 1 rfl rfl dX2_at_12 rfl ?_
      refine j_aload_n X (pc' := 14) (kk := 0) (i := 0) 0 rfl rfl dX2_at_13 rfl ?_
      obtain ⟨f7, g8, hm9, hv10, hw6⟩ := hw5
      refine j_getf X (pc' := 17) hm9 0 hv10 rfl fw_TX2 (by decide) wt_1_49 dX2_at_14 rfl ?_
      obtain ⟨n11, f12, hm13, hw7⟩ := hw6
      refine j_ilen X (pc' := 18) hm13 dX2_at_17 rfl ?_
      refine j_icmp_ge X (pc' := 21) (tgt := 30) dX2_at_18 rfl (by decide) (fun c14 => ?_) (fun c14 => ?_)
      · have hw8 := hw7.1 c14
        refine j_iconst X (pc' := 31) (v := 0) (by decide) dX2_at_30 rfl ?_
        exact j_iret X ⟨_, rfl, hw8⟩ (Nat.le_of_ble_eq_true rfl) (Nat.le_of_ble_eq_true rfl) dX2_at_31
      · have hw9 := hw7.2 c14
        refine j_aload_n X (pc' := 22) (kk := 0) (i := 0) 0 rfl rfl dX2_at_21 rfl ?_
        obtain ⟨f15, g16, hm17, hv18, hw10⟩ := hw9
        refine j_getf X (pc' := 25) hm17 0 hv18 rfl fw_TX2 (by decide) wt_1_49 dX2_at_22 rfl ?_
        refine j_iload_n X (pc' := 26) (kk := 1) (i := 1) 1 rfl rfl dX2_at_25 rfl ?_
        obtain ⟨n19, f20, hm21, hi22, hw11⟩ := hw10
        refine j_iald X (pc' := 27) hm21 hi22 dX2_at_26 rfl ?_
        refine j_goto X (tgt := 31) dX2_at_27 (by decide) ?_
        exact j_iret X ⟨_, rfl, hw11⟩ (Nat.le_of_ble_eq_true rfl) (Nat.le_of_ble_eq_true rfl) dX2_at_31
/-! BitNotation$Row.size()I -/
theorem dX2_size_0 : decode cX2_size 0 = .ok (.aload_n 0, 1) := by decide +kernel
theorem dX2_size_1 : decode cX2_size 1 = .ok (.getfield 7, 3) := by decide +kernel
theorem dX2_size_4 : decode cX2_size 4 = .ok (.ireturn, 1) := by decide +kernel
def wp_X2_size (o : Nat) (μ : Mm) (post : Int32 → Mm → Prop) : Prop := ∃ f1 g2, μ o = some (.inl (1, f1)) ∧ f1[1]? = some (.int g2) ∧ post g2 μ
set_option maxHeartbeats 4000000 in
set_option maxRecDepth 100000 in
theorem c_X2_size (l : Launch) (G : gG) (A : Nat → Prop) (o : Nat) (μ : Mm) (post : Int32 → Mm → Prop) (h : wp_X2_size o μ post) : Met l yX2_size (.code yX2_size cX2_size 1 (some .int) :: wsA) (rmL (0) 0 0) (PcG G A μ [.ref o]) (QG G A (pI post)) 0 0 A := by
  refine met_J (loc := [(0, .ref o)]) (by decide +kernel) (Nat.le_of_ble_eq_true rfl) rfl ?_
  intro p e s m args below meth c X hin
  have X : Cx p l s m args meth c cX2_size 1 (some .int) RX2 G A := X
  have hw := h
  unfold wp_X2_size at hw
  refine j_aload_n X (pc' := 1) (kk := 0) (i := 0) 0 rfl rfl dX2_size_0 rfl ?_
  obtain ⟨f1, g2, hm3, hv4, hw1⟩ := hw
  refine j_getf X (pc' := 4) hm3 1 hv4 rfl fw_TX2 (by decide) wt_1_50 dX2_size_1 rfl ?_
  exact j_iret X ⟨_, rfl, hw1⟩ (Nat.le_of_ble_eq_true rfl) (Nat.le_of_ble_eq_true rfl) dX2_size_4
/-! BitNotation$Row.append(I)V -/
theorem dX2_append_0 : decode cX2_append 0 = .ok (.aload_n 0, 1) := by decide +kernel
theorem dX2_append_1 : decode cX2_append 1 = .ok (.getfield 7, 3) := by decide +kernel
theorem dX2_append_4 : decode cX2_append 4 = .ok (.ifCond .lt 35, 3) := by decide +kernel
theorem dX2_append_7 : decode cX2_append 7 = .ok (.aload_n 0, 1) := by decide +kernel
theorem dX2_append_8 : decode cX2_append 8 = .ok (.getfield 7, 3) := by decide +kernel
theorem dX2_append_11 : decode cX2_append 11 = .ok (.aload_n 0, 1) := by decide +kernel
theorem dX2_append_12 : decode cX2_append 12 = .ok (.getfield 19, 3) := by decide +kernel
theorem dX2_append_15 : decode cX2_append 15 = .ok (.arraylength, 1) := by decide +kernel
theorem dX2_append_16 : decode cX2_append 16 = .ok (.if_icmp .ge 23, 3) := by decide +kernel
theorem dX2_append_19 : decode cX2_append 19 = .ok (.aload_n 0, 1) := by decide +kernel
theorem dX2_append_20 : decode cX2_append 20 = .ok (.getfield 19, 3) := by decide +kernel
theorem dX2_append_23 : decode cX2_append 23 = .ok (.aload_n 0, 1) := by decide +kernel
theorem dX2_append_24 : decode cX2_append 24 = .ok (.getfield 7, 3) := by decide +kernel
theorem dX2_append_27 : decode cX2_append 27 = .ok (.iload_n 1, 1) := by decide +kernel
theorem dX2_append_28 : decode cX2_append 28 = .ok (.iastore, 1) := by decide +kernel
theorem dX2_append_29 : decode cX2_append 29 = .ok (.aload_n 0, 1) := by decide +kernel
theorem dX2_append_30 : decode cX2_append 30 = .ok (.dup, 1) := by decide +kernel
theorem dX2_append_31 : decode cX2_append 31 = .ok (.getfield 7, 3) := by decide +kernel
theorem dX2_append_34 : decode cX2_append 34 = .ok (.iconst 1, 1) := by decide +kernel
theorem dX2_append_35 : decode cX2_append 35 = .ok (.iadd, 1) := by decide +kernel
theorem dX2_append_36 : decode cX2_append 36 = .ok (.putfield 7, 3) := by decide +kernel
theorem dX2_append_39 : decode cX2_append 39 = .ok (.return_, 1) := by decide +kernel
def wp_X2_append (o : Nat) (x1 : Int32) (μ : Mm) (post : Mm → Prop) : Prop := ∃ f1 g2, μ o = some (.inl (1, f1)) ∧ f1[1]? = some (.int g2) ∧ (g2 < 0 → (post μ)) ∧ (¬ g2 < 0 → (∃ f6 g7, μ o = some (.inl (1, f6)) ∧ f6[1]? = some (.int g7) ∧ ∃ f10 g11, μ o = some (.inl (1, f10)) ∧ f10[0]? = some (.ref g11) ∧ ∃ n14 f15, μ g11 = some (eI n14 f15) ∧ ((nI n14) ≤ g7 → (post μ)) ∧ (¬ (nI n14) ≤ g7 → (∃ f18 g19, μ o = some (.inl (1, f18)) ∧ f18[0]? = some (.ref g19) ∧ ∃ f22 g23, μ o = some (.inl (1, f22)) ∧ f22[1]? = some (.int g23) ∧ ∃ n26 f27, μ g19 = some (eI n26 f27) ∧ vp_in g23 n26 ∧ ∀ μ30, μ30 = ups μ g19 (eI n26 (upd f27 g23.toNatClampNeg x1)) → ∃ f32 g33, μ30 o = some (.inl (1, f32)) ∧ f32[1]? = some (.int g33) ∧ ∃ f36, μ30 o = some (.inl (1, f36)) ∧ 1 < f36.length ∧ ∀ μ39, μ39 = ups μ30 o (.inl (1, f36.set 1 (.int (g33 + (1 : Int32))))) → post μ39))))
set_option maxHeartbeats 4000000 in
set_option maxRecDepth 100000 in
theorem c_X2_append (l : Launch) (G : gG) (A : Nat → Prop) (o : Nat) (x1 : Int32) (μ : Mm) (post : Mm → Prop) (h : wp_X2_append o x1 μ post) : Met l yX2_append (.code yX2_append cX2_append 2 none :: wsA) (rmL (0) 0 0) (PcG G A μ [.ref o, .int x1]) (QG G A (pV post)) 0 0 A := by
  refine met_J (loc := [(0, .ref o), (1, .int x1)]) (by decide +kernel) (Nat.le_of_ble_eq_true rfl) rfl ?_
  intro p e s m args below meth c X hin
  have X : Cx p l s m args meth c cX2_append 2 none RX2 G A := X
  have hw := h
  unfold wp_X2_append at hw
  refine j_aload_n X (pc' := 1) (kk := 0) (i := 0) 0 rfl rfl dX2_append_0 rfl ?_
  obtain ⟨f1, g2, hm3, hv4, hw1⟩ := hw
  refine j_getf X (pc' := 4) hm3 1 hv4 rfl fw_TX2 (by decide) wt_1_50 dX2_append_1 rfl ?_
  refine j_if_lt X (pc' := 7) (tgt := 39) dX2_append_4 rfl (by decide) (fun c5 => ?_) (fun c5 => ?_)
  · have hw2 := hw1.1 c5
    exact j_vret X ⟨rfl, hw2⟩ (Nat.le_of_ble_eq_true rfl) (Nat.le_of_ble_eq_true rfl) dX2_append_39
  · have hw3 := hw1.2 c5
    refine j_aload_n X (pc' := 8) (kk := 0) (i := 0) 0 rfl rfl dX2_append_7 rfl ?_
    obtain ⟨f6, g7, hm8, hv9, hw4⟩ := hw3
    refine j_getf X (pc' := 11) hm8 1 hv9 rfl fw_TX2 (by decide) wt_1_50 dX2_append_8 rfl ?_
    refine j_aload_n X (pc' := 12) (kk := 0) (i := 0) 0 rfl rfl dX2_append_11 rfl ?_
    obtain ⟨f10, g11, hm12, hv13, hw5⟩ := hw4
    refine j_getf X (pc' := 15) hm12 0 hv13 rfl fw_TX2 (by decide) wt_1_49 dX2_append_12 rfl ?_
    obtain ⟨n14, f15, hm16, hw6⟩ := hw5
    refine j_ilen X (pc' := 16) hm16 dX2_append_15 rfl ?_
    refine j_icmp_ge X (pc' := 19) (tgt := 39) dX2_append_16 rfl (by decide) (fun c17 => ?_) (fun c17 => ?_)
    · have hw7 := hw6.1 c17
      exact j_vret X ⟨rfl, hw7⟩ (Nat.le_of_ble_eq_true rfl) (Nat.le_of_ble_eq_true rfl) dX2_append_39
    · have hw8 := hw6.2 c17
      refine j_aload_n X (pc' := 20) (kk := 0) (i := 0) 0 rfl rfl dX2_append_19 rfl ?_
      obtain ⟨f18, g19, hm20, hv21, hw9⟩ := hw8
      refine j_getf X (pc' := 23) hm20 0 hv21 rfl fw_TX2 (by decide) wt_1_49 dX2_append_20 rfl ?_
      refine j_aload_n X (pc' := 24) (kk := 0) (i := 0) 0 rfl rfl dX2_append_23 rfl ?_
      obtain ⟨f22, g23, hm24, hv25, hw10⟩ := hw9
      refine j_getf X (pc' := 27) hm24 1 hv25 rfl fw_TX2 (by decide) wt_1_50 dX2_append_24 rfl ?_
      refine j_iload_n X (pc' := 28) (kk := 1) (i := 1) 1 rfl rfl dX2_append_27 rfl ?_
      obtain ⟨n26, f27, hm28, hi29, hw11⟩ := hw10
      refine jp_iast X (pc' := 29) hm28 hi29 dX2_append_28 rfl (fun μ30 e31 => ?_)
      have hw12 := hw11 μ30 e31
      refine j_aload_n X (pc' := 30) (kk := 0) (i := 0) 0 rfl rfl dX2_append_29 rfl ?_
      refine j_dup X (pc' := 31) rfl dX2_append_30 rfl ?_
      obtain ⟨f32, g33, hm34, hv35, hw13⟩ := hw12
      refine j_getf X (pc' := 34) hm34 1 hv35 rfl fw_TX2 (by decide) wt_1_50 dX2_append_31 rfl ?_
      refine j_iconst X (pc' := 35) (v := 1) (by decide) dX2_append_34 rfl ?_
      refine j_iadd X (pc' := 36) dX2_append_35 rfl ?_
      obtain ⟨f36, hm37, hl38, hw14⟩ := hw13
      refine jp_putf X (pc' := 39) (ty := .int) hm37 1 hl38 rfl fw_TX2 tyX2_ok nmX2 (by decide) rfl wt_1_50 (by decide +kernel) rfl rfl dX2_append_36 rfl (fun μ39 e40 => ?_)
      have hw15 := hw14 μ39 e40
      exact j_vret X ⟨rfl, hw15⟩ (Nat.le_of_ble_eq_true rfl) (Nat.le_of_ble_eq_true rfl) dX2_append_39
/-! BitNotation$TypeRow.at(I)LBitNotation$Type; -/
theorem dX4_at_0 : decode cX4_at 0 = .ok (.iload_n 1, 1) := by decide +kernel
theorem dX4_at_1 : decode cX4_at 1 = .ok (.ifCond .lt 29, 3) := by decide +kernel
theorem dX4_at_4 : decode cX4_at 4 = .ok (.iload_n 1, 1) := by decide +kernel
theorem dX4_at_5 : decode cX4_at 5 = .ok (.aload_n 0, 1) := by decide +kernel
theorem dX4_at_6 : decode cX4_at 6 = .ok (.getfield 7, 3) := by decide +kernel
theorem dX4_at_9 : decode cX4_at 9 = .ok (.if_icmp .ge 21, 3) := by decide +kernel
theorem dX4_at_12 : decode cX4_at 12 = .ok (.iload_n 1, 1) := by decide +kernel
theorem dX4_at_13 : decode cX4_at 13 = .ok (.aload_n 0, 1) := by decide +kernel
theorem dX4_at_14 : decode cX4_at 14 = .ok (.getfield 21, 3) := by decide +kernel
theorem dX4_at_17 : decode cX4_at 17 = .ok (.arraylength, 1) := by decide +kernel
theorem dX4_at_18 : decode cX4_at 18 = .ok (.if_icmp .ge 12, 3) := by decide +kernel
theorem dX4_at_21 : decode cX4_at 21 = .ok (.aload_n 0, 1) := by decide +kernel
theorem dX4_at_22 : decode cX4_at 22 = .ok (.getfield 21, 3) := by decide +kernel
theorem dX4_at_25 : decode cX4_at 25 = .ok (.iload_n 1, 1) := by decide +kernel
theorem dX4_at_26 : decode cX4_at 26 = .ok (.aaload, 1) := by decide +kernel
theorem dX4_at_27 : decode cX4_at 27 = .ok (.goto 4, 3) := by decide +kernel
theorem dX4_at_30 : decode cX4_at 30 = .ok (.aconst_null, 1) := by decide +kernel
theorem dX4_at_31 : decode cX4_at 31 = .ok (.areturn, 1) := by decide +kernel
def wp_X4_at (o : Nat) (x1 : Int32) (μ : Mm) (post : Option Nat → Mm → Prop) : Prop := (x1 < 0 → (post none μ)) ∧ (¬ x1 < 0 → (∃ f2 g3, μ o = some (.inl (3, f2)) ∧ f2[1]? = some (.int g3) ∧ (g3 ≤ x1 → (post none μ)) ∧ (¬ g3 ≤ x1 → (∃ f7 g8, μ o = some (.inl (3, f7)) ∧ f7[0]? = some (.ref g8) ∧ ∃ n11 f12, μ g8 = some (eT n11 f12) ∧ ((nI n11) ≤ x1 → (post none μ)) ∧ (¬ (nI n11) ≤ x1 → (∃ f15 g16, μ o = some (.inl (3, f15)) ∧ f15[0]? = some (.ref g16) ∧ ∃ n19 f20, μ g16 = some (eT n19 f20) ∧ vp_in x1 n19 ∧ ∀ r23, r23 = f20 x1.toNatClampNeg → post r23 μ))))))
set_option maxHeartbeats 4000000 in
set_option maxRecDepth 100000 in
theorem c_X4_at (l : Launch) (G : gG) (A : Nat → Prop) (o : Nat) (x1 : Int32) (μ : Mm) (post : Option Nat → Mm → Prop) (h : wp_X4_at o x1 μ post) : Met l yX4_at (.code yX4_at cX4_at 2 (some (.object "BitNotation$Type")) :: wsA) (rmL (0) 0 0) (PcG G A μ [.ref o, .int x1]) (QG G A (pQ post)) 0 0 A := by
  refine met_J (loc := [(0, .ref o), (1, .int x1)]) (by decide +kernel) (Nat.le_of_ble_eq_true rfl) rfl ?_
  intro p e s m args below meth c X hin
  have X : Cx p l s m args meth c cX4_at 2 (some (.object "BitNotation$Type")) RX4 G A := X
  have hw := h
  unfold wp_X4_at at hw
  refine j_iload_n X (pc' := 1) (kk := 1) (i := 1) 1 rfl rfl dX4_at_0 rfl ?_
  refine j_if_lt X (pc' := 4) (tgt := 30) dX4_at_1 rfl (by decide) (fun c1 => ?_) (fun c1 => ?_)
  · have hw1 := hw.1 c1
    refine j_null X (pc' := 31) dX4_at_30 rfl ?_
    exact j_aret X (r := none) ⟨_, rfl, hw1⟩ (Nat.le_of_ble_eq_true rfl) (Nat.le_of_ble_eq_true rfl) dX4_at_31
  · have hw2 := hw.2 c1
    refine j_iload_n X (pc' := 5) (kk := 1) (i := 1) 1 rfl rfl dX4_at_4 rfl ?_
    refine j_aload_n X (pc' := 6) (kk := 0) (i := 0) 0 rfl rfl dX4_at_5 rfl ?_
    obtain ⟨f2, g3, hm4, hv5, hw3⟩ := hw2
    refine j_getf X (pc' := 9) hm4 1 hv5 rfl fw_TX4 (by decide) wt_1_36 dX4_at_6 rfl ?_
    refine j_icmp_ge X (pc' := 12) (tgt := 30) dX4_at_9 rfl (by decide) (fun c6 => ?_) (fun c6 => ?_)
    · have hw4 := hw3.1 c6
      refine j_null X (pc' := 31) dX4_at_30 rfl ?_
      exact j_aret X (r := none) ⟨_, rfl, hw4⟩ (Nat.le_of_ble_eq_true rfl) (Nat.le_of_ble_eq_true rfl) dX4_at_31
    · have hw5 := hw3.2 c6
      refine j_iload_n X (pc' := 13) (kk := 1) (i := 1) 1 rfl rfl dX4_at_12 rfl ?_
      refine j_aload_n X (pc' := 14) (kk := 0) (i := 0) 0 rfl rfl dX4_at_13 rfl ?_
      obtain ⟨f7, g8, hm9, hv10, hw6⟩ := hw5
      refine j_getf X (pc' := 17) hm9 0 hv10 rfl fw_TX4 (by decide) wt_1_35 dX4_at_14 rfl ?_
      obtain ⟨n11, f12, hm13, hw7⟩ := hw6
      refine j_alen X (pc' := 18) hm13 dX4_at_17 rfl ?_
      refine j_icmp_ge X (pc' := 21) (tgt := 30) dX4_at_18 rfl (by decide) (fun c14 => ?_) (fun c14 => ?_)
      · have hw8 := hw7.1 c14
        refine j_null X (pc' := 31) dX4_at_30 rfl ?_
        exact j_aret X (r := none) ⟨_, rfl, hw8⟩ (Nat.le_of_ble_eq_true rfl) (Nat.le_of_ble_eq_true rfl) dX4_at_31
      · have hw9 := hw7.2 c14
        refine j_aload_n X (pc' := 22) (kk := 0) (i := 0) 0 rfl rfl dX4_at_21 rfl ?_
        obtain ⟨f15, g16, hm17, hv18, hw10⟩ := hw9
        refine j_getf X (pc' := 25) hm17 0 hv18 rfl fw_TX4 (by decide) wt_1_35 dX4_at_22 rfl ?_
        refine j_iload_n X (pc' := 26) (kk := 1) (i := 1) 1 rfl rfl dX4_at_25 rfl ?_
        obtain ⟨n19, f20, hm21, hi22, hw11⟩ := hw10
        refine j_aald X (pc' := 27) hm21 hi22 dX4_at_26 rfl ?_
        have hw12 := hw11 _ rfl
        generalize f20 x1.toNatClampNeg = r23 at hw12 ⊢
        refine j_goto X (tgt := 31) dX4_at_27 (by decide) ?_
        exact j_aret X (r := r23) ⟨_, rfl, hw12⟩ (Nat.le_of_ble_eq_true rfl) (Nat.le_of_ble_eq_true rfl) dX4_at_31
/-! BitNotation$TypeRow.size()I -/
theorem dX4_size_0 : decode cX4_size 0 = .ok (.aload_n 0, 1) := by decide +kernel
theorem dX4_size_1 : decode cX4_size 1 = .ok (.getfield 7, 3) := by decide +kernel
theorem dX4_size_4 : decode cX4_size 4 = .ok (.ireturn, 1) := by decide +kernel
def wp_X4_size (o : Nat) (μ : Mm) (post : Int32 → Mm → Prop) : Prop := ∃ f1 g2, μ o = some (.inl (3, f1)) ∧ f1[1]? = some (.int g2) ∧ post g2 μ
set_option maxHeartbeats 4000000 in
set_option maxRecDepth 100000 in
theorem c_X4_size (l : Launch) (G : gG) (A : Nat → Prop) (o : Nat) (μ : Mm) (post : Int32 → Mm → Prop) (h : wp_X4_size o μ post) : Met l yX4_size (.code yX4_size cX4_size 1 (some .int) :: wsA) (rmL (0) 0 0) (PcG G A μ [.ref o]) (QG G A (pI post)) 0 0 A := by
  refine met_J (loc := [(0, .ref o)]) (by decide +kernel) (Nat.le_of_ble_eq_true rfl) rfl ?_
  intro p e s m args below meth c X hin
  have X : Cx p l s m args meth c cX4_size 1 (some .int) RX4 G A := X
  have hw := h
  unfold wp_X4_size at hw
  refine j_aload_n X (pc' := 1) (kk := 0) (i := 0) 0 rfl rfl dX4_size_0 rfl ?_
  obtain ⟨f1, g2, hm3, hv4, hw1⟩ := hw
  refine j_getf X (pc' := 4) hm3 1 hv4 rfl fw_TX4 (by decide) wt_1_36 dX4_size_1 rfl ?_
  exact j_iret X ⟨_, rfl, hw1⟩ (Nat.le_of_ble_eq_true rfl) (Nat.le_of_ble_eq_true rfl) dX4_size_4
/-! BitNotation$Row.has(I)Z -/
theorem dX2_has_0 : decode cX2_has 0 = .ok (.iload_n 1, 1) := by decide +kernel
theorem dX2_has_1 : decode cX2_has 1 = .ok (.ifCond .lt 24, 3) := by decide +kernel
theorem dX2_has_4 : decode cX2_has 4 = .ok (.iload_n 1, 1) := by decide +kernel
theorem dX2_has_5 : decode cX2_has 5 = .ok (.aload_n 0, 1) := by decide +kernel
theorem dX2_has_6 : decode cX2_has 6 = .ok (.getfield 7, 3) := by decide +kernel
theorem dX2_has_9 : decode cX2_has 9 = .ok (.if_icmp .ge 16, 3) := by decide +kernel
theorem dX2_has_12 : decode cX2_has 12 = .ok (.iload_n 1, 1) := by decide +kernel
theorem dX2_has_13 : decode cX2_has 13 = .ok (.aload_n 0, 1) := by decide +kernel
theorem dX2_has_14 : decode cX2_has 14 = .ok (.getfield 19, 3) := by decide +kernel
theorem dX2_has_17 : decode cX2_has 17 = .ok (.arraylength, 1) := by decide +kernel
theorem dX2_has_18 : decode cX2_has 18 = .ok (.if_icmp .ge 7, 3) := by decide +kernel
theorem dX2_has_21 : decode cX2_has 21 = .ok (.iconst 1, 1) := by decide +kernel
theorem dX2_has_22 : decode cX2_has 22 = .ok (.goto 4, 3) := by decide +kernel
theorem dX2_has_25 : decode cX2_has 25 = .ok (.iconst 0, 1) := by decide +kernel
theorem dX2_has_26 : decode cX2_has 26 = .ok (.ireturn, 1) := by decide +kernel
def wp_X2_has (o : Nat) (x1 : Int32) (μ : Mm) (post : Int32 → Mm → Prop) : Prop := (x1 < 0 → (post (0 : Int32) μ)) ∧ (¬ x1 < 0 → (∃ f2 g3, μ o = some (.inl (1, f2)) ∧ f2[1]? = some (.int g3) ∧ (g3 ≤ x1 → (post (0 : Int32) μ)) ∧ (¬ g3 ≤ x1 → (∃ f7 g8, μ o = some (.inl (1, f7)) ∧ f7[0]? = some (.ref g8) ∧ ∃ n11 f12, μ g8 = some (eI n11 f12) ∧ ((nI n11) ≤ x1 → (post (0 : Int32) μ)) ∧ (¬ (nI n11) ≤ x1 → (post (1 : Int32) μ))))))
set_option maxHeartbeats 4000000 in
set_option maxRecDepth 100000 in
theorem c_X2_has (l : Launch) (G : gG) (A : Nat → Prop) (o : Nat) (x1 : Int32) (μ : Mm) (post : Int32 → Mm → Prop) (h : wp_X2_has o x1 μ post) : Met l yX2_has (.code yX2_has cX2_has 2 (some .boolean) :: wsA) (rmL (0) 0 0) (PcG G A μ [.ref o, .int x1]) (QG G A (pI post)) 0 0 A := by
  refine met_J (loc := [(0, .ref o), (1, .int x1)]) (by decide +kernel) (Nat.le_of_ble_eq_true rfl) rfl ?_
  intro p e s m args below meth c X hin
  have X : Cx p l s m args meth c cX2_has 2 (some .boolean) RX2 G A := X
  have hw := h
  unfold wp_X2_has at hw
  refine j_iload_n X (pc' := 1) (kk := 1) (i := 1) 1 rfl rfl dX2_has_0 rfl ?_
  refine j_if_lt X (pc' := 4) (tgt := 25) dX2_has_1 rfl (by decide) (fun c1 => ?_) (fun c1 => ?_)
  · have hw1 := hw.1 c1
    refine j_iconst X (pc' := 26) (v := 0) (by decide) dX2_has_25 rfl ?_
    exact j_zret X (Or.inl rfl) ⟨_, rfl, hw1⟩ (Nat.le_of_ble_eq_true rfl) (Nat.le_of_ble_eq_true rfl) dX2_has_26
  · have hw2 := hw.2 c1
    refine j_iload_n X (pc' := 5) (kk := 1) (i := 1) 1 rfl rfl dX2_has_4 rfl ?_
    refine j_aload_n X (pc' := 6) (kk := 0) (i := 0) 0 rfl rfl dX2_has_5 rfl ?_
    obtain ⟨f2, g3, hm4, hv5, hw3⟩ := hw2
    refine j_getf X (pc' := 9) hm4 1 hv5 rfl fw_TX2 (by decide) wt_1_50 dX2_has_6 rfl ?_
    refine j_icmp_ge X (pc' := 12) (tgt := 25) dX2_has_9 rfl (by decide) (fun c6 => ?_) (fun c6 => ?_)
    · have hw4 := hw3.1 c6
      refine j_iconst X (pc' := 26) (v := 0) (by decide) dX2_has_25 rfl ?_
      exact j_zret X (Or.inl rfl) ⟨_, rfl, hw4⟩ (Nat.le_of_ble_eq_true rfl) (Nat.le_of_ble_eq_true rfl) dX2_has_26
    · have hw5 := hw3.2 c6
      refine j_iload_n X (pc' := 13) (kk := 1) (i := 1) 1 rfl rfl dX2_has_12 rfl ?_
      refine j_aload_n X (pc' := 14) (kk := 0) (i := 0) 0 rfl rfl dX2_has_13 rfl ?_
      obtain ⟨f7, g8, hm9, hv10, hw6⟩ := hw5
      refine j_getf X (pc' := 17) hm9 0 hv10 rfl fw_TX2 (by decide) wt_1_49 dX2_has_14 rfl ?_
      obtain ⟨n11, f12, hm13, hw7⟩ := hw6
      refine j_ilen X (pc' := 18) hm13 dX2_has_17 rfl ?_
      refine j_icmp_ge X (pc' := 21) (tgt := 25) dX2_has_18 rfl (by decide) (fun c14 => ?_) (fun c14 => ?_)
      · have hw8 := hw7.1 c14
        refine j_iconst X (pc' := 26) (v := 0) (by decide) dX2_has_25 rfl ?_
        exact j_zret X (Or.inl rfl) ⟨_, rfl, hw8⟩ (Nat.le_of_ble_eq_true rfl) (Nat.le_of_ble_eq_true rfl) dX2_has_26
      · have hw9 := hw7.2 c14
        refine j_iconst X (pc' := 22) (v := 1) (by decide) dX2_has_21 rfl ?_
        refine j_goto X (tgt := 26) dX2_has_22 (by decide) ?_
        exact j_zret X (Or.inr rfl) ⟨_, rfl, hw9⟩ (Nat.le_of_ble_eq_true rfl) (Nat.le_of_ble_eq_true rfl) dX2_has_26
/-! BitNotation$Row.replace(II)V -/
theorem dX2_replace_0 : decode cX2_replace 0 = .ok (.aload_n 0, 1) := by decide +kernel
theorem dX2_replace_1 : decode cX2_replace 1 = .ok (.iload_n 1, 1) := by decide +kernel
theorem dX2_replace_2 : decode cX2_replace 2 = .ok (.invokevirtual 23, 3) := by decide +kernel
theorem dX2_replace_5 : decode cX2_replace 5 = .ok (.ifCond .eq 10, 3) := by decide +kernel
theorem dX2_replace_8 : decode cX2_replace 8 = .ok (.aload_n 0, 1) := by decide +kernel
theorem dX2_replace_9 : decode cX2_replace 9 = .ok (.getfield 19, 3) := by decide +kernel
theorem dX2_replace_12 : decode cX2_replace 12 = .ok (.iload_n 1, 1) := by decide +kernel
theorem dX2_replace_13 : decode cX2_replace 13 = .ok (.iload_n 2, 1) := by decide +kernel
theorem dX2_replace_14 : decode cX2_replace 14 = .ok (.iastore, 1) := by decide +kernel
theorem dX2_replace_15 : decode cX2_replace 15 = .ok (.return_, 1) := by decide +kernel
def wp_X2_replace (o : Nat) (x1 : Int32) (x2 : Int32) (μ : Mm) (post : Mm → Prop) : Prop := (∃ f15, μ o = some (.inl (1, f15))) ∧ wp_X2_has o x1 μ (fun r1 μ2 => (r1 = 0 → (post μ2)) ∧ (¬ r1 = 0 → (∃ f4 g5, μ2 o = some (.inl (1, f4)) ∧ f4[0]? = some (.ref g5) ∧ ∃ n8 f9, μ2 g5 = some (eI n8 f9) ∧ vp_in x1 n8 ∧ ∀ μ12, μ12 = ups μ2 g5 (eI n8 (upd f9 x1.toNatClampNeg x2)) → post μ12)))
set_option maxHeartbeats 4000000 in
set_option maxRecDepth 100000 in
theorem c_X2_replace (l : Launch) (G : gG) (A : Nat → Prop) (o : Nat) (x1 : Int32) (x2 : Int32) (μ : Mm) (post : Mm → Prop) (h : wp_X2_replace o x1 x2 μ post) : Met l yX2_replace (.code yX2_replace cX2_replace 3 none :: wsA) (rmL (1) 0 0) (PcG G A μ [.ref o, .int x1, .int x2]) (QG G A (pV post)) 0 0 A := by
  refine met_J (loc := [(0, .ref o), (1, .int x1), (2, .int x2)]) (by decide +kernel) (Nat.le_of_ble_eq_true rfl) rfl ?_
  intro p e s m args below meth c X hin
  have X : Cx p l s m args meth c cX2_replace 3 none RX2 G A := X
  have hw := h
  unfold wp_X2_replace at hw
  refine j_aload_n X (pc' := 1) (kk := 0) (i := 0) 0 rfl rfl dX2_replace_0 rfl ?_
  refine j_iload_n X (pc' := 2) (kk := 1) (i := 1) 1 rfl rfl dX2_replace_1 rfl ?_
  obtain ⟨⟨f15, hm14⟩, hw1⟩ := hw
  refine j_callVi (As := [.int x1]) (rest := []) X (pc' := 5) (cells' := 0) (slots' := 0) (c_X2_has l G A o x1 μ _ hw1) (gk_X2_has wt_3_37) hd_X2_has (rmL_fit (k1 := 0) (k := 1) (by omega) (by decide)) hm14 rfl rfl rfl (Nat.le_of_ble_eq_true rfl) dX2_replace_2 rfl ⟨Nat.le_of_ble_eq_true rfl, Nat.le_of_ble_eq_true rfl⟩ rfl rfl (fun r1 μ2 hw2 => ?_)
  refine j_if_eq X (pc' := 8) (tgt := 15) dX2_replace_5 rfl (by decide) (fun c3 => ?_) (fun c3 => ?_)
  · have hw3 := hw2.1 c3
    exact j_vret X ⟨rfl, hw3⟩ (Nat.le_of_ble_eq_true rfl) (Nat.le_of_ble_eq_true rfl) dX2_replace_15
  · have hw4 := hw2.2 c3
    refine j_aload_n X (pc' := 9) (kk := 0) (i := 0) 0 rfl rfl dX2_replace_8 rfl ?_
    obtain ⟨f4, g5, hm6, hv7, hw5⟩ := hw4
    refine j_getf X (pc' := 12) hm6 0 hv7 rfl fw_TX2 (by decide) wt_1_49 dX2_replace_9 rfl ?_
    refine j_iload_n X (pc' := 13) (kk := 1) (i := 1) 1 rfl rfl dX2_replace_12 rfl ?_
    refine j_iload_n X (pc' := 14) (kk := 2) (i := 2) 2 rfl rfl dX2_replace_13 rfl ?_
    obtain ⟨n8, f9, hm10, hi11, hw6⟩ := hw5
    refine jp_iast X (pc' := 15) hm10 hi11 dX2_replace_14 rfl (fun μ12 e13 => ?_)
    have hw7 := hw6 μ12 e13
    exact j_vret X ⟨rfl, hw7⟩ (Nat.le_of_ble_eq_true rfl) (Nat.le_of_ble_eq_true rfl) dX2_replace_15
/-! BitNotation$Row.isFull()Z -/
theorem dX2_isFull_0 : decode cX2_isFull 0 = .ok (.aload_n 0, 1) := by decide +kernel
theorem dX2_isFull_1 : decode cX2_isFull 1 = .ok (.getfield 7, 3) := by decide +kernel
theorem dX2_isFull_4 : decode cX2_isFull 4 = .ok (.aload_n 0, 1) := by decide +kernel
theorem dX2_isFull_5 : decode cX2_isFull 5 = .ok (.getfield 19, 3) := by decide +kernel
theorem dX2_isFull_8 : decode cX2_isFull 8 = .ok (.arraylength, 1) := by decide +kernel
theorem dX2_isFull_9 : decode cX2_isFull 9 = .ok (.if_icmp .lt 7, 3) := by decide +kernel
theorem dX2_isFull_12 : decode cX2_isFull 12 = .ok (.iconst 1, 1) := by decide +kernel
theorem dX2_isFull_13 : decode cX2_isFull 13 = .ok (.goto 4, 3) := by decide +kernel
theorem dX2_isFull_16 : decode cX2_isFull 16 = .ok (.iconst 0, 1) := by decide +kernel
theorem dX2_isFull_17 : decode cX2_isFull 17 = .ok (.ireturn, 1) := by decide +kernel
def wp_X2_isFull (o : Nat) (μ : Mm) (post : Int32 → Mm → Prop) : Prop := ∃ f1 g2, μ o = some (.inl (1, f1)) ∧ f1[1]? = some (.int g2) ∧ ∃ f5 g6, μ o = some (.inl (1, f5)) ∧ f5[0]? = some (.ref g6) ∧ ∃ n9 f10, μ g6 = some (eI n9 f10) ∧ (g2 < (nI n9) → (post (0 : Int32) μ)) ∧ (¬ g2 < (nI n9) → (post (1 : Int32) μ))
set_option maxHeartbeats 4000000 in
set_option maxRecDepth 100000 in
theorem c_X2_isFull (l : Launch) (G : gG) (A : Nat → Prop) (o : Nat) (μ : Mm) (post : Int32 → Mm → Prop) (h : wp_X2_isFull o μ post) : Met l yX2_isFull (.code yX2_isFull cX2_isFull 1 (some .boolean) :: wsA) (rmL (0) 0 0) (PcG G A μ [.ref o]) (QG G A (pI post)) 0 0 A := by
  refine met_J (loc := [(0, .ref o)]) (by decide +kernel) (Nat.le_of_ble_eq_true rfl) rfl ?_
  intro p e s m args below meth c X hin
  have X : Cx p l s m args meth c cX2_isFull 1 (some .boolean) RX2 G A := X
  have hw := h
  unfold wp_X2_isFull at hw
  refine j_aload_n X (pc' := 1) (kk := 0) (i := 0) 0 rfl rfl dX2_isFull_0 rfl ?_
  obtain ⟨f1, g2, hm3, hv4, hw1⟩ := hw
  refine j_getf X (pc' := 4) hm3 1 hv4 rfl fw_TX2 (by decide) wt_1_50 dX2_isFull_1 rfl ?_
  refine j_aload_n X (pc' := 5) (kk := 0) (i := 0) 0 rfl rfl dX2_isFull_4 rfl ?_
  obtain ⟨f5, g6, hm7, hv8, hw2⟩ := hw1
  refine j_getf X (pc' := 8) hm7 0 hv8 rfl fw_TX2 (by decide) wt_1_49 dX2_isFull_5 rfl ?_
  obtain ⟨n9, f10, hm11, hw3⟩ := hw2
  refine j_ilen X (pc' := 9) hm11 dX2_isFull_8 rfl ?_
  refine j_icmp_lt X (pc' := 12) (tgt := 16) dX2_isFull_9 rfl (by decide) (fun c12 => ?_) (fun c12 => ?_)
  · have hw4 := hw3.1 c12
    refine j_iconst X (pc' := 17) (v := 0) (by decide) dX2_isFull_16 rfl ?_
    exact j_zret X (Or.inl rfl) ⟨_, rfl, hw4⟩ (Nat.le_of_ble_eq_true rfl) (Nat.le_of_ble_eq_true rfl) dX2_isFull_17
  · have hw5 := hw3.2 c12
    refine j_iconst X (pc' := 13) (v := 1) (by decide) dX2_isFull_12 rfl ?_
    refine j_goto X (tgt := 17) dX2_isFull_13 (by decide) ?_
    exact j_zret X (Or.inr rfl) ⟨_, rfl, hw5⟩ (Nat.le_of_ble_eq_true rfl) (Nat.le_of_ble_eq_true rfl) dX2_isFull_17
/-! BitNotation$Row.becomeCopyOf(LBitNotation$Row;)V -/
theorem dX2_becomeCopyOf_0 : decode cX2_becomeCopyOf 0 = .ok (.aload_n 0, 1) := by decide +kernel
theorem dX2_becomeCopyOf_1 : decode cX2_becomeCopyOf 1 = .ok (.iconst 0, 1) := by decide +kernel
theorem dX2_becomeCopyOf_2 : decode cX2_becomeCopyOf 2 = .ok (.invokevirtual 27, 3) := by decide +kernel
theorem dX2_becomeCopyOf_5 : decode cX2_becomeCopyOf 5 = .ok (.iconst 0, 1) := by decide +kernel
theorem dX2_becomeCopyOf_6 : decode cX2_becomeCopyOf 6 = .ok (.istore_n 2, 1) := by decide +kernel
theorem dX2_becomeCopyOf_7 : decode cX2_becomeCopyOf 7 = .ok (.iload_n 2, 1) := by decide +kernel
theorem dX2_becomeCopyOf_8 : decode cX2_becomeCopyOf 8 = .ok (.aload_n 1, 1) := by decide +kernel
theorem dX2_becomeCopyOf_9 : decode cX2_becomeCopyOf 9 = .ok (.invokevirtual 31, 3) := by decide +kernel
theorem dX2_becomeCopyOf_12 : decode cX2_becomeCopyOf 12 = .ok (.if_icmp .ge 18, 3) := by decide +kernel
theorem dX2_becomeCopyOf_15 : decode cX2_becomeCopyOf 15 = .ok (.aload_n 0, 1) := by decide +kernel
theorem dX2_becomeCopyOf_16 : decode cX2_becomeCopyOf 16 = .ok (.aload_n 1, 1) := by decide +kernel
theorem dX2_becomeCopyOf_17 : decode cX2_becomeCopyOf 17 = .ok (.iload_n 2, 1) := by decide +kernel
theorem dX2_becomeCopyOf_18 : decode cX2_becomeCopyOf 18 = .ok (.invokevirtual 35, 3) := by decide +kernel
theorem dX2_becomeCopyOf_21 : decode cX2_becomeCopyOf 21 = .ok (.invokevirtual 39, 3) := by decide +kernel
theorem dX2_becomeCopyOf_24 : decode cX2_becomeCopyOf 24 = .ok (.iinc 2 1, 3) := by decide +kernel
theorem dX2_becomeCopyOf_27 : decode cX2_becomeCopyOf 27 = .ok (.goto (-20), 3) := by decide +kernel
theorem dX2_becomeCopyOf_30 : decode cX2_becomeCopyOf 30 = .ok (.return_, 1) := by decide +kernel
def wb_X2_becomeCopyOf_7 (o : Nat) (post : Mm → Prop)  : Nat → Nat → Int32 → Mm → Prop
  | 0 => fun _ _ _ => False
  | n + 1 => fun v1 v2 μ => (∃ f17, μ v1 = some (.inl (1, f17))) ∧ wp_X2_size v1 μ (fun r5 μ6 => (r5 ≤ v2 → (post μ6)) ∧ (¬ r5 ≤ v2 → ((∃ f15, μ6 v1 = some (.inl (1, f15))) ∧ wp_X2_at v1 v2 μ6 (fun r8 μ9 => (∃ f13, μ9 o = some (.inl (1, f13))) ∧ wp_X2_append o r8 μ9 (fun μ11 => wb_X2_becomeCopyOf_7 o post n v1 (v2 + 1) μ11)))))
set_option maxHeartbeats 4000000 in
set_option maxRecDepth 100000 in
theorem tb_X2_becomeCopyOf_7 {p : Program} {l : Launch} {e : Env} {s : State} {m : MethodId} {args : Array Value} {below : List Frame} {meth : Method} {c : Code} {G : gG} {A : Nat → Prop} {o : Nat} {post : Mm → Prop} (X : Cx p l s m args meth c cX2_becomeCopyOf 3 none RX2 G A) : ∀ (n : Nat) (v1 : Nat) (v2 : Int32) (μ : Mm), wb_X2_becomeCopyOf_7 o post n v1 v2 μ → J p l e (rmL (1) 0 0) s m args below meth c 3 G A (MQ below (QG G A (pV post)) args s 0 0 A) 0 0 7 [(0, .ref o), (1, .ref v1), (2, .int v2)] [] μ := by
  intro n
  induction n with
  | zero => intro v1 v2 μ hw; exact hw.elim
  | succ n ih =>
    intro v1 v2 μ hw
    rw [wb_X2_becomeCopyOf_7] at hw
    refine j_iload_n X (pc' := 8) (kk := 2) (i := 2) 2 rfl rfl dX2_becomeCopyOf_7 rfl ?_
    refine j_aload_n X (pc' := 9) (kk := 1) (i := 1) 1 rfl rfl dX2_becomeCopyOf_8 rfl ?_
    obtain ⟨⟨f17, hm16⟩, hw1⟩ := hw
    refine j_callVi (As := []) (rest := [.int v2]) X (pc' := 12) (cells' := 0) (slots' := 0) (c_X2_size l G A v1 μ _ hw1) (gk_X2_size wt_3_53) hd_X2_size (rmL_fit (k1 := 0) (k := 1) (by omega) (by decide)) hm16 rfl rfl rfl (Nat.le_of_ble_eq_true rfl) dX2_becomeCopyOf_9 rfl ⟨Nat.le_of_ble_eq_true rfl, Nat.le_of_ble_eq_true rfl⟩ rfl rfl (fun r5 μ6 hw2 => ?_)
    refine j_icmp_ge X (pc' := 15) (tgt := 30) dX2_becomeCopyOf_12 rfl (by decide) (fun c7 => ?_) (fun c7 => ?_)
    · have hw3 := hw2.1 c7
      exact j_vret X ⟨rfl, hw3⟩ (Nat.le_of_ble_eq_true rfl) (Nat.le_of_ble_eq_true rfl) dX2_becomeCopyOf_30
    · have hw4 := hw2.2 c7
      refine j_aload_n X (pc' := 16) (kk := 0) (i := 0) 0 rfl rfl dX2_becomeCopyOf_15 rfl ?_
      refine j_aload_n X (pc' := 17) (kk := 1) (i := 1) 1 rfl rfl dX2_becomeCopyOf_16 rfl ?_
      refine j_iload_n X (pc' := 18) (kk := 2) (i := 2) 2 rfl rfl dX2_becomeCopyOf_17 rfl ?_
      obtain ⟨⟨f15, hm14⟩, hw5⟩ := hw4
      refine j_callVi (As := [.int v2]) (rest := [.ref o]) X (pc' := 21) (cells' := 0) (slots' := 0) (c_X2_at l G A v1 v2 μ6 _ hw5) (gk_X2_at wt_3_54) hd_X2_at (rmL_fit (k1 := 0) (k := 1) (by omega) (by decide)) hm14 rfl rfl rfl (Nat.le_of_ble_eq_true rfl) dX2_becomeCopyOf_18 rfl ⟨Nat.le_of_ble_eq_true rfl, Nat.le_of_ble_eq_true rfl⟩ rfl rfl (fun r8 μ9 hw6 => ?_)
      obtain ⟨⟨f13, hm12⟩, hw7⟩ := hw6
      refine j_callVv (As := [.int r8]) (rest := []) X (pc' := 24) (cells' := 0) (slots' := 0) (c_X2_append l G A o r8 μ9 _ hw7) (gk_X2_append wt_3_55) hd_X2_append (rmL_fit (k1 := 0) (k := 1) (by omega) (by decide)) hm12 rfl rfl rfl (Nat.le_of_ble_eq_true rfl) dX2_becomeCopyOf_21 rfl ⟨Nat.le_of_ble_eq_true rfl, Nat.le_of_ble_eq_true rfl⟩ rfl rfl (fun μ11 hw8 => ?_)
      refine j_iinc X (pc' := 27) (i := 2) (v := v2 + 1) (loc' := [(2, .int (v2 + 1)), (0, .ref o), (1, .ref v1)]) 2 rfl rfl dX2_becomeCopyOf_24 rfl (by decide) rfl ?_
      refine j_goto X (tgt := 7) dX2_becomeCopyOf_27 (by decide) ?_
      refine j_loc [1, 2, 0] rfl ?_
      exact ih _ _ _ hw8
def wp_X2_becomeCopyOf (o : Nat) (x1 : Nat) (μ : Mm) (post : Mm → Prop) : Prop := (∃ f4, μ o = some (.inl (1, f4))) ∧ wp_X2_keepFirst o (0 : Int32) μ (fun μ2 => ∃ n, wb_X2_becomeCopyOf_7 o post n x1 (0 : Int32) μ2)
set_option maxHeartbeats 4000000 in
set_option maxRecDepth 100000 in
theorem c_X2_becomeCopyOf (l : Launch) (G : gG) (A : Nat → Prop) (o : Nat) (x1 : Nat) (μ : Mm) (post : Mm → Prop) (h : wp_X2_becomeCopyOf o x1 μ post) : Met l yX2_becomeCopyOf (.code yX2_becomeCopyOf cX2_becomeCopyOf 3 none :: wsA) (rmL (1) 0 0) (PcG G A μ [.ref o, .ref x1]) (QG G A (pV post)) 0 0 A := by
  refine met_J (loc := [(0, .ref o), (1, .ref x1)]) (by decide +kernel) (Nat.le_of_ble_eq_true rfl) rfl ?_
  intro p e s m args below meth c X hin
  have X : Cx p l s m args meth c cX2_becomeCopyOf 3 none RX2 G A := X
  have hw := h
  unfold wp_X2_becomeCopyOf at hw
  refine j_aload_n X (pc' := 1) (kk := 0) (i := 0) 0 rfl rfl dX2_becomeCopyOf_0 rfl ?_
  refine j_iconst X (pc' := 2) (v := 0) (by decide) dX2_becomeCopyOf_1 rfl ?_
  obtain ⟨⟨f4, hm3⟩, hw1⟩ := hw
  refine j_callVv (As := [.int (0 : Int32)]) (rest := []) X (pc' := 5) (cells' := 0) (slots' := 0) (c_X2_keepFirst l G A o (0 : Int32) μ _ hw1) (gk_X2_keepFirst wt_3_52) hd_X2_keepFirst (rmL_fit (k1 := 0) (k := 1) (by omega) (by decide)) hm3 rfl rfl rfl (Nat.le_of_ble_eq_true rfl) dX2_becomeCopyOf_2 rfl ⟨Nat.le_of_ble_eq_true rfl, Nat.le_of_ble_eq_true rfl⟩ rfl rfl (fun μ2 hw2 => ?_)
  refine j_iconst X (pc' := 6) (v := 0) (by decide) dX2_becomeCopyOf_5 rfl ?_
  refine j_istore_n X (pc' := 7) (kk := 2) (i := 2) (loc' := [(2, .int ((0 : Int32))), (0, .ref o), (1, .ref x1)]) dX2_becomeCopyOf_6 rfl rfl (by decide) rfl ?_
  obtain ⟨n0, hw3⟩ := hw2
  refine j_loc [1, 2, 0] rfl ?_
  exact tb_X2_becomeCopyOf_7 X n0 _ _ _ hw3
/-! BitNotation$TypeRow.<init>(I)V -/
theorem dX4_init_0 : decode cX4_init 0 = .ok (.aload_n 0, 1) := by decide +kernel
theorem dX4_init_1 : decode cX4_init 1 = .ok (.invokespecial 1, 3) := by decide +kernel
theorem dX4_init_4 : decode cX4_init 4 = .ok (.aload_n 0, 1) := by decide +kernel
theorem dX4_init_5 : decode cX4_init 5 = .ok (.iconst 0, 1) := by decide +kernel
theorem dX4_init_6 : decode cX4_init 6 = .ok (.putfield 7, 3) := by decide +kernel
theorem dX4_init_9 : decode cX4_init 9 = .ok (.aload_n 0, 1) := by decide +kernel
theorem dX4_init_10 : decode cX4_init 10 = .ok (.iload_n 1, 1) := by decide +kernel
theorem dX4_init_11 : decode cX4_init 11 = .ok (.iconst 0, 1) := by decide +kernel
theorem dX4_init_12 : decode cX4_init 12 = .ok (.invokestatic 13, 3) := by decide +kernel
theorem dX4_init_15 : decode cX4_init 15 = .ok (.anewarray 19, 3) := by decide +kernel
theorem dX4_init_18 : decode cX4_init 18 = .ok (.putfield 21, 3) := by decide +kernel
theorem dX4_init_21 : decode cX4_init 21 = .ok (.return_, 1) := by decide +kernel
def wp_X4_init (o : Nat) (NB : Nat) (x1 : Int32) (μ : Mm) (post : Mm → Prop) : Prop := ∃ f1, μ o = some (.inl (3, f1)) ∧ 1 < f1.length ∧ ∀ μ4, μ4 = ups μ o (.inl (3, f1.set 1 (.int (0 : Int32)))) → ¬ (if x1 < (0 : Int32) then (0 : Int32) else x1) < 0 ∧ (if x1 < (0 : Int32) then (0 : Int32) else x1).toNatClampNeg ≤ NB ∧ ∀ q6, μ4 q6 = none → ∀ μ8, μ8 = ups μ4 q6 (eT (if x1 < (0 : Int32) then (0 : Int32) else x1).toNatClampNeg (fun _ => none)) → ∃ f12, μ8 o = some (.inl (3, f12)) ∧ 0 < f12.length ∧ ∀ μ15, μ15 = ups μ8 o (.inl (3, f12.set 0 (.ref q6))) → post μ15
set_option maxHeartbeats 4000000 in
set_option maxRecDepth 100000 in
theorem c_X4_init (l : Launch) (G : gG) (A : Nat → Prop) (NB : Nat) (hNB : NB ≤ 1000) (o : Nat) (x1 : Int32) (μ : Mm) (post : Mm → Prop) (h : wp_X4_init o NB x1 μ post) : Met l yX4_init (.code yX4_init cX4_init 2 none :: wsA) (rmL (0) 1 NB) (PcG G A μ [.ref o, .int x1]) (QG G A (pV post)) 1 NB A := by
  refine met_J (loc := [(0, .ref o), (1, .int x1)]) (by decide +kernel) (Nat.le_of_ble_eq_true rfl) rfl ?_
  intro p e s m args below meth c X hin
  have X : Cx p l s m args meth c cX4_init 2 none RX4 G A := X
  have hw := h
  unfold wp_X4_init at hw
  refine j_aload_n X (pc' := 1) (kk := 0) (i := 0) 0 rfl rfl dX4_init_0 rfl ?_
  refine j_objInit X (pc' := 4) wt_1_29 wt_1_22 wt_1_23 (by show 1 ≤ _ + 6; omega) (Nat.le_trans (m := 120) (Nat.le_of_ble_eq_true rfl) (by show 120 ≤ 40 * _ + 120; omega)) dX4_init_1 rfl ?_
  refine j_aload_n X (pc' := 5) (kk := 0) (i := 0) 0 rfl rfl dX4_init_4 rfl ?_
  refine j_iconst X (pc' := 6) (v := 0) (by decide) dX4_init_5 rfl ?_
  obtain ⟨f1, hm2, hl3, hw1⟩ := hw
  refine jp_putf X (pc' := 9) (ty := .int) hm2 1 hl3 rfl fw_TX4 tyX4_ok nmX4 (by decide) rfl wt_1_36 (by decide +kernel) rfl rfl dX4_init_6 rfl (fun μ4 e5 => ?_)
  have hw2 := hw1 μ4 e5
  refine j_aload_n X (pc' := 10) (kk := 0) (i := 0) 0 rfl rfl dX4_init_9 rfl ?_
  refine j_iload_n X (pc' := 11) (kk := 1) (i := 1) 1 rfl rfl dX4_init_10 rfl ?_
  refine j_iconst X (pc' := 12) (v := 0) (by decide) dX4_init_11 rfl ?_
  refine j_max X (pc' := 15) wt_1_30 wt_1_31 wt_1_3 wt_1_32 (by show 1 ≤ _ + 6; omega) (Nat.le_trans (m := 120) (Nat.le_of_ble_eq_true rfl) (by show 120 ≤ 40 * _ + 120; omega)) (Nat.le_of_ble_eq_true rfl) (Nat.le_of_ble_eq_true rfl) dX4_init_12 rfl ?_
  obtain ⟨h10, h11, hw3⟩ := hw2
  refine jp_newT X (pc' := 18) wt_1_33 h10 rfl (by omega) (Nat.le_refl _) (by show 0 + _ ≤ NB; omega) rfl rfl dX4_init_15 rfl (fun q6 hq7 μ8 e9 => ?_)
  have hw4 := hw3 q6 hq7 μ8 e9
  refine j_widen (k1 := 1) (n1 := NB) (by omega) (by omega) ?_
  obtain ⟨f12, hm13, hl14, hw5⟩ := hw4
  refine jp_putF X (pc' := 21) (ty := (.array (.object "BitNotation$Type"))) hin hm13 0 hl14 rfl fw_TX4 tyX4_ok nmX4 (by decide) rfl rfl wt_1_35 (by decide +kernel) rfl rfl dX4_init_18 rfl (fun μ15 e16 => ?_)
  have hw6 := hw5 μ15 e16
  exact j_vret X ⟨rfl, hw6⟩ (by omega) (by omega) dX4_init_21
/-! BitNotation$TypeRow.isFull()Z -/
theorem dX4_isFull_0 : decode cX4_isFull 0 = .ok (.aload_n 0, 1) := by decide +kernel
theorem dX4_isFull_1 : decode cX4_isFull 1 = .ok (.getfield 7, 3) := by decide +kernel
theorem dX4_isFull_4 : decode cX4_isFull 4 = .ok (.aload_n 0, 1) := by decide +kernel
theorem dX4_isFull_5 : decode cX4_isFull 5 = .ok (.getfield 21, 3) := by decide +kernel
theorem dX4_isFull_8 : decode cX4_isFull 8 = .ok (.arraylength, 1) := by decide +kernel
theorem dX4_isFull_9 : decode cX4_isFull 9 = .ok (.if_icmp .lt 7, 3) := by decide +kernel
theorem dX4_isFull_12 : decode cX4_isFull 12 = .ok (.iconst 1, 1) := by decide +kernel
theorem dX4_isFull_13 : decode cX4_isFull 13 = .ok (.goto 4, 3) := by decide +kernel
theorem dX4_isFull_16 : decode cX4_isFull 16 = .ok (.iconst 0, 1) := by decide +kernel
theorem dX4_isFull_17 : decode cX4_isFull 17 = .ok (.ireturn, 1) := by decide +kernel
def wp_X4_isFull (o : Nat) (μ : Mm) (post : Int32 → Mm → Prop) : Prop := ∃ f1 g2, μ o = some (.inl (3, f1)) ∧ f1[1]? = some (.int g2) ∧ ∃ f5 g6, μ o = some (.inl (3, f5)) ∧ f5[0]? = some (.ref g6) ∧ ∃ n9 f10, μ g6 = some (eT n9 f10) ∧ (g2 < (nI n9) → (post (0 : Int32) μ)) ∧ (¬ g2 < (nI n9) → (post (1 : Int32) μ))
set_option maxHeartbeats 4000000 in
set_option maxRecDepth 100000 in
theorem c_X4_isFull (l : Launch) (G : gG) (A : Nat → Prop) (o : Nat) (μ : Mm) (post : Int32 → Mm → Prop) (h : wp_X4_isFull o μ post) : Met l yX4_isFull (.code yX4_isFull cX4_isFull 1 (some .boolean) :: wsA) (rmL (0) 0 0) (PcG G A μ [.ref o]) (QG G A (pI post)) 0 0 A := by
  refine met_J (loc := [(0, .ref o)]) (by decide +kernel) (Nat.le_of_ble_eq_true rfl) rfl ?_
  intro p e s m args below meth c X hin
  have X : Cx p l s m args meth c cX4_isFull 1 (some .boolean) RX4 G A := X
  have hw := h
  unfold wp_X4_isFull at hw
  refine j_aload_n X (pc' := 1) (kk := 0) (i := 0) 0 rfl rfl dX4_isFull_0 rfl ?_
  obtain ⟨f1, g2, hm3, hv4, hw1⟩ := hw
  refine j_getf X (pc' := 4) hm3 1 hv4 rfl fw_TX4 (by decide) wt_1_36 dX4_isFull_1 rfl ?_
  refine j_aload_n X (pc' := 5) (kk := 0) (i := 0) 0 rfl rfl dX4_isFull_4 rfl ?_
  obtain ⟨f5, g6, hm7, hv8, hw2⟩ := hw1
  refine j_getf X (pc' := 8) hm7 0 hv8 rfl fw_TX4 (by decide) wt_1_35 dX4_isFull_5 rfl ?_
  obtain ⟨n9, f10, hm11, hw3⟩ := hw2
  refine j_alen X (pc' := 9) hm11 dX4_isFull_8 rfl ?_
  refine j_icmp_lt X (pc' := 12) (tgt := 16) dX4_isFull_9 rfl (by decide) (fun c12 => ?_) (fun c12 => ?_)
  · have hw4 := hw3.1 c12
    refine j_iconst X (pc' := 17) (v := 0) (by decide) dX4_isFull_16 rfl ?_
    exact j_zret X (Or.inl rfl) ⟨_, rfl, hw4⟩ (Nat.le_of_ble_eq_true rfl) (Nat.le_of_ble_eq_true rfl) dX4_isFull_17
  · have hw5 := hw3.2 c12
    refine j_iconst X (pc' := 13) (v := 1) (by decide) dX4_isFull_12 rfl ?_
    refine j_goto X (tgt := 17) dX4_isFull_13 (by decide) ?_
    exact j_zret X (Or.inr rfl) ⟨_, rfl, hw5⟩ (Nat.le_of_ble_eq_true rfl) (Nat.le_of_ble_eq_true rfl) dX4_isFull_17
/-! BitNotation$TypeRow.append(LBitNotation$Type;)V -/
theorem dX4_append_0 : decode cX4_append 0 = .ok (.aload_n 0, 1) := by decide +kernel
theorem dX4_append_1 : decode cX4_append 1 = .ok (.getfield 7, 3) := by decide +kernel
theorem dX4_append_4 : decode cX4_append 4 = .ok (.ifCond .lt 35, 3) := by decide +kernel
theorem dX4_append_7 : decode cX4_append 7 = .ok (.aload_n 0, 1) := by decide +kernel
theorem dX4_append_8 : decode cX4_append 8 = .ok (.getfield 7, 3) := by decide +kernel
theorem dX4_append_11 : decode cX4_append 11 = .ok (.aload_n 0, 1) := by decide +kernel
theorem dX4_append_12 : decode cX4_append 12 = .ok (.getfield 21, 3) := by decide +kernel
theorem dX4_append_15 : decode cX4_append 15 = .ok (.arraylength, 1) := by decide +kernel
theorem dX4_append_16 : decode cX4_append 16 = .ok (.if_icmp .ge 23, 3) := by decide +kernel
theorem dX4_append_19 : decode cX4_append 19 = .ok (.aload_n 0, 1) := by decide +kernel
theorem dX4_append_20 : decode cX4_append 20 = .ok (.getfield 21, 3) := by decide +kernel
theorem dX4_append_23 : decode cX4_append 23 = .ok (.aload_n 0, 1) := by decide +kernel
theorem dX4_append_24 : decode cX4_append 24 = .ok (.getfield 7, 3) := by decide +kernel
theorem dX4_append_27 : decode cX4_append 27 = .ok (.aload_n 1, 1) := by decide +kernel
theorem dX4_append_28 : decode cX4_append 28 = .ok (.aastore, 1) := by decide +kernel
theorem dX4_append_29 : decode cX4_append 29 = .ok (.aload_n 0, 1) := by decide +kernel
theorem dX4_append_30 : decode cX4_append 30 = .ok (.dup, 1) := by decide +kernel
theorem dX4_append_31 : decode cX4_append 31 = .ok (.getfield 7, 3) := by decide +kernel
theorem dX4_append_34 : decode cX4_append 34 = .ok (.iconst 1, 1) := by decide +kernel
theorem dX4_append_35 : decode cX4_append 35 = .ok (.iadd, 1) := by decide +kernel
theorem dX4_append_36 : decode cX4_append 36 = .ok (.putfield 7, 3) := by decide +kernel
theorem dX4_append_39 : decode cX4_append 39 = .ok (.return_, 1) := by decide +kernel
def wp_X4_append (o : Nat) (x1 : Nat) (μ : Mm) (post : Mm → Prop) : Prop := ∃ f1 g2, μ o = some (.inl (3, f1)) ∧ f1[1]? = some (.int g2) ∧ (g2 < 0 → (post μ)) ∧ (¬ g2 < 0 → (∃ f6 g7, μ o = some (.inl (3, f6)) ∧ f6[1]? = some (.int g7) ∧ ∃ f10 g11, μ o = some (.inl (3, f10)) ∧ f10[0]? = some (.ref g11) ∧ ∃ n14 f15, μ g11 = some (eT n14 f15) ∧ ((nI n14) ≤ g7 → (post μ)) ∧ (¬ (nI n14) ≤ g7 → (∃ f18 g19, μ o = some (.inl (3, f18)) ∧ f18[0]? = some (.ref g19) ∧ ∃ f22 g23, μ o = some (.inl (3, f22)) ∧ f22[1]? = some (.int g23) ∧ ∃ n26 f27, μ g19 = some (eT n26 f27) ∧ vp_in g23 n26 ∧ (∃ f32, μ x1 = some (.inl (2, f32))) ∧ ∀ μ30, μ30 = ups μ g19 (eT n26 (va_up f27 g23.toNatClampNeg (some x1))) → ∃ f34 g35, μ30 o = some (.inl (3, f34)) ∧ f34[1]? = some (.int g35) ∧ ∃ f38, μ30 o = some (.inl (3, f38)) ∧ 1 < f38.length ∧ ∀ μ41, μ41 = ups μ30 o (.inl (3, f38.set 1 (.int (g35 + (1 : Int32))))) → post μ41))))
set_option maxHeartbeats 4000000 in
set_option maxRecDepth 100000 in
theorem c_X4_append (l : Launch) (G : gG) (A : Nat → Prop) (o : Nat) (x1 : Nat) (μ : Mm) (post : Mm → Prop) (h : wp_X4_append o x1 μ post) : Met l yX4_append (.code yX4_append cX4_append 2 none :: wsA) (rmL (0) 0 0) (PcG G A μ [.ref o, .ref x1]) (QG G A (pV post)) 0 0 A := by
  refine met_J (loc := [(0, .ref o), (1, .ref x1)]) (by decide +kernel) (Nat.le_of_ble_eq_true rfl) rfl ?_
  intro p e s m args below meth c X hin
  have X : Cx p l s m args meth c cX4_append 2 none RX4 G A := X
  have hw := h
  unfold wp_X4_append at hw
  refine j_aload_n X (pc' := 1) (kk := 0) (i := 0) 0 rfl rfl dX4_append_0 rfl ?_
  obtain ⟨f1, g2, hm3, hv4, hw1⟩ := hw
  refine j_getf X (pc' := 4) hm3 1 hv4 rfl fw_TX4 (by decide) wt_1_36 dX4_append_1 rfl ?_
  refine j_if_lt X (pc' := 7) (tgt := 39) dX4_append_4 rfl (by decide) (fun c5 => ?_) (fun c5 => ?_)
  · have hw2 := hw1.1 c5
    exact j_vret X ⟨rfl, hw2⟩ (Nat.le_of_ble_eq_true rfl) (Nat.le_of_ble_eq_true rfl) dX4_append_39
  · have hw3 := hw1.2 c5
    refine j_aload_n X (pc' := 8) (kk := 0) (i := 0) 0 rfl rfl dX4_append_7 rfl ?_
    obtain ⟨f6, g7, hm8, hv9, hw4⟩ := hw3
    refine j_getf X (pc' := 11) hm8 1 hv9 rfl fw_TX4 (by decide) wt_1_36 dX4_append_8 rfl ?_
    refine j_aload_n X (pc' := 12) (kk := 0) (i := 0) 0 rfl rfl dX4_append_11 rfl ?_
    obtain ⟨f10, g11, hm12, hv13, hw5⟩ := hw4
    refine j_getf X (pc' := 15) hm12 0 hv13 rfl fw_TX4 (by decide) wt_1_35 dX4_append_12 rfl ?_
    obtain ⟨n14, f15, hm16, hw6⟩ := hw5
    refine j_alen X (pc' := 16) hm16 dX4_append_15 rfl ?_
    refine j_icmp_ge X (pc' := 19) (tgt := 39) dX4_append_16 rfl (by decide) (fun c17 => ?_) (fun c17 => ?_)
    · have hw7 := hw6.1 c17
      exact j_vret X ⟨rfl, hw7⟩ (Nat.le_of_ble_eq_true rfl) (Nat.le_of_ble_eq_true rfl) dX4_append_39
    · have hw8 := hw6.2 c17
      refine j_aload_n X (pc' := 20) (kk := 0) (i := 0) 0 rfl rfl dX4_append_19 rfl ?_
      obtain ⟨f18, g19, hm20, hv21, hw9⟩ := hw8
      refine j_getf X (pc' := 23) hm20 0 hv21 rfl fw_TX4 (by decide) wt_1_35 dX4_append_20 rfl ?_
      refine j_aload_n X (pc' := 24) (kk := 0) (i := 0) 0 rfl rfl dX4_append_23 rfl ?_
      obtain ⟨f22, g23, hm24, hv25, hw10⟩ := hw9
      refine j_getf X (pc' := 27) hm24 1 hv25 rfl fw_TX4 (by decide) wt_1_36 dX4_append_24 rfl ?_
      refine j_aload_n X (pc' := 28) (kk := 1) (i := 1) 1 rfl rfl dX4_append_27 rfl ?_
      obtain ⟨n26, f27, hm28, hi29, ⟨f32, hm33⟩, hw11⟩ := hw10
      refine jp_aast X (pc' := 29) hm28 hm33 hi29 dX4_append_28 rfl (fun μ30 e31 => ?_)
      have hw12 := hw11 μ30 e31
      refine j_aload_n X (pc' := 30) (kk := 0) (i := 0) 0 rfl rfl dX4_append_29 rfl ?_
      refine j_dup X (pc' := 31) rfl dX4_append_30 rfl ?_
      obtain ⟨f34, g35, hm36, hv37, hw13⟩ := hw12
      refine j_getf X (pc' := 34) hm36 1 hv37 rfl fw_TX4 (by decide) wt_1_36 dX4_append_31 rfl ?_
      refine j_iconst X (pc' := 35) (v := 1) (by decide) dX4_append_34 rfl ?_
      refine j_iadd X (pc' := 36) dX4_append_35 rfl ?_
      obtain ⟨f38, hm39, hl40, hw14⟩ := hw13
      refine jp_putf X (pc' := 39) (ty := .int) hm39 1 hl40 rfl fw_TX4 tyX4_ok nmX4 (by decide) rfl wt_1_36 (by decide +kernel) rfl rfl dX4_append_36 rfl (fun μ41 e42 => ?_)
      have hw15 := hw14 μ41 e42
      exact j_vret X ⟨rfl, hw15⟩ (Nat.le_of_ble_eq_true rfl) (Nat.le_of_ble_eq_true rfl) dX4_append_39
/-! BitNotation$TypeRow.dropLast()V -/
theorem dX4_dropLast_0 : decode cX4_dropLast 0 = .ok (.aload_n 0, 1) := by decide +kernel
theorem dX4_dropLast_1 : decode cX4_dropLast 1 = .ok (.getfield 7, 3) := by decide +kernel
theorem dX4_dropLast_4 : decode cX4_dropLast 4 = .ok (.ifCond .le 13, 3) := by decide +kernel
theorem dX4_dropLast_7 : decode cX4_dropLast 7 = .ok (.aload_n 0, 1) := by decide +kernel
theorem dX4_dropLast_8 : decode cX4_dropLast 8 = .ok (.dup, 1) := by decide +kernel
theorem dX4_dropLast_9 : decode cX4_dropLast 9 = .ok (.getfield 7, 3) := by decide +kernel
theorem dX4_dropLast_12 : decode cX4_dropLast 12 = .ok (.iconst 1, 1) := by decide +kernel
theorem dX4_dropLast_13 : decode cX4_dropLast 13 = .ok (.isub, 1) := by decide +kernel
theorem dX4_dropLast_14 : decode cX4_dropLast 14 = .ok (.putfield 7, 3) := by decide +kernel
theorem dX4_dropLast_17 : decode cX4_dropLast 17 = .ok (.return_, 1) := by decide +kernel
def wp_X4_dropLast (o : Nat) (μ : Mm) (post : Mm → Prop) : Prop := ∃ f1 g2, μ o = some (.inl (3, f1)) ∧ f1[1]? = some (.int g2) ∧ (g2 ≤ 0 → (post μ)) ∧ (¬ g2 ≤ 0 → (∃ f6 g7, μ o = some (.inl (3, f6)) ∧ f6[1]? = some (.int g7) ∧ ∃ f10, μ o = some (.inl (3, f10)) ∧ 1 < f10.length ∧ ∀ μ13, μ13 = ups μ o (.inl (3, f10.set 1 (.int (g7 - (1 : Int32))))) → post μ13))
set_option maxHeartbeats 4000000 in
set_option maxRecDepth 100000 in
theorem c_X4_dropLast (l : Launch) (G : gG) (A : Nat → Prop) (o : Nat) (μ : Mm) (post : Mm → Prop) (h : wp_X4_dropLast o μ post) : Met l yX4_dropLast (.code yX4_dropLast cX4_dropLast 1 none :: wsA) (rmL (0) 0 0) (PcG G A μ [.ref o]) (QG G A (pV post)) 0 0 A := by
  refine met_J (loc := [(0, .ref o)]) (by decide +kernel) (Nat.le_of_ble_eq_true rfl) rfl ?_
  intro p e s m args below meth c X hin
  have X : Cx p l s m args meth c cX4_dropLast 1 none RX4 G A := X
  have hw := h
  unfold wp_X4_dropLast at hw
  refine j_aload_n X (pc' := 1) (kk := 0) (i := 0) 0 rfl rfl dX4_dropLast_0 rfl ?_
  obtain ⟨f1, g2, hm3, hv4, hw1⟩ := hw
  refine j_getf X (pc' := 4) hm3 1 hv4 rfl fw_TX4 (by decide) wt_1_36 dX4_dropLast_1 rfl ?_
  refine j_if_le X (pc' := 7) (tgt := 17) dX4_dropLast_4 rfl (by decide) (fun c5 => ?_) (fun c5 => ?_)
  · have hw2 := hw1.1 c5
    exact j_vret X ⟨rfl, hw2⟩ (Nat.le_of_ble_eq_true rfl) (Nat.le_of_ble_eq_true rfl) dX4_dropLast_17
  · have hw3 := hw1.2 c5
    refine j_aload_n X (pc' := 8) (kk := 0) (i := 0) 0 rfl rfl dX4_dropLast_7 rfl ?_
    refine j_dup X (pc' := 9) rfl dX4_dropLast_8 rfl ?_
    obtain ⟨f6, g7, hm8, hv9, hw4⟩ := hw3
    refine j_getf X (pc' := 12) hm8 1 hv9 rfl fw_TX4 (by decide) wt_1_36 dX4_dropLast_9 rfl ?_
    refine j_iconst X (pc' := 13) (v := 1) (by decide) dX4_dropLast_12 rfl ?_
    refine j_isub X (pc' := 14) dX4_dropLast_13 rfl ?_
    obtain ⟨f10, hm11, hl12, hw5⟩ := hw4
    refine jp_putf X (pc' := 17) (ty := .int) hm11 1 hl12 rfl fw_TX4 tyX4_ok nmX4 (by decide) rfl wt_1_36 (by decide +kernel) rfl rfl dX4_dropLast_14 rfl (fun μ13 e14 => ?_)
    have hw6 := hw5 μ13 e14
    exact j_vret X ⟨rfl, hw6⟩ (Nat.le_of_ble_eq_true rfl) (Nat.le_of_ble_eq_true rfl) dX4_dropLast_17
/-! BitNotation.widthFor(I)I -/
theorem dX6_widthFor_0 : decode cX6_widthFor 0 = .ok (.iconst 0, 1) := by decide +kernel
theorem dX6_widthFor_1 : decode cX6_widthFor 1 = .ok (.istore_n 1, 1) := by decide +kernel
theorem dX6_widthFor_2 : decode cX6_widthFor 2 = .ok (.iload_n 1, 1) := by decide +kernel
theorem dX6_widthFor_3 : decode cX6_widthFor 3 = .ok (.bipush 11, 2) := by decide +kernel
theorem dX6_widthFor_5 : decode cX6_widthFor 5 = .ok (.if_icmp .ge 16, 3) := by decide +kernel
theorem dX6_widthFor_8 : decode cX6_widthFor 8 = .ok (.iconst 1, 1) := by decide +kernel
theorem dX6_widthFor_9 : decode cX6_widthFor 9 = .ok (.iload_n 1, 1) := by decide +kernel
theorem dX6_widthFor_10 : decode cX6_widthFor 10 = .ok (.ishl, 1) := by decide +kernel
theorem dX6_widthFor_11 : decode cX6_widthFor 11 = .ok (.iload_n 0, 1) := by decide +kernel
theorem dX6_widthFor_12 : decode cX6_widthFor 12 = .ok (.if_icmp .ge 9, 3) := by decide +kernel
theorem dX6_widthFor_15 : decode cX6_widthFor 15 = .ok (.iinc 1 1, 3) := by decide +kernel
theorem dX6_widthFor_18 : decode cX6_widthFor 18 = .ok (.goto (-16), 3) := by decide +kernel
theorem dX6_widthFor_21 : decode cX6_widthFor 21 = .ok (.iload_n 1, 1) := by decide +kernel
theorem dX6_widthFor_22 : decode cX6_widthFor 22 = .ok (.ireturn, 1) := by decide +kernel
def wb_X6_widthFor_2 (post : Int32 → Prop)  : Nat → Int32 → Int32 → Prop
  | 0 => fun _ _ => False
  | n + 1 => fun v0 v1 => ((11 : Int32) ≤ v1 → (post v1 )) ∧ (¬ (11 : Int32) ≤ v1 → ((v0 ≤ ((1 : Int32) <<< (v1 &&& 31)) → (post v1 )) ∧ (¬ v0 ≤ ((1 : Int32) <<< (v1 &&& 31)) → (wb_X6_widthFor_2 post n v0 (v1 + 1)))))
set_option maxHeartbeats 4000000 in
set_option maxRecDepth 100000 in
theorem tb_X6_widthFor_2 {p : Program} {l : Launch} {e : Env} {s : State} {m : MethodId} {args : Array Value} {below : List Frame} {meth : Method} {c : Code} {G : gG} {A : Nat → Prop} {μ : Mm} {post : Int32 → Prop} (X : Cx p l s m args meth c cX6_widthFor 2 (some .int) RX6 G A) : ∀ (n : Nat) (v0 : Int32) (v1 : Int32), wb_X6_widthFor_2 post n v0 v1 → J p l e (rmL (0) 0 0) s m args below meth c 2 G A (MQ below (QG G A (pI (fun r μ9 => post r ∧ μ9 = μ))) args s 0 0 A) 0 0 2 [(0, .int v0), (1, .int v1)] [] μ := by
  intro n
  induction n with
  | zero => intro v0 v1 hw; exact hw.elim
  | succ n ih =>
    intro v0 v1 hw
    rw [wb_X6_widthFor_2] at hw
    refine j_iload_n X (pc' := 3) (kk := 1) (i := 1) 1 rfl rfl dX6_widthFor_2 rfl ?_
    refine j_bipush X (pc' := 5) (v := 11) (by decide) dX6_widthFor_3 rfl ?_
    refine j_icmp_ge X (pc' := 8) (tgt := 21) dX6_widthFor_5 rfl (by decide) (fun c1 => ?_) (fun c1 => ?_)
    · have hw1 := hw.1 c1
      refine j_iload_n X (pc' := 22) (kk := 1) (i := 1) 1 rfl rfl dX6_widthFor_21 rfl ?_
      exact j_iret X ⟨_, rfl, hw1, rfl⟩ (Nat.le_of_ble_eq_true rfl) (Nat.le_of_ble_eq_true rfl) dX6_widthFor_22
    · have hw2 := hw.2 c1
      refine j_iconst X (pc' := 9) (v := 1) (by decide) dX6_widthFor_8 rfl ?_
      refine j_iload_n X (pc' := 10) (kk := 1) (i := 1) 1 rfl rfl dX6_widthFor_9 rfl ?_
      refine j_ishl X (pc' := 11) dX6_widthFor_10 rfl ?_
      refine j_iload_n X (pc' := 12) (kk := 0) (i := 0) 0 rfl rfl dX6_widthFor_11 rfl ?_
      refine j_icmp_ge X (pc' := 15) (tgt := 21) dX6_widthFor_12 rfl (by decide) (fun c2 => ?_) (fun c2 => ?_)
      · have hw3 := hw2.1 c2
        refine j_iload_n X (pc' := 22) (kk := 1) (i := 1) 1 rfl rfl dX6_widthFor_21 rfl ?_
        exact j_iret X ⟨_, rfl, hw3, rfl⟩ (Nat.le_of_ble_eq_true rfl) (Nat.le_of_ble_eq_true rfl) dX6_widthFor_22
      · have hw4 := hw2.2 c2
        refine j_iinc X (pc' := 18) (i := 1) (v := v1 + 1) (loc' := [(1, .int (v1 + 1)), (0, .int v0)]) 1 rfl rfl dX6_widthFor_15 rfl (by decide) rfl ?_
        refine j_goto X (tgt := 2) dX6_widthFor_18 (by decide) ?_
        refine j_loc [1, 0] rfl ?_
        exact ih _ _ hw4
def wp_X6_widthFor (x1 : Int32) (post : Int32 → Prop) : Prop := ∃ n, wb_X6_widthFor_2 post n x1 (0 : Int32)
set_option maxHeartbeats 4000000 in
set_option maxRecDepth 100000 in
theorem c_X6_widthFor (l : Launch) (G : gG) (A : Nat → Prop) (μ : Mm) (x1 : Int32) (post : Int32 → Prop) (h : wp_X6_widthFor x1 post) : Met l yX6_widthFor (.code yX6_widthFor cX6_widthFor 2 (some .int) :: wsA) (rmL (0) 0 0) (PcG G A μ [.int x1]) (QG G A (pI (fun r μ9 => post r ∧ μ9 = μ))) 0 0 A := by
  refine met_J (loc := [(0, .int x1)]) (by decide +kernel) (Nat.le_of_ble_eq_true rfl) rfl ?_
  intro p e s m args below meth c X hin
  have X : Cx p l s m args meth c cX6_widthFor 2 (some .int) RX6 G A := X
  have hw := h
  unfold wp_X6_widthFor at hw
  refine j_iconst X (pc' := 1) (v := 0) (by decide) dX6_widthFor_0 rfl ?_
  refine j_istore_n X (pc' := 2) (kk := 1) (i := 1) (loc' := [(1, .int ((0 : Int32))), (0, .int x1)]) dX6_widthFor_1 rfl rfl (by decide) rfl ?_
  obtain ⟨n0, hw1⟩ := hw
  refine j_loc [1, 0] rfl ?_
  exact tb_X6_widthFor_2 X n0 _ _ hw1
/-! BitNotation.isOutside(III)Z -/
theorem dX6_isOutside_0 : decode cX6_isOutside 0 = .ok (.iload_n 0, 1) := by decide +kernel
theorem dX6_isOutside_1 : decode cX6_isOutside 1 = .ok (.iload_n 1, 1) := by decide +kernel
theorem dX6_isOutside_2 : decode cX6_isOutside 2 = .ok (.if_icmp .lt 8, 3) := by decide +kernel
theorem dX6_isOutside_5 : decode cX6_isOutside 5 = .ok (.iload_n 0, 1) := by decide +kernel
theorem dX6_isOutside_6 : decode cX6_isOutside 6 = .ok (.iload_n 2, 1) := by decide +kernel
theorem dX6_isOutside_7 : decode cX6_isOutside 7 = .ok (.if_icmp .le 7, 3) := by decide +kernel
theorem dX6_isOutside_10 : decode cX6_isOutside 10 = .ok (.iconst 1, 1) := by decide +kernel
theorem dX6_isOutside_11 : decode cX6_isOutside 11 = .ok (.goto 4, 3) := by decide +kernel
theorem dX6_isOutside_14 : decode cX6_isOutside 14 = .ok (.iconst 0, 1) := by decide +kernel
theorem dX6_isOutside_15 : decode cX6_isOutside 15 = .ok (.ireturn, 1) := by decide +kernel
def wp_X6_isOutside (x1 : Int32) (x2 : Int32) (x3 : Int32) (post : Int32 → Prop) : Prop := (x1 < x2 → (post (1 : Int32) )) ∧ (¬ x1 < x2 → ((x1 ≤ x3 → (post (0 : Int32) )) ∧ (¬ x1 ≤ x3 → (post (1 : Int32) ))))
set_option maxHeartbeats 4000000 in
set_option maxRecDepth 100000 in
theorem c_X6_isOutside (l : Launch) (G : gG) (A : Nat → Prop) (μ : Mm) (x1 : Int32) (x2 : Int32) (x3 : Int32) (post : Int32 → Prop) (h : wp_X6_isOutside x1 x2 x3 post) : Met l yX6_isOutside (.code yX6_isOutside cX6_isOutside 3 (some .boolean) :: wsA) (rmL (0) 0 0) (PcG G A μ [.int x1, .int x2, .int x3]) (QG G A (pI (fun r μ9 => post r ∧ μ9 = μ))) 0 0 A := by
  refine met_J (loc := [(0, .int x1), (1, .int x2), (2, .int x3)]) (by decide +kernel) (Nat.le_of_ble_eq_true rfl) rfl ?_
  intro p e s m args below meth c X hin
  have X : Cx p l s m args meth c cX6_isOutside 3 (some .boolean) RX6 G A := X
  have hw := h
  unfold wp_X6_isOutside at hw
  refine j_iload_n X (pc' := 1) (kk := 0) (i := 0) 0 rfl rfl dX6_isOutside_0 rfl ?_
  refine j_iload_n X (pc' := 2) (kk := 1) (i := 1) 1 rfl rfl dX6_isOutside_1 rfl ?_
  refine j_icmp_lt X (pc' := 5) (tgt := 10) dX6_isOutside_2 rfl (by decide) (fun c1 => ?_) (fun c1 => ?_)
  · have hw1 := hw.1 c1
    refine j_iconst X (pc' := 11) (v := 1) (by decide) dX6_isOutside_10 rfl ?_
    refine j_goto X (tgt := 15) dX6_isOutside_11 (by decide) ?_
    exact j_zret X (Or.inr rfl) ⟨_, rfl, hw1, rfl⟩ (Nat.le_of_ble_eq_true rfl) (Nat.le_of_ble_eq_true rfl) dX6_isOutside_15
  · have hw2 := hw.2 c1
    refine j_iload_n X (pc' := 6) (kk := 0) (i := 0) 0 rfl rfl dX6_isOutside_5 rfl ?_
    refine j_iload_n X (pc' := 7) (kk := 2) (i := 2) 2 rfl rfl dX6_isOutside_6 rfl ?_
    refine j_icmp_le X (pc' := 10) (tgt := 14) dX6_isOutside_7 rfl (by decide) (fun c2 => ?_) (fun c2 => ?_)
    · have hw3 := hw2.1 c2
      refine j_iconst X (pc' := 15) (v := 0) (by decide) dX6_isOutside_14 rfl ?_
      exact j_zret X (Or.inl rfl) ⟨_, rfl, hw3, rfl⟩ (Nat.le_of_ble_eq_true rfl) (Nat.le_of_ble_eq_true rfl) dX6_isOutside_15
    · have hw4 := hw2.2 c2
      refine j_iconst X (pc' := 11) (v := 1) (by decide) dX6_isOutside_10 rfl ?_
      refine j_goto X (tgt := 15) dX6_isOutside_11 (by decide) ?_
      exact j_zret X (Or.inr rfl) ⟨_, rfl, hw4, rfl⟩ (Nat.le_of_ble_eq_true rfl) (Nat.le_of_ble_eq_true rfl) dX6_isOutside_15
