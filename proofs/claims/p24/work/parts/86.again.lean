theorem hd_L_again : yL_again.cls ≠ "java/lang/invoke/MethodHandle" ∧ yL_again.cls ≠ "java/lang/invoke/VarHandle" ∧ (parseMethodDescriptor yL_again.desc).map (fun d => d.parameters.length) = some 3 := ⟨by decide +kernel, by decide +kernel, by decide +kernel⟩
theorem gk_L_again {own : String} {idx : Nat} (h : Cond.methodLink own idx yL_again ∈ wsA) : GoodIn wsA (va_wsS own idx yL_again (.code yL_again cL_again 7 (some .int) :: wsA)) := gd_S h wt_3_173 wt_1_0 wt_3_174
/-! BitNotationLaw.again(LBitNotation;II)I -/
theorem dL_again_0 : decode cL_again 0 = .ok (.aload_n 0, 1) := by decide +kernel
theorem dL_again_1 : decode cL_again 1 = .ok (.invokevirtual 110, 3) := by decide +kernel
theorem dL_again_4 : decode cL_again 4 = .ok (.iconst 1, 1) := by decide +kernel
theorem dL_again_5 : decode cL_again 5 = .ok (.isub, 1) := by decide +kernel
theorem dL_again_6 : decode cL_again 6 = .ok (.istore_n 3, 1) := by decide +kernel
theorem dL_again_7 : decode cL_again 7 = .ok (.bipush 64, 2) := by decide +kernel
theorem dL_again_9 : decode cL_again 9 = .ok (.newarray .int, 2) := by decide +kernel
theorem dL_again_11 : decode cL_again 11 = .ok (.astore 4, 2) := by decide +kernel
theorem dL_again_13 : decode cL_again 13 = .ok (.iconst 0, 1) := by decide +kernel
theorem dL_again_14 : decode cL_again 14 = .ok (.istore 5, 2) := by decide +kernel
theorem dL_again_16 : decode cL_again 16 = .ok (.iload 5, 2) := by decide +kernel
theorem dL_again_18 : decode cL_again 18 = .ok (.iload_n 3, 1) := by decide +kernel
theorem dL_again_19 : decode cL_again 19 = .ok (.if_icmp .ge 20, 3) := by decide +kernel
theorem dL_again_22 : decode cL_again 22 = .ok (.aload 4, 2) := by decide +kernel
theorem dL_again_24 : decode cL_again 24 = .ok (.iload 5, 2) := by decide +kernel
theorem dL_again_26 : decode cL_again 26 = .ok (.aload_n 0, 1) := by decide +kernel
theorem dL_again_27 : decode cL_again 27 = .ok (.iload 5, 2) := by decide +kernel
theorem dL_again_29 : decode cL_again 29 = .ok (.invokestatic 108, 3) := by decide +kernel
theorem dL_again_32 : decode cL_again 32 = .ok (.iastore, 1) := by decide +kernel
theorem dL_again_33 : decode cL_again 33 = .ok (.iinc 5 1, 3) := by decide +kernel
theorem dL_again_36 : decode cL_again 36 = .ok (.goto (-20), 3) := by decide +kernel
theorem dL_again_39 : decode cL_again 39 = .ok (.bipush (-4), 2) := by decide +kernel
theorem dL_again_41 : decode cL_again 41 = .ok (.istore 5, 2) := by decide +kernel
theorem dL_again_43 : decode cL_again 43 = .ok (.iload 5, 2) := by decide +kernel
theorem dL_again_45 : decode cL_again 45 = .ok (.bipush 9, 2) := by decide +kernel
theorem dL_again_47 : decode cL_again 47 = .ok (.if_icmp .ge 61, 3) := by decide +kernel
theorem dL_again_50 : decode cL_again 50 = .ok (.aload_n 0, 1) := by decide +kernel
theorem dL_again_51 : decode cL_again 51 = .ok (.invokevirtual 140, 3) := by decide +kernel
theorem dL_again_54 : decode cL_again 54 = .ok (.pop, 1) := by decide +kernel
theorem dL_again_55 : decode cL_again 55 = .ok (.iconst 0, 1) := by decide +kernel
theorem dL_again_56 : decode cL_again 56 = .ok (.istore 6, 2) := by decide +kernel
theorem dL_again_58 : decode cL_again 58 = .ok (.iload 6, 2) := by decide +kernel
theorem dL_again_60 : decode cL_again 60 = .ok (.iload_n 3, 1) := by decide +kernel
theorem dL_again_61 : decode cL_again 61 = .ok (.if_icmp .ge 19, 3) := by decide +kernel
theorem dL_again_64 : decode cL_again 64 = .ok (.aload_n 0, 1) := by decide +kernel
theorem dL_again_65 : decode cL_again 65 = .ok (.aload 4, 2) := by decide +kernel
theorem dL_again_67 : decode cL_again 67 = .ok (.iload 6, 2) := by decide +kernel
theorem dL_again_69 : decode cL_again 69 = .ok (.iaload, 1) := by decide +kernel
theorem dL_again_70 : decode cL_again 70 = .ok (.invokestatic 105, 3) := by decide +kernel
theorem dL_again_73 : decode cL_again 73 = .ok (.pop, 1) := by decide +kernel
theorem dL_again_74 : decode cL_again 74 = .ok (.iinc 6 1, 3) := by decide +kernel
theorem dL_again_77 : decode cL_again 77 = .ok (.goto (-19), 3) := by decide +kernel
theorem dL_again_80 : decode cL_again 80 = .ok (.aload_n 0, 1) := by decide +kernel
theorem dL_again_81 : decode cL_again 81 = .ok (.iload 5, 2) := by decide +kernel
theorem dL_again_83 : decode cL_again 83 = .ok (.invokestatic 105, 3) := by decide +kernel
theorem dL_again_86 : decode cL_again 86 = .ok (.pop, 1) := by decide +kernel
theorem dL_again_87 : decode cL_again 87 = .ok (.aload_n 0, 1) := by decide +kernel
theorem dL_again_88 : decode cL_again 88 = .ok (.iload_n 1, 1) := by decide +kernel
theorem dL_again_89 : decode cL_again 89 = .ok (.invokestatic 113, 3) := by decide +kernel
theorem dL_again_92 : decode cL_again 92 = .ok (.iload_n 2, 1) := by decide +kernel
theorem dL_again_93 : decode cL_again 93 = .ok (.if_icmp .eq 9, 3) := by decide +kernel
theorem dL_again_96 : decode cL_again 96 = .ok (.aload_n 0, 1) := by decide +kernel
theorem dL_again_97 : decode cL_again 97 = .ok (.iload_n 1, 1) := by decide +kernel
theorem dL_again_98 : decode cL_again 98 = .ok (.invokestatic 113, 3) := by decide +kernel
theorem dL_again_101 : decode cL_again 101 = .ok (.ireturn, 1) := by decide +kernel
theorem dL_again_102 : decode cL_again 102 = .ok (.iinc 5 1, 3) := by decide +kernel
theorem dL_again_105 : decode cL_again 105 = .ok (.goto (-62), 3) := by decide +kernel
theorem dL_again_108 : decode cL_again 108 = .ok (.bipush (-2), 2) := by decide +kernel
theorem dL_again_110 : decode cL_again 110 = .ok (.ireturn, 1) := by decide +kernel
def wb_L_again_58 (x1 : Nat) (kd : Nat → Nat) (post : Int32 → Mm → Prop) (K43 : Int32 → Int32 → Int32 → Nat → Int32 → Mm → Mm → Nat → Prop) : Nat → Int32 → Int32 → Int32 → Nat → Int32 → Int32 → Mm → Mm → Nat → Prop
  | 0 => fun _ _ _ _ _ _ _ _ _ => False
  | n + 1 => fun v1 v2 v3 v4 v5 v6 μ1 μ2 cz => (v3 ≤ v6 → (cz ≤ 100 ∧ wp_L_tells0 x1 v5 μ1 (fun r42 μ45 => cz + 1 ≤ 100 ∧ wp_L_wrong kd x1 v1 μ45 (fun r48 μ51 => (r48 = v2 → (K43 v1 v2 v3 v4 (v5 + 1) μ51 μ2 (cz + 1))) ∧ (¬ r48 = v2 → (cz + 2 ≤ 100 ∧ wp_L_wrong kd x1 v1 μ51 (fun r55 μ58 => cz + 2 ≤ 100 ∧ post r55 μ58))))))) ∧ (¬ v3 ≤ v6 → (∃ n61 f62, μ2 v4 = some (eI n61 f62) ∧ vp_in v6 n61 ∧ cz ≤ 100 ∧ wp_L_tells0 x1 (f62 v6.toNatClampNeg) μ1 (fun r66 μ69 => wb_L_again_58 x1 kd post K43 n v1 v2 v3 v4 v5 (v6 + 1) μ69 μ2 cz)))
set_option maxHeartbeats 4000000 in
set_option maxRecDepth 100000 in
theorem tb_L_again_58 {p : Program} {l : Launch} {e : Env} {s : State} {m : MethodId} {args : Array Value} {below : List Frame} {meth : Method} {c : Code} {G : gG} {A : Nat → Prop} {x1 : Nat} {kd : Nat → Nat} {post : Int32 → Mm → Prop} {K43 : Int32 → Int32 → Int32 → Nat → Int32 → Mm → Mm → Nat → Prop} (X : Cx p l s m args meth c cL_again 7 (some .int) RL G A) (hl0 : l.stackTraces = false) (hkd : G.2.2 = kd) (hK43 : ∀ (v1 : Int32) (v2 : Int32) (v3 : Int32) (v4 : Nat) (v5 : Int32) (μ1 : Mm) (μ2 : Mm) (cz : Nat), disM μ1 μ2 → K43 v1 v2 v3 v4 v5 μ1 μ2 cz → J p l e (rmL (79) 100 800) s m args below meth c 7 G A (MQ below (QG G A (pI post)) args s 100 800 A) cz (8 * cz) 43 [(0, .ref x1), (1, .int v1), (2, .int v2), (3, .int v3), (4, .ref v4), (5, .int v5)] [] (joinM μ1 μ2)) : ∀ (n : Nat) (v1 : Int32) (v2 : Int32) (v3 : Int32) (v4 : Nat) (v5 : Int32) (v6 : Int32) (μ1 : Mm) (μ2 : Mm) (cz : Nat), disM μ1 μ2 → wb_L_again_58 x1 kd post K43 n v1 v2 v3 v4 v5 v6 μ1 μ2 cz → J p l e (rmL (79) 100 800) s m args below meth c 7 G A (MQ below (QG G A (pI post)) args s 100 800 A) cz (8 * cz) 58 [(0, .ref x1), (1, .int v1), (2, .int v2), (3, .int v3), (4, .ref v4), (5, .int v5), (6, .int v6)] [] (joinM μ1 μ2) := by
  intro n
  induction n with
  | zero => intro v1 v2 v3 v4 v5 v6 μ1 μ2 cz hd hw; exact hw.elim
  | succ n ih =>
    intro v1 v2 v3 v4 v5 v6 μ1 μ2 cz hd hw
    rw [wb_L_again_58] at hw
    refine j_iload X (pc' := 60) (i := 6) 6 rfl dL_again_58 rfl ?_
    refine j_iload_n X (pc' := 61) (kk := 3) (i := 3) 3 rfl rfl dL_again_60 rfl ?_
    refine j_icmp_ge X (pc' := 64) (tgt := 80) dL_again_61 rfl (by decide) (fun c40 => ?_) (fun c40 => ?_)
    · have hw1 := hw.1 c40
      refine j_aload_n X (pc' := 81) (kk := 0) (i := 0) 0 rfl rfl dL_again_80 rfl ?_
      refine j_iload X (pc' := 83) (i := 5) 5 rfl dL_again_81 rfl ?_
      obtain ⟨hz41, hw2⟩ := hw1
      refine j_lawS X (pc' := 86) (As := [.ref x1, .int v5]) (rest := []) (mc1 := 0) (ms1 := 0) hd (fun A1 => c_L_tells0 l G A1 hl0 x1 v5 μ1 _ hw2) (gk_L_tells0 wt_2_188) hd_L_tells0 (rmL_fit (k1 := 2) (k := 79) (by omega) (by decide)) rfl rfl (Nat.le_of_ble_eq_true rfl) dL_again_83 rfl ⟨by show _ ≤ 100; omega, by show _ ≤ 800; omega⟩ (fun r42 μ45 hd46 hw3 => ?_)
      refine j_widen (k1 := cz) (n1 := 8 * (cz)) (by omega) (by omega) ?_
      refine j_pop X (pc' := 87) rfl dL_again_86 rfl ?_
      refine j_aload_n X (pc' := 88) (kk := 0) (i := 0) 0 rfl rfl dL_again_87 rfl ?_
      refine j_iload_n X (pc' := 89) (kk := 1) (i := 1) 1 rfl rfl dL_again_88 rfl ?_
      obtain ⟨hz47, hw4⟩ := hw3
      refine j_lawS X (pc' := 92) (As := [.ref x1, .int v1]) (rest := []) (mc1 := 1) (ms1 := 6) hd46 (fun A1 => c_L_wrong l G A1 hl0 kd hkd x1 v1 μ45 _ hw4) (gk_L_wrong wt_2_225) hd_L_wrong (rmL_fit (k1 := 77) (k := 79) (by omega) (by decide)) rfl rfl (Nat.le_of_ble_eq_true rfl) dL_again_89 rfl ⟨by show _ ≤ 100; omega, by show _ ≤ 800; omega⟩ (fun r48 μ51 hd52 hw5 => ?_)
      refine j_widen (k1 := cz + 1) (n1 := 8 * (cz + 1)) (by omega) (by omega) ?_
      refine j_iload_n X (pc' := 93) (kk := 2) (i := 2) 2 rfl rfl dL_again_92 rfl ?_
      refine j_icmp_eq X (pc' := 96) (tgt := 102) dL_again_93 rfl (by decide) (fun c53 => ?_) (fun c53 => ?_)
      · have hw6 := hw5.1 c53
        refine j_iinc X (pc' := 105) (i := 5) (v := v5 + 1) (loc' := [(5, .int (v5 + 1)), (0, .ref x1), (1, .int v1), (2, .int v2), (3, .int v3), (4, .ref v4), (6, .int v6)]) 5 rfl rfl dL_again_102 rfl (by decide) rfl ?_
        refine j_goto X (tgt := 43) dL_again_105 (by decide) ?_
        refine j_loc [1, 2, 3, 4, 5, 0] rfl ?_
        exact hK43 _ _ _ _ _ _ _ _ hd52 hw6
      · have hw7 := hw5.2 c53
        refine j_aload_n X (pc' := 97) (kk := 0) (i := 0) 0 rfl rfl dL_again_96 rfl ?_
        refine j_iload_n X (pc' := 98) (kk := 1) (i := 1) 1 rfl rfl dL_again_97 rfl ?_
        obtain ⟨hz54, hw8⟩ := hw7
        refine j_lawS X (pc' := 101) (As := [.ref x1, .int v1]) (rest := []) (mc1 := 1) (ms1 := 6) hd52 (fun A1 => c_L_wrong l G A1 hl0 kd hkd x1 v1 μ51 _ hw8) (gk_L_wrong wt_2_225) hd_L_wrong (rmL_fit (k1 := 77) (k := 79) (by omega) (by decide)) rfl rfl (Nat.le_of_ble_eq_true rfl) dL_again_98 rfl ⟨by show _ ≤ 100; omega, by show _ ≤ 800; omega⟩ (fun r55 μ58 hd59 hw9 => ?_)
        refine j_widen (k1 := cz + 2) (n1 := 8 * (cz + 2)) (by omega) (by omega) ?_
        obtain ⟨hz60, hw10⟩ := hw9
        refine j_less (μ1 := μ58) (fun a9 e9 h9 => join_1 h9) ?_
        exact j_iret X ⟨_, rfl, hw10⟩ (by omega) (by omega) dL_again_101
    · have hw11 := hw.2 c40
      refine j_aload_n X (pc' := 65) (kk := 0) (i := 0) 0 rfl rfl dL_again_64 rfl ?_
      refine j_aload X (pc' := 67) (i := 4) 4 rfl dL_again_65 rfl ?_
      refine j_iload X (pc' := 69) (i := 6) 6 rfl dL_again_67 rfl ?_
      obtain ⟨n61, f62, hm63, hi64, hw12⟩ := hw11
      refine j_iald X (pc' := 70) (join_2 hd hm63) hi64 dL_again_69 rfl ?_
      obtain ⟨hz65, hw13⟩ := hw12
      refine j_lawS X (pc' := 73) (As := [.ref x1, .int (f62 v6.toNatClampNeg)]) (rest := []) (mc1 := 0) (ms1 := 0) hd (fun A1 => c_L_tells0 l G A1 hl0 x1 (f62 v6.toNatClampNeg) μ1 _ hw13) (gk_L_tells0 wt_2_188) hd_L_tells0 (rmL_fit (k1 := 2) (k := 79) (by omega) (by decide)) rfl rfl (Nat.le_of_ble_eq_true rfl) dL_again_70 rfl ⟨by show _ ≤ 100; omega, by show _ ≤ 800; omega⟩ (fun r66 μ69 hd70 hw14 => ?_)
      refine j_widen (k1 := cz) (n1 := 8 * (cz)) (by omega) (by omega) ?_
      refine j_pop X (pc' := 74) rfl dL_again_73 rfl ?_
      refine j_iinc X (pc' := 77) (i := 6) (v := v6 + 1) (loc' := [(6, .int (v6 + 1)), (0, .ref x1), (1, .int v1), (2, .int v2), (3, .int v3), (4, .ref v4), (5, .int v5)]) 6 rfl rfl dL_again_74 rfl (by decide) rfl ?_
      refine j_goto X (tgt := 58) dL_again_77 (by decide) ?_
      refine j_loc [1, 2, 3, 4, 5, 6, 0] rfl ?_
      exact ih _ _ _ _ _ _ _ _ _ hd70 hw14
def wb_L_again_43 (x1 : Nat) (kd : Nat → Nat) (post : Int32 → Mm → Prop)  : Nat → Int32 → Int32 → Int32 → Nat → Int32 → Mm → Mm → Nat → Prop
  | 0 => fun _ _ _ _ _ _ _ _ => False
  | n + 1 => fun v1 v2 v3 v4 v5 μ1 μ2 cz => ((9 : Int32) ≤ v5 → (cz ≤ 100 ∧ post (-2 : Int32) μ1)) ∧ (¬ (9 : Int32) ≤ v5 → (cz ≤ 100 ∧ (∃ f37, μ1 x1 = some (.inl (5, f37))) ∧ wp_X6_forget x1 μ1 (fun r35 μ38 => ∃ n9, wb_L_again_58 x1 kd post (wb_L_again_43 x1 kd post n) n9 v1 v2 v3 v4 v5 (0 : Int32) μ38 μ2 cz)))
set_option maxHeartbeats 4000000 in
set_option maxRecDepth 100000 in
theorem tb_L_again_43 {p : Program} {l : Launch} {e : Env} {s : State} {m : MethodId} {args : Array Value} {below : List Frame} {meth : Method} {c : Code} {G : gG} {A : Nat → Prop} {x1 : Nat} {kd : Nat → Nat} {post : Int32 → Mm → Prop} (X : Cx p l s m args meth c cL_again 7 (some .int) RL G A) (hl0 : l.stackTraces = false) (hkd : G.2.2 = kd) : ∀ (n : Nat) (v1 : Int32) (v2 : Int32) (v3 : Int32) (v4 : Nat) (v5 : Int32) (μ1 : Mm) (μ2 : Mm) (cz : Nat), disM μ1 μ2 → wb_L_again_43 x1 kd post n v1 v2 v3 v4 v5 μ1 μ2 cz → J p l e (rmL (79) 100 800) s m args below meth c 7 G A (MQ below (QG G A (pI post)) args s 100 800 A) cz (8 * cz) 43 [(0, .ref x1), (1, .int v1), (2, .int v2), (3, .int v3), (4, .ref v4), (5, .int v5)] [] (joinM μ1 μ2) := by
  intro n
  induction n with
  | zero => intro v1 v2 v3 v4 v5 μ1 μ2 cz hd hw; exact hw.elim
  | succ n ih =>
    intro v1 v2 v3 v4 v5 μ1 μ2 cz hd hw
    rw [wb_L_again_43] at hw
    refine j_iload X (pc' := 45) (i := 5) 5 rfl dL_again_43 rfl ?_
    refine j_bipush X (pc' := 47) (v := 9) (by decide) dL_again_45 rfl ?_
    refine j_icmp_ge X (pc' := 50) (tgt := 108) dL_again_47 rfl (by decide) (fun c32 => ?_) (fun c32 => ?_)
    · have hw1 := hw.1 c32
      refine j_bipush X (pc' := 110) (v := (-2)) (by decide) dL_again_108 rfl ?_
      obtain ⟨hz33, hw2⟩ := hw1
      refine j_less (μ1 := μ1) (fun a9 e9 h9 => join_1 h9) ?_
      exact j_iret X ⟨_, rfl, hw2⟩ (by omega) (by omega) dL_again_110
    · have hw3 := hw.2 c32
      refine j_aload_n X (pc' := 51) (kk := 0) (i := 0) 0 rfl rfl dL_again_50 rfl ?_
      obtain ⟨hz34, hw4⟩ := hw3
      obtain ⟨⟨f37, hm36⟩, hw5⟩ := hw4
      refine j_lawV X (pc' := 54) (b := x1) (As := []) (rest := []) (mc1 := 0) (ms1 := 0) hd (fun A1 => c_X6_forget l G A1 x1 μ1 _ hw5) (gk_X6_forget wt_3_168) hd_X6_forget (rmL_fit (k1 := 1) (k := 79) (by omega) (by decide)) hm36 rfl rfl rfl (Nat.le_of_ble_eq_true rfl) dL_again_51 rfl ⟨by show _ ≤ 100; omega, by show _ ≤ 800; omega⟩ (fun r35 μ38 hd39 hw6 => ?_)
      refine j_widen (k1 := cz) (n1 := 8 * (cz)) (by omega) (by omega) ?_
      refine j_pop X (pc' := 55) rfl dL_again_54 rfl ?_
      refine j_iconst X (pc' := 56) (v := 0) (by decide) dL_again_55 rfl ?_
      refine j_istore X (pc' := 58) (i := 6) (loc' := [(6, .int ((0 : Int32))), (0, .ref x1), (1, .int v1), (2, .int v2), (3, .int v3), (4, .ref v4), (5, .int v5)]) dL_again_56 rfl (by decide) rfl ?_
      obtain ⟨n0, hw7⟩ := hw6
      refine j_loc [1, 2, 3, 4, 5, 6, 0] rfl ?_
      exact tb_L_again_58 X hl0 hkd ih n0 _ _ _ _ _ _ _ _ _ hd39 hw7
def wb_L_again_16 (x1 : Nat) (kd : Nat → Nat) (post : Int32 → Mm → Prop)  : Nat → Int32 → Int32 → Int32 → Nat → Int32 → Mm → Mm → Nat → Prop
  | 0 => fun _ _ _ _ _ _ _ _ => False
  | n + 1 => fun v1 v2 v3 v4 v5 μ1 μ2 cz => (v3 ≤ v5 → (∃ n9, wb_L_again_43 x1 kd post n9 v1 v2 v3 v4 (-4 : Int32) μ1 μ2 cz)) ∧ (¬ v3 ≤ v5 → (cz + 1 ≤ 100 ∧ wp_L_told x1 v5 μ1 (fun r17 μ20 => ∃ n22 f23, μ2 v4 = some (eI n22 f23) ∧ vp_in v5 n22 ∧ ∀ μ30, μ30 = ups μ2 v4 (eI n22 (upd f23 v5.toNatClampNeg r17)) → wb_L_again_16 x1 kd post n v1 v2 v3 v4 (v5 + 1) μ20 μ30 (cz + 1))))
set_option maxHeartbeats 4000000 in
set_option maxRecDepth 100000 in
theorem tb_L_again_16 {p : Program} {l : Launch} {e : Env} {s : State} {m : MethodId} {args : Array Value} {below : List Frame} {meth : Method} {c : Code} {G : gG} {A : Nat → Prop} {x1 : Nat} {kd : Nat → Nat} {post : Int32 → Mm → Prop} (X : Cx p l s m args meth c cL_again 7 (some .int) RL G A) (hl0 : l.stackTraces = false) (hkd : G.2.2 = kd) : ∀ (n : Nat) (v1 : Int32) (v2 : Int32) (v3 : Int32) (v4 : Nat) (v5 : Int32) (μ1 : Mm) (μ2 : Mm) (cz : Nat), disM μ1 μ2 → wb_L_again_16 x1 kd post n v1 v2 v3 v4 v5 μ1 μ2 cz → J p l e (rmL (79) 100 800) s m args below meth c 7 G A (MQ below (QG G A (pI post)) args s 100 800 A) cz (8 * cz) 16 [(0, .ref x1), (1, .int v1), (2, .int v2), (3, .int v3), (4, .ref v4), (5, .int v5)] [] (joinM μ1 μ2) := by
  intro n
  induction n with
  | zero => intro v1 v2 v3 v4 v5 μ1 μ2 cz hd hw; exact hw.elim
  | succ n ih =>
    intro v1 v2 v3 v4 v5 μ1 μ2 cz hd hw
    rw [wb_L_again_16] at hw
    refine j_iload X (pc' := 18) (i := 5) 5 rfl dL_again_16 rfl ?_
    refine j_iload_n X (pc' := 19) (kk := 3) (i := 3) 3 rfl rfl dL_again_18 rfl ?_
    refine j_icmp_ge X (pc' := 22) (tgt := 39) dL_again_19 rfl (by decide) (fun c15 => ?_) (fun c15 => ?_)
    · have hw1 := hw.1 c15
      refine j_bipush X (pc' := 41) (v := (-4)) (by decide) dL_again_39 rfl ?_
      refine j_istore X (pc' := 43) (i := 5) (loc' := [(5, .int ((-4 : Int32))), (0, .ref x1), (1, .int v1), (2, .int v2), (3, .int v3), (4, .ref v4)]) dL_again_41 rfl (by decide) rfl ?_
      obtain ⟨n0, hw2⟩ := hw1
      refine j_loc [1, 2, 3, 4, 5, 0] rfl ?_
      exact tb_L_again_43 X hl0 hkd n0 _ _ _ _ _ _ _ _ hd hw2
    · have hw3 := hw.2 c15
      refine j_aload X (pc' := 24) (i := 4) 4 rfl dL_again_22 rfl ?_
      refine j_iload X (pc' := 26) (i := 5) 5 rfl dL_again_24 rfl ?_
      refine j_aload_n X (pc' := 27) (kk := 0) (i := 0) 0 rfl rfl dL_again_26 rfl ?_
      refine j_iload X (pc' := 29) (i := 5) 5 rfl dL_again_27 rfl ?_
      obtain ⟨hz16, hw4⟩ := hw3
      refine j_lawS X (pc' := 32) (As := [.ref x1, .int v5]) (rest := [.int v5, .ref v4]) (mc1 := 1) (ms1 := 6) hd (fun A1 => c_L_told l G A1 hl0 x1 v5 μ1 _ hw4) (gk_L_told wt_2_205) hd_L_told (rmL_fit (k1 := 2) (k := 79) (by omega) (by decide)) rfl rfl (Nat.le_of_ble_eq_true rfl) dL_again_29 rfl ⟨by show _ ≤ 100; omega, by show _ ≤ 800; omega⟩ (fun r17 μ20 hd21 hw5 => ?_)
      refine j_widen (k1 := cz + 1) (n1 := 8 * (cz + 1)) (by omega) (by omega) ?_
      obtain ⟨n22, f23, hm24, hi25, hw6⟩ := hw5
      refine jp_iast X (pc' := 33) (join_2 hd21 hm24) hi25 dL_again_32 rfl (fun μ26 e27 => ?_)
      obtain ⟨ej28, hd29⟩ := join_put2 hd21 (e1 := (eI n22 (upd f23 v5.toNatClampNeg r17))) hm24
      have hw7 := hw6 _ rfl
      generalize ups μ2 v4 (eI n22 (upd f23 v5.toNatClampNeg r17)) = μ30 at ej28 hd29 hw7
      rw [ej28] at e27
      subst e27
      refine j_iinc X (pc' := 36) (i := 5) (v := v5 + 1) (loc' := [(5, .int (v5 + 1)), (0, .ref x1), (1, .int v1), (2, .int v2), (3, .int v3), (4, .ref v4)]) 5 rfl rfl dL_again_33 rfl (by decide) rfl ?_
      refine j_goto X (tgt := 16) dL_again_36 (by decide) ?_
      refine j_loc [1, 2, 3, 4, 5, 0] rfl ?_
      exact ih _ _ _ _ _ _ _ _ hd29 hw7
def wp_L_again (x1 : Nat) (kd : Nat → Nat) (x2 : Int32) (x3 : Int32) (μ1 : Mm) (post : Int32 → Mm → Prop) : Prop := 0 ≤ 100 ∧ (∃ f4, μ1 x1 = some (.inl (5, f4))) ∧ wp_X6_length x1 μ1 (fun r2 μ5 => 8 ≤ 100 ∧ ∀ q7, joinM μ5 mN q7 = none → ∀ μ13, μ13 = ups mN q7 (eI 64 (fun _ => 0)) → ∃ n9, wb_L_again_16 x1 kd post n9 x2 x3 (r2 - (1 : Int32)) q7 (0 : Int32) μ5 μ13 8)
set_option maxHeartbeats 4000000 in
set_option maxRecDepth 100000 in
theorem c_L_again (l : Launch) (G : gG) (A : Nat → Prop) (hl0 : l.stackTraces = false) (kd : Nat → Nat) (hkd : G.2.2 = kd) (x1 : Nat) (x2 : Int32) (x3 : Int32) (μ1 : Mm) (post : Int32 → Mm → Prop) (h : wp_L_again x1 kd x2 x3 μ1 post) : Met l yL_again (.code yL_again cL_again 7 (some .int) :: wsA) (rmL (79) 100 800) (PcG G A μ1 [.ref x1, .int x2, .int x3]) (QG G A (pI post)) 100 800 A := by
  refine met_J (loc := [(0, .ref x1), (1, .int x2), (2, .int x3)]) (by decide +kernel) (Nat.le_of_ble_eq_true rfl) rfl ?_
  intro p e s m args below meth c X hin
  have X : Cx p l s m args meth c cL_again 7 (some .int) RL G A := X
  have e0 : joinM μ1 mN = μ1 := by funext a; unfold joinM; cases μ1 a <;> rfl
  have hd : disM μ1 mN := fun _ _ => rfl
  rw [← e0]
  have hw := h
  unfold wp_L_again at hw
  refine j_aload_n X (pc' := 1) (kk := 0) (i := 0) 0 rfl rfl dL_again_0 rfl ?_
  obtain ⟨hz1, hw1⟩ := hw
  obtain ⟨⟨f4, hm3⟩, hw2⟩ := hw1
  refine j_lawV X (pc' := 4) (b := x1) (As := []) (rest := []) (mc1 := 0) (ms1 := 0) hd (fun A1 => c_X6_length l G A1 x1 μ1 _ hw2) (gk_X6_length wt_2_221) hd_X6_length (rmL_fit (k1 := 1) (k := 79) (by omega) (by decide)) hm3 rfl rfl rfl (Nat.le_of_ble_eq_true rfl) dL_again_1 rfl ⟨by show _ ≤ 100; omega, by show _ ≤ 800; omega⟩ (fun r2 μ5 hd6 hw3 => ?_)
  refine j_widen (k1 := 0) (n1 := 8 * (0)) (by omega) (by omega) ?_
  refine j_iconst X (pc' := 5) (v := 1) (by decide) dL_again_4 rfl ?_
  refine j_isub X (pc' := 6) dL_again_5 rfl ?_
  refine j_istore_n X (pc' := 7) (kk := 3) (i := 3) (loc' := [(3, .int (r2 - (1 : Int32))), (0, .ref x1), (1, .int x2), (2, .int x3)]) dL_again_6 rfl rfl (by decide) rfl ?_
  refine j_bipush X (pc' := 9) (v := 64) (by decide) dL_again_7 rfl ?_
  obtain ⟨hz14, hw4⟩ := hw3
  refine jp_newI X (pc' := 11) (cells' := 0 + 1) (slots' := 8 * (0) + 64) (N := 64) wt_1_56 (by decide) (by decide) (by decide) (by show _ ≤ 100; omega) (by show _ ≤ 800; omega) rfl rfl dL_again_9 rfl (fun q7 hq8 μ9 e10 => ?_)
  refine j_widen (k1 := 8) (n1 := 8 * (8)) (by omega) (by omega) ?_
  obtain ⟨ej11, hd12⟩ := join_new2 hd6 (e1 := (eI 64 (fun _ => 0))) hq8
  have hw5 := hw4 q7 hq8 _ rfl
  generalize ups mN q7 (eI 64 (fun _ => 0)) = μ13 at ej11 hd12 hw5
  rw [ej11] at e10
  subst e10
  refine j_astore X (pc' := 13) (i := 4) (loc' := [(4, .ref q7), (3, .int (r2 - (1 : Int32))), (0, .ref x1), (1, .int x2), (2, .int x3)]) dL_again_11 rfl (by decide) rfl ?_
  refine j_iconst X (pc' := 14) (v := 0) (by decide) dL_again_13 rfl ?_
  refine j_istore X (pc' := 16) (i := 5) (loc' := [(5, .int ((0 : Int32))), (4, .ref q7), (3, .int (r2 - (1 : Int32))), (0, .ref x1), (1, .int x2), (2, .int x3)]) dL_again_14 rfl (by decide) rfl ?_
  obtain ⟨n0, hw6⟩ := hw5
  refine j_loc [3, 4, 5, 2, 1, 0] rfl ?_
  exact tb_L_again_16 X hl0 hkd n0 _ _ _ _ _ _ _ _ hd12 hw6
theorem hd_L_alike : yL_alike.cls ≠ "java/lang/invoke/MethodHandle" ∧ yL_alike.cls ≠ "java/lang/invoke/VarHandle" ∧ (parseMethodDescriptor yL_alike.desc).map (fun d => d.parameters.length) = some 2 := ⟨by decide +kernel, by decide +kernel, by decide +kernel⟩
theorem gk_L_alike {own : String} {idx : Nat} (h : Cond.methodLink own idx yL_alike ∈ wsA) : GoodIn wsA (va_wsS own idx yL_alike (.code yL_alike cL_alike 4 (some .boolean) :: wsA)) := gd_S h wt_3_176 wt_1_0 wt_3_177
/-! BitNotationLaw.alike(LBitNotation;LBitNotation;)Z -/
theorem dL_alike_0 : decode cL_alike 0 = .ok (.aload_n 0, 1) := by decide +kernel
theorem dL_alike_1 : decode cL_alike 1 = .ok (.invokevirtual 76, 3) := by decide +kernel
theorem dL_alike_4 : decode cL_alike 4 = .ok (.aload_n 1, 1) := by decide +kernel
theorem dL_alike_5 : decode cL_alike 5 = .ok (.invokevirtual 76, 3) := by decide +kernel
theorem dL_alike_8 : decode cL_alike 8 = .ok (.if_icmp .ne 29, 3) := by decide +kernel
theorem dL_alike_11 : decode cL_alike 11 = .ok (.aload_n 0, 1) := by decide +kernel
theorem dL_alike_12 : decode cL_alike 12 = .ok (.invokevirtual 110, 3) := by decide +kernel
theorem dL_alike_15 : decode cL_alike 15 = .ok (.aload_n 1, 1) := by decide +kernel
theorem dL_alike_16 : decode cL_alike 16 = .ok (.invokevirtual 110, 3) := by decide +kernel
theorem dL_alike_19 : decode cL_alike 19 = .ok (.if_icmp .ne 18, 3) := by decide +kernel
theorem dL_alike_22 : decode cL_alike 22 = .ok (.aload_n 0, 1) := by decide +kernel
theorem dL_alike_23 : decode cL_alike 23 = .ok (.invokevirtual 79, 3) := by decide +kernel
theorem dL_alike_26 : decode cL_alike 26 = .ok (.aload_n 1, 1) := by decide +kernel
theorem dL_alike_27 : decode cL_alike 27 = .ok (.invokevirtual 79, 3) := by decide +kernel
theorem dL_alike_30 : decode cL_alike 30 = .ok (.if_icmp .ne 7, 3) := by decide +kernel
theorem dL_alike_33 : decode cL_alike 33 = .ok (.iconst 1, 1) := by decide +kernel
theorem dL_alike_34 : decode cL_alike 34 = .ok (.goto 4, 3) := by decide +kernel
theorem dL_alike_37 : decode cL_alike 37 = .ok (.iconst 0, 1) := by decide +kernel
theorem dL_alike_38 : decode cL_alike 38 = .ok (.istore_n 2, 1) := by decide +kernel
theorem dL_alike_39 : decode cL_alike 39 = .ok (.iconst 0, 1) := by decide +kernel
theorem dL_alike_40 : decode cL_alike 40 = .ok (.istore_n 3, 1) := by decide +kernel
theorem dL_alike_41 : decode cL_alike 41 = .ok (.iload_n 3, 1) := by decide +kernel
theorem dL_alike_42 : decode cL_alike 42 = .ok (.aload_n 0, 1) := by decide +kernel
theorem dL_alike_43 : decode cL_alike 43 = .ok (.invokevirtual 76, 3) := by decide +kernel
theorem dL_alike_46 : decode cL_alike 46 = .ok (.if_icmp .ge 77, 3) := by decide +kernel
theorem dL_alike_49 : decode cL_alike 49 = .ok (.iload_n 2, 1) := by decide +kernel
theorem dL_alike_50 : decode cL_alike 50 = .ok (.ifCond .eq 73, 3) := by decide +kernel
theorem dL_alike_53 : decode cL_alike 53 = .ok (.aload_n 0, 1) := by decide +kernel
theorem dL_alike_54 : decode cL_alike 54 = .ok (.iload_n 3, 1) := by decide +kernel
theorem dL_alike_55 : decode cL_alike 55 = .ok (.invokestatic 98, 3) := by decide +kernel
theorem dL_alike_58 : decode cL_alike 58 = .ok (.aload_n 1, 1) := by decide +kernel
theorem dL_alike_59 : decode cL_alike 59 = .ok (.iload_n 3, 1) := by decide +kernel
theorem dL_alike_60 : decode cL_alike 60 = .ok (.invokestatic 98, 3) := by decide +kernel
theorem dL_alike_63 : decode cL_alike 63 = .ok (.if_icmp .ne 52, 3) := by decide +kernel
theorem dL_alike_66 : decode cL_alike 66 = .ok (.aload_n 0, 1) := by decide +kernel
theorem dL_alike_67 : decode cL_alike 67 = .ok (.iload_n 3, 1) := by decide +kernel
theorem dL_alike_68 : decode cL_alike 68 = .ok (.invokestatic 102, 3) := by decide +kernel
theorem dL_alike_71 : decode cL_alike 71 = .ok (.aload_n 1, 1) := by decide +kernel
theorem dL_alike_72 : decode cL_alike 72 = .ok (.iload_n 3, 1) := by decide +kernel
theorem dL_alike_73 : decode cL_alike 73 = .ok (.invokestatic 102, 3) := by decide +kernel
theorem dL_alike_76 : decode cL_alike 76 = .ok (.if_icmp .ne 39, 3) := by decide +kernel
theorem dL_alike_79 : decode cL_alike 79 = .ok (.aload_n 0, 1) := by decide +kernel
theorem dL_alike_80 : decode cL_alike 80 = .ok (.iload_n 3, 1) := by decide +kernel
theorem dL_alike_81 : decode cL_alike 81 = .ok (.invokestatic 113, 3) := by decide +kernel
theorem dL_alike_84 : decode cL_alike 84 = .ok (.aload_n 1, 1) := by decide +kernel
theorem dL_alike_85 : decode cL_alike 85 = .ok (.iload_n 3, 1) := by decide +kernel
theorem dL_alike_86 : decode cL_alike 86 = .ok (.invokestatic 113, 3) := by decide +kernel
theorem dL_alike_89 : decode cL_alike 89 = .ok (.if_icmp .ne 26, 3) := by decide +kernel
theorem dL_alike_92 : decode cL_alike 92 = .ok (.aload_n 0, 1) := by decide +kernel
theorem dL_alike_93 : decode cL_alike 93 = .ok (.iload_n 3, 1) := by decide +kernel
theorem dL_alike_94 : decode cL_alike 94 = .ok (.iload_n 3, 1) := by decide +kernel
theorem dL_alike_95 : decode cL_alike 95 = .ok (.iconst 4, 1) := by decide +kernel
theorem dL_alike_96 : decode cL_alike 96 = .ok (.irem, 1) := by decide +kernel
theorem dL_alike_97 : decode cL_alike 97 = .ok (.invokestatic 130, 3) := by decide +kernel
theorem dL_alike_100 : decode cL_alike 100 = .ok (.aload_n 1, 1) := by decide +kernel
theorem dL_alike_101 : decode cL_alike 101 = .ok (.iload_n 3, 1) := by decide +kernel
theorem dL_alike_102 : decode cL_alike 102 = .ok (.iload_n 3, 1) := by decide +kernel
theorem dL_alike_103 : decode cL_alike 103 = .ok (.iconst 4, 1) := by decide +kernel
theorem dL_alike_104 : decode cL_alike 104 = .ok (.irem, 1) := by decide +kernel
theorem dL_alike_105 : decode cL_alike 105 = .ok (.invokestatic 130, 3) := by decide +kernel
theorem dL_alike_108 : decode cL_alike 108 = .ok (.if_icmp .ne 7, 3) := by decide +kernel
theorem dL_alike_111 : decode cL_alike 111 = .ok (.iconst 1, 1) := by decide +kernel
theorem dL_alike_112 : decode cL_alike 112 = .ok (.goto 4, 3) := by decide +kernel
theorem dL_alike_115 : decode cL_alike 115 = .ok (.iconst 0, 1) := by decide +kernel
theorem dL_alike_116 : decode cL_alike 116 = .ok (.istore_n 2, 1) := by decide +kernel
theorem dL_alike_117 : decode cL_alike 117 = .ok (.iinc 3 1, 3) := by decide +kernel
theorem dL_alike_120 : decode cL_alike 120 = .ok (.goto (-79), 3) := by decide +kernel
theorem dL_alike_123 : decode cL_alike 123 = .ok (.iconst 0, 1) := by decide +kernel
theorem dL_alike_124 : decode cL_alike 124 = .ok (.istore_n 3, 1) := by decide +kernel
theorem dL_alike_125 : decode cL_alike 125 = .ok (.iload_n 3, 1) := by decide +kernel
theorem dL_alike_126 : decode cL_alike 126 = .ok (.aload_n 0, 1) := by decide +kernel
theorem dL_alike_127 : decode cL_alike 127 = .ok (.invokevirtual 110, 3) := by decide +kernel
theorem dL_alike_130 : decode cL_alike 130 = .ok (.if_icmp .ge 32, 3) := by decide +kernel
theorem dL_alike_133 : decode cL_alike 133 = .ok (.iload_n 2, 1) := by decide +kernel
theorem dL_alike_134 : decode cL_alike 134 = .ok (.ifCond .eq 28, 3) := by decide +kernel
theorem dL_alike_137 : decode cL_alike 137 = .ok (.aload_n 0, 1) := by decide +kernel
theorem dL_alike_138 : decode cL_alike 138 = .ok (.iload_n 3, 1) := by decide +kernel
theorem dL_alike_139 : decode cL_alike 139 = .ok (.invokestatic 108, 3) := by decide +kernel
theorem dL_alike_142 : decode cL_alike 142 = .ok (.aload_n 1, 1) := by decide +kernel
theorem dL_alike_143 : decode cL_alike 143 = .ok (.iload_n 3, 1) := by decide +kernel
theorem dL_alike_144 : decode cL_alike 144 = .ok (.invokestatic 108, 3) := by decide +kernel
theorem dL_alike_147 : decode cL_alike 147 = .ok (.if_icmp .ne 7, 3) := by decide +kernel
theorem dL_alike_150 : decode cL_alike 150 = .ok (.iconst 1, 1) := by decide +kernel
theorem dL_alike_151 : decode cL_alike 151 = .ok (.goto 4, 3) := by decide +kernel
theorem dL_alike_154 : decode cL_alike 154 = .ok (.iconst 0, 1) := by decide +kernel
theorem dL_alike_155 : decode cL_alike 155 = .ok (.istore_n 2, 1) := by decide +kernel
theorem dL_alike_156 : decode cL_alike 156 = .ok (.iinc 3 3, 3) := by decide +kernel
theorem dL_alike_159 : decode cL_alike 159 = .ok (.goto (-34), 3) := by decide +kernel
theorem dL_alike_162 : decode cL_alike 162 = .ok (.iconst 0, 1) := by decide +kernel
theorem dL_alike_163 : decode cL_alike 163 = .ok (.istore_n 3, 1) := by decide +kernel
theorem dL_alike_164 : decode cL_alike 164 = .ok (.iload_n 3, 1) := by decide +kernel
theorem dL_alike_165 : decode cL_alike 165 = .ok (.aload_n 0, 1) := by decide +kernel
theorem dL_alike_166 : decode cL_alike 166 = .ok (.invokevirtual 79, 3) := by decide +kernel
theorem dL_alike_169 : decode cL_alike 169 = .ok (.if_icmp .ge 32, 3) := by decide +kernel
theorem dL_alike_172 : decode cL_alike 172 = .ok (.iload_n 2, 1) := by decide +kernel
theorem dL_alike_173 : decode cL_alike 173 = .ok (.ifCond .eq 28, 3) := by decide +kernel
theorem dL_alike_176 : decode cL_alike 176 = .ok (.aload_n 0, 1) := by decide +kernel
theorem dL_alike_177 : decode cL_alike 177 = .ok (.iload_n 3, 1) := by decide +kernel
theorem dL_alike_178 : decode cL_alike 178 = .ok (.invokestatic 119, 3) := by decide +kernel
theorem dL_alike_181 : decode cL_alike 181 = .ok (.aload_n 1, 1) := by decide +kernel
theorem dL_alike_182 : decode cL_alike 182 = .ok (.iload_n 3, 1) := by decide +kernel
theorem dL_alike_183 : decode cL_alike 183 = .ok (.invokestatic 119, 3) := by decide +kernel
theorem dL_alike_186 : decode cL_alike 186 = .ok (.if_icmp .ne 7, 3) := by decide +kernel
theorem dL_alike_189 : decode cL_alike 189 = .ok (.iconst 1, 1) := by decide +kernel
theorem dL_alike_190 : decode cL_alike 190 = .ok (.goto 4, 3) := by decide +kernel
theorem dL_alike_193 : decode cL_alike 193 = .ok (.iconst 0, 1) := by decide +kernel
theorem dL_alike_194 : decode cL_alike 194 = .ok (.istore_n 2, 1) := by decide +kernel
theorem dL_alike_195 : decode cL_alike 195 = .ok (.iinc 3 5, 3) := by decide +kernel
theorem dL_alike_198 : decode cL_alike 198 = .ok (.goto (-34), 3) := by decide +kernel
theorem dL_alike_201 : decode cL_alike 201 = .ok (.iload_n 2, 1) := by decide +kernel
theorem dL_alike_202 : decode cL_alike 202 = .ok (.ireturn, 1) := by decide +kernel
def wb_L_alike_194 (x1 : Nat) (x2 : Nat) (kd : Nat → Nat) (post : Int32 → Mm → Mm → Prop) (K164 : Int32 → Int32 → Mm → Mm → Nat → Prop) (v3 : Int32) (s0 : Int32) (μ1 : Mm) (μ2 : Mm) (cz : Nat) : Prop := K164 s0 (v3 + 5) μ1 μ2 cz
set_option maxHeartbeats 4000000 in
set_option maxRecDepth 100000 in
theorem tb_L_alike_194 {p : Program} {l : Launch} {e : Env} {s : State} {m : MethodId} {args : Array Value} {below : List Frame} {meth : Method} {c : Code} {G : gG} {A : Nat → Prop} {x1 : Nat} {x2 : Nat} {kd : Nat → Nat} {post : Int32 → Mm → Mm → Prop} {K164 : Int32 → Int32 → Mm → Mm → Nat → Prop} (X : Cx p l s m args meth c cL_alike 4 (some .boolean) RL G A) (hl0 : l.stackTraces = false) (hkd : G.2.2 = kd) (hK164 : ∀ (v2 : Int32) (v3 : Int32) (μ1 : Mm) (μ2 : Mm) (cz : Nat), disM μ1 μ2 → K164 v2 v3 μ1 μ2 cz → J p l e (rmL (79) 1500 12000) s m args below meth c 4 G A (MQ below (QG G A (pI (fun r9 μ9 => ∃ a9 b9, μ9 = joinM a9 b9 ∧ disM a9 b9 ∧ post r9 a9 b9))) args s 1500 12000 A) cz (8 * cz) 164 [(0, .ref x1), (1, .ref x2), (2, .int v2), (3, .int v3)] [] (joinM μ1 μ2)) : ∀ (v3 : Int32) (s0 : Int32) (μ1 : Mm) (μ2 : Mm) (cz : Nat), disM μ1 μ2 → wb_L_alike_194 x1 x2 kd post K164 v3 s0 μ1 μ2 cz → J p l e (rmL (79) 1500 12000) s m args below meth c 4 G A (MQ below (QG G A (pI (fun r9 μ9 => ∃ a9 b9, μ9 = joinM a9 b9 ∧ disM a9 b9 ∧ post r9 a9 b9))) args s 1500 12000 A) cz (8 * cz) 194 [(0, .ref x1), (1, .ref x2), (3, .int v3)] [.int s0] (joinM μ1 μ2) := by
  intro v3 s0 μ1 μ2 cz hd hw
  unfold wb_L_alike_194 at hw
  refine j_istore_n X (pc' := 195) (kk := 2) (i := 2) (loc' := [(2, .int s0), (0, .ref x1), (1, .ref x2), (3, .int v3)]) dL_alike_194 rfl rfl (by decide) rfl ?_
  refine j_iinc X (pc' := 198) (i := 3) (v := v3 + 5) (loc' := [(3, .int (v3 + 5)), (2, .int s0), (0, .ref x1), (1, .ref x2)]) 3 rfl rfl dL_alike_195 rfl (by decide) rfl ?_
  refine j_goto X (tgt := 164) dL_alike_198 (by decide) ?_
  refine j_loc [2, 3, 1, 0] rfl ?_
  exact hK164 _ _ _ _ _ hd hw
def wb_L_alike_164 (x1 : Nat) (x2 : Nat) (kd : Nat → Nat) (post : Int32 → Mm → Mm → Prop)  : Nat → Int32 → Int32 → Mm → Mm → Nat → Prop
  | 0 => fun _ _ _ _ _ => False
  | n + 1 => fun v2 v3 μ1 μ2 cz => cz ≤ 1500 ∧ (∃ f124, μ1 x1 = some (.inl (5, f124))) ∧ wp_X6_bits x1 μ1 (fun r122 μ125 => (r122 ≤ v3 → (cz ≤ 1500 ∧ (v2 = 0 ∨ v2 = 1) ∧ post v2 μ125 μ2)) ∧ (¬ r122 ≤ v3 → ((v2 = 0 → (cz ≤ 1500 ∧ (v2 = 0 ∨ v2 = 1) ∧ post v2 μ125 μ2)) ∧ (¬ v2 = 0 → (cz + 1 ≤ 1500 ∧ wp_L_bit x1 v3 μ125 (fun r132 μ135 => cz + 2 ≤ 1500 ∧ wp_L_bit x2 v3 μ2 (fun r138 μ141 => (¬ r132 = r138 → (wb_L_alike_194 x1 x2 kd post (wb_L_alike_164 x1 x2 kd post n) v3 (0 : Int32) μ135 μ141 (cz + 2))) ∧ (r132 = r138 → (wb_L_alike_194 x1 x2 kd post (wb_L_alike_164 x1 x2 kd post n) v3 (1 : Int32) μ135 μ141 (cz + 2))))))))))
set_option maxHeartbeats 4000000 in
set_option maxRecDepth 100000 in
theorem tb_L_alike_164 {p : Program} {l : Launch} {e : Env} {s : State} {m : MethodId} {args : Array Value} {below : List Frame} {meth : Method} {c : Code} {G : gG} {A : Nat → Prop} {x1 : Nat} {x2 : Nat} {kd : Nat → Nat} {post : Int32 → Mm → Mm → Prop} (X : Cx p l s m args meth c cL_alike 4 (some .boolean) RL G A) (hl0 : l.stackTraces = false) (hkd : G.2.2 = kd) : ∀ (n : Nat) (v2 : Int32) (v3 : Int32) (μ1 : Mm) (μ2 : Mm) (cz : Nat), disM μ1 μ2 → wb_L_alike_164 x1 x2 kd post n v2 v3 μ1 μ2 cz → J p l e (rmL (79) 1500 12000) s m args below meth c 4 G A (MQ below (QG G A (pI (fun r9 μ9 => ∃ a9 b9, μ9 = joinM a9 b9 ∧ disM a9 b9 ∧ post r9 a9 b9))) args s 1500 12000 A) cz (8 * cz) 164 [(0, .ref x1), (1, .ref x2), (2, .int v2), (3, .int v3)] [] (joinM μ1 μ2) := by
  intro n
  induction n with
  | zero => intro v2 v3 μ1 μ2 cz hd hw; exact hw.elim
  | succ n ih =>
    intro v2 v3 μ1 μ2 cz hd hw
    rw [wb_L_alike_164] at hw
    refine j_iload_n X (pc' := 165) (kk := 3) (i := 3) 3 rfl rfl dL_alike_164 rfl ?_
    refine j_aload_n X (pc' := 166) (kk := 0) (i := 0) 0 rfl rfl dL_alike_165 rfl ?_
    obtain ⟨hz121, hw1⟩ := hw
    obtain ⟨⟨f124, hm123⟩, hw2⟩ := hw1
    refine j_lawV X (pc' := 169) (b := x1) (As := []) (rest := [.int v3]) (mc1 := 0) (ms1 := 0) hd (fun A1 => c_X6_bits l G A1 x1 μ1 _ hw2) (gk_X6_bits wt_1_136) hd_X6_bits (rmL_fit (k1 := 1) (k := 79) (by omega) (by decide)) hm123 rfl rfl rfl (Nat.le_of_ble_eq_true rfl) dL_alike_166 rfl ⟨by show _ ≤ 1500; omega, by show _ ≤ 12000; omega⟩ (fun r122 μ125 hd126 hw3 => ?_)
    refine j_widen (k1 := cz) (n1 := 8 * (cz)) (by omega) (by omega) ?_
    refine j_icmp_ge X (pc' := 172) (tgt := 201) dL_alike_169 rfl (by decide) (fun c127 => ?_) (fun c127 => ?_)
    · have hw4 := hw3.1 c127
      refine j_iload_n X (pc' := 202) (kk := 2) (i := 2) 2 rfl rfl dL_alike_201 rfl ?_
      obtain ⟨hz128, hw5⟩ := hw4
      have hb := hw5.1
      have hw6 := hw5.2
      exact j_zret X hb ⟨_, rfl, _, _, rfl, hd126, hw6⟩ (by omega) (by omega) dL_alike_202
    · have hw7 := hw3.2 c127
      refine j_iload_n X (pc' := 173) (kk := 2) (i := 2) 2 rfl rfl dL_alike_172 rfl ?_
      refine j_if_eq X (pc' := 176) (tgt := 201) dL_alike_173 rfl (by decide) (fun c129 => ?_) (fun c129 => ?_)
      · have hw8 := hw7.1 c129
        refine j_iload_n X (pc' := 202) (kk := 2) (i := 2) 2 rfl rfl dL_alike_201 rfl ?_
        obtain ⟨hz130, hw9⟩ := hw8
        have hb := hw9.1
        have hw10 := hw9.2
        exact j_zret X hb ⟨_, rfl, _, _, rfl, hd126, hw10⟩ (by omega) (by omega) dL_alike_202
      · have hw11 := hw7.2 c129
        refine j_aload_n X (pc' := 177) (kk := 0) (i := 0) 0 rfl rfl dL_alike_176 rfl ?_
        refine j_iload_n X (pc' := 178) (kk := 3) (i := 3) 3 rfl rfl dL_alike_177 rfl ?_
        obtain ⟨hz131, hw12⟩ := hw11
        refine j_lawS X (pc' := 181) (As := [.ref x1, .int v3]) (rest := []) (mc1 := 1) (ms1 := 6) hd126 (fun A1 => c_L_bit l G A1 hl0 x1 v3 μ125 _ hw12) (gk_L_bit wt_3_56) hd_L_bit (rmL_fit (k1 := 2) (k := 79) (by omega) (by decide)) rfl rfl (Nat.le_of_ble_eq_true rfl) dL_alike_178 rfl ⟨by show _ ≤ 1500; omega, by show _ ≤ 12000; omega⟩ (fun r132 μ135 hd136 hw13 => ?_)
        refine j_widen (k1 := cz + 1) (n1 := 8 * (cz + 1)) (by omega) (by omega) ?_
        refine j_aload_n X (pc' := 182) (kk := 1) (i := 1) 1 rfl rfl dL_alike_181 rfl ?_
        refine j_iload_n X (pc' := 183) (kk := 3) (i := 3) 3 rfl rfl dL_alike_182 rfl ?_
        obtain ⟨hz137, hw14⟩ := hw13
        refine j_lawS2 X (pc' := 186) (As := [.ref x2, .int v3]) (rest := [.int r132]) (mc1 := 1) (ms1 := 6) hd136 (fun A1 => c_L_bit l G A1 hl0 x2 v3 μ2 _ hw14) (gk_L_bit wt_3_56) hd_L_bit (rmL_fit (k1 := 2) (k := 79) (by omega) (by decide)) rfl rfl (Nat.le_of_ble_eq_true rfl) dL_alike_183 rfl ⟨by show _ ≤ 1500; omega, by show _ ≤ 12000; omega⟩ (fun r138 μ141 hd142 hw15 => ?_)
        refine j_widen (k1 := cz + 2) (n1 := 8 * (cz + 2)) (by omega) (by omega) ?_
        refine j_icmp_ne X (pc' := 189) (tgt := 193) dL_alike_186 rfl (by decide) (fun c143 => ?_) (fun c143 => ?_)
        · have hw16 := hw15.1 c143
          refine j_iconst X (pc' := 194) (v := 0) (by decide) dL_alike_193 rfl ?_
          refine j_loc [0, 1, 3] rfl ?_
          exact tb_L_alike_194 X hl0 hkd ih _ _ _ _ _ hd142 hw16
        · have hw17 := hw15.2 c143
          refine j_iconst X (pc' := 190) (v := 1) (by decide) dL_alike_189 rfl ?_
          refine j_goto X (tgt := 194) dL_alike_190 (by decide) ?_
          refine j_loc [0, 1, 3] rfl ?_
          exact tb_L_alike_194 X hl0 hkd ih _ _ _ _ _ hd142 hw17
def wb_L_alike_162 (x1 : Nat) (x2 : Nat) (kd : Nat → Nat) (post : Int32 → Mm → Mm → Prop)  (v2 : Int32) (μ1 : Mm) (μ2 : Mm) (cz : Nat) : Prop := ∃ n9, wb_L_alike_164 x1 x2 kd post n9 v2 (0 : Int32) μ1 μ2 cz
set_option maxHeartbeats 4000000 in
set_option maxRecDepth 100000 in
theorem tb_L_alike_162 {p : Program} {l : Launch} {e : Env} {s : State} {m : MethodId} {args : Array Value} {below : List Frame} {meth : Method} {c : Code} {G : gG} {A : Nat → Prop} {x1 : Nat} {x2 : Nat} {kd : Nat → Nat} {post : Int32 → Mm → Mm → Prop} (X : Cx p l s m args meth c cL_alike 4 (some .boolean) RL G A) (hl0 : l.stackTraces = false) (hkd : G.2.2 = kd) : ∀ (v2 : Int32) (μ1 : Mm) (μ2 : Mm) (cz : Nat), disM μ1 μ2 → wb_L_alike_162 x1 x2 kd post v2 μ1 μ2 cz → J p l e (rmL (79) 1500 12000) s m args below meth c 4 G A (MQ below (QG G A (pI (fun r9 μ9 => ∃ a9 b9, μ9 = joinM a9 b9 ∧ disM a9 b9 ∧ post r9 a9 b9))) args s 1500 12000 A) cz (8 * cz) 162 [(0, .ref x1), (1, .ref x2), (2, .int v2)] [] (joinM μ1 μ2) := by
  intro v2 μ1 μ2 cz hd hw
  unfold wb_L_alike_162 at hw
  refine j_iconst X (pc' := 163) (v := 0) (by decide) dL_alike_162 rfl ?_
  refine j_istore_n X (pc' := 164) (kk := 3) (i := 3) (loc' := [(3, .int ((0 : Int32))), (0, .ref x1), (1, .ref x2), (2, .int v2)]) dL_alike_163 rfl rfl (by decide) rfl ?_
  obtain ⟨n0, hw1⟩ := hw
  refine j_loc [1, 2, 3, 0] rfl ?_
  exact tb_L_alike_164 X hl0 hkd n0 _ _ _ _ _ hd hw1
def wb_L_alike_155 (x1 : Nat) (x2 : Nat) (kd : Nat → Nat) (post : Int32 → Mm → Mm → Prop) (K125 : Int32 → Int32 → Mm → Mm → Nat → Prop) (v3 : Int32) (s0 : Int32) (μ1 : Mm) (μ2 : Mm) (cz : Nat) : Prop := K125 s0 (v3 + 3) μ1 μ2 cz
set_option maxHeartbeats 4000000 in
set_option maxRecDepth 100000 in
theorem tb_L_alike_155 {p : Program} {l : Launch} {e : Env} {s : State} {m : MethodId} {args : Array Value} {below : List Frame} {meth : Method} {c : Code} {G : gG} {A : Nat → Prop} {x1 : Nat} {x2 : Nat} {kd : Nat → Nat} {post : Int32 → Mm → Mm → Prop} {K125 : Int32 → Int32 → Mm → Mm → Nat → Prop} (X : Cx p l s m args meth c cL_alike 4 (some .boolean) RL G A) (hl0 : l.stackTraces = false) (hkd : G.2.2 = kd) (hK125 : ∀ (v2 : Int32) (v3 : Int32) (μ1 : Mm) (μ2 : Mm) (cz : Nat), disM μ1 μ2 → K125 v2 v3 μ1 μ2 cz → J p l e (rmL (79) 1500 12000) s m args below meth c 4 G A (MQ below (QG G A (pI (fun r9 μ9 => ∃ a9 b9, μ9 = joinM a9 b9 ∧ disM a9 b9 ∧ post r9 a9 b9))) args s 1500 12000 A) cz (8 * cz) 125 [(0, .ref x1), (1, .ref x2), (2, .int v2), (3, .int v3)] [] (joinM μ1 μ2)) : ∀ (v3 : Int32) (s0 : Int32) (μ1 : Mm) (μ2 : Mm) (cz : Nat), disM μ1 μ2 → wb_L_alike_155 x1 x2 kd post K125 v3 s0 μ1 μ2 cz → J p l e (rmL (79) 1500 12000) s m args below meth c 4 G A (MQ below (QG G A (pI (fun r9 μ9 => ∃ a9 b9, μ9 = joinM a9 b9 ∧ disM a9 b9 ∧ post r9 a9 b9))) args s 1500 12000 A) cz (8 * cz) 155 [(0, .ref x1), (1, .ref x2), (3, .int v3)] [.int s0] (joinM μ1 μ2) := by
  intro v3 s0 μ1 μ2 cz hd hw
  unfold wb_L_alike_155 at hw
  refine j_istore_n X (pc' := 156) (kk := 2) (i := 2) (loc' := [(2, .int s0), (0, .ref x1), (1, .ref x2), (3, .int v3)]) dL_alike_155 rfl rfl (by decide) rfl ?_
  refine j_iinc X (pc' := 159) (i := 3) (v := v3 + 3) (loc' := [(3, .int (v3 + 3)), (2, .int s0), (0, .ref x1), (1, .ref x2)]) 3 rfl rfl dL_alike_156 rfl (by decide) rfl ?_
  refine j_goto X (tgt := 125) dL_alike_159 (by decide) ?_
  refine j_loc [2, 3, 1, 0] rfl ?_
  exact hK125 _ _ _ _ _ hd hw
def wb_L_alike_125 (x1 : Nat) (x2 : Nat) (kd : Nat → Nat) (post : Int32 → Mm → Mm → Prop)  : Nat → Int32 → Int32 → Mm → Mm → Nat → Prop
  | 0 => fun _ _ _ _ _ => False
  | n + 1 => fun v2 v3 μ1 μ2 cz => cz ≤ 1500 ∧ (∃ f103, μ1 x1 = some (.inl (5, f103))) ∧ wp_X6_length x1 μ1 (fun r101 μ104 => (r101 ≤ v3 → (wb_L_alike_162 x1 x2 kd post v2 μ104 μ2 cz)) ∧ (¬ r101 ≤ v3 → ((v2 = 0 → (wb_L_alike_162 x1 x2 kd post v2 μ104 μ2 cz)) ∧ (¬ v2 = 0 → (cz + 1 ≤ 1500 ∧ wp_L_told x1 v3 μ104 (fun r109 μ112 => cz + 2 ≤ 1500 ∧ wp_L_told x2 v3 μ2 (fun r115 μ118 => (¬ r109 = r115 → (wb_L_alike_155 x1 x2 kd post (wb_L_alike_125 x1 x2 kd post n) v3 (0 : Int32) μ112 μ118 (cz + 2))) ∧ (r109 = r115 → (wb_L_alike_155 x1 x2 kd post (wb_L_alike_125 x1 x2 kd post n) v3 (1 : Int32) μ112 μ118 (cz + 2))))))))))
set_option maxHeartbeats 4000000 in
set_option maxRecDepth 100000 in
theorem tb_L_alike_125 {p : Program} {l : Launch} {e : Env} {s : State} {m : MethodId} {args : Array Value} {below : List Frame} {meth : Method} {c : Code} {G : gG} {A : Nat → Prop} {x1 : Nat} {x2 : Nat} {kd : Nat → Nat} {post : Int32 → Mm → Mm → Prop} (X : Cx p l s m args meth c cL_alike 4 (some .boolean) RL G A) (hl0 : l.stackTraces = false) (hkd : G.2.2 = kd) : ∀ (n : Nat) (v2 : Int32) (v3 : Int32) (μ1 : Mm) (μ2 : Mm) (cz : Nat), disM μ1 μ2 → wb_L_alike_125 x1 x2 kd post n v2 v3 μ1 μ2 cz → J p l e (rmL (79) 1500 12000) s m args below meth c 4 G A (MQ below (QG G A (pI (fun r9 μ9 => ∃ a9 b9, μ9 = joinM a9 b9 ∧ disM a9 b9 ∧ post r9 a9 b9))) args s 1500 12000 A) cz (8 * cz) 125 [(0, .ref x1), (1, .ref x2), (2, .int v2), (3, .int v3)] [] (joinM μ1 μ2) := by
  intro n
  induction n with
  | zero => intro v2 v3 μ1 μ2 cz hd hw; exact hw.elim
  | succ n ih =>
    intro v2 v3 μ1 μ2 cz hd hw
    rw [wb_L_alike_125] at hw
    refine j_iload_n X (pc' := 126) (kk := 3) (i := 3) 3 rfl rfl dL_alike_125 rfl ?_
    refine j_aload_n X (pc' := 127) (kk := 0) (i := 0) 0 rfl rfl dL_alike_126 rfl ?_
    obtain ⟨hz100, hw1⟩ := hw
    obtain ⟨⟨f103, hm102⟩, hw2⟩ := hw1
    refine j_lawV X (pc' := 130) (b := x1) (As := []) (rest := [.int v3]) (mc1 := 0) (ms1 := 0) hd (fun A1 => c_X6_length l G A1 x1 μ1 _ hw2) (gk_X6_length wt_2_221) hd_X6_length (rmL_fit (k1 := 1) (k := 79) (by omega) (by decide)) hm102 rfl rfl rfl (Nat.le_of_ble_eq_true rfl) dL_alike_127 rfl ⟨by show _ ≤ 1500; omega, by show _ ≤ 12000; omega⟩ (fun r101 μ104 hd105 hw3 => ?_)
    refine j_widen (k1 := cz) (n1 := 8 * (cz)) (by omega) (by omega) ?_
    refine j_icmp_ge X (pc' := 133) (tgt := 162) dL_alike_130 rfl (by decide) (fun c106 => ?_) (fun c106 => ?_)
    · have hw4 := hw3.1 c106
      refine j_loc [0, 1, 2] rfl ?_
      exact tb_L_alike_162 X hl0 hkd _ _ _ _ hd105 hw4
    · have hw5 := hw3.2 c106
      refine j_iload_n X (pc' := 134) (kk := 2) (i := 2) 2 rfl rfl dL_alike_133 rfl ?_
      refine j_if_eq X (pc' := 137) (tgt := 162) dL_alike_134 rfl (by decide) (fun c107 => ?_) (fun c107 => ?_)
      · have hw6 := hw5.1 c107
        refine j_loc [0, 1, 2] rfl ?_
        exact tb_L_alike_162 X hl0 hkd _ _ _ _ hd105 hw6
      · have hw7 := hw5.2 c107
        refine j_aload_n X (pc' := 138) (kk := 0) (i := 0) 0 rfl rfl dL_alike_137 rfl ?_
        refine j_iload_n X (pc' := 139) (kk := 3) (i := 3) 3 rfl rfl dL_alike_138 rfl ?_
        obtain ⟨hz108, hw8⟩ := hw7
        refine j_lawS X (pc' := 142) (As := [.ref x1, .int v3]) (rest := []) (mc1 := 1) (ms1 := 6) hd105 (fun A1 => c_L_told l G A1 hl0 x1 v3 μ104 _ hw8) (gk_L_told wt_2_205) hd_L_told (rmL_fit (k1 := 2) (k := 79) (by omega) (by decide)) rfl rfl (Nat.le_of_ble_eq_true rfl) dL_alike_139 rfl ⟨by show _ ≤ 1500; omega, by show _ ≤ 12000; omega⟩ (fun r109 μ112 hd113 hw9 => ?_)
        refine j_widen (k1 := cz + 1) (n1 := 8 * (cz + 1)) (by omega) (by omega) ?_
        refine j_aload_n X (pc' := 143) (kk := 1) (i := 1) 1 rfl rfl dL_alike_142 rfl ?_
        refine j_iload_n X (pc' := 144) (kk := 3) (i := 3) 3 rfl rfl dL_alike_143 rfl ?_
        obtain ⟨hz114, hw10⟩ := hw9
        refine j_lawS2 X (pc' := 147) (As := [.ref x2, .int v3]) (rest := [.int r109]) (mc1 := 1) (ms1 := 6) hd113 (fun A1 => c_L_told l G A1 hl0 x2 v3 μ2 _ hw10) (gk_L_told wt_2_205) hd_L_told (rmL_fit (k1 := 2) (k := 79) (by omega) (by decide)) rfl rfl (Nat.le_of_ble_eq_true rfl) dL_alike_144 rfl ⟨by show _ ≤ 1500; omega, by show _ ≤ 12000; omega⟩ (fun r115 μ118 hd119 hw11 => ?_)
        refine j_widen (k1 := cz + 2) (n1 := 8 * (cz + 2)) (by omega) (by omega) ?_
        refine j_icmp_ne X (pc' := 150) (tgt := 154) dL_alike_147 rfl (by decide) (fun c120 => ?_) (fun c120 => ?_)
        · have hw12 := hw11.1 c120
          refine j_iconst X (pc' := 155) (v := 0) (by decide) dL_alike_154 rfl ?_
          refine j_loc [0, 1, 3] rfl ?_
          exact tb_L_alike_155 X hl0 hkd ih _ _ _ _ _ hd119 hw12
        · have hw13 := hw11.2 c120
          refine j_iconst X (pc' := 151) (v := 1) (by decide) dL_alike_150 rfl ?_
          refine j_goto X (tgt := 155) dL_alike_151 (by decide) ?_
          refine j_loc [0, 1, 3] rfl ?_
          exact tb_L_alike_155 X hl0 hkd ih _ _ _ _ _ hd119 hw13
def wb_L_alike_123 (x1 : Nat) (x2 : Nat) (kd : Nat → Nat) (post : Int32 → Mm → Mm → Prop)  (v2 : Int32) (μ1 : Mm) (μ2 : Mm) (cz : Nat) : Prop := ∃ n9, wb_L_alike_125 x1 x2 kd post n9 v2 (0 : Int32) μ1 μ2 cz
set_option maxHeartbeats 4000000 in
set_option maxRecDepth 100000 in
theorem tb_L_alike_123 {p : Program} {l : Launch} {e : Env} {s : State} {m : MethodId} {args : Array Value} {below : List Frame} {meth : Method} {c : Code} {G : gG} {A : Nat → Prop} {x1 : Nat} {x2 : Nat} {kd : Nat → Nat} {post : Int32 → Mm → Mm → Prop} (X : Cx p l s m args meth c cL_alike 4 (some .boolean) RL G A) (hl0 : l.stackTraces = false) (hkd : G.2.2 = kd) : ∀ (v2 : Int32) (μ1 : Mm) (μ2 : Mm) (cz : Nat), disM μ1 μ2 → wb_L_alike_123 x1 x2 kd post v2 μ1 μ2 cz → J p l e (rmL (79) 1500 12000) s m args below meth c 4 G A (MQ below (QG G A (pI (fun r9 μ9 => ∃ a9 b9, μ9 = joinM a9 b9 ∧ disM a9 b9 ∧ post r9 a9 b9))) args s 1500 12000 A) cz (8 * cz) 123 [(0, .ref x1), (1, .ref x2), (2, .int v2)] [] (joinM μ1 μ2) := by
  intro v2 μ1 μ2 cz hd hw
  unfold wb_L_alike_123 at hw
  refine j_iconst X (pc' := 124) (v := 0) (by decide) dL_alike_123 rfl ?_
  refine j_istore_n X (pc' := 125) (kk := 3) (i := 3) (loc' := [(3, .int ((0 : Int32))), (0, .ref x1), (1, .ref x2), (2, .int v2)]) dL_alike_124 rfl rfl (by decide) rfl ?_
  obtain ⟨n0, hw1⟩ := hw
  refine j_loc [1, 2, 3, 0] rfl ?_
  exact tb_L_alike_125 X hl0 hkd n0 _ _ _ _ _ hd hw1
def wb_L_alike_116 (x1 : Nat) (x2 : Nat) (kd : Nat → Nat) (post : Int32 → Mm → Mm → Prop) (K41 : Int32 → Int32 → Mm → Mm → Nat → Prop) (v3 : Int32) (s0 : Int32) (μ1 : Mm) (μ2 : Mm) (cz : Nat) : Prop := K41 s0 (v3 + 1) μ1 μ2 cz
set_option maxHeartbeats 4000000 in
set_option maxRecDepth 100000 in
theorem tb_L_alike_116 {p : Program} {l : Launch} {e : Env} {s : State} {m : MethodId} {args : Array Value} {below : List Frame} {meth : Method} {c : Code} {G : gG} {A : Nat → Prop} {x1 : Nat} {x2 : Nat} {kd : Nat → Nat} {post : Int32 → Mm → Mm → Prop} {K41 : Int32 → Int32 → Mm → Mm → Nat → Prop} (X : Cx p l s m args meth c cL_alike 4 (some .boolean) RL G A) (hl0 : l.stackTraces = false) (hkd : G.2.2 = kd) (hK41 : ∀ (v2 : Int32) (v3 : Int32) (μ1 : Mm) (μ2 : Mm) (cz : Nat), disM μ1 μ2 → K41 v2 v3 μ1 μ2 cz → J p l e (rmL (79) 1500 12000) s m args below meth c 4 G A (MQ below (QG G A (pI (fun r9 μ9 => ∃ a9 b9, μ9 = joinM a9 b9 ∧ disM a9 b9 ∧ post r9 a9 b9))) args s 1500 12000 A) cz (8 * cz) 41 [(0, .ref x1), (1, .ref x2), (2, .int v2), (3, .int v3)] [] (joinM μ1 μ2)) : ∀ (v3 : Int32) (s0 : Int32) (μ1 : Mm) (μ2 : Mm) (cz : Nat), disM μ1 μ2 → wb_L_alike_116 x1 x2 kd post K41 v3 s0 μ1 μ2 cz → J p l e (rmL (79) 1500 12000) s m args below meth c 4 G A (MQ below (QG G A (pI (fun r9 μ9 => ∃ a9 b9, μ9 = joinM a9 b9 ∧ disM a9 b9 ∧ post r9 a9 b9))) args s 1500 12000 A) cz (8 * cz) 116 [(0, .ref x1), (1, .ref x2), (3, .int v3)] [.int s0] (joinM μ1 μ2) := by
  intro v3 s0 μ1 μ2 cz hd hw
  unfold wb_L_alike_116 at hw
  refine j_istore_n X (pc' := 117) (kk := 2) (i := 2) (loc' := [(2, .int s0), (0, .ref x1), (1, .ref x2), (3, .int v3)]) dL_alike_116 rfl rfl (by decide) rfl ?_
  refine j_iinc X (pc' := 120) (i := 3) (v := v3 + 1) (loc' := [(3, .int (v3 + 1)), (2, .int s0), (0, .ref x1), (1, .ref x2)]) 3 rfl rfl dL_alike_117 rfl (by decide) rfl ?_
  refine j_goto X (tgt := 41) dL_alike_120 (by decide) ?_
  refine j_loc [2, 3, 1, 0] rfl ?_
  exact hK41 _ _ _ _ _ hd hw
def wb_L_alike_115 (x1 : Nat) (x2 : Nat) (kd : Nat → Nat) (post : Int32 → Mm → Mm → Prop) (K41 : Int32 → Int32 → Mm → Mm → Nat → Prop) (v3 : Int32) (μ1 : Mm) (μ2 : Mm) (cz : Nat) : Prop := wb_L_alike_116 x1 x2 kd post K41 v3 (0 : Int32) μ1 μ2 cz
set_option maxHeartbeats 4000000 in
set_option maxRecDepth 100000 in
theorem tb_L_alike_115 {p : Program} {l : Launch} {e : Env} {s : State} {m : MethodId} {args : Array Value} {below : List Frame} {meth : Method} {c : Code} {G : gG} {A : Nat → Prop} {x1 : Nat} {x2 : Nat} {kd : Nat → Nat} {post : Int32 → Mm → Mm → Prop} {K41 : Int32 → Int32 → Mm → Mm → Nat → Prop} (X : Cx p l s m args meth c cL_alike 4 (some .boolean) RL G A) (hl0 : l.stackTraces = false) (hkd : G.2.2 = kd) (hK41 : ∀ (v2 : Int32) (v3 : Int32) (μ1 : Mm) (μ2 : Mm) (cz : Nat), disM μ1 μ2 → K41 v2 v3 μ1 μ2 cz → J p l e (rmL (79) 1500 12000) s m args below meth c 4 G A (MQ below (QG G A (pI (fun r9 μ9 => ∃ a9 b9, μ9 = joinM a9 b9 ∧ disM a9 b9 ∧ post r9 a9 b9))) args s 1500 12000 A) cz (8 * cz) 41 [(0, .ref x1), (1, .ref x2), (2, .int v2), (3, .int v3)] [] (joinM μ1 μ2)) : ∀ (v3 : Int32) (μ1 : Mm) (μ2 : Mm) (cz : Nat), disM μ1 μ2 → wb_L_alike_115 x1 x2 kd post K41 v3 μ1 μ2 cz → J p l e (rmL (79) 1500 12000) s m args below meth c 4 G A (MQ below (QG G A (pI (fun r9 μ9 => ∃ a9 b9, μ9 = joinM a9 b9 ∧ disM a9 b9 ∧ post r9 a9 b9))) args s 1500 12000 A) cz (8 * cz) 115 [(0, .ref x1), (1, .ref x2), (3, .int v3)] [] (joinM μ1 μ2) := by
  intro v3 μ1 μ2 cz hd hw
  unfold wb_L_alike_115 at hw
  refine j_iconst X (pc' := 116) (v := 0) (by decide) dL_alike_115 rfl ?_
  exact tb_L_alike_116 X hl0 hkd hK41 _ _ _ _ _ hd hw
def wb_L_alike_41 (x1 : Nat) (x2 : Nat) (kd : Nat → Nat) (post : Int32 → Mm → Mm → Prop)  : Nat → Int32 → Int32 → Mm → Mm → Nat → Prop
  | 0 => fun _ _ _ _ _ => False
  | n + 1 => fun v2 v3 μ1 μ2 cz => cz ≤ 1500 ∧ (∃ f43, μ1 x1 = some (.inl (5, f43))) ∧ wp_X6_types x1 μ1 (fun r41 μ44 => (r41 ≤ v3 → (wb_L_alike_123 x1 x2 kd post v2 μ44 μ2 cz)) ∧ (¬ r41 ≤ v3 → ((v2 = 0 → (wb_L_alike_123 x1 x2 kd post v2 μ44 μ2 cz)) ∧ (¬ v2 = 0 → (cz + 1 ≤ 1500 ∧ wp_L_least x1 v3 μ44 (fun r49 μ52 => cz + 2 ≤ 1500 ∧ wp_L_least x2 v3 μ2 (fun r55 μ58 => (¬ r49 = r55 → (wb_L_alike_115 x1 x2 kd post (wb_L_alike_41 x1 x2 kd post n) v3 μ52 μ58 (cz + 2))) ∧ (r49 = r55 → (cz + 3 ≤ 1500 ∧ wp_L_most x1 v3 μ52 (fun r62 μ65 => cz + 4 ≤ 1500 ∧ wp_L_most x2 v3 μ58 (fun r68 μ71 => (¬ r62 = r68 → (wb_L_alike_115 x1 x2 kd post (wb_L_alike_41 x1 x2 kd post n) v3 μ65 μ71 (cz + 4))) ∧ (r62 = r68 → (cz + 5 ≤ 1500 ∧ wp_L_wrong kd x1 v3 μ65 (fun r75 μ78 => cz + 6 ≤ 1500 ∧ wp_L_wrong kd x2 v3 μ71 (fun r81 μ84 => (¬ r75 = r81 → (wb_L_alike_115 x1 x2 kd post (wb_L_alike_41 x1 x2 kd post n) v3 μ78 μ84 (cz + 6))) ∧ (r75 = r81 → (cz + 8 ≤ 1500 ∧ wp_L_fault kd x1 v3 (v3 - v3 / (4 : Int32) * (4 : Int32)) μ78 (fun r88 μ91 => cz + 10 ≤ 1500 ∧ wp_L_fault kd x2 v3 (v3 - v3 / (4 : Int32) * (4 : Int32)) μ84 (fun r94 μ97 => (¬ r88 = r94 → (wb_L_alike_115 x1 x2 kd post (wb_L_alike_41 x1 x2 kd post n) v3 μ91 μ97 (cz + 10))) ∧ (r88 = r94 → (wb_L_alike_116 x1 x2 kd post (wb_L_alike_41 x1 x2 kd post n) v3 (1 : Int32) μ91 μ97 (cz + 10))))))))))))))))))))))
set_option maxHeartbeats 4000000 in
set_option maxRecDepth 100000 in
theorem tb_L_alike_41 {p : Program} {l : Launch} {e : Env} {s : State} {m : MethodId} {args : Array Value} {below : List Frame} {meth : Method} {c : Code} {G : gG} {A : Nat → Prop} {x1 : Nat} {x2 : Nat} {kd : Nat → Nat} {post : Int32 → Mm → Mm → Prop} (X : Cx p l s m args meth c cL_alike 4 (some .boolean) RL G A) (hl0 : l.stackTraces = false) (hkd : G.2.2 = kd) : ∀ (n : Nat) (v2 : Int32) (v3 : Int32) (μ1 : Mm) (μ2 : Mm) (cz : Nat), disM μ1 μ2 → wb_L_alike_41 x1 x2 kd post n v2 v3 μ1 μ2 cz → J p l e (rmL (79) 1500 12000) s m args below meth c 4 G A (MQ below (QG G A (pI (fun r9 μ9 => ∃ a9 b9, μ9 = joinM a9 b9 ∧ disM a9 b9 ∧ post r9 a9 b9))) args s 1500 12000 A) cz (8 * cz) 41 [(0, .ref x1), (1, .ref x2), (2, .int v2), (3, .int v3)] [] (joinM μ1 μ2) := by
  intro n
  induction n with
  | zero => intro v2 v3 μ1 μ2 cz hd hw; exact hw.elim
  | succ n ih =>
    intro v2 v3 μ1 μ2 cz hd hw
    rw [wb_L_alike_41] at hw
    refine j_iload_n X (pc' := 42) (kk := 3) (i := 3) 3 rfl rfl dL_alike_41 rfl ?_
    refine j_aload_n X (pc' := 43) (kk := 0) (i := 0) 0 rfl rfl dL_alike_42 rfl ?_
    obtain ⟨hz40, hw1⟩ := hw
    obtain ⟨⟨f43, hm42⟩, hw2⟩ := hw1
    refine j_lawV X (pc' := 46) (b := x1) (As := []) (rest := [.int v3]) (mc1 := 0) (ms1 := 0) hd (fun A1 => c_X6_types l G A1 x1 μ1 _ hw2) (gk_X6_types wt_1_128) hd_X6_types (rmL_fit (k1 := 1) (k := 79) (by omega) (by decide)) hm42 rfl rfl rfl (Nat.le_of_ble_eq_true rfl) dL_alike_43 rfl ⟨by show _ ≤ 1500; omega, by show _ ≤ 12000; omega⟩ (fun r41 μ44 hd45 hw3 => ?_)
    refine j_widen (k1 := cz) (n1 := 8 * (cz)) (by omega) (by omega) ?_
    refine j_icmp_ge X (pc' := 49) (tgt := 123) dL_alike_46 rfl (by decide) (fun c46 => ?_) (fun c46 => ?_)
    · have hw4 := hw3.1 c46
      refine j_loc [0, 1, 2] rfl ?_
      exact tb_L_alike_123 X hl0 hkd _ _ _ _ hd45 hw4
    · have hw5 := hw3.2 c46
      refine j_iload_n X (pc' := 50) (kk := 2) (i := 2) 2 rfl rfl dL_alike_49 rfl ?_
      refine j_if_eq X (pc' := 53) (tgt := 123) dL_alike_50 rfl (by decide) (fun c47 => ?_) (fun c47 => ?_)
      · have hw6 := hw5.1 c47
        refine j_loc [0, 1, 2] rfl ?_
        exact tb_L_alike_123 X hl0 hkd _ _ _ _ hd45 hw6
      · have hw7 := hw5.2 c47
        refine j_aload_n X (pc' := 54) (kk := 0) (i := 0) 0 rfl rfl dL_alike_53 rfl ?_
        refine j_iload_n X (pc' := 55) (kk := 3) (i := 3) 3 rfl rfl dL_alike_54 rfl ?_
        obtain ⟨hz48, hw8⟩ := hw7
        refine j_lawS X (pc' := 58) (As := [.ref x1, .int v3]) (rest := []) (mc1 := 1) (ms1 := 6) hd45 (fun A1 => c_L_least l G A1 hl0 x1 v3 μ44 _ hw8) (gk_L_least wt_2_174) hd_L_least (rmL_fit (k1 := 3) (k := 79) (by omega) (by decide)) rfl rfl (Nat.le_of_ble_eq_true rfl) dL_alike_55 rfl ⟨by show _ ≤ 1500; omega, by show _ ≤ 12000; omega⟩ (fun r49 μ52 hd53 hw9 => ?_)
        refine j_widen (k1 := cz + 1) (n1 := 8 * (cz + 1)) (by omega) (by omega) ?_
        refine j_aload_n X (pc' := 59) (kk := 1) (i := 1) 1 rfl rfl dL_alike_58 rfl ?_
        refine j_iload_n X (pc' := 60) (kk := 3) (i := 3) 3 rfl rfl dL_alike_59 rfl ?_
        obtain ⟨hz54, hw10⟩ := hw9
        refine j_lawS2 X (pc' := 63) (As := [.ref x2, .int v3]) (rest := [.int r49]) (mc1 := 1) (ms1 := 6) hd53 (fun A1 => c_L_least l G A1 hl0 x2 v3 μ2 _ hw10) (gk_L_least wt_2_174) hd_L_least (rmL_fit (k1 := 3) (k := 79) (by omega) (by decide)) rfl rfl (Nat.le_of_ble_eq_true rfl) dL_alike_60 rfl ⟨by show _ ≤ 1500; omega, by show _ ≤ 12000; omega⟩ (fun r55 μ58 hd59 hw11 => ?_)
        refine j_widen (k1 := cz + 2) (n1 := 8 * (cz + 2)) (by omega) (by omega) ?_
        refine j_icmp_ne X (pc' := 66) (tgt := 115) dL_alike_63 rfl (by decide) (fun c60 => ?_) (fun c60 => ?_)
        · have hw12 := hw11.1 c60
          refine j_loc [0, 1, 3] rfl ?_
          exact tb_L_alike_115 X hl0 hkd ih _ _ _ _ hd59 hw12
        · have hw13 := hw11.2 c60
          refine j_aload_n X (pc' := 67) (kk := 0) (i := 0) 0 rfl rfl dL_alike_66 rfl ?_
          refine j_iload_n X (pc' := 68) (kk := 3) (i := 3) 3 rfl rfl dL_alike_67 rfl ?_
          obtain ⟨hz61, hw14⟩ := hw13
          refine j_lawS X (pc' := 71) (As := [.ref x1, .int v3]) (rest := []) (mc1 := 1) (ms1 := 6) hd59 (fun A1 => c_L_most l G A1 hl0 x1 v3 μ52 _ hw14) (gk_L_most wt_2_181) hd_L_most (rmL_fit (k1 := 3) (k := 79) (by omega) (by decide)) rfl rfl (Nat.le_of_ble_eq_true rfl) dL_alike_68 rfl ⟨by show _ ≤ 1500; omega, by show _ ≤ 12000; omega⟩ (fun r62 μ65 hd66 hw15 => ?_)
          refine j_widen (k1 := cz + 3) (n1 := 8 * (cz + 3)) (by omega) (by omega) ?_
          refine j_aload_n X (pc' := 72) (kk := 1) (i := 1) 1 rfl rfl dL_alike_71 rfl ?_
          refine j_iload_n X (pc' := 73) (kk := 3) (i := 3) 3 rfl rfl dL_alike_72 rfl ?_
          obtain ⟨hz67, hw16⟩ := hw15
          refine j_lawS2 X (pc' := 76) (As := [.ref x2, .int v3]) (rest := [.int r62]) (mc1 := 1) (ms1 := 6) hd66 (fun A1 => c_L_most l G A1 hl0 x2 v3 μ58 _ hw16) (gk_L_most wt_2_181) hd_L_most (rmL_fit (k1 := 3) (k := 79) (by omega) (by decide)) rfl rfl (Nat.le_of_ble_eq_true rfl) dL_alike_73 rfl ⟨by show _ ≤ 1500; omega, by show _ ≤ 12000; omega⟩ (fun r68 μ71 hd72 hw17 => ?_)
          refine j_widen (k1 := cz + 4) (n1 := 8 * (cz + 4)) (by omega) (by omega) ?_
          refine j_icmp_ne X (pc' := 79) (tgt := 115) dL_alike_76 rfl (by decide) (fun c73 => ?_) (fun c73 => ?_)
          · have hw18 := hw17.1 c73
            refine j_loc [0, 1, 3] rfl ?_
            exact tb_L_alike_115 X hl0 hkd ih _ _ _ _ hd72 hw18
          · have hw19 := hw17.2 c73
            refine j_aload_n X (pc' := 80) (kk := 0) (i := 0) 0 rfl rfl dL_alike_79 rfl ?_
            refine j_iload_n X (pc' := 81) (kk := 3) (i := 3) 3 rfl rfl dL_alike_80 rfl ?_
            obtain ⟨hz74, hw20⟩ := hw19
            refine j_lawS X (pc' := 84) (As := [.ref x1, .int v3]) (rest := []) (mc1 := 1) (ms1 := 6) hd72 (fun A1 => c_L_wrong l G A1 hl0 kd hkd x1 v3 μ65 _ hw20) (gk_L_wrong wt_2_225) hd_L_wrong (rmL_fit (k1 := 77) (k := 79) (by omega) (by decide)) rfl rfl (Nat.le_of_ble_eq_true rfl) dL_alike_81 rfl ⟨by show _ ≤ 1500; omega, by show _ ≤ 12000; omega⟩ (fun r75 μ78 hd79 hw21 => ?_)
            refine j_widen (k1 := cz + 5) (n1 := 8 * (cz + 5)) (by omega) (by omega) ?_
            refine j_aload_n X (pc' := 85) (kk := 1) (i := 1) 1 rfl rfl dL_alike_84 rfl ?_
            refine j_iload_n X (pc' := 86) (kk := 3) (i := 3) 3 rfl rfl dL_alike_85 rfl ?_
            obtain ⟨hz80, hw22⟩ := hw21
            refine j_lawS2 X (pc' := 89) (As := [.ref x2, .int v3]) (rest := [.int r75]) (mc1 := 1) (ms1 := 6) hd79 (fun A1 => c_L_wrong l G A1 hl0 kd hkd x2 v3 μ71 _ hw22) (gk_L_wrong wt_2_225) hd_L_wrong (rmL_fit (k1 := 77) (k := 79) (by omega) (by decide)) rfl rfl (Nat.le_of_ble_eq_true rfl) dL_alike_86 rfl ⟨by show _ ≤ 1500; omega, by show _ ≤ 12000; omega⟩ (fun r81 μ84 hd85 hw23 => ?_)
            refine j_widen (k1 := cz + 6) (n1 := 8 * (cz + 6)) (by omega) (by omega) ?_
            refine j_icmp_ne X (pc' := 92) (tgt := 115) dL_alike_89 rfl (by decide) (fun c86 => ?_) (fun c86 => ?_)
            · have hw24 := hw23.1 c86
              refine j_loc [0, 1, 3] rfl ?_
              exact tb_L_alike_115 X hl0 hkd ih _ _ _ _ hd85 hw24
            · have hw25 := hw23.2 c86
              refine j_aload_n X (pc' := 93) (kk := 0) (i := 0) 0 rfl rfl dL_alike_92 rfl ?_
              refine j_iload_n X (pc' := 94) (kk := 3) (i := 3) 3 rfl rfl dL_alike_93 rfl ?_
              refine j_iload_n X (pc' := 95) (kk := 3) (i := 3) 3 rfl rfl dL_alike_94 rfl ?_
              refine j_iconst X (pc' := 96) (v := 4) (by decide) dL_alike_95 rfl ?_
              refine j_irem X (pc' := 97) (by decide) dL_alike_96 rfl ?_
              obtain ⟨hz87, hw26⟩ := hw25
              refine j_lawS X (pc' := 100) (As := [.ref x1, .int v3, .int (v3 - v3 / (4 : Int32) * (4 : Int32))]) (rest := []) (mc1 := 2) (ms1 := 12) hd85 (fun A1 => c_L_fault l G A1 hl0 kd hkd x1 v3 (v3 - v3 / (4 : Int32) * (4 : Int32)) μ78 _ hw26) (gk_L_fault wt_3_138) hd_L_fault (rmL_fit (k1 := 78) (k := 79) (by omega) (by decide)) rfl rfl (Nat.le_of_ble_eq_true rfl) dL_alike_97 rfl ⟨by show _ ≤ 1500; omega, by show _ ≤ 12000; omega⟩ (fun r88 μ91 hd92 hw27 => ?_)
              refine j_widen (k1 := cz + 8) (n1 := 8 * (cz + 8)) (by omega) (by omega) ?_
              refine j_aload_n X (pc' := 101) (kk := 1) (i := 1) 1 rfl rfl dL_alike_100 rfl ?_
              refine j_iload_n X (pc' := 102) (kk := 3) (i := 3) 3 rfl rfl dL_alike_101 rfl ?_
              refine j_iload_n X (pc' := 103) (kk := 3) (i := 3) 3 rfl rfl dL_alike_102 rfl ?_
              refine j_iconst X (pc' := 104) (v := 4) (by decide) dL_alike_103 rfl ?_
              refine j_irem X (pc' := 105) (by decide) dL_alike_104 rfl ?_
              obtain ⟨hz93, hw28⟩ := hw27
              refine j_lawS2 X (pc' := 108) (As := [.ref x2, .int v3, .int (v3 - v3 / (4 : Int32) * (4 : Int32))]) (rest := [.int r88]) (mc1 := 2) (ms1 := 12) hd92 (fun A1 => c_L_fault l G A1 hl0 kd hkd x2 v3 (v3 - v3 / (4 : Int32) * (4 : Int32)) μ84 _ hw28) (gk_L_fault wt_3_138) hd_L_fault (rmL_fit (k1 := 78) (k := 79) (by omega) (by decide)) rfl rfl (Nat.le_of_ble_eq_true rfl) dL_alike_105 rfl ⟨by show _ ≤ 1500; omega, by show _ ≤ 12000; omega⟩ (fun r94 μ97 hd98 hw29 => ?_)
              refine j_widen (k1 := cz + 10) (n1 := 8 * (cz + 10)) (by omega) (by omega) ?_
              refine j_icmp_ne X (pc' := 111) (tgt := 115) dL_alike_108 rfl (by decide) (fun c99 => ?_) (fun c99 => ?_)
              · have hw30 := hw29.1 c99
                refine j_loc [0, 1, 3] rfl ?_
                exact tb_L_alike_115 X hl0 hkd ih _ _ _ _ hd98 hw30
              · have hw31 := hw29.2 c99
                refine j_iconst X (pc' := 112) (v := 1) (by decide) dL_alike_111 rfl ?_
                refine j_goto X (tgt := 116) dL_alike_112 (by decide) ?_
                refine j_loc [0, 1, 3] rfl ?_
                exact tb_L_alike_116 X hl0 hkd ih _ _ _ _ _ hd98 hw31
def wb_L_alike_38 (x1 : Nat) (x2 : Nat) (kd : Nat → Nat) (post : Int32 → Mm → Mm → Prop)  (s0 : Int32) (μ1 : Mm) (μ2 : Mm) (cz : Nat) : Prop := ∃ n9, wb_L_alike_41 x1 x2 kd post n9 s0 (0 : Int32) μ1 μ2 cz
set_option maxHeartbeats 4000000 in
set_option maxRecDepth 100000 in
theorem tb_L_alike_38 {p : Program} {l : Launch} {e : Env} {s : State} {m : MethodId} {args : Array Value} {below : List Frame} {meth : Method} {c : Code} {G : gG} {A : Nat → Prop} {x1 : Nat} {x2 : Nat} {kd : Nat → Nat} {post : Int32 → Mm → Mm → Prop} (X : Cx p l s m args meth c cL_alike 4 (some .boolean) RL G A) (hl0 : l.stackTraces = false) (hkd : G.2.2 = kd) : ∀ (s0 : Int32) (μ1 : Mm) (μ2 : Mm) (cz : Nat), disM μ1 μ2 → wb_L_alike_38 x1 x2 kd post s0 μ1 μ2 cz → J p l e (rmL (79) 1500 12000) s m args below meth c 4 G A (MQ below (QG G A (pI (fun r9 μ9 => ∃ a9 b9, μ9 = joinM a9 b9 ∧ disM a9 b9 ∧ post r9 a9 b9))) args s 1500 12000 A) cz (8 * cz) 38 [(0, .ref x1), (1, .ref x2)] [.int s0] (joinM μ1 μ2) := by
  intro s0 μ1 μ2 cz hd hw
  unfold wb_L_alike_38 at hw
  refine j_istore_n X (pc' := 39) (kk := 2) (i := 2) (loc' := [(2, .int s0), (0, .ref x1), (1, .ref x2)]) dL_alike_38 rfl rfl (by decide) rfl ?_
  refine j_iconst X (pc' := 40) (v := 0) (by decide) dL_alike_39 rfl ?_
  refine j_istore_n X (pc' := 41) (kk := 3) (i := 3) (loc' := [(3, .int ((0 : Int32))), (2, .int s0), (0, .ref x1), (1, .ref x2)]) dL_alike_40 rfl rfl (by decide) rfl ?_
  obtain ⟨n0, hw1⟩ := hw
  refine j_loc [2, 3, 1, 0] rfl ?_
  exact tb_L_alike_41 X hl0 hkd n0 _ _ _ _ _ hd hw1
def wb_L_alike_37 (x1 : Nat) (x2 : Nat) (kd : Nat → Nat) (post : Int32 → Mm → Mm → Prop)   (μ1 : Mm) (μ2 : Mm) (cz : Nat) : Prop := wb_L_alike_38 x1 x2 kd post (0 : Int32) μ1 μ2 cz
set_option maxHeartbeats 4000000 in
set_option maxRecDepth 100000 in
theorem tb_L_alike_37 {p : Program} {l : Launch} {e : Env} {s : State} {m : MethodId} {args : Array Value} {below : List Frame} {meth : Method} {c : Code} {G : gG} {A : Nat → Prop} {x1 : Nat} {x2 : Nat} {kd : Nat → Nat} {post : Int32 → Mm → Mm → Prop} (X : Cx p l s m args meth c cL_alike 4 (some .boolean) RL G A) (hl0 : l.stackTraces = false) (hkd : G.2.2 = kd) : ∀ (μ1 : Mm) (μ2 : Mm) (cz : Nat), disM μ1 μ2 → wb_L_alike_37 x1 x2 kd post μ1 μ2 cz → J p l e (rmL (79) 1500 12000) s m args below meth c 4 G A (MQ below (QG G A (pI (fun r9 μ9 => ∃ a9 b9, μ9 = joinM a9 b9 ∧ disM a9 b9 ∧ post r9 a9 b9))) args s 1500 12000 A) cz (8 * cz) 37 [(0, .ref x1), (1, .ref x2)] [] (joinM μ1 μ2) := by
  intro μ1 μ2 cz hd hw
  unfold wb_L_alike_37 at hw
  refine j_iconst X (pc' := 38) (v := 0) (by decide) dL_alike_37 rfl ?_
  exact tb_L_alike_38 X hl0 hkd _ _ _ _ hd hw
def wp_L_alike (x1 : Nat) (x2 : Nat) (kd : Nat → Nat) (μ1 : Mm) (μ2 : Mm) (post : Int32 → Mm → Mm → Prop) : Prop := 0 ≤ 1500 ∧ (∃ f4, μ1 x1 = some (.inl (5, f4))) ∧ wp_X6_types x1 μ1 (fun r2 μ5 => 0 ≤ 1500 ∧ (∃ f10, μ2 x2 = some (.inl (5, f10))) ∧ wp_X6_types x2 μ2 (fun r8 μ11 => (¬ r2 = r8 → (wb_L_alike_37 x1 x2 kd post μ5 μ11 0)) ∧ (r2 = r8 → (0 ≤ 1500 ∧ (∃ f17, μ5 x1 = some (.inl (5, f17))) ∧ wp_X6_length x1 μ5 (fun r15 μ18 => 0 ≤ 1500 ∧ (∃ f23, μ11 x2 = some (.inl (5, f23))) ∧ wp_X6_length x2 μ11 (fun r21 μ24 => (¬ r15 = r21 → (wb_L_alike_37 x1 x2 kd post μ18 μ24 0)) ∧ (r15 = r21 → (0 ≤ 1500 ∧ (∃ f30, μ18 x1 = some (.inl (5, f30))) ∧ wp_X6_bits x1 μ18 (fun r28 μ31 => 0 ≤ 1500 ∧ (∃ f36, μ24 x2 = some (.inl (5, f36))) ∧ wp_X6_bits x2 μ24 (fun r34 μ37 => (¬ r28 = r34 → (wb_L_alike_37 x1 x2 kd post μ31 μ37 0)) ∧ (r28 = r34 → (wb_L_alike_38 x1 x2 kd post (1 : Int32) μ31 μ37 0))))))))))))
set_option maxHeartbeats 4000000 in
set_option maxRecDepth 100000 in
theorem c_L_alike (l : Launch) (G : gG) (A : Nat → Prop) (hl0 : l.stackTraces = false) (kd : Nat → Nat) (hkd : G.2.2 = kd) (x1 : Nat) (x2 : Nat) (μ1 : Mm) (μ2 : Mm) (post : Int32 → Mm → Mm → Prop) (hd : disM μ1 μ2) (h : wp_L_alike x1 x2 kd μ1 μ2 post) : Met l yL_alike (.code yL_alike cL_alike 4 (some .boolean) :: wsA) (rmL (79) 1500 12000) (PcG G A (joinM μ1 μ2) [.ref x1, .ref x2]) (QG G A (pI (fun r9 μ9 => ∃ a9 b9, μ9 = joinM a9 b9 ∧ disM a9 b9 ∧ post r9 a9 b9))) 1500 12000 A := by
  refine met_J (loc := [(0, .ref x1), (1, .ref x2)]) (by decide +kernel) (Nat.le_of_ble_eq_true rfl) rfl ?_
  intro p e s m args below meth c X hin
  have X : Cx p l s m args meth c cL_alike 4 (some .boolean) RL G A := X
  have hw := h
  unfold wp_L_alike at hw
  refine j_aload_n X (pc' := 1) (kk := 0) (i := 0) 0 rfl rfl dL_alike_0 rfl ?_
  obtain ⟨hz1, hw1⟩ := hw
  obtain ⟨⟨f4, hm3⟩, hw2⟩ := hw1
  refine j_lawV X (pc' := 4) (b := x1) (As := []) (rest := []) (mc1 := 0) (ms1 := 0) hd (fun A1 => c_X6_types l G A1 x1 μ1 _ hw2) (gk_X6_types wt_1_128) hd_X6_types (rmL_fit (k1 := 1) (k := 79) (by omega) (by decide)) hm3 rfl rfl rfl (Nat.le_of_ble_eq_true rfl) dL_alike_1 rfl ⟨by show _ ≤ 1500; omega, by show _ ≤ 12000; omega⟩ (fun r2 μ5 hd6 hw3 => ?_)
  refine j_widen (k1 := 0) (n1 := 8 * (0)) (by omega) (by omega) ?_
  refine j_aload_n X (pc' := 5) (kk := 1) (i := 1) 1 rfl rfl dL_alike_4 rfl ?_
  obtain ⟨hz7, hw4⟩ := hw3
  obtain ⟨⟨f10, hm9⟩, hw5⟩ := hw4
  refine j_lawV2 X (pc' := 8) (b := x2) (As := []) (rest := [.int r2]) (mc1 := 0) (ms1 := 0) hd6 (fun A1 => c_X6_types l G A1 x2 μ2 _ hw5) (gk_X6_types wt_1_128) hd_X6_types (rmL_fit (k1 := 1) (k := 79) (by omega) (by decide)) hm9 rfl rfl rfl (Nat.le_of_ble_eq_true rfl) dL_alike_5 rfl ⟨by show _ ≤ 1500; omega, by show _ ≤ 12000; omega⟩ (fun r8 μ11 hd12 hw6 => ?_)
  refine j_widen (k1 := 0) (n1 := 8 * (0)) (by omega) (by omega) ?_
  refine j_icmp_ne X (pc' := 11) (tgt := 37) dL_alike_8 rfl (by decide) (fun c13 => ?_) (fun c13 => ?_)
  · have hw7 := hw6.1 c13
    exact tb_L_alike_37 X hl0 hkd  _ _ _ hd12 hw7
  · have hw8 := hw6.2 c13
    refine j_aload_n X (pc' := 12) (kk := 0) (i := 0) 0 rfl rfl dL_alike_11 rfl ?_
    obtain ⟨hz14, hw9⟩ := hw8
    obtain ⟨⟨f17, hm16⟩, hw10⟩ := hw9
    refine j_lawV X (pc' := 15) (b := x1) (As := []) (rest := []) (mc1 := 0) (ms1 := 0) hd12 (fun A1 => c_X6_length l G A1 x1 μ5 _ hw10) (gk_X6_length wt_2_221) hd_X6_length (rmL_fit (k1 := 1) (k := 79) (by omega) (by decide)) hm16 rfl rfl rfl (Nat.le_of_ble_eq_true rfl) dL_alike_12 rfl ⟨by show _ ≤ 1500; omega, by show _ ≤ 12000; omega⟩ (fun r15 μ18 hd19 hw11 => ?_)
    refine j_widen (k1 := 0) (n1 := 8 * (0)) (by omega) (by omega) ?_
    refine j_aload_n X (pc' := 16) (kk := 1) (i := 1) 1 rfl rfl dL_alike_15 rfl ?_
    obtain ⟨hz20, hw12⟩ := hw11
    obtain ⟨⟨f23, hm22⟩, hw13⟩ := hw12
    refine j_lawV2 X (pc' := 19) (b := x2) (As := []) (rest := [.int r15]) (mc1 := 0) (ms1 := 0) hd19 (fun A1 => c_X6_length l G A1 x2 μ11 _ hw13) (gk_X6_length wt_2_221) hd_X6_length (rmL_fit (k1 := 1) (k := 79) (by omega) (by decide)) hm22 rfl rfl rfl (Nat.le_of_ble_eq_true rfl) dL_alike_16 rfl ⟨by show _ ≤ 1500; omega, by show _ ≤ 12000; omega⟩ (fun r21 μ24 hd25 hw14 => ?_)
    refine j_widen (k1 := 0) (n1 := 8 * (0)) (by omega) (by omega) ?_
    refine j_icmp_ne X (pc' := 22) (tgt := 37) dL_alike_19 rfl (by decide) (fun c26 => ?_) (fun c26 => ?_)
    · have hw15 := hw14.1 c26
      exact tb_L_alike_37 X hl0 hkd  _ _ _ hd25 hw15
    · have hw16 := hw14.2 c26
      refine j_aload_n X (pc' := 23) (kk := 0) (i := 0) 0 rfl rfl dL_alike_22 rfl ?_
      obtain ⟨hz27, hw17⟩ := hw16
      obtain ⟨⟨f30, hm29⟩, hw18⟩ := hw17
      refine j_lawV X (pc' := 26) (b := x1) (As := []) (rest := []) (mc1 := 0) (ms1 := 0) hd25 (fun A1 => c_X6_bits l G A1 x1 μ18 _ hw18) (gk_X6_bits wt_1_136) hd_X6_bits (rmL_fit (k1 := 1) (k := 79) (by omega) (by decide)) hm29 rfl rfl rfl (Nat.le_of_ble_eq_true rfl) dL_alike_23 rfl ⟨by show _ ≤ 1500; omega, by show _ ≤ 12000; omega⟩ (fun r28 μ31 hd32 hw19 => ?_)
      refine j_widen (k1 := 0) (n1 := 8 * (0)) (by omega) (by omega) ?_
      refine j_aload_n X (pc' := 27) (kk := 1) (i := 1) 1 rfl rfl dL_alike_26 rfl ?_
      obtain ⟨hz33, hw20⟩ := hw19
      obtain ⟨⟨f36, hm35⟩, hw21⟩ := hw20
      refine j_lawV2 X (pc' := 30) (b := x2) (As := []) (rest := [.int r28]) (mc1 := 0) (ms1 := 0) hd32 (fun A1 => c_X6_bits l G A1 x2 μ24 _ hw21) (gk_X6_bits wt_1_136) hd_X6_bits (rmL_fit (k1 := 1) (k := 79) (by omega) (by decide)) hm35 rfl rfl rfl (Nat.le_of_ble_eq_true rfl) dL_alike_27 rfl ⟨by show _ ≤ 1500; omega, by show _ ≤ 12000; omega⟩ (fun r34 μ37 hd38 hw22 => ?_)
      refine j_widen (k1 := 0) (n1 := 8 * (0)) (by omega) (by omega) ?_
      refine j_icmp_ne X (pc' := 33) (tgt := 37) dL_alike_30 rfl (by decide) (fun c39 => ?_) (fun c39 => ?_)
      · have hw23 := hw22.1 c39
        exact tb_L_alike_37 X hl0 hkd  _ _ _ hd38 hw23
      · have hw24 := hw22.2 c39
        refine j_iconst X (pc' := 34) (v := 1) (by decide) dL_alike_33 rfl ?_
        refine j_goto X (tgt := 38) dL_alike_34 (by decide) ?_
        exact tb_L_alike_38 X hl0 hkd _ _ _ _ hd38 hw24
