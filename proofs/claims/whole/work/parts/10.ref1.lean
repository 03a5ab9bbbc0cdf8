/-! BitNotationModel.<init>()V -/
theorem dX7_init_0 : decode cX7_init 0 = .ok (.aload_n 0, 1) := by decide +kernel
theorem dX7_init_1 : decode cX7_init 1 = .ok (.invokespecial 1, 3) := by decide +kernel
theorem dX7_init_4 : decode cX7_init 4 = .ok (.aload_n 0, 1) := by decide +kernel
theorem dX7_init_5 : decode cX7_init 5 = .ok (.bipush 16, 2) := by decide +kernel
theorem dX7_init_7 : decode cX7_init 7 = .ok (.newarray .int, 2) := by decide +kernel
theorem dX7_init_9 : decode cX7_init 9 = .ok (.putfield 7, 3) := by decide +kernel
theorem dX7_init_12 : decode cX7_init 12 = .ok (.aload_n 0, 1) := by decide +kernel
theorem dX7_init_13 : decode cX7_init 13 = .ok (.bipush 16, 2) := by decide +kernel
theorem dX7_init_15 : decode cX7_init 15 = .ok (.newarray .int, 2) := by decide +kernel
theorem dX7_init_17 : decode cX7_init 17 = .ok (.putfield 13, 3) := by decide +kernel
theorem dX7_init_20 : decode cX7_init 20 = .ok (.aload_n 0, 1) := by decide +kernel
theorem dX7_init_21 : decode cX7_init 21 = .ok (.bipush 16, 2) := by decide +kernel
theorem dX7_init_23 : decode cX7_init 23 = .ok (.newarray .int, 2) := by decide +kernel
theorem dX7_init_25 : decode cX7_init 25 = .ok (.putfield 16, 3) := by decide +kernel
theorem dX7_init_28 : decode cX7_init 28 = .ok (.aload_n 0, 1) := by decide +kernel
theorem dX7_init_29 : decode cX7_init 29 = .ok (.bipush 96, 2) := by decide +kernel
theorem dX7_init_31 : decode cX7_init 31 = .ok (.newarray .int, 2) := by decide +kernel
theorem dX7_init_33 : decode cX7_init 33 = .ok (.putfield 19, 3) := by decide +kernel
theorem dX7_init_36 : decode cX7_init 36 = .ok (.aload_n 0, 1) := by decide +kernel
theorem dX7_init_37 : decode cX7_init 37 = .ok (.bipush 16, 2) := by decide +kernel
theorem dX7_init_39 : decode cX7_init 39 = .ok (.newarray .int, 2) := by decide +kernel
theorem dX7_init_41 : decode cX7_init 41 = .ok (.putfield 22, 3) := by decide +kernel
theorem dX7_init_44 : decode cX7_init 44 = .ok (.aload_n 0, 1) := by decide +kernel
theorem dX7_init_45 : decode cX7_init 45 = .ok (.bipush 48, 2) := by decide +kernel
theorem dX7_init_47 : decode cX7_init 47 = .ok (.newarray .int, 2) := by decide +kernel
theorem dX7_init_49 : decode cX7_init 49 = .ok (.putfield 25, 3) := by decide +kernel
theorem dX7_init_52 : decode cX7_init 52 = .ok (.aload_n 0, 1) := by decide +kernel
theorem dX7_init_53 : decode cX7_init 53 = .ok (.bipush 16, 2) := by decide +kernel
theorem dX7_init_55 : decode cX7_init 55 = .ok (.newarray .int, 2) := by decide +kernel
theorem dX7_init_57 : decode cX7_init 57 = .ok (.putfield 28, 3) := by decide +kernel
theorem dX7_init_60 : decode cX7_init 60 = .ok (.aload_n 0, 1) := by decide +kernel
theorem dX7_init_61 : decode cX7_init 61 = .ok (.bipush 16, 2) := by decide +kernel
theorem dX7_init_63 : decode cX7_init 63 = .ok (.newarray .int, 2) := by decide +kernel
theorem dX7_init_65 : decode cX7_init 65 = .ok (.putfield 31, 3) := by decide +kernel
theorem dX7_init_68 : decode cX7_init 68 = .ok (.aload_n 0, 1) := by decide +kernel
theorem dX7_init_69 : decode cX7_init 69 = .ok (.bipush 16, 2) := by decide +kernel
theorem dX7_init_71 : decode cX7_init 71 = .ok (.newarray .int, 2) := by decide +kernel
theorem dX7_init_73 : decode cX7_init 73 = .ok (.putfield 34, 3) := by decide +kernel
theorem dX7_init_76 : decode cX7_init 76 = .ok (.aload_n 0, 1) := by decide +kernel
theorem dX7_init_77 : decode cX7_init 77 = .ok (.bipush 16, 2) := by decide +kernel
theorem dX7_init_79 : decode cX7_init 79 = .ok (.newarray .int, 2) := by decide +kernel
theorem dX7_init_81 : decode cX7_init 81 = .ok (.putfield 37, 3) := by decide +kernel
theorem dX7_init_84 : decode cX7_init 84 = .ok (.aload_n 0, 1) := by decide +kernel
theorem dX7_init_85 : decode cX7_init 85 = .ok (.bipush 6, 2) := by decide +kernel
theorem dX7_init_87 : decode cX7_init 87 = .ok (.newarray .int, 2) := by decide +kernel
theorem dX7_init_89 : decode cX7_init 89 = .ok (.putfield 40, 3) := by decide +kernel
theorem dX7_init_92 : decode cX7_init 92 = .ok (.aload_n 0, 1) := by decide +kernel
theorem dX7_init_93 : decode cX7_init 93 = .ok (.sipush 300, 3) := by decide +kernel
theorem dX7_init_96 : decode cX7_init 96 = .ok (.newarray .int, 2) := by decide +kernel
theorem dX7_init_98 : decode cX7_init 98 = .ok (.putfield 43, 3) := by decide +kernel
theorem dX7_init_101 : decode cX7_init 101 = .ok (.aload_n 0, 1) := by decide +kernel
theorem dX7_init_102 : decode cX7_init 102 = .ok (.sipush 300, 3) := by decide +kernel
theorem dX7_init_105 : decode cX7_init 105 = .ok (.newarray .int, 2) := by decide +kernel
theorem dX7_init_107 : decode cX7_init 107 = .ok (.putfield 46, 3) := by decide +kernel
theorem dX7_init_110 : decode cX7_init 110 = .ok (.aload_n 0, 1) := by decide +kernel
theorem dX7_init_111 : decode cX7_init 111 = .ok (.sipush 300, 3) := by decide +kernel
theorem dX7_init_114 : decode cX7_init 114 = .ok (.newarray .int, 2) := by decide +kernel
theorem dX7_init_116 : decode cX7_init 116 = .ok (.putfield 49, 3) := by decide +kernel
theorem dX7_init_119 : decode cX7_init 119 = .ok (.aload_n 0, 1) := by decide +kernel
theorem dX7_init_120 : decode cX7_init 120 = .ok (.bipush 20, 2) := by decide +kernel
theorem dX7_init_122 : decode cX7_init 122 = .ok (.newarray .int, 2) := by decide +kernel
theorem dX7_init_124 : decode cX7_init 124 = .ok (.putfield 52, 3) := by decide +kernel
theorem dX7_init_127 : decode cX7_init 127 = .ok (.aload_n 0, 1) := by decide +kernel
theorem dX7_init_128 : decode cX7_init 128 = .ok (.bipush 20, 2) := by decide +kernel
theorem dX7_init_130 : decode cX7_init 130 = .ok (.newarray .int, 2) := by decide +kernel
theorem dX7_init_132 : decode cX7_init 132 = .ok (.putfield 55, 3) := by decide +kernel
theorem dX7_init_135 : decode cX7_init 135 = .ok (.aload_n 0, 1) := by decide +kernel
theorem dX7_init_136 : decode cX7_init 136 = .ok (.bipush 20, 2) := by decide +kernel
theorem dX7_init_138 : decode cX7_init 138 = .ok (.newarray .int, 2) := by decide +kernel
theorem dX7_init_140 : decode cX7_init 140 = .ok (.putfield 58, 3) := by decide +kernel
theorem dX7_init_143 : decode cX7_init 143 = .ok (.aload_n 0, 1) := by decide +kernel
theorem dX7_init_144 : decode cX7_init 144 = .ok (.bipush 20, 2) := by decide +kernel
theorem dX7_init_146 : decode cX7_init 146 = .ok (.newarray .int, 2) := by decide +kernel
theorem dX7_init_148 : decode cX7_init 148 = .ok (.putfield 61, 3) := by decide +kernel
theorem dX7_init_151 : decode cX7_init 151 = .ok (.aload_n 0, 1) := by decide +kernel
theorem dX7_init_152 : decode cX7_init 152 = .ok (.bipush 20, 2) := by decide +kernel
theorem dX7_init_154 : decode cX7_init 154 = .ok (.newarray .int, 2) := by decide +kernel
theorem dX7_init_156 : decode cX7_init 156 = .ok (.putfield 64, 3) := by decide +kernel
theorem dX7_init_159 : decode cX7_init 159 = .ok (.aload_n 0, 1) := by decide +kernel
theorem dX7_init_160 : decode cX7_init 160 = .ok (.bipush 20, 2) := by decide +kernel
theorem dX7_init_162 : decode cX7_init 162 = .ok (.newarray .int, 2) := by decide +kernel
theorem dX7_init_164 : decode cX7_init 164 = .ok (.putfield 67, 3) := by decide +kernel
theorem dX7_init_167 : decode cX7_init 167 = .ok (.aload_n 0, 1) := by decide +kernel
theorem dX7_init_168 : decode cX7_init 168 = .ok (.bipush 20, 2) := by decide +kernel
theorem dX7_init_170 : decode cX7_init 170 = .ok (.newarray .int, 2) := by decide +kernel
theorem dX7_init_172 : decode cX7_init 172 = .ok (.putfield 70, 3) := by decide +kernel
theorem dX7_init_175 : decode cX7_init 175 = .ok (.return_, 1) := by decide +kernel
def wp_X7_init (o : Nat) (μ : Mm) (post : Mm → Prop) : Prop := ∀ q1, μ q1 = none → ∀ μ3, μ3 = ups μ q1 (eI 16 (fun _ => 0)) → ∃ f5, μ3 o = some (.inl (6, f5)) ∧ 2 < f5.length ∧ ∀ μ8, μ8 = ups μ3 o (.inl (6, f5.set 2 (.ref q1))) → ∀ q10, μ8 q10 = none → ∀ μ12, μ12 = ups μ8 q10 (eI 16 (fun _ => 0)) → ∃ f14, μ12 o = some (.inl (6, f14)) ∧ 3 < f14.length ∧ ∀ μ17, μ17 = ups μ12 o (.inl (6, f14.set 3 (.ref q10))) → ∀ q19, μ17 q19 = none → ∀ μ21, μ21 = ups μ17 q19 (eI 16 (fun _ => 0)) → ∃ f23, μ21 o = some (.inl (6, f23)) ∧ 4 < f23.length ∧ ∀ μ26, μ26 = ups μ21 o (.inl (6, f23.set 4 (.ref q19))) → ∀ q28, μ26 q28 = none → ∀ μ30, μ30 = ups μ26 q28 (eI 96 (fun _ => 0)) → ∃ f32, μ30 o = some (.inl (6, f32)) ∧ 5 < f32.length ∧ ∀ μ35, μ35 = ups μ30 o (.inl (6, f32.set 5 (.ref q28))) → ∀ q37, μ35 q37 = none → ∀ μ39, μ39 = ups μ35 q37 (eI 16 (fun _ => 0)) → ∃ f41, μ39 o = some (.inl (6, f41)) ∧ 6 < f41.length ∧ ∀ μ44, μ44 = ups μ39 o (.inl (6, f41.set 6 (.ref q37))) → ∀ q46, μ44 q46 = none → ∀ μ48, μ48 = ups μ44 q46 (eI 48 (fun _ => 0)) → ∃ f50, μ48 o = some (.inl (6, f50)) ∧ 7 < f50.length ∧ ∀ μ53, μ53 = ups μ48 o (.inl (6, f50.set 7 (.ref q46))) → ∀ q55, μ53 q55 = none → ∀ μ57, μ57 = ups μ53 q55 (eI 16 (fun _ => 0)) → ∃ f59, μ57 o = some (.inl (6, f59)) ∧ 8 < f59.length ∧ ∀ μ62, μ62 = ups μ57 o (.inl (6, f59.set 8 (.ref q55))) → ∀ q64, μ62 q64 = none → ∀ μ66, μ66 = ups μ62 q64 (eI 16 (fun _ => 0)) → ∃ f68, μ66 o = some (.inl (6, f68)) ∧ 9 < f68.length ∧ ∀ μ71, μ71 = ups μ66 o (.inl (6, f68.set 9 (.ref q64))) → ∀ q73, μ71 q73 = none → ∀ μ75, μ75 = ups μ71 q73 (eI 16 (fun _ => 0)) → ∃ f77, μ75 o = some (.inl (6, f77)) ∧ 10 < f77.length ∧ ∀ μ80, μ80 = ups μ75 o (.inl (6, f77.set 10 (.ref q73))) → ∀ q82, μ80 q82 = none → ∀ μ84, μ84 = ups μ80 q82 (eI 16 (fun _ => 0)) → ∃ f86, μ84 o = some (.inl (6, f86)) ∧ 11 < f86.length ∧ ∀ μ89, μ89 = ups μ84 o (.inl (6, f86.set 11 (.ref q82))) → ∀ q91, μ89 q91 = none → ∀ μ93, μ93 = ups μ89 q91 (eI 6 (fun _ => 0)) → ∃ f95, μ93 o = some (.inl (6, f95)) ∧ 13 < f95.length ∧ ∀ μ98, μ98 = ups μ93 o (.inl (6, f95.set 13 (.ref q91))) → ∀ q100, μ98 q100 = none → ∀ μ102, μ102 = ups μ98 q100 (eI 300 (fun _ => 0)) → ∃ f104, μ102 o = some (.inl (6, f104)) ∧ 15 < f104.length ∧ ∀ μ107, μ107 = ups μ102 o (.inl (6, f104.set 15 (.ref q100))) → ∀ q109, μ107 q109 = none → ∀ μ111, μ111 = ups μ107 q109 (eI 300 (fun _ => 0)) → ∃ f113, μ111 o = some (.inl (6, f113)) ∧ 17 < f113.length ∧ ∀ μ116, μ116 = ups μ111 o (.inl (6, f113.set 17 (.ref q109))) → ∀ q118, μ116 q118 = none → ∀ μ120, μ120 = ups μ116 q118 (eI 300 (fun _ => 0)) → ∃ f122, μ120 o = some (.inl (6, f122)) ∧ 19 < f122.length ∧ ∀ μ125, μ125 = ups μ120 o (.inl (6, f122.set 19 (.ref q118))) → ∀ q127, μ125 q127 = none → ∀ μ129, μ129 = ups μ125 q127 (eI 20 (fun _ => 0)) → ∃ f131, μ129 o = some (.inl (6, f131)) ∧ 21 < f131.length ∧ ∀ μ134, μ134 = ups μ129 o (.inl (6, f131.set 21 (.ref q127))) → ∀ q136, μ134 q136 = none → ∀ μ138, μ138 = ups μ134 q136 (eI 20 (fun _ => 0)) → ∃ f140, μ138 o = some (.inl (6, f140)) ∧ 22 < f140.length ∧ ∀ μ143, μ143 = ups μ138 o (.inl (6, f140.set 22 (.ref q136))) → ∀ q145, μ143 q145 = none → ∀ μ147, μ147 = ups μ143 q145 (eI 20 (fun _ => 0)) → ∃ f149, μ147 o = some (.inl (6, f149)) ∧ 23 < f149.length ∧ ∀ μ152, μ152 = ups μ147 o (.inl (6, f149.set 23 (.ref q145))) → ∀ q154, μ152 q154 = none → ∀ μ156, μ156 = ups μ152 q154 (eI 20 (fun _ => 0)) → ∃ f158, μ156 o = some (.inl (6, f158)) ∧ 24 < f158.length ∧ ∀ μ161, μ161 = ups μ156 o (.inl (6, f158.set 24 (.ref q154))) → ∀ q163, μ161 q163 = none → ∀ μ165, μ165 = ups μ161 q163 (eI 20 (fun _ => 0)) → ∃ f167, μ165 o = some (.inl (6, f167)) ∧ 25 < f167.length ∧ ∀ μ170, μ170 = ups μ165 o (.inl (6, f167.set 25 (.ref q163))) → ∀ q172, μ170 q172 = none → ∀ μ174, μ174 = ups μ170 q172 (eI 20 (fun _ => 0)) → ∃ f176, μ174 o = some (.inl (6, f176)) ∧ 26 < f176.length ∧ ∀ μ179, μ179 = ups μ174 o (.inl (6, f176.set 26 (.ref q172))) → ∀ q181, μ179 q181 = none → ∀ μ183, μ183 = ups μ179 q181 (eI 20 (fun _ => 0)) → ∃ f185, μ183 o = some (.inl (6, f185)) ∧ 27 < f185.length ∧ ∀ μ188, μ188 = ups μ183 o (.inl (6, f185.set 27 (.ref q181))) → post μ188
set_option maxHeartbeats 4000000 in
set_option maxRecDepth 100000 in
theorem c_X7_init (l : Launch) (G : gG) (A : Nat → Prop) (o : Nat) (μ : Mm) (post : Mm → Prop) (h : wp_X7_init o μ post) : Met l yX7_init (.code yX7_init cX7_init 1 none :: wsA) (rmL (0) 21 1318) (PcG G A μ [.ref o]) (QG G A (pV post)) 21 1318 A := by
  refine met_J (loc := [(0, .ref o)]) (by decide +kernel) (Nat.le_of_ble_eq_true rfl) rfl ?_
  intro p e s m args below meth c X hin
  have X : Cx p l s m args meth c cX7_init 1 none RX7 G A := X
  have hw := h
  unfold wp_X7_init at hw
  refine j_aload_n X (pc' := 1) (kk := 0) (i := 0) 0 rfl rfl dX7_init_0 rfl ?_
  refine j_objInit X (pc' := 4) wt_3_164 wt_1_23 wt_1_24 (by show 1 ≤ _ + 6; omega) (Nat.le_trans (m := 120) (Nat.le_of_ble_eq_true rfl) (by show 120 ≤ 40 * _ + 120; omega)) dX7_init_1 rfl ?_
  refine j_aload_n X (pc' := 5) (kk := 0) (i := 0) 0 rfl rfl dX7_init_4 rfl ?_
  refine j_bipush X (pc' := 7) (v := 16) (by decide) dX7_init_5 rfl ?_
  refine jp_newI X (pc' := 9) (cells' := 1) (slots' := 16) (N := 16) wt_1_57 (by decide) (by decide) (by decide) (Nat.le_of_ble_eq_true rfl) (Nat.le_of_ble_eq_true rfl) rfl rfl dX7_init_7 rfl (fun q1 hq2 μ3 e4 => ?_)
  have hw1 := hw q1 hq2 μ3 e4
  obtain ⟨f5, hm6, hl7, hw2⟩ := hw1
  refine jp_putF X (pc' := 12) (ty := (.array .int)) hin hm6 2 hl7 rfl fw_TX7 tyX7_ok nmX7 (by decide) rfl rfl wt_3_167 (by decide +kernel) rfl rfl dX7_init_9 rfl (fun μ8 e9 => ?_)
  have hw3 := hw2 μ8 e9
  refine j_aload_n X (pc' := 13) (kk := 0) (i := 0) 0 rfl rfl dX7_init_12 rfl ?_
  refine j_bipush X (pc' := 15) (v := 16) (by decide) dX7_init_13 rfl ?_
  refine jp_newI X (pc' := 17) (cells' := 2) (slots' := 32) (N := 16) wt_1_57 (by decide) (by decide) (by decide) (Nat.le_of_ble_eq_true rfl) (Nat.le_of_ble_eq_true rfl) rfl rfl dX7_init_15 rfl (fun q10 hq11 μ12 e13 => ?_)
  have hw4 := hw3 q10 hq11 μ12 e13
  obtain ⟨f14, hm15, hl16, hw5⟩ := hw4
  refine jp_putF X (pc' := 20) (ty := (.array .int)) hin hm15 3 hl16 rfl fw_TX7 tyX7_ok nmX7 (by decide) rfl rfl wt_3_168 (by decide +kernel) rfl rfl dX7_init_17 rfl (fun μ17 e18 => ?_)
  have hw6 := hw5 μ17 e18
  refine j_aload_n X (pc' := 21) (kk := 0) (i := 0) 0 rfl rfl dX7_init_20 rfl ?_
  refine j_bipush X (pc' := 23) (v := 16) (by decide) dX7_init_21 rfl ?_
  refine jp_newI X (pc' := 25) (cells' := 3) (slots' := 48) (N := 16) wt_1_57 (by decide) (by decide) (by decide) (Nat.le_of_ble_eq_true rfl) (Nat.le_of_ble_eq_true rfl) rfl rfl dX7_init_23 rfl (fun q19 hq20 μ21 e22 => ?_)
  have hw7 := hw6 q19 hq20 μ21 e22
  obtain ⟨f23, hm24, hl25, hw8⟩ := hw7
  refine jp_putF X (pc' := 28) (ty := (.array .int)) hin hm24 4 hl25 rfl fw_TX7 tyX7_ok nmX7 (by decide) rfl rfl wt_3_169 (by decide +kernel) rfl rfl dX7_init_25 rfl (fun μ26 e27 => ?_)
  have hw9 := hw8 μ26 e27
  refine j_aload_n X (pc' := 29) (kk := 0) (i := 0) 0 rfl rfl dX7_init_28 rfl ?_
  refine j_bipush X (pc' := 31) (v := 96) (by decide) dX7_init_29 rfl ?_
  refine jp_newI X (pc' := 33) (cells' := 4) (slots' := 144) (N := 96) wt_1_57 (by decide) (by decide) (by decide) (Nat.le_of_ble_eq_true rfl) (Nat.le_of_ble_eq_true rfl) rfl rfl dX7_init_31 rfl (fun q28 hq29 μ30 e31 => ?_)
  have hw10 := hw9 q28 hq29 μ30 e31
  obtain ⟨f32, hm33, hl34, hw11⟩ := hw10
  refine jp_putF X (pc' := 36) (ty := (.array .int)) hin hm33 5 hl34 rfl fw_TX7 tyX7_ok nmX7 (by decide) rfl rfl wt_3_170 (by decide +kernel) rfl rfl dX7_init_33 rfl (fun μ35 e36 => ?_)
  have hw12 := hw11 μ35 e36
  refine j_aload_n X (pc' := 37) (kk := 0) (i := 0) 0 rfl rfl dX7_init_36 rfl ?_
  refine j_bipush X (pc' := 39) (v := 16) (by decide) dX7_init_37 rfl ?_
  refine jp_newI X (pc' := 41) (cells' := 5) (slots' := 160) (N := 16) wt_1_57 (by decide) (by decide) (by decide) (Nat.le_of_ble_eq_true rfl) (Nat.le_of_ble_eq_true rfl) rfl rfl dX7_init_39 rfl (fun q37 hq38 μ39 e40 => ?_)
  have hw13 := hw12 q37 hq38 μ39 e40
  obtain ⟨f41, hm42, hl43, hw14⟩ := hw13
  refine jp_putF X (pc' := 44) (ty := (.array .int)) hin hm42 6 hl43 rfl fw_TX7 tyX7_ok nmX7 (by decide) rfl rfl wt_3_171 (by decide +kernel) rfl rfl dX7_init_41 rfl (fun μ44 e45 => ?_)
  have hw15 := hw14 μ44 e45
  refine j_aload_n X (pc' := 45) (kk := 0) (i := 0) 0 rfl rfl dX7_init_44 rfl ?_
  refine j_bipush X (pc' := 47) (v := 48) (by decide) dX7_init_45 rfl ?_
  refine jp_newI X (pc' := 49) (cells' := 6) (slots' := 208) (N := 48) wt_1_57 (by decide) (by decide) (by decide) (Nat.le_of_ble_eq_true rfl) (Nat.le_of_ble_eq_true rfl) rfl rfl dX7_init_47 rfl (fun q46 hq47 μ48 e49 => ?_)
  have hw16 := hw15 q46 hq47 μ48 e49
  obtain ⟨f50, hm51, hl52, hw17⟩ := hw16
  refine jp_putF X (pc' := 52) (ty := (.array .int)) hin hm51 7 hl52 rfl fw_TX7 tyX7_ok nmX7 (by decide) rfl rfl wt_3_172 (by decide +kernel) rfl rfl dX7_init_49 rfl (fun μ53 e54 => ?_)
  have hw18 := hw17 μ53 e54
  refine j_aload_n X (pc' := 53) (kk := 0) (i := 0) 0 rfl rfl dX7_init_52 rfl ?_
  refine j_bipush X (pc' := 55) (v := 16) (by decide) dX7_init_53 rfl ?_
  refine jp_newI X (pc' := 57) (cells' := 7) (slots' := 224) (N := 16) wt_1_57 (by decide) (by decide) (by decide) (Nat.le_of_ble_eq_true rfl) (Nat.le_of_ble_eq_true rfl) rfl rfl dX7_init_55 rfl (fun q55 hq56 μ57 e58 => ?_)
  have hw19 := hw18 q55 hq56 μ57 e58
  obtain ⟨f59, hm60, hl61, hw20⟩ := hw19
  refine jp_putF X (pc' := 60) (ty := (.array .int)) hin hm60 8 hl61 rfl fw_TX7 tyX7_ok nmX7 (by decide) rfl rfl wt_3_173 (by decide +kernel) rfl rfl dX7_init_57 rfl (fun μ62 e63 => ?_)
  have hw21 := hw20 μ62 e63
  refine j_aload_n X (pc' := 61) (kk := 0) (i := 0) 0 rfl rfl dX7_init_60 rfl ?_
  refine j_bipush X (pc' := 63) (v := 16) (by decide) dX7_init_61 rfl ?_
  refine jp_newI X (pc' := 65) (cells' := 8) (slots' := 240) (N := 16) wt_1_57 (by decide) (by decide) (by decide) (Nat.le_of_ble_eq_true rfl) (Nat.le_of_ble_eq_true rfl) rfl rfl dX7_init_63 rfl (fun q64 hq65 μ66 e67 => ?_)
  have hw22 := hw21 q64 hq65 μ66 e67
  obtain ⟨f68, hm69, hl70, hw23⟩ := hw22
  refine jp_putF X (pc' := 68) (ty := (.array .int)) hin hm69 9 hl70 rfl fw_TX7 tyX7_ok nmX7 (by decide) rfl rfl wt_3_174 (by decide +kernel) rfl rfl dX7_init_65 rfl (fun μ71 e72 => ?_)
  have hw24 := hw23 μ71 e72
  refine j_aload_n X (pc' := 69) (kk := 0) (i := 0) 0 rfl rfl dX7_init_68 rfl ?_
  refine j_bipush X (pc' := 71) (v := 16) (by decide) dX7_init_69 rfl ?_
  refine jp_newI X (pc' := 73) (cells' := 9) (slots' := 256) (N := 16) wt_1_57 (by decide) (by decide) (by decide) (Nat.le_of_ble_eq_true rfl) (Nat.le_of_ble_eq_true rfl) rfl rfl dX7_init_71 rfl (fun q73 hq74 μ75 e76 => ?_)
  have hw25 := hw24 q73 hq74 μ75 e76
  obtain ⟨f77, hm78, hl79, hw26⟩ := hw25
  refine jp_putF X (pc' := 76) (ty := (.array .int)) hin hm78 10 hl79 rfl fw_TX7 tyX7_ok nmX7 (by decide) rfl rfl wt_3_175 (by decide +kernel) rfl rfl dX7_init_73 rfl (fun μ80 e81 => ?_)
  have hw27 := hw26 μ80 e81
  refine j_aload_n X (pc' := 77) (kk := 0) (i := 0) 0 rfl rfl dX7_init_76 rfl ?_
  refine j_bipush X (pc' := 79) (v := 16) (by decide) dX7_init_77 rfl ?_
  refine jp_newI X (pc' := 81) (cells' := 10) (slots' := 272) (N := 16) wt_1_57 (by decide) (by decide) (by decide) (Nat.le_of_ble_eq_true rfl) (Nat.le_of_ble_eq_true rfl) rfl rfl dX7_init_79 rfl (fun q82 hq83 μ84 e85 => ?_)
  have hw28 := hw27 q82 hq83 μ84 e85
  obtain ⟨f86, hm87, hl88, hw29⟩ := hw28
  refine jp_putF X (pc' := 84) (ty := (.array .int)) hin hm87 11 hl88 rfl fw_TX7 tyX7_ok nmX7 (by decide) rfl rfl wt_3_176 (by decide +kernel) rfl rfl dX7_init_81 rfl (fun μ89 e90 => ?_)
  have hw30 := hw29 μ89 e90
  refine j_aload_n X (pc' := 85) (kk := 0) (i := 0) 0 rfl rfl dX7_init_84 rfl ?_
  refine j_bipush X (pc' := 87) (v := 6) (by decide) dX7_init_85 rfl ?_
  refine jp_newI X (pc' := 89) (cells' := 11) (slots' := 278) (N := 6) wt_1_57 (by decide) (by decide) (by decide) (Nat.le_of_ble_eq_true rfl) (Nat.le_of_ble_eq_true rfl) rfl rfl dX7_init_87 rfl (fun q91 hq92 μ93 e94 => ?_)
  have hw31 := hw30 q91 hq92 μ93 e94
  obtain ⟨f95, hm96, hl97, hw32⟩ := hw31
  refine jp_putF X (pc' := 92) (ty := (.array .int)) hin hm96 13 hl97 rfl fw_TX7 tyX7_ok nmX7 (by decide) rfl rfl wt_3_178 (by decide +kernel) rfl rfl dX7_init_89 rfl (fun μ98 e99 => ?_)
  have hw33 := hw32 μ98 e99
  refine j_aload_n X (pc' := 93) (kk := 0) (i := 0) 0 rfl rfl dX7_init_92 rfl ?_
  refine j_sipush X (pc' := 96) (v := 300) (by decide) dX7_init_93 rfl ?_
  refine jp_newI X (pc' := 98) (cells' := 12) (slots' := 578) (N := 300) wt_1_57 (by decide) (by decide) (by decide) (Nat.le_of_ble_eq_true rfl) (Nat.le_of_ble_eq_true rfl) rfl rfl dX7_init_96 rfl (fun q100 hq101 μ102 e103 => ?_)
  have hw34 := hw33 q100 hq101 μ102 e103
  obtain ⟨f104, hm105, hl106, hw35⟩ := hw34
  refine jp_putF X (pc' := 101) (ty := (.array .int)) hin hm105 15 hl106 rfl fw_TX7 tyX7_ok nmX7 (by decide) rfl rfl wt_3_180 (by decide +kernel) rfl rfl dX7_init_98 rfl (fun μ107 e108 => ?_)
  have hw36 := hw35 μ107 e108
  refine j_aload_n X (pc' := 102) (kk := 0) (i := 0) 0 rfl rfl dX7_init_101 rfl ?_
  refine j_sipush X (pc' := 105) (v := 300) (by decide) dX7_init_102 rfl ?_
  refine jp_newI X (pc' := 107) (cells' := 13) (slots' := 878) (N := 300) wt_1_57 (by decide) (by decide) (by decide) (Nat.le_of_ble_eq_true rfl) (Nat.le_of_ble_eq_true rfl) rfl rfl dX7_init_105 rfl (fun q109 hq110 μ111 e112 => ?_)
  have hw37 := hw36 q109 hq110 μ111 e112
  obtain ⟨f113, hm114, hl115, hw38⟩ := hw37
  refine jp_putF X (pc' := 110) (ty := (.array .int)) hin hm114 17 hl115 rfl fw_TX7 tyX7_ok nmX7 (by decide) rfl rfl wt_3_182 (by decide +kernel) rfl rfl dX7_init_107 rfl (fun μ116 e117 => ?_)
  have hw39 := hw38 μ116 e117
  refine j_aload_n X (pc' := 111) (kk := 0) (i := 0) 0 rfl rfl dX7_init_110 rfl ?_
  refine j_sipush X (pc' := 114) (v := 300) (by decide) dX7_init_111 rfl ?_
  refine jp_newI X (pc' := 116) (cells' := 14) (slots' := 1178) (N := 300) wt_1_57 (by decide) (by decide) (by decide) (Nat.le_of_ble_eq_true rfl) (Nat.le_of_ble_eq_true rfl) rfl rfl dX7_init_114 rfl (fun q118 hq119 μ120 e121 => ?_)
  have hw40 := hw39 q118 hq119 μ120 e121
  obtain ⟨f122, hm123, hl124, hw41⟩ := hw40
  refine jp_putF X (pc' := 119) (ty := (.array .int)) hin hm123 19 hl124 rfl fw_TX7 tyX7_ok nmX7 (by decide) rfl rfl wt_3_184 (by decide +kernel) rfl rfl dX7_init_116 rfl (fun μ125 e126 => ?_)
  have hw42 := hw41 μ125 e126
  refine j_aload_n X (pc' := 120) (kk := 0) (i := 0) 0 rfl rfl dX7_init_119 rfl ?_
  refine j_bipush X (pc' := 122) (v := 20) (by decide) dX7_init_120 rfl ?_
  refine jp_newI X (pc' := 124) (cells' := 15) (slots' := 1198) (N := 20) wt_1_57 (by decide) (by decide) (by decide) (Nat.le_of_ble_eq_true rfl) (Nat.le_of_ble_eq_true rfl) rfl rfl dX7_init_122 rfl (fun q127 hq128 μ129 e130 => ?_)
  have hw43 := hw42 q127 hq128 μ129 e130
  obtain ⟨f131, hm132, hl133, hw44⟩ := hw43
  refine jp_putF X (pc' := 127) (ty := (.array .int)) hin hm132 21 hl133 rfl fw_TX7 tyX7_ok nmX7 (by decide) rfl rfl wt_3_186 (by decide +kernel) rfl rfl dX7_init_124 rfl (fun μ134 e135 => ?_)
  have hw45 := hw44 μ134 e135
  refine j_aload_n X (pc' := 128) (kk := 0) (i := 0) 0 rfl rfl dX7_init_127 rfl ?_
  refine j_bipush X (pc' := 130) (v := 20) (by decide) dX7_init_128 rfl ?_
  refine jp_newI X (pc' := 132) (cells' := 16) (slots' := 1218) (N := 20) wt_1_57 (by decide) (by decide) (by decide) (Nat.le_of_ble_eq_true rfl) (Nat.le_of_ble_eq_true rfl) rfl rfl dX7_init_130 rfl (fun q136 hq137 μ138 e139 => ?_)
  have hw46 := hw45 q136 hq137 μ138 e139
  obtain ⟨f140, hm141, hl142, hw47⟩ := hw46
  refine jp_putF X (pc' := 135) (ty := (.array .int)) hin hm141 22 hl142 rfl fw_TX7 tyX7_ok nmX7 (by decide) rfl rfl wt_3_187 (by decide +kernel) rfl rfl dX7_init_132 rfl (fun μ143 e144 => ?_)
  have hw48 := hw47 μ143 e144
  refine j_aload_n X (pc' := 136) (kk := 0) (i := 0) 0 rfl rfl dX7_init_135 rfl ?_
  refine j_bipush X (pc' := 138) (v := 20) (by decide) dX7_init_136 rfl ?_
  refine jp_newI X (pc' := 140) (cells' := 17) (slots' := 1238) (N := 20) wt_1_57 (by decide) (by decide) (by decide) (Nat.le_of_ble_eq_true rfl) (Nat.le_of_ble_eq_true rfl) rfl rfl dX7_init_138 rfl (fun q145 hq146 μ147 e148 => ?_)
  have hw49 := hw48 q145 hq146 μ147 e148
  obtain ⟨f149, hm150, hl151, hw50⟩ := hw49
  refine jp_putF X (pc' := 143) (ty := (.array .int)) hin hm150 23 hl151 rfl fw_TX7 tyX7_ok nmX7 (by decide) rfl rfl wt_3_188 (by decide +kernel) rfl rfl dX7_init_140 rfl (fun μ152 e153 => ?_)
  have hw51 := hw50 μ152 e153
  refine j_aload_n X (pc' := 144) (kk := 0) (i := 0) 0 rfl rfl dX7_init_143 rfl ?_
  refine j_bipush X (pc' := 146) (v := 20) (by decide) dX7_init_144 rfl ?_
  refine jp_newI X (pc' := 148) (cells' := 18) (slots' := 1258) (N := 20) wt_1_57 (by decide) (by decide) (by decide) (Nat.le_of_ble_eq_true rfl) (Nat.le_of_ble_eq_true rfl) rfl rfl dX7_init_146 rfl (fun q154 hq155 μ156 e157 => ?_)
  have hw52 := hw51 q154 hq155 μ156 e157
  obtain ⟨f158, hm159, hl160, hw53⟩ := hw52
  refine jp_putF X (pc' := 151) (ty := (.array .int)) hin hm159 24 hl160 rfl fw_TX7 tyX7_ok nmX7 (by decide) rfl rfl wt_3_189 (by decide +kernel) rfl rfl dX7_init_148 rfl (fun μ161 e162 => ?_)
  have hw54 := hw53 μ161 e162
  refine j_aload_n X (pc' := 152) (kk := 0) (i := 0) 0 rfl rfl dX7_init_151 rfl ?_
  refine j_bipush X (pc' := 154) (v := 20) (by decide) dX7_init_152 rfl ?_
  refine jp_newI X (pc' := 156) (cells' := 19) (slots' := 1278) (N := 20) wt_1_57 (by decide) (by decide) (by decide) (Nat.le_of_ble_eq_true rfl) (Nat.le_of_ble_eq_true rfl) rfl rfl dX7_init_154 rfl (fun q163 hq164 μ165 e166 => ?_)
  have hw55 := hw54 q163 hq164 μ165 e166
  obtain ⟨f167, hm168, hl169, hw56⟩ := hw55
  refine jp_putF X (pc' := 159) (ty := (.array .int)) hin hm168 25 hl169 rfl fw_TX7 tyX7_ok nmX7 (by decide) rfl rfl wt_3_190 (by decide +kernel) rfl rfl dX7_init_156 rfl (fun μ170 e171 => ?_)
  have hw57 := hw56 μ170 e171
  refine j_aload_n X (pc' := 160) (kk := 0) (i := 0) 0 rfl rfl dX7_init_159 rfl ?_
  refine j_bipush X (pc' := 162) (v := 20) (by decide) dX7_init_160 rfl ?_
  refine jp_newI X (pc' := 164) (cells' := 20) (slots' := 1298) (N := 20) wt_1_57 (by decide) (by decide) (by decide) (Nat.le_of_ble_eq_true rfl) (Nat.le_of_ble_eq_true rfl) rfl rfl dX7_init_162 rfl (fun q172 hq173 μ174 e175 => ?_)
  have hw58 := hw57 q172 hq173 μ174 e175
  obtain ⟨f176, hm177, hl178, hw59⟩ := hw58
  refine jp_putF X (pc' := 167) (ty := (.array .int)) hin hm177 26 hl178 rfl fw_TX7 tyX7_ok nmX7 (by decide) rfl rfl wt_3_191 (by decide +kernel) rfl rfl dX7_init_164 rfl (fun μ179 e180 => ?_)
  have hw60 := hw59 μ179 e180
  refine j_aload_n X (pc' := 168) (kk := 0) (i := 0) 0 rfl rfl dX7_init_167 rfl ?_
  refine j_bipush X (pc' := 170) (v := 20) (by decide) dX7_init_168 rfl ?_
  refine jp_newI X (pc' := 172) (cells' := 21) (slots' := 1318) (N := 20) wt_1_57 (by decide) (by decide) (by decide) (Nat.le_of_ble_eq_true rfl) (Nat.le_of_ble_eq_true rfl) rfl rfl dX7_init_170 rfl (fun q181 hq182 μ183 e184 => ?_)
  have hw61 := hw60 q181 hq182 μ183 e184
  obtain ⟨f185, hm186, hl187, hw62⟩ := hw61
  refine jp_putF X (pc' := 175) (ty := (.array .int)) hin hm186 27 hl187 rfl fw_TX7 tyX7_ok nmX7 (by decide) rfl rfl wt_3_192 (by decide +kernel) rfl rfl dX7_init_172 rfl (fun μ188 e189 => ?_)
  have hw63 := hw62 μ188 e189
  exact j_vret X ⟨rfl, hw63⟩ (Nat.le_of_ble_eq_true rfl) (Nat.le_of_ble_eq_true rfl) dX7_init_175
/-! BitNotationModel.thrown()I -/
theorem dX7_thrown_0 : decode cX7_thrown 0 = .ok (.aload_n 0, 1) := by decide +kernel
theorem dX7_thrown_1 : decode cX7_thrown 1 = .ok (.getfield 73, 3) := by decide +kernel
theorem dX7_thrown_4 : decode cX7_thrown 4 = .ok (.ireturn, 1) := by decide +kernel
def wp_X7_thrown (σ : Nat → Int32) (α : Nat → Nat → Int32) (post : Int32 → (Nat → Int32) → (Nat → Nat → Int32) → Prop) : Prop := post (σ 0) σ α
set_option maxHeartbeats 4000000 in
set_option maxRecDepth 100000 in
theorem c_X7_thrown (l : Launch) (G : gG) (A : Nat → Prop) {mm : Nat} {rf : Nat → Nat} (hMO : MOk mm rf) (μ0 : Mm) (σ : Nat → Int32) (α : Nat → Nat → Int32) (post : Int32 → (Nat → Int32) → (Nat → Nat → Int32) → Prop) (h : wp_X7_thrown σ α post) : Met l yX7_thrown (.code yX7_thrown cX7_thrown 1 (some .int) :: wsA) (rmL (0) 0 0) (PcG G A (mset μ0 mm rf σ α) [.ref mm]) (QG G A (pI (pMi μ0 mm rf post))) 0 0 A := by
  refine met_J (loc := [(0, .ref mm)]) (by decide +kernel) (Nat.le_of_ble_eq_true rfl) rfl ?_
  intro p e s m args below meth c X hin
  have X : Cx p l s m args meth c cX7_thrown 1 (some .int) RX7 G A := X
  have hw := h
  unfold wp_X7_thrown at hw
  refine j_aload_n X (pc' := 1) (kk := 0) (i := 0) 0 rfl rfl dX7_thrown_0 rfl ?_
  refine j_getf X (pc' := 4) mset_o 0 rfl rfl fw_TX7 (by decide) wt_3_165 dX7_thrown_1 rfl ?_
  exact j_iret X ⟨_, rfl, _, _, rfl, hw⟩ (Nat.le_of_ble_eq_true rfl) (Nat.le_of_ble_eq_true rfl) dX7_thrown_4
/-! BitNotationModel.refused(I)Z -/
theorem dX7_refused_0 : decode cX7_refused 0 = .ok (.aload_n 0, 1) := by decide +kernel
theorem dX7_refused_1 : decode cX7_refused 1 = .ok (.iload_n 1, 1) := by decide +kernel
theorem dX7_refused_2 : decode cX7_refused 2 = .ok (.putfield 73, 3) := by decide +kernel
theorem dX7_refused_5 : decode cX7_refused 5 = .ok (.iload_n 1, 1) := by decide +kernel
theorem dX7_refused_6 : decode cX7_refused 6 = .ok (.ifCond .eq 7, 3) := by decide +kernel
theorem dX7_refused_9 : decode cX7_refused 9 = .ok (.iconst 1, 1) := by decide +kernel
theorem dX7_refused_10 : decode cX7_refused 10 = .ok (.goto 4, 3) := by decide +kernel
theorem dX7_refused_13 : decode cX7_refused 13 = .ok (.iconst 0, 1) := by decide +kernel
theorem dX7_refused_14 : decode cX7_refused 14 = .ok (.ireturn, 1) := by decide +kernel
def wp_X7_refused (x1 : Int32) (σ : Nat → Int32) (α : Nat → Nat → Int32) (post : Int32 → (Nat → Int32) → (Nat → Nat → Int32) → Prop) : Prop := ∀ σ1, σ1 = upd σ 0 x1 → (x1 = 0 → (post (0 : Int32) σ1 α)) ∧ (¬ x1 = 0 → (post (1 : Int32) σ1 α))
set_option maxHeartbeats 4000000 in
set_option maxRecDepth 100000 in
theorem c_X7_refused (l : Launch) (G : gG) (A : Nat → Prop) {mm : Nat} {rf : Nat → Nat} (hMO : MOk mm rf) (μ0 : Mm) (x1 : Int32) (σ : Nat → Int32) (α : Nat → Nat → Int32) (post : Int32 → (Nat → Int32) → (Nat → Nat → Int32) → Prop) (h : wp_X7_refused x1 σ α post) : Met l yX7_refused (.code yX7_refused cX7_refused 2 (some .boolean) :: wsA) (rmL (0) 0 0) (PcG G A (mset μ0 mm rf σ α) [.ref mm, .int x1]) (QG G A (pI (pMi μ0 mm rf post))) 0 0 A := by
  refine met_J (loc := [(0, .ref mm), (1, .int x1)]) (by decide +kernel) (Nat.le_of_ble_eq_true rfl) rfl ?_
  intro p e s m args below meth c X hin
  have X : Cx p l s m args meth c cX7_refused 2 (some .boolean) RX7 G A := X
  have hw := h
  unfold wp_X7_refused at hw
  refine j_aload_n X (pc' := 1) (kk := 0) (i := 0) 0 rfl rfl dX7_refused_0 rfl ?_
  refine j_iload_n X (pc' := 2) (kk := 1) (i := 1) 1 rfl rfl dX7_refused_1 rfl ?_
  refine jm_putf X (pc' := 5) 0 (mF_set_0 _ _ _) (by decide) rfl wt_3_165 (by decide +kernel) dX7_refused_2 rfl (fun σ1 e2 => ?_)
  have hw1 := hw σ1 e2
  refine j_iload_n X (pc' := 6) (kk := 1) (i := 1) 1 rfl rfl dX7_refused_5 rfl ?_
  refine j_if_eq X (pc' := 9) (tgt := 13) dX7_refused_6 rfl (by decide) (fun c3 => ?_) (fun c3 => ?_)
  · have hw2 := hw1.1 c3
    refine j_iconst X (pc' := 14) (v := 0) (by decide) dX7_refused_13 rfl ?_
    exact j_zret X (Or.inl rfl) ⟨_, rfl, _, _, rfl, hw2⟩ (Nat.le_of_ble_eq_true rfl) (Nat.le_of_ble_eq_true rfl) dX7_refused_14
  · have hw3 := hw1.2 c3
    refine j_iconst X (pc' := 10) (v := 1) (by decide) dX7_refused_9 rfl ?_
    refine j_goto X (tgt := 14) dX7_refused_10 (by decide) ?_
    exact j_zret X (Or.inr rfl) ⟨_, rfl, _, _, rfl, hw3⟩ (Nat.le_of_ble_eq_true rfl) (Nat.le_of_ble_eq_true rfl) dX7_refused_14
/-! BitNotationModel.fine(I)I -/
theorem dX7_fine_0 : decode cX7_fine 0 = .ok (.aload_n 0, 1) := by decide +kernel
theorem dX7_fine_1 : decode cX7_fine 1 = .ok (.iconst 0, 1) := by decide +kernel
theorem dX7_fine_2 : decode cX7_fine 2 = .ok (.putfield 73, 3) := by decide +kernel
theorem dX7_fine_5 : decode cX7_fine 5 = .ok (.iload_n 1, 1) := by decide +kernel
theorem dX7_fine_6 : decode cX7_fine 6 = .ok (.ireturn, 1) := by decide +kernel
def wp_X7_fine (x1 : Int32) (σ : Nat → Int32) (α : Nat → Nat → Int32) (post : Int32 → (Nat → Int32) → (Nat → Nat → Int32) → Prop) : Prop := ∀ σ1, σ1 = upd σ 0 (0 : Int32) → post x1 σ1 α
set_option maxHeartbeats 4000000 in
set_option maxRecDepth 100000 in
theorem c_X7_fine (l : Launch) (G : gG) (A : Nat → Prop) {mm : Nat} {rf : Nat → Nat} (hMO : MOk mm rf) (μ0 : Mm) (x1 : Int32) (σ : Nat → Int32) (α : Nat → Nat → Int32) (post : Int32 → (Nat → Int32) → (Nat → Nat → Int32) → Prop) (h : wp_X7_fine x1 σ α post) : Met l yX7_fine (.code yX7_fine cX7_fine 2 (some .int) :: wsA) (rmL (0) 0 0) (PcG G A (mset μ0 mm rf σ α) [.ref mm, .int x1]) (QG G A (pI (pMi μ0 mm rf post))) 0 0 A := by
  refine met_J (loc := [(0, .ref mm), (1, .int x1)]) (by decide +kernel) (Nat.le_of_ble_eq_true rfl) rfl ?_
  intro p e s m args below meth c X hin
  have X : Cx p l s m args meth c cX7_fine 2 (some .int) RX7 G A := X
  have hw := h
  unfold wp_X7_fine at hw
  refine j_aload_n X (pc' := 1) (kk := 0) (i := 0) 0 rfl rfl dX7_fine_0 rfl ?_
  refine j_iconst X (pc' := 2) (v := 0) (by decide) dX7_fine_1 rfl ?_
  refine jm_putf X (pc' := 5) 0 (mF_set_0 _ _ _) (by decide) rfl wt_3_165 (by decide +kernel) dX7_fine_2 rfl (fun σ1 e2 => ?_)
  have hw1 := hw σ1 e2
  refine j_iload_n X (pc' := 6) (kk := 1) (i := 1) 1 rfl rfl dX7_fine_5 rfl ?_
  exact j_iret X ⟨_, rfl, _, _, rfl, hw1⟩ (Nat.le_of_ble_eq_true rfl) (Nat.le_of_ble_eq_true rfl) dX7_fine_6
/-! BitNotationModel.in(III)Z -/
theorem dX7_in_0 : decode cX7_in 0 = .ok (.iload_n 0, 1) := by decide +kernel
theorem dX7_in_1 : decode cX7_in 1 = .ok (.iload_n 1, 1) := by decide +kernel
theorem dX7_in_2 : decode cX7_in 2 = .ok (.if_icmp .lt 12, 3) := by decide +kernel
theorem dX7_in_5 : decode cX7_in 5 = .ok (.iload_n 0, 1) := by decide +kernel
theorem dX7_in_6 : decode cX7_in 6 = .ok (.iload_n 2, 1) := by decide +kernel
theorem dX7_in_7 : decode cX7_in 7 = .ok (.if_icmp .gt 7, 3) := by decide +kernel
theorem dX7_in_10 : decode cX7_in 10 = .ok (.iconst 1, 1) := by decide +kernel
theorem dX7_in_11 : decode cX7_in 11 = .ok (.goto 4, 3) := by decide +kernel
theorem dX7_in_14 : decode cX7_in 14 = .ok (.iconst 0, 1) := by decide +kernel
theorem dX7_in_15 : decode cX7_in 15 = .ok (.ireturn, 1) := by decide +kernel
def wp_X7_in (x1 : Int32) (x2 : Int32) (x3 : Int32) (post : Int32 → Prop) : Prop := (x1 < x2 → (post (0 : Int32) )) ∧ (¬ x1 < x2 → ((x3 < x1 → (post (0 : Int32) )) ∧ (¬ x3 < x1 → (post (1 : Int32) ))))
set_option maxHeartbeats 4000000 in
set_option maxRecDepth 100000 in
theorem c_X7_in (l : Launch) (G : gG) (A : Nat → Prop) (μ : Mm) (x1 : Int32) (x2 : Int32) (x3 : Int32) (post : Int32 → Prop) (h : wp_X7_in x1 x2 x3 post) : Met l yX7_in (.code yX7_in cX7_in 3 (some .boolean) :: wsA) (rmL (0) 0 0) (PcG G A μ [.int x1, .int x2, .int x3]) (QG G A (pI (fun r μ9 => post r ∧ μ9 = μ))) 0 0 A := by
  refine met_J (loc := [(0, .int x1), (1, .int x2), (2, .int x3)]) (by decide +kernel) (Nat.le_of_ble_eq_true rfl) rfl ?_
  intro p e s m args below meth c X hin
  have X : Cx p l s m args meth c cX7_in 3 (some .boolean) RX7 G A := X
  have hw := h
  unfold wp_X7_in at hw
  refine j_iload_n X (pc' := 1) (kk := 0) (i := 0) 0 rfl rfl dX7_in_0 rfl ?_
  refine j_iload_n X (pc' := 2) (kk := 1) (i := 1) 1 rfl rfl dX7_in_1 rfl ?_
  refine j_icmp_lt X (pc' := 5) (tgt := 14) dX7_in_2 rfl (by decide) (fun c1 => ?_) (fun c1 => ?_)
  · have hw1 := hw.1 c1
    refine j_iconst X (pc' := 15) (v := 0) (by decide) dX7_in_14 rfl ?_
    exact j_zret X (Or.inl rfl) ⟨_, rfl, hw1, rfl⟩ (Nat.le_of_ble_eq_true rfl) (Nat.le_of_ble_eq_true rfl) dX7_in_15
  · have hw2 := hw.2 c1
    refine j_iload_n X (pc' := 6) (kk := 0) (i := 0) 0 rfl rfl dX7_in_5 rfl ?_
    refine j_iload_n X (pc' := 7) (kk := 2) (i := 2) 2 rfl rfl dX7_in_6 rfl ?_
    refine j_icmp_gt X (pc' := 10) (tgt := 14) dX7_in_7 rfl (by decide) (fun c2 => ?_) (fun c2 => ?_)
    · have hw3 := hw2.1 c2
      refine j_iconst X (pc' := 15) (v := 0) (by decide) dX7_in_14 rfl ?_
      exact j_zret X (Or.inl rfl) ⟨_, rfl, hw3, rfl⟩ (Nat.le_of_ble_eq_true rfl) (Nat.le_of_ble_eq_true rfl) dX7_in_15
    · have hw4 := hw2.2 c2
      refine j_iconst X (pc' := 11) (v := 1) (by decide) dX7_in_10 rfl ?_
      refine j_goto X (tgt := 15) dX7_in_11 (by decide) ?_
      exact j_zret X (Or.inr rfl) ⟨_, rfl, hw4, rfl⟩ (Nat.le_of_ble_eq_true rfl) (Nat.le_of_ble_eq_true rfl) dX7_in_15
/-! BitNotationModel.isType(I)Z -/
theorem dX7_isType_0 : decode cX7_isType 0 = .ok (.iload_n 1, 1) := by decide +kernel
theorem dX7_isType_1 : decode cX7_isType 1 = .ok (.iconst 0, 1) := by decide +kernel
theorem dX7_isType_2 : decode cX7_isType 2 = .ok (.aload_n 0, 1) := by decide +kernel
theorem dX7_isType_3 : decode cX7_isType 3 = .ok (.getfield 77, 3) := by decide +kernel
theorem dX7_isType_6 : decode cX7_isType 6 = .ok (.iconst 1, 1) := by decide +kernel
theorem dX7_isType_7 : decode cX7_isType 7 = .ok (.isub, 1) := by decide +kernel
theorem dX7_isType_8 : decode cX7_isType 8 = .ok (.invokestatic 80, 3) := by decide +kernel
theorem dX7_isType_11 : decode cX7_isType 11 = .ok (.ireturn, 1) := by decide +kernel
def wp_X7_isType (x1 : Int32) (σ : Nat → Int32) (α : Nat → Nat → Int32) (post : Int32 → (Nat → Int32) → (Nat → Nat → Int32) → Prop) : Prop := wp_X7_in x1 (0 : Int32) ((σ 1) - (1 : Int32)) (fun r1 => (r1 = 0 ∨ r1 = 1) ∧ post r1 σ α)
set_option maxHeartbeats 4000000 in
set_option maxRecDepth 100000 in
theorem c_X7_isType (l : Launch) (G : gG) (A : Nat → Prop) {mm : Nat} {rf : Nat → Nat} (hMO : MOk mm rf) (μ0 : Mm) (x1 : Int32) (σ : Nat → Int32) (α : Nat → Nat → Int32) (post : Int32 → (Nat → Int32) → (Nat → Nat → Int32) → Prop) (h : wp_X7_isType x1 σ α post) : Met l yX7_isType (.code yX7_isType cX7_isType 2 (some .boolean) :: wsA) (rmL (1) 0 0) (PcG G A (mset μ0 mm rf σ α) [.ref mm, .int x1]) (QG G A (pI (pMi μ0 mm rf post))) 0 0 A := by
  refine met_J (loc := [(0, .ref mm), (1, .int x1)]) (by decide +kernel) (Nat.le_of_ble_eq_true rfl) rfl ?_
  intro p e s m args below meth c X hin
  have X : Cx p l s m args meth c cX7_isType 2 (some .boolean) RX7 G A := X
  have hw := h
  unfold wp_X7_isType at hw
  refine j_iload_n X (pc' := 1) (kk := 1) (i := 1) 1 rfl rfl dX7_isType_0 rfl ?_
  refine j_iconst X (pc' := 2) (v := 0) (by decide) dX7_isType_1 rfl ?_
  refine j_aload_n X (pc' := 3) (kk := 0) (i := 0) 0 rfl rfl dX7_isType_2 rfl ?_
  refine j_getf X (pc' := 6) mset_o 1 rfl rfl fw_TX7 (by decide) wt_3_166 dX7_isType_3 rfl ?_
  refine j_iconst X (pc' := 7) (v := 1) (by decide) dX7_isType_6 rfl ?_
  refine j_isub X (pc' := 8) dX7_isType_7 rfl ?_
  refine j_callSp (As := [.int x1, .int (0 : Int32), .int ((σ 1) - (1 : Int32))]) (rest := []) X (pc' := 11) (cells' := 0) (slots' := 0) (c_X7_in l G A (mset μ0 mm rf σ α) x1 (0 : Int32) ((σ 1) - (1 : Int32)) _ hw) (gk_X7_in wt_4_24) hd_X7_in (rmL_fit (k1 := 0) (k := 1) (by omega) (by decide)) rfl rfl (Nat.le_of_ble_eq_true rfl) dX7_isType_8 rfl ⟨Nat.le_of_ble_eq_true rfl, Nat.le_of_ble_eq_true rfl⟩ rfl rfl (fun r1 hw1 => ?_)
  have hb := hw1.1
  have hw2 := hw1.2
  exact j_zret X hb ⟨_, rfl, _, _, rfl, hw2⟩ (Nat.le_of_ble_eq_true rfl) (Nat.le_of_ble_eq_true rfl) dX7_isType_11
/-! BitNotationModel.width(I)I -/
theorem dX7_width_0 : decode cX7_width 0 = .ok (.iconst 0, 1) := by decide +kernel
theorem dX7_width_1 : decode cX7_width 1 = .ok (.istore_n 1, 1) := by decide +kernel
theorem dX7_width_2 : decode cX7_width 2 = .ok (.iconst 1, 1) := by decide +kernel
theorem dX7_width_3 : decode cX7_width 3 = .ok (.iload_n 1, 1) := by decide +kernel
theorem dX7_width_4 : decode cX7_width 4 = .ok (.ishl, 1) := by decide +kernel
theorem dX7_width_5 : decode cX7_width 5 = .ok (.iload_n 0, 1) := by decide +kernel
theorem dX7_width_6 : decode cX7_width 6 = .ok (.if_icmp .ge 9, 3) := by decide +kernel
theorem dX7_width_9 : decode cX7_width 9 = .ok (.iinc 1 1, 3) := by decide +kernel
theorem dX7_width_12 : decode cX7_width 12 = .ok (.goto (-10), 3) := by decide +kernel
theorem dX7_width_15 : decode cX7_width 15 = .ok (.iload_n 1, 1) := by decide +kernel
theorem dX7_width_16 : decode cX7_width 16 = .ok (.ireturn, 1) := by decide +kernel
def wb_X7_width_2 (post : Int32 → Prop)  : Nat → Int32 → Int32 → Prop
  | 0 => fun _ _ => False
  | n + 1 => fun v0 v1 => (v0 ≤ ((1 : Int32) <<< (v1 &&& 31)) → (post v1 )) ∧ (¬ v0 ≤ ((1 : Int32) <<< (v1 &&& 31)) → (wb_X7_width_2 post n v0 (v1 + 1)))
set_option maxHeartbeats 4000000 in
set_option maxRecDepth 100000 in
theorem tb_X7_width_2 {p : Program} {l : Launch} {e : Env} {s : State} {m : MethodId} {args : Array Value} {below : List Frame} {meth : Method} {c : Code} {G : gG} {A : Nat → Prop} {μ : Mm} {post : Int32 → Prop} (X : Cx p l s m args meth c cX7_width 2 (some .int) RX7 G A) : ∀ (n : Nat) (v0 : Int32) (v1 : Int32), wb_X7_width_2 post n v0 v1 → J p l e (rmL (0) 0 0) s m args below meth c 2 G A (MQ below (QG G A (pI (fun r μ9 => post r ∧ μ9 = μ))) args s 0 0 A) 0 0 2 [(0, .int v0), (1, .int v1)] [] μ := by
  intro n
  induction n with
  | zero => intro v0 v1 hw; exact hw.elim
  | succ n ih =>
    intro v0 v1 hw
    rw [wb_X7_width_2] at hw
    refine j_iconst X (pc' := 3) (v := 1) (by decide) dX7_width_2 rfl ?_
    refine j_iload_n X (pc' := 4) (kk := 1) (i := 1) 1 rfl rfl dX7_width_3 rfl ?_
    refine j_ishl X (pc' := 5) dX7_width_4 rfl ?_
    refine j_iload_n X (pc' := 6) (kk := 0) (i := 0) 0 rfl rfl dX7_width_5 rfl ?_
    refine j_icmp_ge X (pc' := 9) (tgt := 15) dX7_width_6 rfl (by decide) (fun c1 => ?_) (fun c1 => ?_)
    · have hw1 := hw.1 c1
      refine j_iload_n X (pc' := 16) (kk := 1) (i := 1) 1 rfl rfl dX7_width_15 rfl ?_
      exact j_iret X ⟨_, rfl, hw1, rfl⟩ (Nat.le_of_ble_eq_true rfl) (Nat.le_of_ble_eq_true rfl) dX7_width_16
    · have hw2 := hw.2 c1
      refine j_iinc X (pc' := 12) (i := 1) (v := v1 + 1) (loc' := [(1, .int (v1 + 1)), (0, .int v0)]) 1 rfl rfl dX7_width_9 rfl (by decide) rfl ?_
      refine j_goto X (tgt := 2) dX7_width_12 (by decide) ?_
      refine j_loc [1, 0] rfl ?_
      exact ih _ _ hw2
def wp_X7_width (x1 : Int32) (post : Int32 → Prop) : Prop := ∃ n, wb_X7_width_2 post n x1 (0 : Int32)
set_option maxHeartbeats 4000000 in
set_option maxRecDepth 100000 in
theorem c_X7_width (l : Launch) (G : gG) (A : Nat → Prop) (μ : Mm) (x1 : Int32) (post : Int32 → Prop) (h : wp_X7_width x1 post) : Met l yX7_width (.code yX7_width cX7_width 2 (some .int) :: wsA) (rmL (0) 0 0) (PcG G A μ [.int x1]) (QG G A (pI (fun r μ9 => post r ∧ μ9 = μ))) 0 0 A := by
  refine met_J (loc := [(0, .int x1)]) (by decide +kernel) (Nat.le_of_ble_eq_true rfl) rfl ?_
  intro p e s m args below meth c X hin
  have X : Cx p l s m args meth c cX7_width 2 (some .int) RX7 G A := X
  have hw := h
  unfold wp_X7_width at hw
  refine j_iconst X (pc' := 1) (v := 0) (by decide) dX7_width_0 rfl ?_
  refine j_istore_n X (pc' := 2) (kk := 1) (i := 1) (loc' := [(1, .int ((0 : Int32))), (0, .int x1)]) dX7_width_1 rfl rfl (by decide) rfl ?_
  obtain ⟨n0, hw1⟩ := hw
  refine j_loc [1, 0] rfl ?_
  exact tb_X7_width_2 X n0 _ _ hw1
/-! BitNotationModel.widthOf(I)I -/
theorem dX7_widthOf_0 : decode cX7_widthOf 0 = .ok (.aload_n 0, 1) := by decide +kernel
theorem dX7_widthOf_1 : decode cX7_widthOf 1 = .ok (.getfield 7, 3) := by decide +kernel
theorem dX7_widthOf_4 : decode cX7_widthOf 4 = .ok (.iload_n 1, 1) := by decide +kernel
theorem dX7_widthOf_5 : decode cX7_widthOf 5 = .ok (.iaload, 1) := by decide +kernel
theorem dX7_widthOf_6 : decode cX7_widthOf 6 = .ok (.iconst 3, 1) := by decide +kernel
theorem dX7_widthOf_7 : decode cX7_widthOf 7 = .ok (.if_icmp .ne 15, 3) := by decide +kernel
theorem dX7_widthOf_10 : decode cX7_widthOf 10 = .ok (.aload_n 0, 1) := by decide +kernel
theorem dX7_widthOf_11 : decode cX7_widthOf 11 = .ok (.getfield 22, 3) := by decide +kernel
theorem dX7_widthOf_14 : decode cX7_widthOf 14 = .ok (.iload_n 1, 1) := by decide +kernel
theorem dX7_widthOf_15 : decode cX7_widthOf 15 = .ok (.iaload, 1) := by decide +kernel
theorem dX7_widthOf_16 : decode cX7_widthOf 16 = .ok (.invokestatic 84, 3) := by decide +kernel
theorem dX7_widthOf_19 : decode cX7_widthOf 19 = .ok (.goto 21, 3) := by decide +kernel
theorem dX7_widthOf_22 : decode cX7_widthOf 22 = .ok (.aload_n 0, 1) := by decide +kernel
theorem dX7_widthOf_23 : decode cX7_widthOf 23 = .ok (.getfield 16, 3) := by decide +kernel
theorem dX7_widthOf_26 : decode cX7_widthOf 26 = .ok (.iload_n 1, 1) := by decide +kernel
theorem dX7_widthOf_27 : decode cX7_widthOf 27 = .ok (.iaload, 1) := by decide +kernel
theorem dX7_widthOf_28 : decode cX7_widthOf 28 = .ok (.aload_n 0, 1) := by decide +kernel
theorem dX7_widthOf_29 : decode cX7_widthOf 29 = .ok (.getfield 13, 3) := by decide +kernel
theorem dX7_widthOf_32 : decode cX7_widthOf 32 = .ok (.iload_n 1, 1) := by decide +kernel
theorem dX7_widthOf_33 : decode cX7_widthOf 33 = .ok (.iaload, 1) := by decide +kernel
theorem dX7_widthOf_34 : decode cX7_widthOf 34 = .ok (.isub, 1) := by decide +kernel
theorem dX7_widthOf_35 : decode cX7_widthOf 35 = .ok (.iconst 1, 1) := by decide +kernel
theorem dX7_widthOf_36 : decode cX7_widthOf 36 = .ok (.iadd, 1) := by decide +kernel
theorem dX7_widthOf_37 : decode cX7_widthOf 37 = .ok (.invokestatic 84, 3) := by decide +kernel
theorem dX7_widthOf_40 : decode cX7_widthOf 40 = .ok (.ireturn, 1) := by decide +kernel
def wp_X7_widthOf (x1 : Int32) (σ : Nat → Int32) (α : Nat → Nat → Int32) (post : Int32 → (Nat → Int32) → (Nat → Nat → Int32) → Prop) : Prop := vp_in x1 16 ∧ (¬ (α 2 x1.toNatClampNeg) = (3 : Int32) → (vp_in x1 16 ∧ vp_in x1 16 ∧ wp_X7_width (((α 4 x1.toNatClampNeg) - (α 3 x1.toNatClampNeg)) + (1 : Int32)) (fun r5 => post r5 σ α))) ∧ ((α 2 x1.toNatClampNeg) = (3 : Int32) → (vp_in x1 16 ∧ wp_X7_width (α 6 x1.toNatClampNeg) (fun r8 => post r8 σ α)))
set_option maxHeartbeats 4000000 in
set_option maxRecDepth 100000 in
theorem c_X7_widthOf (l : Launch) (G : gG) (A : Nat → Prop) {mm : Nat} {rf : Nat → Nat} (hMO : MOk mm rf) (μ0 : Mm) (x1 : Int32) (σ : Nat → Int32) (α : Nat → Nat → Int32) (post : Int32 → (Nat → Int32) → (Nat → Nat → Int32) → Prop) (h : wp_X7_widthOf x1 σ α post) : Met l yX7_widthOf (.code yX7_widthOf cX7_widthOf 2 (some .int) :: wsA) (rmL (1) 0 0) (PcG G A (mset μ0 mm rf σ α) [.ref mm, .int x1]) (QG G A (pI (pMi μ0 mm rf post))) 0 0 A := by
  refine met_J (loc := [(0, .ref mm), (1, .int x1)]) (by decide +kernel) (Nat.le_of_ble_eq_true rfl) rfl ?_
  intro p e s m args below meth c X hin
  have X : Cx p l s m args meth c cX7_widthOf 2 (some .int) RX7 G A := X
  have hw := h
  unfold wp_X7_widthOf at hw
  refine j_aload_n X (pc' := 1) (kk := 0) (i := 0) 0 rfl rfl dX7_widthOf_0 rfl ?_
  refine j_getf X (pc' := 4) mset_o 2 rfl rfl fw_TX7 (by decide) wt_3_167 dX7_widthOf_1 rfl ?_
  refine j_iload_n X (pc' := 5) (kk := 1) (i := 1) 1 rfl rfl dX7_widthOf_4 rfl ?_
  have h1 := hw.1
  have hw1 := hw.2
  refine j_iald X (pc' := 6) (mset_a hMO 2 (by decide)) h1 dX7_widthOf_5 rfl ?_
  refine j_iconst X (pc' := 7) (v := 3) (by decide) dX7_widthOf_6 rfl ?_
  refine j_icmp_ne X (pc' := 10) (tgt := 22) dX7_widthOf_7 rfl (by decide) (fun c2 => ?_) (fun c2 => ?_)
  · have hw2 := hw1.1 c2
    refine j_aload_n X (pc' := 23) (kk := 0) (i := 0) 0 rfl rfl dX7_widthOf_22 rfl ?_
    refine j_getf X (pc' := 26) mset_o 4 rfl rfl fw_TX7 (by decide) wt_3_169 dX7_widthOf_23 rfl ?_
    refine j_iload_n X (pc' := 27) (kk := 1) (i := 1) 1 rfl rfl dX7_widthOf_26 rfl ?_
    have h3 := hw2.1
    have hw3 := hw2.2
    refine j_iald X (pc' := 28) (mset_a hMO 4 (by decide)) h3 dX7_widthOf_27 rfl ?_
    refine j_aload_n X (pc' := 29) (kk := 0) (i := 0) 0 rfl rfl dX7_widthOf_28 rfl ?_
    refine j_getf X (pc' := 32) mset_o 3 rfl rfl fw_TX7 (by decide) wt_3_168 dX7_widthOf_29 rfl ?_
    refine j_iload_n X (pc' := 33) (kk := 1) (i := 1) 1 rfl rfl dX7_widthOf_32 rfl ?_
    have h4 := hw3.1
    have hw4 := hw3.2
    refine j_iald X (pc' := 34) (mset_a hMO 3 (by decide)) h4 dX7_widthOf_33 rfl ?_
    refine j_isub X (pc' := 35) dX7_widthOf_34 rfl ?_
    refine j_iconst X (pc' := 36) (v := 1) (by decide) dX7_widthOf_35 rfl ?_
    refine j_iadd X (pc' := 37) dX7_widthOf_36 rfl ?_
    refine j_callSp (As := [.int (((α 4 x1.toNatClampNeg) - (α 3 x1.toNatClampNeg)) + (1 : Int32))]) (rest := []) X (pc' := 40) (cells' := 0) (slots' := 0) (c_X7_width l G A (mset μ0 mm rf σ α) (((α 4 x1.toNatClampNeg) - (α 3 x1.toNatClampNeg)) + (1 : Int32)) _ hw4) (gk_X7_width wt_4_63) hd_X7_width (rmL_fit (k1 := 0) (k := 1) (by omega) (by decide)) rfl rfl (Nat.le_of_ble_eq_true rfl) dX7_widthOf_37 rfl ⟨Nat.le_of_ble_eq_true rfl, Nat.le_of_ble_eq_true rfl⟩ rfl rfl (fun r5 hw5 => ?_)
    exact j_iret X ⟨_, rfl, _, _, rfl, hw5⟩ (Nat.le_of_ble_eq_true rfl) (Nat.le_of_ble_eq_true rfl) dX7_widthOf_40
  · have hw6 := hw1.2 c2
    refine j_aload_n X (pc' := 11) (kk := 0) (i := 0) 0 rfl rfl dX7_widthOf_10 rfl ?_
    refine j_getf X (pc' := 14) mset_o 6 rfl rfl fw_TX7 (by decide) wt_3_171 dX7_widthOf_11 rfl ?_
    refine j_iload_n X (pc' := 15) (kk := 1) (i := 1) 1 rfl rfl dX7_widthOf_14 rfl ?_
    have h7 := hw6.1
    have hw7 := hw6.2
    refine j_iald X (pc' := 16) (mset_a hMO 6 (by decide)) h7 dX7_widthOf_15 rfl ?_
    refine j_callSp (As := [.int (α 6 x1.toNatClampNeg)]) (rest := []) X (pc' := 19) (cells' := 0) (slots' := 0) (c_X7_width l G A (mset μ0 mm rf σ α) (α 6 x1.toNatClampNeg) _ hw7) (gk_X7_width wt_4_63) hd_X7_width (rmL_fit (k1 := 0) (k := 1) (by omega) (by decide)) rfl rfl (Nat.le_of_ble_eq_true rfl) dX7_widthOf_16 rfl ⟨Nat.le_of_ble_eq_true rfl, Nat.le_of_ble_eq_true rfl⟩ rfl rfl (fun r8 hw8 => ?_)
    refine j_goto X (tgt := 40) dX7_widthOf_19 (by decide) ?_
    exact j_iret X ⟨_, rfl, _, _, rfl, hw8⟩ (Nat.le_of_ble_eq_true rfl) (Nat.le_of_ble_eq_true rfl) dX7_widthOf_40
/-! BitNotationModel.partOf(II)I -/
theorem dX7_partOf_0 : decode cX7_partOf 0 = .ok (.aload_n 0, 1) := by decide +kernel
theorem dX7_partOf_1 : decode cX7_partOf 1 = .ok (.getfield 19, 3) := by decide +kernel
theorem dX7_partOf_4 : decode cX7_partOf 4 = .ok (.bipush 6, 2) := by decide +kernel
theorem dX7_partOf_6 : decode cX7_partOf 6 = .ok (.iload_n 1, 1) := by decide +kernel
theorem dX7_partOf_7 : decode cX7_partOf 7 = .ok (.imul, 1) := by decide +kernel
theorem dX7_partOf_8 : decode cX7_partOf 8 = .ok (.iload_n 2, 1) := by decide +kernel
theorem dX7_partOf_9 : decode cX7_partOf 9 = .ok (.iadd, 1) := by decide +kernel
theorem dX7_partOf_10 : decode cX7_partOf 10 = .ok (.iaload, 1) := by decide +kernel
theorem dX7_partOf_11 : decode cX7_partOf 11 = .ok (.bipush 100, 2) := by decide +kernel
theorem dX7_partOf_13 : decode cX7_partOf 13 = .ok (.irem, 1) := by decide +kernel
theorem dX7_partOf_14 : decode cX7_partOf 14 = .ok (.ireturn, 1) := by decide +kernel
def wp_X7_partOf (x1 : Int32) (x2 : Int32) (σ : Nat → Int32) (α : Nat → Nat → Int32) (post : Int32 → (Nat → Int32) → (Nat → Nat → Int32) → Prop) : Prop := vp_in (((6 : Int32) * x1) + x2) 96 ∧ post ((α 5 (((6 : Int32) * x1) + x2).toNatClampNeg) - (α 5 (((6 : Int32) * x1) + x2).toNatClampNeg) / (100 : Int32) * (100 : Int32)) σ α
set_option maxHeartbeats 4000000 in
set_option maxRecDepth 100000 in
theorem c_X7_partOf (l : Launch) (G : gG) (A : Nat → Prop) {mm : Nat} {rf : Nat → Nat} (hMO : MOk mm rf) (μ0 : Mm) (x1 : Int32) (x2 : Int32) (σ : Nat → Int32) (α : Nat → Nat → Int32) (post : Int32 → (Nat → Int32) → (Nat → Nat → Int32) → Prop) (h : wp_X7_partOf x1 x2 σ α post) : Met l yX7_partOf (.code yX7_partOf cX7_partOf 3 (some .int) :: wsA) (rmL (0) 0 0) (PcG G A (mset μ0 mm rf σ α) [.ref mm, .int x1, .int x2]) (QG G A (pI (pMi μ0 mm rf post))) 0 0 A := by
  refine met_J (loc := [(0, .ref mm), (1, .int x1), (2, .int x2)]) (by decide +kernel) (Nat.le_of_ble_eq_true rfl) rfl ?_
  intro p e s m args below meth c X hin
  have X : Cx p l s m args meth c cX7_partOf 3 (some .int) RX7 G A := X
  have hw := h
  unfold wp_X7_partOf at hw
  refine j_aload_n X (pc' := 1) (kk := 0) (i := 0) 0 rfl rfl dX7_partOf_0 rfl ?_
  refine j_getf X (pc' := 4) mset_o 5 rfl rfl fw_TX7 (by decide) wt_3_170 dX7_partOf_1 rfl ?_
  refine j_bipush X (pc' := 6) (v := 6) (by decide) dX7_partOf_4 rfl ?_
  refine j_iload_n X (pc' := 7) (kk := 1) (i := 1) 1 rfl rfl dX7_partOf_6 rfl ?_
  refine j_imul X (pc' := 8) dX7_partOf_7 rfl ?_
  refine j_iload_n X (pc' := 9) (kk := 2) (i := 2) 2 rfl rfl dX7_partOf_8 rfl ?_
  refine j_iadd X (pc' := 10) dX7_partOf_9 rfl ?_
  have h1 := hw.1
  have hw1 := hw.2
  refine j_iald X (pc' := 11) (mset_a hMO 5 (by decide)) h1 dX7_partOf_10 rfl ?_
  refine j_bipush X (pc' := 13) (v := 100) (by decide) dX7_partOf_11 rfl ?_
  refine j_irem X (pc' := 14) (by decide) dX7_partOf_13 rfl ?_
  exact j_iret X ⟨_, rfl, _, _, rfl, hw1⟩ (Nat.le_of_ble_eq_true rfl) (Nat.le_of_ble_eq_true rfl) dX7_partOf_14
/-! BitNotationModel.isOptional(II)Z -/
theorem dX7_isOptional_0 : decode cX7_isOptional 0 = .ok (.aload_n 0, 1) := by decide +kernel
theorem dX7_isOptional_1 : decode cX7_isOptional 1 = .ok (.getfield 19, 3) := by decide +kernel
theorem dX7_isOptional_4 : decode cX7_isOptional 4 = .ok (.bipush 6, 2) := by decide +kernel
theorem dX7_isOptional_6 : decode cX7_isOptional 6 = .ok (.iload_n 1, 1) := by decide +kernel
theorem dX7_isOptional_7 : decode cX7_isOptional 7 = .ok (.imul, 1) := by decide +kernel
theorem dX7_isOptional_8 : decode cX7_isOptional 8 = .ok (.iload_n 2, 1) := by decide +kernel
theorem dX7_isOptional_9 : decode cX7_isOptional 9 = .ok (.iadd, 1) := by decide +kernel
theorem dX7_isOptional_10 : decode cX7_isOptional 10 = .ok (.iaload, 1) := by decide +kernel
theorem dX7_isOptional_11 : decode cX7_isOptional 11 = .ok (.bipush 100, 2) := by decide +kernel
theorem dX7_isOptional_13 : decode cX7_isOptional 13 = .ok (.if_icmp .lt 7, 3) := by decide +kernel
theorem dX7_isOptional_16 : decode cX7_isOptional 16 = .ok (.iconst 1, 1) := by decide +kernel
theorem dX7_isOptional_17 : decode cX7_isOptional 17 = .ok (.goto 4, 3) := by decide +kernel
theorem dX7_isOptional_20 : decode cX7_isOptional 20 = .ok (.iconst 0, 1) := by decide +kernel
theorem dX7_isOptional_21 : decode cX7_isOptional 21 = .ok (.ireturn, 1) := by decide +kernel
def wp_X7_isOptional (x1 : Int32) (x2 : Int32) (σ : Nat → Int32) (α : Nat → Nat → Int32) (post : Int32 → (Nat → Int32) → (Nat → Nat → Int32) → Prop) : Prop := vp_in (((6 : Int32) * x1) + x2) 96 ∧ ((α 5 (((6 : Int32) * x1) + x2).toNatClampNeg) < (100 : Int32) → (post (0 : Int32) σ α)) ∧ (¬ (α 5 (((6 : Int32) * x1) + x2).toNatClampNeg) < (100 : Int32) → (post (1 : Int32) σ α))
set_option maxHeartbeats 4000000 in
set_option maxRecDepth 100000 in
theorem c_X7_isOptional (l : Launch) (G : gG) (A : Nat → Prop) {mm : Nat} {rf : Nat → Nat} (hMO : MOk mm rf) (μ0 : Mm) (x1 : Int32) (x2 : Int32) (σ : Nat → Int32) (α : Nat → Nat → Int32) (post : Int32 → (Nat → Int32) → (Nat → Nat → Int32) → Prop) (h : wp_X7_isOptional x1 x2 σ α post) : Met l yX7_isOptional (.code yX7_isOptional cX7_isOptional 3 (some .boolean) :: wsA) (rmL (0) 0 0) (PcG G A (mset μ0 mm rf σ α) [.ref mm, .int x1, .int x2]) (QG G A (pI (pMi μ0 mm rf post))) 0 0 A := by
  refine met_J (loc := [(0, .ref mm), (1, .int x1), (2, .int x2)]) (by decide +kernel) (Nat.le_of_ble_eq_true rfl) rfl ?_
  intro p e s m args below meth c X hin
  have X : Cx p l s m args meth c cX7_isOptional 3 (some .boolean) RX7 G A := X
  have hw := h
  unfold wp_X7_isOptional at hw
  refine j_aload_n X (pc' := 1) (kk := 0) (i := 0) 0 rfl rfl dX7_isOptional_0 rfl ?_
  refine j_getf X (pc' := 4) mset_o 5 rfl rfl fw_TX7 (by decide) wt_3_170 dX7_isOptional_1 rfl ?_
  refine j_bipush X (pc' := 6) (v := 6) (by decide) dX7_isOptional_4 rfl ?_
  refine j_iload_n X (pc' := 7) (kk := 1) (i := 1) 1 rfl rfl dX7_isOptional_6 rfl ?_
  refine j_imul X (pc' := 8) dX7_isOptional_7 rfl ?_
  refine j_iload_n X (pc' := 9) (kk := 2) (i := 2) 2 rfl rfl dX7_isOptional_8 rfl ?_
  refine j_iadd X (pc' := 10) dX7_isOptional_9 rfl ?_
  have h1 := hw.1
  have hw1 := hw.2
  refine j_iald X (pc' := 11) (mset_a hMO 5 (by decide)) h1 dX7_isOptional_10 rfl ?_
  refine j_bipush X (pc' := 13) (v := 100) (by decide) dX7_isOptional_11 rfl ?_
  refine j_icmp_lt X (pc' := 16) (tgt := 20) dX7_isOptional_13 rfl (by decide) (fun c2 => ?_) (fun c2 => ?_)
  · have hw2 := hw1.1 c2
    refine j_iconst X (pc' := 21) (v := 0) (by decide) dX7_isOptional_20 rfl ?_
    exact j_zret X (Or.inl rfl) ⟨_, rfl, _, _, rfl, hw2⟩ (Nat.le_of_ble_eq_true rfl) (Nat.le_of_ble_eq_true rfl) dX7_isOptional_21
  · have hw3 := hw1.2 c2
    refine j_iconst X (pc' := 17) (v := 1) (by decide) dX7_isOptional_16 rfl ?_
    refine j_goto X (tgt := 21) dX7_isOptional_17 (by decide) ?_
    exact j_zret X (Or.inr rfl) ⟨_, rfl, _, _, rfl, hw3⟩ (Nat.le_of_ble_eq_true rfl) (Nat.le_of_ble_eq_true rfl) dX7_isOptional_21
/-! BitNotationModel.optionals(I)I -/
theorem dX7_optionals_0 : decode cX7_optionals 0 = .ok (.iconst 0, 1) := by decide +kernel
theorem dX7_optionals_1 : decode cX7_optionals 1 = .ok (.istore_n 2, 1) := by decide +kernel
theorem dX7_optionals_2 : decode cX7_optionals 2 = .ok (.iconst 0, 1) := by decide +kernel
theorem dX7_optionals_3 : decode cX7_optionals 3 = .ok (.istore_n 3, 1) := by decide +kernel
theorem dX7_optionals_4 : decode cX7_optionals 4 = .ok (.iload_n 3, 1) := by decide +kernel
theorem dX7_optionals_5 : decode cX7_optionals 5 = .ok (.aload_n 0, 1) := by decide +kernel
theorem dX7_optionals_6 : decode cX7_optionals 6 = .ok (.getfield 22, 3) := by decide +kernel
theorem dX7_optionals_9 : decode cX7_optionals 9 = .ok (.iload_n 1, 1) := by decide +kernel
theorem dX7_optionals_10 : decode cX7_optionals 10 = .ok (.iaload, 1) := by decide +kernel
theorem dX7_optionals_11 : decode cX7_optionals 11 = .ok (.if_icmp .ge 26, 3) := by decide +kernel
theorem dX7_optionals_14 : decode cX7_optionals 14 = .ok (.iload_n 2, 1) := by decide +kernel
theorem dX7_optionals_15 : decode cX7_optionals 15 = .ok (.aload_n 0, 1) := by decide +kernel
theorem dX7_optionals_16 : decode cX7_optionals 16 = .ok (.iload_n 1, 1) := by decide +kernel
theorem dX7_optionals_17 : decode cX7_optionals 17 = .ok (.iload_n 3, 1) := by decide +kernel
theorem dX7_optionals_18 : decode cX7_optionals 18 = .ok (.invokevirtual 88, 3) := by decide +kernel
theorem dX7_optionals_21 : decode cX7_optionals 21 = .ok (.ifCond .eq 7, 3) := by decide +kernel
theorem dX7_optionals_24 : decode cX7_optionals 24 = .ok (.iconst 1, 1) := by decide +kernel
theorem dX7_optionals_25 : decode cX7_optionals 25 = .ok (.goto 4, 3) := by decide +kernel
theorem dX7_optionals_28 : decode cX7_optionals 28 = .ok (.iconst 0, 1) := by decide +kernel
theorem dX7_optionals_29 : decode cX7_optionals 29 = .ok (.iadd, 1) := by decide +kernel
theorem dX7_optionals_30 : decode cX7_optionals 30 = .ok (.istore_n 2, 1) := by decide +kernel
theorem dX7_optionals_31 : decode cX7_optionals 31 = .ok (.iinc 3 1, 3) := by decide +kernel
theorem dX7_optionals_34 : decode cX7_optionals 34 = .ok (.goto (-30), 3) := by decide +kernel
theorem dX7_optionals_37 : decode cX7_optionals 37 = .ok (.iload_n 2, 1) := by decide +kernel
theorem dX7_optionals_38 : decode cX7_optionals 38 = .ok (.ireturn, 1) := by decide +kernel
def wb_X7_optionals_29 (post : Int32 → (Nat → Int32) → (Nat → Nat → Int32) → Prop) (K4 : Int32 → Int32 → Int32 → (Nat → Int32) → (Nat → Nat → Int32) → Prop) (v1 : Int32) (v3 : Int32) (s0 : Int32) (s1 : Int32) (σ : Nat → Int32) (α : Nat → Nat → Int32) : Prop := K4 v1 (s1 + s0) (v3 + 1) σ α
set_option maxHeartbeats 4000000 in
set_option maxRecDepth 100000 in
theorem tb_X7_optionals_29 {p : Program} {l : Launch} {e : Env} {s : State} {m : MethodId} {args : Array Value} {below : List Frame} {meth : Method} {c : Code} {G : gG} {A : Nat → Prop} {μ0 : Mm} {mm : Nat} {rf : Nat → Nat} {post : Int32 → (Nat → Int32) → (Nat → Nat → Int32) → Prop} {K4 : Int32 → Int32 → Int32 → (Nat → Int32) → (Nat → Nat → Int32) → Prop} (X : Cx p l s m args meth c cX7_optionals 4 (some .int) RX7 G A) (hMO : MOk mm rf) (hK4 : ∀ (v1 : Int32) (v2 : Int32) (v3 : Int32) (σ : Nat → Int32) (α : Nat → Nat → Int32), K4 v1 v2 v3 σ α → J p l e (rmL (1) 0 0) s m args below meth c 4 G A (MQ below (QG G A (pI (pMi μ0 mm rf post))) args s 0 0 A) 0 0 4 [(0, .ref mm), (1, .int v1), (2, .int v2), (3, .int v3)] [] (mset μ0 mm rf σ α)) : ∀ (v1 : Int32) (v3 : Int32) (s0 : Int32) (s1 : Int32) (σ : Nat → Int32) (α : Nat → Nat → Int32), wb_X7_optionals_29 post K4 v1 v3 s0 s1 σ α → J p l e (rmL (1) 0 0) s m args below meth c 4 G A (MQ below (QG G A (pI (pMi μ0 mm rf post))) args s 0 0 A) 0 0 29 [(0, .ref mm), (1, .int v1), (3, .int v3)] [.int s0, .int s1] (mset μ0 mm rf σ α) := by
  intro v1 v3 s0 s1 σ α hw
  unfold wb_X7_optionals_29 at hw
  refine j_iadd X (pc' := 30) dX7_optionals_29 rfl ?_
  refine j_istore_n X (pc' := 31) (kk := 2) (i := 2) (loc' := [(2, .int (s1 + s0)), (0, .ref mm), (1, .int v1), (3, .int v3)]) dX7_optionals_30 rfl rfl (by decide) rfl ?_
  refine j_iinc X (pc' := 34) (i := 3) (v := v3 + 1) (loc' := [(3, .int (v3 + 1)), (2, .int (s1 + s0)), (0, .ref mm), (1, .int v1)]) 3 rfl rfl dX7_optionals_31 rfl (by decide) rfl ?_
  refine j_goto X (tgt := 4) dX7_optionals_34 (by decide) ?_
  refine j_loc [2, 3, 1, 0] rfl ?_
  exact hK4 _ _ _ _ _ hw
def wb_X7_optionals_4 (post : Int32 → (Nat → Int32) → (Nat → Nat → Int32) → Prop)  : Nat → Int32 → Int32 → Int32 → (Nat → Int32) → (Nat → Nat → Int32) → Prop
  | 0 => fun _ _ _ _ _ => False
  | n + 1 => fun v1 v2 v3 σ α => vp_in v1 16 ∧ ((α 6 v1.toNatClampNeg) ≤ v3 → (post v2 σ α)) ∧ (¬ (α 6 v1.toNatClampNeg) ≤ v3 → (wp_X7_isOptional v1 v3 σ α (fun r3 σ4 α5 => (r3 = 0 → (wb_X7_optionals_29 post (wb_X7_optionals_4 post n) v1 v3 (0 : Int32) v2 σ4 α5)) ∧ (¬ r3 = 0 → (wb_X7_optionals_29 post (wb_X7_optionals_4 post n) v1 v3 (1 : Int32) v2 σ4 α5)))))
set_option maxHeartbeats 4000000 in
set_option maxRecDepth 100000 in
theorem tb_X7_optionals_4 {p : Program} {l : Launch} {e : Env} {s : State} {m : MethodId} {args : Array Value} {below : List Frame} {meth : Method} {c : Code} {G : gG} {A : Nat → Prop} {μ0 : Mm} {mm : Nat} {rf : Nat → Nat} {post : Int32 → (Nat → Int32) → (Nat → Nat → Int32) → Prop} (X : Cx p l s m args meth c cX7_optionals 4 (some .int) RX7 G A) (hMO : MOk mm rf) : ∀ (n : Nat) (v1 : Int32) (v2 : Int32) (v3 : Int32) (σ : Nat → Int32) (α : Nat → Nat → Int32), wb_X7_optionals_4 post n v1 v2 v3 σ α → J p l e (rmL (1) 0 0) s m args below meth c 4 G A (MQ below (QG G A (pI (pMi μ0 mm rf post))) args s 0 0 A) 0 0 4 [(0, .ref mm), (1, .int v1), (2, .int v2), (3, .int v3)] [] (mset μ0 mm rf σ α) := by
  intro n
  induction n with
  | zero => intro v1 v2 v3 σ α hw; exact hw.elim
  | succ n ih =>
    intro v1 v2 v3 σ α hw
    rw [wb_X7_optionals_4] at hw
    refine j_iload_n X (pc' := 5) (kk := 3) (i := 3) 3 rfl rfl dX7_optionals_4 rfl ?_
    refine j_aload_n X (pc' := 6) (kk := 0) (i := 0) 0 rfl rfl dX7_optionals_5 rfl ?_
    refine j_getf X (pc' := 9) mset_o 6 rfl rfl fw_TX7 (by decide) wt_3_171 dX7_optionals_6 rfl ?_
    refine j_iload_n X (pc' := 10) (kk := 1) (i := 1) 1 rfl rfl dX7_optionals_9 rfl ?_
    have h1 := hw.1
    have hw1 := hw.2
    refine j_iald X (pc' := 11) (mset_a hMO 6 (by decide)) h1 dX7_optionals_10 rfl ?_
    refine j_icmp_ge X (pc' := 14) (tgt := 37) dX7_optionals_11 rfl (by decide) (fun c2 => ?_) (fun c2 => ?_)
    · have hw2 := hw1.1 c2
      refine j_iload_n X (pc' := 38) (kk := 2) (i := 2) 2 rfl rfl dX7_optionals_37 rfl ?_
      exact j_iret X ⟨_, rfl, _, _, rfl, hw2⟩ (Nat.le_of_ble_eq_true rfl) (Nat.le_of_ble_eq_true rfl) dX7_optionals_38
    · have hw3 := hw1.2 c2
      refine j_iload_n X (pc' := 15) (kk := 2) (i := 2) 2 rfl rfl dX7_optionals_14 rfl ?_
      refine j_aload_n X (pc' := 16) (kk := 0) (i := 0) 0 rfl rfl dX7_optionals_15 rfl ?_
      refine j_iload_n X (pc' := 17) (kk := 1) (i := 1) 1 rfl rfl dX7_optionals_16 rfl ?_
      refine j_iload_n X (pc' := 18) (kk := 3) (i := 3) 3 rfl rfl dX7_optionals_17 rfl ?_
      refine j_callVi (As := [.int v1, .int v3]) (rest := [.int v2]) X (pc' := 21) (cells' := 0) (slots' := 0) (c_X7_isOptional l G A hMO μ0 v1 v3 σ α _ hw3) (gk_X7_isOptional wt_4_47) hd_X7_isOptional (rmL_fit (k1 := 0) (k := 1) (by omega) (by decide)) mset_o rfl rfl rfl (Nat.le_of_ble_eq_true rfl) dX7_optionals_18 rfl ⟨Nat.le_of_ble_eq_true rfl, Nat.le_of_ble_eq_true rfl⟩ rfl rfl (fun r3 μ8 hw4 => ?_)
      obtain ⟨σ4, α5, rfl, hw5⟩ := hw4
      refine j_if_eq X (pc' := 24) (tgt := 28) dX7_optionals_21 rfl (by decide) (fun c6 => ?_) (fun c6 => ?_)
      · have hw6 := hw5.1 c6
        refine j_iconst X (pc' := 29) (v := 0) (by decide) dX7_optionals_28 rfl ?_
        refine j_loc [0, 1, 3] rfl ?_
        exact tb_X7_optionals_29 X hMO ih _ _ _ _ _ _ hw6
      · have hw7 := hw5.2 c6
        refine j_iconst X (pc' := 25) (v := 1) (by decide) dX7_optionals_24 rfl ?_
        refine j_goto X (tgt := 29) dX7_optionals_25 (by decide) ?_
        refine j_loc [0, 1, 3] rfl ?_
        exact tb_X7_optionals_29 X hMO ih _ _ _ _ _ _ hw7
def wp_X7_optionals (x1 : Int32) (σ : Nat → Int32) (α : Nat → Nat → Int32) (post : Int32 → (Nat → Int32) → (Nat → Nat → Int32) → Prop) : Prop := ∃ n, wb_X7_optionals_4 post n x1 (0 : Int32) (0 : Int32) σ α
set_option maxHeartbeats 4000000 in
set_option maxRecDepth 100000 in
theorem c_X7_optionals (l : Launch) (G : gG) (A : Nat → Prop) {mm : Nat} {rf : Nat → Nat} (hMO : MOk mm rf) (μ0 : Mm) (x1 : Int32) (σ : Nat → Int32) (α : Nat → Nat → Int32) (post : Int32 → (Nat → Int32) → (Nat → Nat → Int32) → Prop) (h : wp_X7_optionals x1 σ α post) : Met l yX7_optionals (.code yX7_optionals cX7_optionals 4 (some .int) :: wsA) (rmL (1) 0 0) (PcG G A (mset μ0 mm rf σ α) [.ref mm, .int x1]) (QG G A (pI (pMi μ0 mm rf post))) 0 0 A := by
  refine met_J (loc := [(0, .ref mm), (1, .int x1)]) (by decide +kernel) (Nat.le_of_ble_eq_true rfl) rfl ?_
  intro p e s m args below meth c X hin
  have X : Cx p l s m args meth c cX7_optionals 4 (some .int) RX7 G A := X
  have hw := h
  unfold wp_X7_optionals at hw
  refine j_iconst X (pc' := 1) (v := 0) (by decide) dX7_optionals_0 rfl ?_
  refine j_istore_n X (pc' := 2) (kk := 2) (i := 2) (loc' := [(2, .int ((0 : Int32))), (0, .ref mm), (1, .int x1)]) dX7_optionals_1 rfl rfl (by decide) rfl ?_
  refine j_iconst X (pc' := 3) (v := 0) (by decide) dX7_optionals_2 rfl ?_
  refine j_istore_n X (pc' := 4) (kk := 3) (i := 3) (loc' := [(3, .int ((0 : Int32))), (2, .int ((0 : Int32))), (0, .ref mm), (1, .int x1)]) dX7_optionals_3 rfl rfl (by decide) rfl ?_
  obtain ⟨n0, hw1⟩ := hw
  refine j_loc [2, 3, 1, 0] rfl ?_
  exact tb_X7_optionals_4 X hMO n0 _ _ _ _ _ hw1
/-! BitNotationModel.measureSequence(I)V -/
theorem dX7_measureSequence_0 : decode cX7_measureSequence 0 = .ok (.aload_n 0, 1) := by decide +kernel
theorem dX7_measureSequence_1 : decode cX7_measureSequence 1 = .ok (.iload_n 1, 1) := by decide +kernel
theorem dX7_measureSequence_2 : decode cX7_measureSequence 2 = .ok (.invokevirtual 92, 3) := by decide +kernel
theorem dX7_measureSequence_5 : decode cX7_measureSequence 5 = .ok (.istore_n 2, 1) := by decide +kernel
theorem dX7_measureSequence_6 : decode cX7_measureSequence 6 = .ok (.aload_n 0, 1) := by decide +kernel
theorem dX7_measureSequence_7 : decode cX7_measureSequence 7 = .ok (.getfield 31, 3) := by decide +kernel
theorem dX7_measureSequence_10 : decode cX7_measureSequence 10 = .ok (.iload_n 1, 1) := by decide +kernel
theorem dX7_measureSequence_11 : decode cX7_measureSequence 11 = .ok (.iconst 1, 1) := by decide +kernel
theorem dX7_measureSequence_12 : decode cX7_measureSequence 12 = .ok (.iload_n 2, 1) := by decide +kernel
theorem dX7_measureSequence_13 : decode cX7_measureSequence 13 = .ok (.iadd, 1) := by decide +kernel
theorem dX7_measureSequence_14 : decode cX7_measureSequence 14 = .ok (.iastore, 1) := by decide +kernel
theorem dX7_measureSequence_15 : decode cX7_measureSequence 15 = .ok (.aload_n 0, 1) := by decide +kernel
theorem dX7_measureSequence_16 : decode cX7_measureSequence 16 = .ok (.getfield 34, 3) := by decide +kernel
theorem dX7_measureSequence_19 : decode cX7_measureSequence 19 = .ok (.iload_n 1, 1) := by decide +kernel
theorem dX7_measureSequence_20 : decode cX7_measureSequence 20 = .ok (.iconst 1, 1) := by decide +kernel
theorem dX7_measureSequence_21 : decode cX7_measureSequence 21 = .ok (.iload_n 2, 1) := by decide +kernel
theorem dX7_measureSequence_22 : decode cX7_measureSequence 22 = .ok (.iadd, 1) := by decide +kernel
theorem dX7_measureSequence_23 : decode cX7_measureSequence 23 = .ok (.aload_n 0, 1) := by decide +kernel
theorem dX7_measureSequence_24 : decode cX7_measureSequence 24 = .ok (.getfield 28, 3) := by decide +kernel
theorem dX7_measureSequence_27 : decode cX7_measureSequence 27 = .ok (.iload_n 1, 1) := by decide +kernel
theorem dX7_measureSequence_28 : decode cX7_measureSequence 28 = .ok (.iaload, 1) := by decide +kernel
theorem dX7_measureSequence_29 : decode cX7_measureSequence 29 = .ok (.ifCond .le 7, 3) := by decide +kernel
theorem dX7_measureSequence_32 : decode cX7_measureSequence 32 = .ok (.iconst 2, 1) := by decide +kernel
theorem dX7_measureSequence_33 : decode cX7_measureSequence 33 = .ok (.goto 4, 3) := by decide +kernel
theorem dX7_measureSequence_36 : decode cX7_measureSequence 36 = .ok (.iconst 0, 1) := by decide +kernel
theorem dX7_measureSequence_37 : decode cX7_measureSequence 37 = .ok (.iadd, 1) := by decide +kernel
theorem dX7_measureSequence_38 : decode cX7_measureSequence 38 = .ok (.iastore, 1) := by decide +kernel
theorem dX7_measureSequence_39 : decode cX7_measureSequence 39 = .ok (.aload_n 0, 1) := by decide +kernel
theorem dX7_measureSequence_40 : decode cX7_measureSequence 40 = .ok (.getfield 37, 3) := by decide +kernel
theorem dX7_measureSequence_43 : decode cX7_measureSequence 43 = .ok (.iload_n 1, 1) := by decide +kernel
theorem dX7_measureSequence_44 : decode cX7_measureSequence 44 = .ok (.iconst 1, 1) := by decide +kernel
theorem dX7_measureSequence_45 : decode cX7_measureSequence 45 = .ok (.iload_n 2, 1) := by decide +kernel
theorem dX7_measureSequence_46 : decode cX7_measureSequence 46 = .ok (.iadd, 1) := by decide +kernel
theorem dX7_measureSequence_47 : decode cX7_measureSequence 47 = .ok (.iastore, 1) := by decide +kernel
theorem dX7_measureSequence_48 : decode cX7_measureSequence 48 = .ok (.iconst 0, 1) := by decide +kernel
theorem dX7_measureSequence_49 : decode cX7_measureSequence 49 = .ok (.istore_n 3, 1) := by decide +kernel
theorem dX7_measureSequence_50 : decode cX7_measureSequence 50 = .ok (.iload_n 3, 1) := by decide +kernel
theorem dX7_measureSequence_51 : decode cX7_measureSequence 51 = .ok (.aload_n 0, 1) := by decide +kernel
theorem dX7_measureSequence_52 : decode cX7_measureSequence 52 = .ok (.getfield 22, 3) := by decide +kernel
theorem dX7_measureSequence_55 : decode cX7_measureSequence 55 = .ok (.iload_n 1, 1) := by decide +kernel
theorem dX7_measureSequence_56 : decode cX7_measureSequence 56 = .ok (.iaload, 1) := by decide +kernel
theorem dX7_measureSequence_57 : decode cX7_measureSequence 57 = .ok (.if_icmp .ge 78, 3) := by decide +kernel
theorem dX7_measureSequence_60 : decode cX7_measureSequence 60 = .ok (.aload_n 0, 1) := by decide +kernel
theorem dX7_measureSequence_61 : decode cX7_measureSequence 61 = .ok (.iload_n 1, 1) := by decide +kernel
theorem dX7_measureSequence_62 : decode cX7_measureSequence 62 = .ok (.iload_n 3, 1) := by decide +kernel
theorem dX7_measureSequence_63 : decode cX7_measureSequence 63 = .ok (.invokevirtual 95, 3) := by decide +kernel
theorem dX7_measureSequence_66 : decode cX7_measureSequence 66 = .ok (.istore 4, 2) := by decide +kernel
theorem dX7_measureSequence_68 : decode cX7_measureSequence 68 = .ok (.aload_n 0, 1) := by decide +kernel
theorem dX7_measureSequence_69 : decode cX7_measureSequence 69 = .ok (.getfield 31, 3) := by decide +kernel
theorem dX7_measureSequence_72 : decode cX7_measureSequence 72 = .ok (.iload_n 1, 1) := by decide +kernel
theorem dX7_measureSequence_73 : decode cX7_measureSequence 73 = .ok (.dup2, 1) := by decide +kernel
theorem dX7_measureSequence_74 : decode cX7_measureSequence 74 = .ok (.iaload, 1) := by decide +kernel
theorem dX7_measureSequence_75 : decode cX7_measureSequence 75 = .ok (.aload_n 0, 1) := by decide +kernel
theorem dX7_measureSequence_76 : decode cX7_measureSequence 76 = .ok (.iload_n 1, 1) := by decide +kernel
theorem dX7_measureSequence_77 : decode cX7_measureSequence 77 = .ok (.iload_n 3, 1) := by decide +kernel
theorem dX7_measureSequence_78 : decode cX7_measureSequence 78 = .ok (.invokevirtual 88, 3) := by decide +kernel
theorem dX7_measureSequence_81 : decode cX7_measureSequence 81 = .ok (.ifCond .eq 7, 3) := by decide +kernel
theorem dX7_measureSequence_84 : decode cX7_measureSequence 84 = .ok (.iconst 0, 1) := by decide +kernel
theorem dX7_measureSequence_85 : decode cX7_measureSequence 85 = .ok (.goto 10, 3) := by decide +kernel
theorem dX7_measureSequence_88 : decode cX7_measureSequence 88 = .ok (.aload_n 0, 1) := by decide +kernel
theorem dX7_measureSequence_89 : decode cX7_measureSequence 89 = .ok (.getfield 31, 3) := by decide +kernel
theorem dX7_measureSequence_92 : decode cX7_measureSequence 92 = .ok (.iload 4, 2) := by decide +kernel
theorem dX7_measureSequence_94 : decode cX7_measureSequence 94 = .ok (.iaload, 1) := by decide +kernel
theorem dX7_measureSequence_95 : decode cX7_measureSequence 95 = .ok (.iadd, 1) := by decide +kernel
theorem dX7_measureSequence_96 : decode cX7_measureSequence 96 = .ok (.iastore, 1) := by decide +kernel
theorem dX7_measureSequence_97 : decode cX7_measureSequence 97 = .ok (.aload_n 0, 1) := by decide +kernel
theorem dX7_measureSequence_98 : decode cX7_measureSequence 98 = .ok (.getfield 34, 3) := by decide +kernel
theorem dX7_measureSequence_101 : decode cX7_measureSequence 101 = .ok (.iload_n 1, 1) := by decide +kernel
theorem dX7_measureSequence_102 : decode cX7_measureSequence 102 = .ok (.dup2, 1) := by decide +kernel
theorem dX7_measureSequence_103 : decode cX7_measureSequence 103 = .ok (.iaload, 1) := by decide +kernel
theorem dX7_measureSequence_104 : decode cX7_measureSequence 104 = .ok (.aload_n 0, 1) := by decide +kernel
theorem dX7_measureSequence_105 : decode cX7_measureSequence 105 = .ok (.getfield 34, 3) := by decide +kernel
theorem dX7_measureSequence_108 : decode cX7_measureSequence 108 = .ok (.iload 4, 2) := by decide +kernel
theorem dX7_measureSequence_110 : decode cX7_measureSequence 110 = .ok (.iaload, 1) := by decide +kernel
theorem dX7_measureSequence_111 : decode cX7_measureSequence 111 = .ok (.iadd, 1) := by decide +kernel
theorem dX7_measureSequence_112 : decode cX7_measureSequence 112 = .ok (.iastore, 1) := by decide +kernel
theorem dX7_measureSequence_113 : decode cX7_measureSequence 113 = .ok (.aload_n 0, 1) := by decide +kernel
theorem dX7_measureSequence_114 : decode cX7_measureSequence 114 = .ok (.getfield 37, 3) := by decide +kernel
theorem dX7_measureSequence_117 : decode cX7_measureSequence 117 = .ok (.iload_n 1, 1) := by decide +kernel
theorem dX7_measureSequence_118 : decode cX7_measureSequence 118 = .ok (.dup2, 1) := by decide +kernel
theorem dX7_measureSequence_119 : decode cX7_measureSequence 119 = .ok (.iaload, 1) := by decide +kernel
theorem dX7_measureSequence_120 : decode cX7_measureSequence 120 = .ok (.aload_n 0, 1) := by decide +kernel
theorem dX7_measureSequence_121 : decode cX7_measureSequence 121 = .ok (.getfield 37, 3) := by decide +kernel
theorem dX7_measureSequence_124 : decode cX7_measureSequence 124 = .ok (.iload 4, 2) := by decide +kernel
theorem dX7_measureSequence_126 : decode cX7_measureSequence 126 = .ok (.iaload, 1) := by decide +kernel
theorem dX7_measureSequence_127 : decode cX7_measureSequence 127 = .ok (.iadd, 1) := by decide +kernel
theorem dX7_measureSequence_128 : decode cX7_measureSequence 128 = .ok (.iastore, 1) := by decide +kernel
theorem dX7_measureSequence_129 : decode cX7_measureSequence 129 = .ok (.iinc 3 1, 3) := by decide +kernel
theorem dX7_measureSequence_132 : decode cX7_measureSequence 132 = .ok (.goto (-82), 3) := by decide +kernel
theorem dX7_measureSequence_135 : decode cX7_measureSequence 135 = .ok (.iconst 0, 1) := by decide +kernel
theorem dX7_measureSequence_136 : decode cX7_measureSequence 136 = .ok (.istore_n 3, 1) := by decide +kernel
theorem dX7_measureSequence_137 : decode cX7_measureSequence 137 = .ok (.iload_n 3, 1) := by decide +kernel
theorem dX7_measureSequence_138 : decode cX7_measureSequence 138 = .ok (.aload_n 0, 1) := by decide +kernel
theorem dX7_measureSequence_139 : decode cX7_measureSequence 139 = .ok (.getfield 28, 3) := by decide +kernel
theorem dX7_measureSequence_142 : decode cX7_measureSequence 142 = .ok (.iload_n 1, 1) := by decide +kernel
theorem dX7_measureSequence_143 : decode cX7_measureSequence 143 = .ok (.iaload, 1) := by decide +kernel
theorem dX7_measureSequence_144 : decode cX7_measureSequence 144 = .ok (.if_icmp .ge 60, 3) := by decide +kernel
theorem dX7_measureSequence_147 : decode cX7_measureSequence 147 = .ok (.aload_n 0, 1) := by decide +kernel
theorem dX7_measureSequence_148 : decode cX7_measureSequence 148 = .ok (.getfield 34, 3) := by decide +kernel
theorem dX7_measureSequence_151 : decode cX7_measureSequence 151 = .ok (.iload_n 1, 1) := by decide +kernel
theorem dX7_measureSequence_152 : decode cX7_measureSequence 152 = .ok (.dup2, 1) := by decide +kernel
theorem dX7_measureSequence_153 : decode cX7_measureSequence 153 = .ok (.iaload, 1) := by decide +kernel
theorem dX7_measureSequence_154 : decode cX7_measureSequence 154 = .ok (.bipush 8, 2) := by decide +kernel
theorem dX7_measureSequence_156 : decode cX7_measureSequence 156 = .ok (.aload_n 0, 1) := by decide +kernel
theorem dX7_measureSequence_157 : decode cX7_measureSequence 157 = .ok (.getfield 34, 3) := by decide +kernel
theorem dX7_measureSequence_160 : decode cX7_measureSequence 160 = .ok (.aload_n 0, 1) := by decide +kernel
theorem dX7_measureSequence_161 : decode cX7_measureSequence 161 = .ok (.getfield 25, 3) := by decide +kernel
theorem dX7_measureSequence_164 : decode cX7_measureSequence 164 = .ok (.iconst 3, 1) := by decide +kernel
theorem dX7_measureSequence_165 : decode cX7_measureSequence 165 = .ok (.iload_n 1, 1) := by decide +kernel
theorem dX7_measureSequence_166 : decode cX7_measureSequence 166 = .ok (.imul, 1) := by decide +kernel
theorem dX7_measureSequence_167 : decode cX7_measureSequence 167 = .ok (.iload_n 3, 1) := by decide +kernel
theorem dX7_measureSequence_168 : decode cX7_measureSequence 168 = .ok (.iadd, 1) := by decide +kernel
theorem dX7_measureSequence_169 : decode cX7_measureSequence 169 = .ok (.iaload, 1) := by decide +kernel
theorem dX7_measureSequence_170 : decode cX7_measureSequence 170 = .ok (.iaload, 1) := by decide +kernel
theorem dX7_measureSequence_171 : decode cX7_measureSequence 171 = .ok (.iadd, 1) := by decide +kernel
theorem dX7_measureSequence_172 : decode cX7_measureSequence 172 = .ok (.iadd, 1) := by decide +kernel
theorem dX7_measureSequence_173 : decode cX7_measureSequence 173 = .ok (.iastore, 1) := by decide +kernel
theorem dX7_measureSequence_174 : decode cX7_measureSequence 174 = .ok (.aload_n 0, 1) := by decide +kernel
theorem dX7_measureSequence_175 : decode cX7_measureSequence 175 = .ok (.getfield 37, 3) := by decide +kernel
theorem dX7_measureSequence_178 : decode cX7_measureSequence 178 = .ok (.iload_n 1, 1) := by decide +kernel
theorem dX7_measureSequence_179 : decode cX7_measureSequence 179 = .ok (.dup2, 1) := by decide +kernel
theorem dX7_measureSequence_180 : decode cX7_measureSequence 180 = .ok (.iaload, 1) := by decide +kernel
theorem dX7_measureSequence_181 : decode cX7_measureSequence 181 = .ok (.aload_n 0, 1) := by decide +kernel
theorem dX7_measureSequence_182 : decode cX7_measureSequence 182 = .ok (.getfield 37, 3) := by decide +kernel
theorem dX7_measureSequence_185 : decode cX7_measureSequence 185 = .ok (.aload_n 0, 1) := by decide +kernel
theorem dX7_measureSequence_186 : decode cX7_measureSequence 186 = .ok (.getfield 25, 3) := by decide +kernel
theorem dX7_measureSequence_189 : decode cX7_measureSequence 189 = .ok (.iconst 3, 1) := by decide +kernel
theorem dX7_measureSequence_190 : decode cX7_measureSequence 190 = .ok (.iload_n 1, 1) := by decide +kernel
theorem dX7_measureSequence_191 : decode cX7_measureSequence 191 = .ok (.imul, 1) := by decide +kernel
theorem dX7_measureSequence_192 : decode cX7_measureSequence 192 = .ok (.iload_n 3, 1) := by decide +kernel
theorem dX7_measureSequence_193 : decode cX7_measureSequence 193 = .ok (.iadd, 1) := by decide +kernel
theorem dX7_measureSequence_194 : decode cX7_measureSequence 194 = .ok (.iaload, 1) := by decide +kernel
theorem dX7_measureSequence_195 : decode cX7_measureSequence 195 = .ok (.iaload, 1) := by decide +kernel
theorem dX7_measureSequence_196 : decode cX7_measureSequence 196 = .ok (.iadd, 1) := by decide +kernel
theorem dX7_measureSequence_197 : decode cX7_measureSequence 197 = .ok (.iastore, 1) := by decide +kernel
theorem dX7_measureSequence_198 : decode cX7_measureSequence 198 = .ok (.iinc 3 1, 3) := by decide +kernel
theorem dX7_measureSequence_201 : decode cX7_measureSequence 201 = .ok (.goto (-64), 3) := by decide +kernel
theorem dX7_measureSequence_204 : decode cX7_measureSequence 204 = .ok (.return_, 1) := by decide +kernel
def wb_X7_measureSequence_137 (post : (Nat → Int32) → (Nat → Nat → Int32) → Prop)  : Nat → Int32 → Int32 → (Nat → Int32) → (Nat → Nat → Int32) → Prop
  | 0 => fun _ _ _ _ => False
  | n + 1 => fun v1 v3 σ α => vp_in v1 16 ∧ ((α 8 v1.toNatClampNeg) ≤ v3 → (post σ α)) ∧ (¬ (α 8 v1.toNatClampNeg) ≤ v3 → (vp_in v1 16 ∧ vp_in (((3 : Int32) * v1) + v3) 48 ∧ vp_in (α 7 (((3 : Int32) * v1) + v3).toNatClampNeg) 16 ∧ vp_in v1 16 ∧ ∀ α38, α38 = upA α 10 (upd (α 10) v1.toNatClampNeg ((α 10 v1.toNatClampNeg) + ((8 : Int32) + (α 10 (α 7 (((3 : Int32) * v1) + v3).toNatClampNeg).toNatClampNeg)))) → vp_in v1 16 ∧ vp_in (((3 : Int32) * v1) + v3) 48 ∧ vp_in (α38 7 (((3 : Int32) * v1) + v3).toNatClampNeg) 16 ∧ vp_in v1 16 ∧ ∀ α44, α44 = upA α38 11 (upd (α38 11) v1.toNatClampNeg ((α38 11 v1.toNatClampNeg) + (α38 11 (α38 7 (((3 : Int32) * v1) + v3).toNatClampNeg).toNatClampNeg))) → wb_X7_measureSequence_137 post n v1 (v3 + 1) σ α44))
set_option maxHeartbeats 4000000 in
set_option maxRecDepth 100000 in
theorem tb_X7_measureSequence_137 {p : Program} {l : Launch} {e : Env} {s : State} {m : MethodId} {args : Array Value} {below : List Frame} {meth : Method} {c : Code} {G : gG} {A : Nat → Prop} {μ0 : Mm} {mm : Nat} {rf : Nat → Nat} {post : (Nat → Int32) → (Nat → Nat → Int32) → Prop} (X : Cx p l s m args meth c cX7_measureSequence 5 none RX7 G A) (hMO : MOk mm rf) : ∀ (n : Nat) (v1 : Int32) (v3 : Int32) (σ : Nat → Int32) (α : Nat → Nat → Int32), wb_X7_measureSequence_137 post n v1 v3 σ α → J p l e (rmL (2) 0 0) s m args below meth c 5 G A (MQ below (QG G A (pV (pMv μ0 mm rf post))) args s 0 0 A) 0 0 137 [(0, .ref mm), (1, .int v1), (3, .int v3)] [] (mset μ0 mm rf σ α) := by
  intro n
  induction n with
  | zero => intro v1 v3 σ α hw; exact hw.elim
  | succ n ih =>
    intro v1 v3 σ α hw
    rw [wb_X7_measureSequence_137] at hw
    refine j_iload_n X (pc' := 138) (kk := 3) (i := 3) 2 rfl rfl dX7_measureSequence_137 rfl ?_
    refine j_aload_n X (pc' := 139) (kk := 0) (i := 0) 0 rfl rfl dX7_measureSequence_138 rfl ?_
    refine j_getf X (pc' := 142) mset_o 8 rfl rfl fw_TX7 (by decide) wt_3_173 dX7_measureSequence_139 rfl ?_
    refine j_iload_n X (pc' := 143) (kk := 1) (i := 1) 1 rfl rfl dX7_measureSequence_142 rfl ?_
    have h32 := hw.1
    have hw1 := hw.2
    refine j_iald X (pc' := 144) (mset_a hMO 8 (by decide)) h32 dX7_measureSequence_143 rfl ?_
    refine j_icmp_ge X (pc' := 147) (tgt := 204) dX7_measureSequence_144 rfl (by decide) (fun c33 => ?_) (fun c33 => ?_)
    · have hw2 := hw1.1 c33
      exact j_vret X ⟨rfl, _, _, rfl, hw2⟩ (Nat.le_of_ble_eq_true rfl) (Nat.le_of_ble_eq_true rfl) dX7_measureSequence_204
    · have hw3 := hw1.2 c33
      refine j_aload_n X (pc' := 148) (kk := 0) (i := 0) 0 rfl rfl dX7_measureSequence_147 rfl ?_
      refine j_getf X (pc' := 151) mset_o 10 rfl rfl fw_TX7 (by decide) wt_3_175 dX7_measureSequence_148 rfl ?_
      refine j_iload_n X (pc' := 152) (kk := 1) (i := 1) 1 rfl rfl dX7_measureSequence_151 rfl ?_
      refine j_dup2 X (pc' := 153) rfl rfl dX7_measureSequence_152 rfl ?_
      have h34 := hw3.1
      have hw4 := hw3.2
      refine j_iald X (pc' := 154) (mset_a hMO 10 (by decide)) h34 dX7_measureSequence_153 rfl ?_
      refine j_bipush X (pc' := 156) (v := 8) (by decide) dX7_measureSequence_154 rfl ?_
      refine j_aload_n X (pc' := 157) (kk := 0) (i := 0) 0 rfl rfl dX7_measureSequence_156 rfl ?_
      refine j_getf X (pc' := 160) mset_o 10 rfl rfl fw_TX7 (by decide) wt_3_175 dX7_measureSequence_157 rfl ?_
      refine j_aload_n X (pc' := 161) (kk := 0) (i := 0) 0 rfl rfl dX7_measureSequence_160 rfl ?_
      refine j_getf X (pc' := 164) mset_o 7 rfl rfl fw_TX7 (by decide) wt_3_172 dX7_measureSequence_161 rfl ?_
      refine j_iconst X (pc' := 165) (v := 3) (by decide) dX7_measureSequence_164 rfl ?_
      refine j_iload_n X (pc' := 166) (kk := 1) (i := 1) 1 rfl rfl dX7_measureSequence_165 rfl ?_
      refine j_imul X (pc' := 167) dX7_measureSequence_166 rfl ?_
      refine j_iload_n X (pc' := 168) (kk := 3) (i := 3) 2 rfl rfl dX7_measureSequence_167 rfl ?_
      refine j_iadd X (pc' := 169) dX7_measureSequence_168 rfl ?_
      have h35 := hw4.1
      have hw5 := hw4.2
      refine j_iald X (pc' := 170) (mset_a hMO 7 (by decide)) h35 dX7_measureSequence_169 rfl ?_
      have h36 := hw5.1
      have hw6 := hw5.2
      refine j_iald X (pc' := 171) (mset_a hMO 10 (by decide)) h36 dX7_measureSequence_170 rfl ?_
      refine j_iadd X (pc' := 172) dX7_measureSequence_171 rfl ?_
      refine j_iadd X (pc' := 173) dX7_measureSequence_172 rfl ?_
      have h37 := hw6.1
      have hw7 := hw6.2
      refine jm_iast X (pc' := 174) hMO 10 (by decide) h37 dX7_measureSequence_173 rfl (fun α38 e39 => ?_)
      have hw8 := hw7 α38 e39
      refine j_aload_n X (pc' := 175) (kk := 0) (i := 0) 0 rfl rfl dX7_measureSequence_174 rfl ?_
      refine j_getf X (pc' := 178) mset_o 11 rfl rfl fw_TX7 (by decide) wt_3_176 dX7_measureSequence_175 rfl ?_
      refine j_iload_n X (pc' := 179) (kk := 1) (i := 1) 1 rfl rfl dX7_measureSequence_178 rfl ?_
      refine j_dup2 X (pc' := 180) rfl rfl dX7_measureSequence_179 rfl ?_
      have h40 := hw8.1
      have hw9 := hw8.2
      refine j_iald X (pc' := 181) (mset_a hMO 11 (by decide)) h40 dX7_measureSequence_180 rfl ?_
      refine j_aload_n X (pc' := 182) (kk := 0) (i := 0) 0 rfl rfl dX7_measureSequence_181 rfl ?_
      refine j_getf X (pc' := 185) mset_o 11 rfl rfl fw_TX7 (by decide) wt_3_176 dX7_measureSequence_182 rfl ?_
      refine j_aload_n X (pc' := 186) (kk := 0) (i := 0) 0 rfl rfl dX7_measureSequence_185 rfl ?_
      refine j_getf X (pc' := 189) mset_o 7 rfl rfl fw_TX7 (by decide) wt_3_172 dX7_measureSequence_186 rfl ?_
      refine j_iconst X (pc' := 190) (v := 3) (by decide) dX7_measureSequence_189 rfl ?_
      refine j_iload_n X (pc' := 191) (kk := 1) (i := 1) 1 rfl rfl dX7_measureSequence_190 rfl ?_
      refine j_imul X (pc' := 192) dX7_measureSequence_191 rfl ?_
      refine j_iload_n X (pc' := 193) (kk := 3) (i := 3) 2 rfl rfl dX7_measureSequence_192 rfl ?_
      refine j_iadd X (pc' := 194) dX7_measureSequence_193 rfl ?_
      have h41 := hw9.1
      have hw10 := hw9.2
      refine j_iald X (pc' := 195) (mset_a hMO 7 (by decide)) h41 dX7_measureSequence_194 rfl ?_
      have h42 := hw10.1
      have hw11 := hw10.2
      refine j_iald X (pc' := 196) (mset_a hMO 11 (by decide)) h42 dX7_measureSequence_195 rfl ?_
      refine j_iadd X (pc' := 197) dX7_measureSequence_196 rfl ?_
      have h43 := hw11.1
      have hw12 := hw11.2
      refine jm_iast X (pc' := 198) hMO 11 (by decide) h43 dX7_measureSequence_197 rfl (fun α44 e45 => ?_)
      have hw13 := hw12 α44 e45
      refine j_iinc X (pc' := 201) (i := 3) (v := v3 + 1) (loc' := [(3, .int (v3 + 1)), (0, .ref mm), (1, .int v1)]) 2 rfl rfl dX7_measureSequence_198 rfl (by decide) rfl ?_
      refine j_goto X (tgt := 137) dX7_measureSequence_201 (by decide) ?_
      refine j_loc [1, 2, 0] rfl ?_
      exact ih _ _ _ _ hw13
def wb_X7_measureSequence_95 (post : (Nat → Int32) → (Nat → Nat → Int32) → Prop) (K50 : Int32 → Int32 → (Nat → Int32) → (Nat → Nat → Int32) → Prop) (v1 : Int32) (v3 : Int32) (v4 : Int32) (s0 : Int32) (s1 : Int32) (s2 : Int32) (σ : Nat → Int32) (α : Nat → Nat → Int32) : Prop := vp_in s2 16 ∧ ∀ α47, α47 = upA α 9 (upd (α 9) s2.toNatClampNeg (s1 + s0)) → vp_in v1 16 ∧ vp_in v4 16 ∧ vp_in v1 16 ∧ ∀ α52, α52 = upA α47 10 (upd (α47 10) v1.toNatClampNeg ((α47 10 v1.toNatClampNeg) + (α47 10 v4.toNatClampNeg))) → vp_in v1 16 ∧ vp_in v4 16 ∧ vp_in v1 16 ∧ ∀ α57, α57 = upA α52 11 (upd (α52 11) v1.toNatClampNeg ((α52 11 v1.toNatClampNeg) + (α52 11 v4.toNatClampNeg))) → K50 v1 (v3 + 1) σ α57
set_option maxHeartbeats 4000000 in
set_option maxRecDepth 100000 in
theorem tb_X7_measureSequence_95 {p : Program} {l : Launch} {e : Env} {s : State} {m : MethodId} {args : Array Value} {below : List Frame} {meth : Method} {c : Code} {G : gG} {A : Nat → Prop} {μ0 : Mm} {mm : Nat} {rf : Nat → Nat} {post : (Nat → Int32) → (Nat → Nat → Int32) → Prop} {K50 : Int32 → Int32 → (Nat → Int32) → (Nat → Nat → Int32) → Prop} (X : Cx p l s m args meth c cX7_measureSequence 5 none RX7 G A) (hMO : MOk mm rf) (hK50 : ∀ (v1 : Int32) (v3 : Int32) (σ : Nat → Int32) (α : Nat → Nat → Int32), K50 v1 v3 σ α → J p l e (rmL (2) 0 0) s m args below meth c 5 G A (MQ below (QG G A (pV (pMv μ0 mm rf post))) args s 0 0 A) 0 0 50 [(0, .ref mm), (1, .int v1), (3, .int v3)] [] (mset μ0 mm rf σ α)) : ∀ (v1 : Int32) (v3 : Int32) (v4 : Int32) (s0 : Int32) (s1 : Int32) (s2 : Int32) (σ : Nat → Int32) (α : Nat → Nat → Int32), wb_X7_measureSequence_95 post K50 v1 v3 v4 s0 s1 s2 σ α → J p l e (rmL (2) 0 0) s m args below meth c 5 G A (MQ below (QG G A (pV (pMv μ0 mm rf post))) args s 0 0 A) 0 0 95 [(0, .ref mm), (1, .int v1), (3, .int v3), (4, .int v4)] [.int s0, .int s1, .int s2, .ref (rf 9)] (mset μ0 mm rf σ α) := by
  intro v1 v3 v4 s0 s1 s2 σ α hw
  unfold wb_X7_measureSequence_95 at hw
  refine j_iadd X (pc' := 96) dX7_measureSequence_95 rfl ?_
  have h46 := hw.1
  have hw1 := hw.2
  refine jm_iast X (pc' := 97) hMO 9 (by decide) h46 dX7_measureSequence_96 rfl (fun α47 e48 => ?_)
  have hw2 := hw1 α47 e48
  refine j_aload_n X (pc' := 98) (kk := 0) (i := 0) 0 rfl rfl dX7_measureSequence_97 rfl ?_
  refine j_getf X (pc' := 101) mset_o 10 rfl rfl fw_TX7 (by decide) wt_3_175 dX7_measureSequence_98 rfl ?_
  refine j_iload_n X (pc' := 102) (kk := 1) (i := 1) 1 rfl rfl dX7_measureSequence_101 rfl ?_
  refine j_dup2 X (pc' := 103) rfl rfl dX7_measureSequence_102 rfl ?_
  have h49 := hw2.1
  have hw3 := hw2.2
  refine j_iald X (pc' := 104) (mset_a hMO 10 (by decide)) h49 dX7_measureSequence_103 rfl ?_
  refine j_aload_n X (pc' := 105) (kk := 0) (i := 0) 0 rfl rfl dX7_measureSequence_104 rfl ?_
  refine j_getf X (pc' := 108) mset_o 10 rfl rfl fw_TX7 (by decide) wt_3_175 dX7_measureSequence_105 rfl ?_
  refine j_iload X (pc' := 110) (i := 4) 3 rfl dX7_measureSequence_108 rfl ?_
  have h50 := hw3.1
  have hw4 := hw3.2
  refine j_iald X (pc' := 111) (mset_a hMO 10 (by decide)) h50 dX7_measureSequence_110 rfl ?_
  refine j_iadd X (pc' := 112) dX7_measureSequence_111 rfl ?_
  have h51 := hw4.1
  have hw5 := hw4.2
  refine jm_iast X (pc' := 113) hMO 10 (by decide) h51 dX7_measureSequence_112 rfl (fun α52 e53 => ?_)
  have hw6 := hw5 α52 e53
  refine j_aload_n X (pc' := 114) (kk := 0) (i := 0) 0 rfl rfl dX7_measureSequence_113 rfl ?_
  refine j_getf X (pc' := 117) mset_o 11 rfl rfl fw_TX7 (by decide) wt_3_176 dX7_measureSequence_114 rfl ?_
  refine j_iload_n X (pc' := 118) (kk := 1) (i := 1) 1 rfl rfl dX7_measureSequence_117 rfl ?_
  refine j_dup2 X (pc' := 119) rfl rfl dX7_measureSequence_118 rfl ?_
  have h54 := hw6.1
  have hw7 := hw6.2
  refine j_iald X (pc' := 120) (mset_a hMO 11 (by decide)) h54 dX7_measureSequence_119 rfl ?_
  refine j_aload_n X (pc' := 121) (kk := 0) (i := 0) 0 rfl rfl dX7_measureSequence_120 rfl ?_
  refine j_getf X (pc' := 124) mset_o 11 rfl rfl fw_TX7 (by decide) wt_3_176 dX7_measureSequence_121 rfl ?_
  refine j_iload X (pc' := 126) (i := 4) 3 rfl dX7_measureSequence_124 rfl ?_
  have h55 := hw7.1
  have hw8 := hw7.2
  refine j_iald X (pc' := 127) (mset_a hMO 11 (by decide)) h55 dX7_measureSequence_126 rfl ?_
  refine j_iadd X (pc' := 128) dX7_measureSequence_127 rfl ?_
  have h56 := hw8.1
  have hw9 := hw8.2
  refine jm_iast X (pc' := 129) hMO 11 (by decide) h56 dX7_measureSequence_128 rfl (fun α57 e58 => ?_)
  have hw10 := hw9 α57 e58
  refine j_iinc X (pc' := 132) (i := 3) (v := v3 + 1) (loc' := [(3, .int (v3 + 1)), (0, .ref mm), (1, .int v1), (4, .int v4)]) 2 rfl rfl dX7_measureSequence_129 rfl (by decide) rfl ?_
  refine j_goto X (tgt := 50) dX7_measureSequence_132 (by decide) ?_
  refine j_loc [1, 2, 0] rfl ?_
  exact hK50 _ _ _ _ hw10
def wb_X7_measureSequence_50 (post : (Nat → Int32) → (Nat → Nat → Int32) → Prop)  : Nat → Int32 → Int32 → (Nat → Int32) → (Nat → Nat → Int32) → Prop
  | 0 => fun _ _ _ _ => False
  | n + 1 => fun v1 v3 σ α => vp_in v1 16 ∧ ((α 6 v1.toNatClampNeg) ≤ v3 → (∃ n, wb_X7_measureSequence_137 post n v1 (0 : Int32) σ α)) ∧ (¬ (α 6 v1.toNatClampNeg) ≤ v3 → (wp_X7_partOf v1 v3 σ α (fun r19 σ20 α21 => vp_in v1 16 ∧ wp_X7_isOptional v1 v3 σ20 α21 (fun r23 σ24 α25 => (r23 = 0 → (vp_in r19 16 ∧ wb_X7_measureSequence_95 post (wb_X7_measureSequence_50 post n) v1 v3 r19 (α25 9 r19.toNatClampNeg) (α21 9 v1.toNatClampNeg) v1 σ24 α25)) ∧ (¬ r23 = 0 → (wb_X7_measureSequence_95 post (wb_X7_measureSequence_50 post n) v1 v3 r19 (0 : Int32) (α21 9 v1.toNatClampNeg) v1 σ24 α25))))))
set_option maxHeartbeats 4000000 in
set_option maxRecDepth 100000 in
theorem tb_X7_measureSequence_50 {p : Program} {l : Launch} {e : Env} {s : State} {m : MethodId} {args : Array Value} {below : List Frame} {meth : Method} {c : Code} {G : gG} {A : Nat → Prop} {μ0 : Mm} {mm : Nat} {rf : Nat → Nat} {post : (Nat → Int32) → (Nat → Nat → Int32) → Prop} (X : Cx p l s m args meth c cX7_measureSequence 5 none RX7 G A) (hMO : MOk mm rf) : ∀ (n : Nat) (v1 : Int32) (v3 : Int32) (σ : Nat → Int32) (α : Nat → Nat → Int32), wb_X7_measureSequence_50 post n v1 v3 σ α → J p l e (rmL (2) 0 0) s m args below meth c 5 G A (MQ below (QG G A (pV (pMv μ0 mm rf post))) args s 0 0 A) 0 0 50 [(0, .ref mm), (1, .int v1), (3, .int v3)] [] (mset μ0 mm rf σ α) := by
  intro n
  induction n with
  | zero => intro v1 v3 σ α hw; exact hw.elim
  | succ n ih =>
    intro v1 v3 σ α hw
    rw [wb_X7_measureSequence_50] at hw
    refine j_iload_n X (pc' := 51) (kk := 3) (i := 3) 2 rfl rfl dX7_measureSequence_50 rfl ?_
    refine j_aload_n X (pc' := 52) (kk := 0) (i := 0) 0 rfl rfl dX7_measureSequence_51 rfl ?_
    refine j_getf X (pc' := 55) mset_o 6 rfl rfl fw_TX7 (by decide) wt_3_171 dX7_measureSequence_52 rfl ?_
    refine j_iload_n X (pc' := 56) (kk := 1) (i := 1) 1 rfl rfl dX7_measureSequence_55 rfl ?_
    have h17 := hw.1
    have hw1 := hw.2
    refine j_iald X (pc' := 57) (mset_a hMO 6 (by decide)) h17 dX7_measureSequence_56 rfl ?_
    refine j_icmp_ge X (pc' := 60) (tgt := 135) dX7_measureSequence_57 rfl (by decide) (fun c18 => ?_) (fun c18 => ?_)
    · have hw2 := hw1.1 c18
      refine j_iconst X (pc' := 136) (v := 0) (by decide) dX7_measureSequence_135 rfl ?_
      refine j_istore_n X (pc' := 137) (kk := 3) (i := 3) (loc' := [(3, .int ((0 : Int32))), (0, .ref mm), (1, .int v1)]) dX7_measureSequence_136 rfl rfl (by decide) rfl ?_
      obtain ⟨n0, hw3⟩ := hw2
      refine j_loc [1, 2, 0] rfl ?_
      exact tb_X7_measureSequence_137 X hMO n0 _ _ _ _ hw3
    · have hw4 := hw1.2 c18
      refine j_aload_n X (pc' := 61) (kk := 0) (i := 0) 0 rfl rfl dX7_measureSequence_60 rfl ?_
      refine j_iload_n X (pc' := 62) (kk := 1) (i := 1) 1 rfl rfl dX7_measureSequence_61 rfl ?_
      refine j_iload_n X (pc' := 63) (kk := 3) (i := 3) 2 rfl rfl dX7_measureSequence_62 rfl ?_
      refine j_callVi (As := [.int v1, .int v3]) (rest := []) X (pc' := 66) (cells' := 0) (slots' := 0) (c_X7_partOf l G A hMO μ0 v1 v3 σ α _ hw4) (gk_X7_partOf wt_4_51) hd_X7_partOf (rmL_fit (k1 := 0) (k := 2) (by omega) (by decide)) mset_o rfl rfl rfl (Nat.le_of_ble_eq_true rfl) dX7_measureSequence_63 rfl ⟨Nat.le_of_ble_eq_true rfl, Nat.le_of_ble_eq_true rfl⟩ rfl rfl (fun r19 μ31 hw5 => ?_)
      obtain ⟨σ20, α21, rfl, hw6⟩ := hw5
      refine j_istore X (pc' := 68) (i := 4) (loc' := [(4, .int r19), (0, .ref mm), (1, .int v1), (3, .int v3)]) dX7_measureSequence_66 rfl (by decide) rfl ?_
      refine j_aload_n X (pc' := 69) (kk := 0) (i := 0) 1 rfl rfl dX7_measureSequence_68 rfl ?_
      refine j_getf X (pc' := 72) mset_o 9 rfl rfl fw_TX7 (by decide) wt_3_174 dX7_measureSequence_69 rfl ?_
      refine j_iload_n X (pc' := 73) (kk := 1) (i := 1) 2 rfl rfl dX7_measureSequence_72 rfl ?_
      refine j_dup2 X (pc' := 74) rfl rfl dX7_measureSequence_73 rfl ?_
      have h22 := hw6.1
      have hw7 := hw6.2
      refine j_iald X (pc' := 75) (mset_a hMO 9 (by decide)) h22 dX7_measureSequence_74 rfl ?_
      refine j_aload_n X (pc' := 76) (kk := 0) (i := 0) 1 rfl rfl dX7_measureSequence_75 rfl ?_
      refine j_iload_n X (pc' := 77) (kk := 1) (i := 1) 2 rfl rfl dX7_measureSequence_76 rfl ?_
      refine j_iload_n X (pc' := 78) (kk := 3) (i := 3) 3 rfl rfl dX7_measureSequence_77 rfl ?_
      refine j_callVi (As := [.int v1, .int v3]) (rest := [.int (α21 9 v1.toNatClampNeg), .int v1, .ref (rf 9)]) X (pc' := 81) (cells' := 0) (slots' := 0) (c_X7_isOptional l G A hMO μ0 v1 v3 σ20 α21 _ hw7) (gk_X7_isOptional wt_4_47) hd_X7_isOptional (rmL_fit (k1 := 0) (k := 2) (by omega) (by decide)) mset_o rfl rfl rfl (Nat.le_of_ble_eq_true rfl) dX7_measureSequence_78 rfl ⟨Nat.le_of_ble_eq_true rfl, Nat.le_of_ble_eq_true rfl⟩ rfl rfl (fun r23 μ29 hw8 => ?_)
      obtain ⟨σ24, α25, rfl, hw9⟩ := hw8
      refine j_if_eq X (pc' := 84) (tgt := 88) dX7_measureSequence_81 rfl (by decide) (fun c26 => ?_) (fun c26 => ?_)
      · have hw10 := hw9.1 c26
        refine j_aload_n X (pc' := 89) (kk := 0) (i := 0) 1 rfl rfl dX7_measureSequence_88 rfl ?_
        refine j_getf X (pc' := 92) mset_o 9 rfl rfl fw_TX7 (by decide) wt_3_174 dX7_measureSequence_89 rfl ?_
        refine j_iload X (pc' := 94) (i := 4) 0 rfl dX7_measureSequence_92 rfl ?_
        have h27 := hw10.1
        have hw11 := hw10.2
        refine j_iald X (pc' := 95) (mset_a hMO 9 (by decide)) h27 dX7_measureSequence_94 rfl ?_
        refine j_loc [1, 2, 3, 0] rfl ?_
        exact tb_X7_measureSequence_95 X hMO ih _ _ _ _ _ _ _ _ hw11
      · have hw12 := hw9.2 c26
        refine j_iconst X (pc' := 85) (v := 0) (by decide) dX7_measureSequence_84 rfl ?_
        refine j_goto X (tgt := 95) dX7_measureSequence_85 (by decide) ?_
        refine j_loc [1, 2, 3, 0] rfl ?_
        exact tb_X7_measureSequence_95 X hMO ih _ _ _ _ _ _ _ _ hw12
def wb_X7_measureSequence_37 (post : (Nat → Int32) → (Nat → Nat → Int32) → Prop)  (v1 : Int32) (v2 : Int32) (s0 : Int32) (s1 : Int32) (s2 : Int32) (σ : Nat → Int32) (α : Nat → Nat → Int32) : Prop := vp_in s2 16 ∧ ∀ α12, α12 = upA α 10 (upd (α 10) s2.toNatClampNeg (s1 + s0)) → vp_in v1 16 ∧ ∀ α15, α15 = upA α12 11 (upd (α12 11) v1.toNatClampNeg ((1 : Int32) + v2)) → ∃ n, wb_X7_measureSequence_50 post n v1 (0 : Int32) σ α15
set_option maxHeartbeats 4000000 in
set_option maxRecDepth 100000 in
theorem tb_X7_measureSequence_37 {p : Program} {l : Launch} {e : Env} {s : State} {m : MethodId} {args : Array Value} {below : List Frame} {meth : Method} {c : Code} {G : gG} {A : Nat → Prop} {μ0 : Mm} {mm : Nat} {rf : Nat → Nat} {post : (Nat → Int32) → (Nat → Nat → Int32) → Prop} (X : Cx p l s m args meth c cX7_measureSequence 5 none RX7 G A) (hMO : MOk mm rf) : ∀ (v1 : Int32) (v2 : Int32) (s0 : Int32) (s1 : Int32) (s2 : Int32) (σ : Nat → Int32) (α : Nat → Nat → Int32), wb_X7_measureSequence_37 post v1 v2 s0 s1 s2 σ α → J p l e (rmL (2) 0 0) s m args below meth c 5 G A (MQ below (QG G A (pV (pMv μ0 mm rf post))) args s 0 0 A) 0 0 37 [(0, .ref mm), (1, .int v1), (2, .int v2)] [.int s0, .int s1, .int s2, .ref (rf 10)] (mset μ0 mm rf σ α) := by
  intro v1 v2 s0 s1 s2 σ α hw
  unfold wb_X7_measureSequence_37 at hw
  refine j_iadd X (pc' := 38) dX7_measureSequence_37 rfl ?_
  have h11 := hw.1
  have hw1 := hw.2
  refine jm_iast X (pc' := 39) hMO 10 (by decide) h11 dX7_measureSequence_38 rfl (fun α12 e13 => ?_)
  have hw2 := hw1 α12 e13
  refine j_aload_n X (pc' := 40) (kk := 0) (i := 0) 0 rfl rfl dX7_measureSequence_39 rfl ?_
  refine j_getf X (pc' := 43) mset_o 11 rfl rfl fw_TX7 (by decide) wt_3_176 dX7_measureSequence_40 rfl ?_
  refine j_iload_n X (pc' := 44) (kk := 1) (i := 1) 1 rfl rfl dX7_measureSequence_43 rfl ?_
  refine j_iconst X (pc' := 45) (v := 1) (by decide) dX7_measureSequence_44 rfl ?_
  refine j_iload_n X (pc' := 46) (kk := 2) (i := 2) 2 rfl rfl dX7_measureSequence_45 rfl ?_
  refine j_iadd X (pc' := 47) dX7_measureSequence_46 rfl ?_
  have h14 := hw2.1
  have hw3 := hw2.2
  refine jm_iast X (pc' := 48) hMO 11 (by decide) h14 dX7_measureSequence_47 rfl (fun α15 e16 => ?_)
  have hw4 := hw3 α15 e16
  refine j_iconst X (pc' := 49) (v := 0) (by decide) dX7_measureSequence_48 rfl ?_
  refine j_istore_n X (pc' := 50) (kk := 3) (i := 3) (loc' := [(3, .int ((0 : Int32))), (0, .ref mm), (1, .int v1), (2, .int v2)]) dX7_measureSequence_49 rfl rfl (by decide) rfl ?_
  obtain ⟨n0, hw5⟩ := hw4
  refine j_loc [1, 2, 0] rfl ?_
  exact tb_X7_measureSequence_50 X hMO n0 _ _ _ _ hw5
def wp_X7_measureSequence (x1 : Int32) (σ : Nat → Int32) (α : Nat → Nat → Int32) (post : (Nat → Int32) → (Nat → Nat → Int32) → Prop) : Prop := wp_X7_optionals x1 σ α (fun r1 σ2 α3 => vp_in x1 16 ∧ ∀ α5, α5 = upA α3 9 (upd (α3 9) x1.toNatClampNeg ((1 : Int32) + r1)) → vp_in x1 16 ∧ ((α5 8 x1.toNatClampNeg) ≤ 0 → (wb_X7_measureSequence_37 post x1 r1 (0 : Int32) ((1 : Int32) + r1) x1 σ2 α5)) ∧ (¬ (α5 8 x1.toNatClampNeg) ≤ 0 → (wb_X7_measureSequence_37 post x1 r1 (2 : Int32) ((1 : Int32) + r1) x1 σ2 α5)))
set_option maxHeartbeats 4000000 in
set_option maxRecDepth 100000 in
theorem c_X7_measureSequence (l : Launch) (G : gG) (A : Nat → Prop) {mm : Nat} {rf : Nat → Nat} (hMO : MOk mm rf) (μ0 : Mm) (x1 : Int32) (σ : Nat → Int32) (α : Nat → Nat → Int32) (post : (Nat → Int32) → (Nat → Nat → Int32) → Prop) (h : wp_X7_measureSequence x1 σ α post) : Met l yX7_measureSequence (.code yX7_measureSequence cX7_measureSequence 5 none :: wsA) (rmL (2) 0 0) (PcG G A (mset μ0 mm rf σ α) [.ref mm, .int x1]) (QG G A (pV (pMv μ0 mm rf post))) 0 0 A := by
  refine met_J (loc := [(0, .ref mm), (1, .int x1)]) (by decide +kernel) (Nat.le_of_ble_eq_true rfl) rfl ?_
  intro p e s m args below meth c X hin
  have X : Cx p l s m args meth c cX7_measureSequence 5 none RX7 G A := X
  have hw := h
  unfold wp_X7_measureSequence at hw
  refine j_aload_n X (pc' := 1) (kk := 0) (i := 0) 0 rfl rfl dX7_measureSequence_0 rfl ?_
  refine j_iload_n X (pc' := 2) (kk := 1) (i := 1) 1 rfl rfl dX7_measureSequence_1 rfl ?_
  refine j_callVi (As := [.int x1]) (rest := []) X (pc' := 5) (cells' := 0) (slots' := 0) (c_X7_optionals l G A hMO μ0 x1 σ α _ hw) (gk_X7_optionals wt_4_43) hd_X7_optionals (rmL_fit (k1 := 1) (k := 2) (by omega) (by decide)) mset_o rfl rfl rfl (Nat.le_of_ble_eq_true rfl) dX7_measureSequence_2 rfl ⟨Nat.le_of_ble_eq_true rfl, Nat.le_of_ble_eq_true rfl⟩ rfl rfl (fun r1 μ10 hw1 => ?_)
  obtain ⟨σ2, α3, rfl, hw2⟩ := hw1
  refine j_istore_n X (pc' := 6) (kk := 2) (i := 2) (loc' := [(2, .int r1), (0, .ref mm), (1, .int x1)]) dX7_measureSequence_5 rfl rfl (by decide) rfl ?_
  refine j_aload_n X (pc' := 7) (kk := 0) (i := 0) 1 rfl rfl dX7_measureSequence_6 rfl ?_
  refine j_getf X (pc' := 10) mset_o 9 rfl rfl fw_TX7 (by decide) wt_3_174 dX7_measureSequence_7 rfl ?_
  refine j_iload_n X (pc' := 11) (kk := 1) (i := 1) 2 rfl rfl dX7_measureSequence_10 rfl ?_
  refine j_iconst X (pc' := 12) (v := 1) (by decide) dX7_measureSequence_11 rfl ?_
  refine j_iload_n X (pc' := 13) (kk := 2) (i := 2) 0 rfl rfl dX7_measureSequence_12 rfl ?_
  refine j_iadd X (pc' := 14) dX7_measureSequence_13 rfl ?_
  have h4 := hw2.1
  have hw3 := hw2.2
  refine jm_iast X (pc' := 15) hMO 9 (by decide) h4 dX7_measureSequence_14 rfl (fun α5 e6 => ?_)
  have hw4 := hw3 α5 e6
  refine j_aload_n X (pc' := 16) (kk := 0) (i := 0) 1 rfl rfl dX7_measureSequence_15 rfl ?_
  refine j_getf X (pc' := 19) mset_o 10 rfl rfl fw_TX7 (by decide) wt_3_175 dX7_measureSequence_16 rfl ?_
  refine j_iload_n X (pc' := 20) (kk := 1) (i := 1) 2 rfl rfl dX7_measureSequence_19 rfl ?_
  refine j_iconst X (pc' := 21) (v := 1) (by decide) dX7_measureSequence_20 rfl ?_
  refine j_iload_n X (pc' := 22) (kk := 2) (i := 2) 0 rfl rfl dX7_measureSequence_21 rfl ?_
  refine j_iadd X (pc' := 23) dX7_measureSequence_22 rfl ?_
  refine j_aload_n X (pc' := 24) (kk := 0) (i := 0) 1 rfl rfl dX7_measureSequence_23 rfl ?_
  refine j_getf X (pc' := 27) mset_o 8 rfl rfl fw_TX7 (by decide) wt_3_173 dX7_measureSequence_24 rfl ?_
  refine j_iload_n X (pc' := 28) (kk := 1) (i := 1) 2 rfl rfl dX7_measureSequence_27 rfl ?_
  have h7 := hw4.1
  have hw5 := hw4.2
  refine j_iald X (pc' := 29) (mset_a hMO 8 (by decide)) h7 dX7_measureSequence_28 rfl ?_
  refine j_if_le X (pc' := 32) (tgt := 36) dX7_measureSequence_29 rfl (by decide) (fun c8 => ?_) (fun c8 => ?_)
  · have hw6 := hw5.1 c8
    refine j_iconst X (pc' := 37) (v := 0) (by decide) dX7_measureSequence_36 rfl ?_
    refine j_loc [1, 2, 0] rfl ?_
    exact tb_X7_measureSequence_37 X hMO _ _ _ _ _ _ _ hw6
  · have hw7 := hw5.2 c8
    refine j_iconst X (pc' := 33) (v := 2) (by decide) dX7_measureSequence_32 rfl ?_
    refine j_goto X (tgt := 37) dX7_measureSequence_33 (by decide) ?_
    refine j_loc [1, 2, 0] rfl ?_
    exact tb_X7_measureSequence_37 X hMO _ _ _ _ _ _ _ hw7
/-! BitNotationModel.measureChoice(I)V -/
theorem dX7_measureChoice_0 : decode cX7_measureChoice 0 = .ok (.sipush 241, 3) := by decide +kernel
theorem dX7_measureChoice_3 : decode cX7_measureChoice 3 = .ok (.istore_n 2, 1) := by decide +kernel
theorem dX7_measureChoice_4 : decode cX7_measureChoice 4 = .ok (.iconst 0, 1) := by decide +kernel
theorem dX7_measureChoice_5 : decode cX7_measureChoice 5 = .ok (.istore_n 3, 1) := by decide +kernel
theorem dX7_measureChoice_6 : decode cX7_measureChoice 6 = .ok (.iconst 0, 1) := by decide +kernel
theorem dX7_measureChoice_7 : decode cX7_measureChoice 7 = .ok (.istore 4, 2) := by decide +kernel
theorem dX7_measureChoice_9 : decode cX7_measureChoice 9 = .ok (.iconst 0, 1) := by decide +kernel
theorem dX7_measureChoice_10 : decode cX7_measureChoice 10 = .ok (.istore 5, 2) := by decide +kernel
theorem dX7_measureChoice_12 : decode cX7_measureChoice 12 = .ok (.iload 5, 2) := by decide +kernel
theorem dX7_measureChoice_14 : decode cX7_measureChoice 14 = .ok (.aload_n 0, 1) := by decide +kernel
theorem dX7_measureChoice_15 : decode cX7_measureChoice 15 = .ok (.getfield 22, 3) := by decide +kernel
theorem dX7_measureChoice_18 : decode cX7_measureChoice 18 = .ok (.iload_n 1, 1) := by decide +kernel
theorem dX7_measureChoice_19 : decode cX7_measureChoice 19 = .ok (.iaload, 1) := by decide +kernel
theorem dX7_measureChoice_20 : decode cX7_measureChoice 20 = .ok (.if_icmp .ge 90, 3) := by decide +kernel
theorem dX7_measureChoice_23 : decode cX7_measureChoice 23 = .ok (.aload_n 0, 1) := by decide +kernel
theorem dX7_measureChoice_24 : decode cX7_measureChoice 24 = .ok (.iload_n 1, 1) := by decide +kernel
theorem dX7_measureChoice_25 : decode cX7_measureChoice 25 = .ok (.iload 5, 2) := by decide +kernel
theorem dX7_measureChoice_27 : decode cX7_measureChoice 27 = .ok (.invokevirtual 95, 3) := by decide +kernel
theorem dX7_measureChoice_30 : decode cX7_measureChoice 30 = .ok (.istore 6, 2) := by decide +kernel
theorem dX7_measureChoice_32 : decode cX7_measureChoice 32 = .ok (.aload_n 0, 1) := by decide +kernel
theorem dX7_measureChoice_33 : decode cX7_measureChoice 33 = .ok (.getfield 31, 3) := by decide +kernel
theorem dX7_measureChoice_36 : decode cX7_measureChoice 36 = .ok (.iload 6, 2) := by decide +kernel
theorem dX7_measureChoice_38 : decode cX7_measureChoice 38 = .ok (.iaload, 1) := by decide +kernel
theorem dX7_measureChoice_39 : decode cX7_measureChoice 39 = .ok (.iload_n 2, 1) := by decide +kernel
theorem dX7_measureChoice_40 : decode cX7_measureChoice 40 = .ok (.if_icmp .ge 13, 3) := by decide +kernel
theorem dX7_measureChoice_43 : decode cX7_measureChoice 43 = .ok (.aload_n 0, 1) := by decide +kernel
theorem dX7_measureChoice_44 : decode cX7_measureChoice 44 = .ok (.getfield 31, 3) := by decide +kernel
theorem dX7_measureChoice_47 : decode cX7_measureChoice 47 = .ok (.iload 6, 2) := by decide +kernel
theorem dX7_measureChoice_49 : decode cX7_measureChoice 49 = .ok (.iaload, 1) := by decide +kernel
theorem dX7_measureChoice_50 : decode cX7_measureChoice 50 = .ok (.goto 4, 3) := by decide +kernel
theorem dX7_measureChoice_53 : decode cX7_measureChoice 53 = .ok (.iload_n 2, 1) := by decide +kernel
theorem dX7_measureChoice_54 : decode cX7_measureChoice 54 = .ok (.istore_n 2, 1) := by decide +kernel
theorem dX7_measureChoice_55 : decode cX7_measureChoice 55 = .ok (.aload_n 0, 1) := by decide +kernel
theorem dX7_measureChoice_56 : decode cX7_measureChoice 56 = .ok (.getfield 34, 3) := by decide +kernel
theorem dX7_measureChoice_59 : decode cX7_measureChoice 59 = .ok (.iload 6, 2) := by decide +kernel
theorem dX7_measureChoice_61 : decode cX7_measureChoice 61 = .ok (.iaload, 1) := by decide +kernel
theorem dX7_measureChoice_62 : decode cX7_measureChoice 62 = .ok (.iload_n 3, 1) := by decide +kernel
theorem dX7_measureChoice_63 : decode cX7_measureChoice 63 = .ok (.if_icmp .le 13, 3) := by decide +kernel
theorem dX7_measureChoice_66 : decode cX7_measureChoice 66 = .ok (.aload_n 0, 1) := by decide +kernel
theorem dX7_measureChoice_67 : decode cX7_measureChoice 67 = .ok (.getfield 34, 3) := by decide +kernel
theorem dX7_measureChoice_70 : decode cX7_measureChoice 70 = .ok (.iload 6, 2) := by decide +kernel
theorem dX7_measureChoice_72 : decode cX7_measureChoice 72 = .ok (.iaload, 1) := by decide +kernel
theorem dX7_measureChoice_73 : decode cX7_measureChoice 73 = .ok (.goto 4, 3) := by decide +kernel
theorem dX7_measureChoice_76 : decode cX7_measureChoice 76 = .ok (.iload_n 3, 1) := by decide +kernel
theorem dX7_measureChoice_77 : decode cX7_measureChoice 77 = .ok (.istore_n 3, 1) := by decide +kernel
theorem dX7_measureChoice_78 : decode cX7_measureChoice 78 = .ok (.aload_n 0, 1) := by decide +kernel
theorem dX7_measureChoice_79 : decode cX7_measureChoice 79 = .ok (.getfield 37, 3) := by decide +kernel
theorem dX7_measureChoice_82 : decode cX7_measureChoice 82 = .ok (.iload 6, 2) := by decide +kernel
theorem dX7_measureChoice_84 : decode cX7_measureChoice 84 = .ok (.iaload, 1) := by decide +kernel
theorem dX7_measureChoice_85 : decode cX7_measureChoice 85 = .ok (.iload 4, 2) := by decide +kernel
theorem dX7_measureChoice_87 : decode cX7_measureChoice 87 = .ok (.if_icmp .le 13, 3) := by decide +kernel
theorem dX7_measureChoice_90 : decode cX7_measureChoice 90 = .ok (.aload_n 0, 1) := by decide +kernel
theorem dX7_measureChoice_91 : decode cX7_measureChoice 91 = .ok (.getfield 37, 3) := by decide +kernel
theorem dX7_measureChoice_94 : decode cX7_measureChoice 94 = .ok (.iload 6, 2) := by decide +kernel
theorem dX7_measureChoice_96 : decode cX7_measureChoice 96 = .ok (.iaload, 1) := by decide +kernel
theorem dX7_measureChoice_97 : decode cX7_measureChoice 97 = .ok (.goto 5, 3) := by decide +kernel
theorem dX7_measureChoice_100 : decode cX7_measureChoice 100 = .ok (.iload 4, 2) := by decide +kernel
theorem dX7_measureChoice_102 : decode cX7_measureChoice 102 = .ok (.istore 4, 2) := by decide +kernel
theorem dX7_measureChoice_104 : decode cX7_measureChoice 104 = .ok (.iinc 5 1, 3) := by decide +kernel
theorem dX7_measureChoice_107 : decode cX7_measureChoice 107 = .ok (.goto (-95), 3) := by decide +kernel
theorem dX7_measureChoice_110 : decode cX7_measureChoice 110 = .ok (.aload_n 0, 1) := by decide +kernel
theorem dX7_measureChoice_111 : decode cX7_measureChoice 111 = .ok (.getfield 31, 3) := by decide +kernel
theorem dX7_measureChoice_114 : decode cX7_measureChoice 114 = .ok (.iload_n 1, 1) := by decide +kernel
theorem dX7_measureChoice_115 : decode cX7_measureChoice 115 = .ok (.aload_n 0, 1) := by decide +kernel
theorem dX7_measureChoice_116 : decode cX7_measureChoice 116 = .ok (.iload_n 1, 1) := by decide +kernel
theorem dX7_measureChoice_117 : decode cX7_measureChoice 117 = .ok (.invokevirtual 99, 3) := by decide +kernel
theorem dX7_measureChoice_120 : decode cX7_measureChoice 120 = .ok (.iload_n 2, 1) := by decide +kernel
theorem dX7_measureChoice_121 : decode cX7_measureChoice 121 = .ok (.iadd, 1) := by decide +kernel
theorem dX7_measureChoice_122 : decode cX7_measureChoice 122 = .ok (.iastore, 1) := by decide +kernel
theorem dX7_measureChoice_123 : decode cX7_measureChoice 123 = .ok (.aload_n 0, 1) := by decide +kernel
theorem dX7_measureChoice_124 : decode cX7_measureChoice 124 = .ok (.getfield 34, 3) := by decide +kernel
theorem dX7_measureChoice_127 : decode cX7_measureChoice 127 = .ok (.iload_n 1, 1) := by decide +kernel
theorem dX7_measureChoice_128 : decode cX7_measureChoice 128 = .ok (.aload_n 0, 1) := by decide +kernel
theorem dX7_measureChoice_129 : decode cX7_measureChoice 129 = .ok (.iload_n 1, 1) := by decide +kernel
theorem dX7_measureChoice_130 : decode cX7_measureChoice 130 = .ok (.invokevirtual 99, 3) := by decide +kernel
theorem dX7_measureChoice_133 : decode cX7_measureChoice 133 = .ok (.iload_n 3, 1) := by decide +kernel
theorem dX7_measureChoice_134 : decode cX7_measureChoice 134 = .ok (.iadd, 1) := by decide +kernel
theorem dX7_measureChoice_135 : decode cX7_measureChoice 135 = .ok (.iastore, 1) := by decide +kernel
theorem dX7_measureChoice_136 : decode cX7_measureChoice 136 = .ok (.aload_n 0, 1) := by decide +kernel
theorem dX7_measureChoice_137 : decode cX7_measureChoice 137 = .ok (.getfield 37, 3) := by decide +kernel
theorem dX7_measureChoice_140 : decode cX7_measureChoice 140 = .ok (.iload_n 1, 1) := by decide +kernel
theorem dX7_measureChoice_141 : decode cX7_measureChoice 141 = .ok (.iconst 1, 1) := by decide +kernel
theorem dX7_measureChoice_142 : decode cX7_measureChoice 142 = .ok (.iload 4, 2) := by decide +kernel
theorem dX7_measureChoice_144 : decode cX7_measureChoice 144 = .ok (.iadd, 1) := by decide +kernel
theorem dX7_measureChoice_145 : decode cX7_measureChoice 145 = .ok (.iastore, 1) := by decide +kernel
theorem dX7_measureChoice_146 : decode cX7_measureChoice 146 = .ok (.return_, 1) := by decide +kernel
def wb_X7_measureChoice_102 (post : (Nat → Int32) → (Nat → Nat → Int32) → Prop) (K12 : Int32 → Int32 → Int32 → Int32 → Int32 → (Nat → Int32) → (Nat → Nat → Int32) → Prop) (v1 : Int32) (v2 : Int32) (v3 : Int32) (v5 : Int32) (s0 : Int32) (σ : Nat → Int32) (α : Nat → Nat → Int32) : Prop := K12 v1 v2 v3 s0 (v5 + 1) σ α
set_option maxHeartbeats 4000000 in
set_option maxRecDepth 100000 in
theorem tb_X7_measureChoice_102 {p : Program} {l : Launch} {e : Env} {s : State} {m : MethodId} {args : Array Value} {below : List Frame} {meth : Method} {c : Code} {G : gG} {A : Nat → Prop} {μ0 : Mm} {mm : Nat} {rf : Nat → Nat} {post : (Nat → Int32) → (Nat → Nat → Int32) → Prop} {K12 : Int32 → Int32 → Int32 → Int32 → Int32 → (Nat → Int32) → (Nat → Nat → Int32) → Prop} (X : Cx p l s m args meth c cX7_measureChoice 7 none RX7 G A) (hMO : MOk mm rf) (hK12 : ∀ (v1 : Int32) (v2 : Int32) (v3 : Int32) (v4 : Int32) (v5 : Int32) (σ : Nat → Int32) (α : Nat → Nat → Int32), K12 v1 v2 v3 v4 v5 σ α → J p l e (rmL (2) 0 0) s m args below meth c 7 G A (MQ below (QG G A (pV (pMv μ0 mm rf post))) args s 0 0 A) 0 0 12 [(0, .ref mm), (1, .int v1), (2, .int v2), (3, .int v3), (4, .int v4), (5, .int v5)] [] (mset μ0 mm rf σ α)) : ∀ (v1 : Int32) (v2 : Int32) (v3 : Int32) (v5 : Int32) (s0 : Int32) (σ : Nat → Int32) (α : Nat → Nat → Int32), wb_X7_measureChoice_102 post K12 v1 v2 v3 v5 s0 σ α → J p l e (rmL (2) 0 0) s m args below meth c 7 G A (MQ below (QG G A (pV (pMv μ0 mm rf post))) args s 0 0 A) 0 0 102 [(0, .ref mm), (1, .int v1), (2, .int v2), (3, .int v3), (5, .int v5)] [.int s0] (mset μ0 mm rf σ α) := by
  intro v1 v2 v3 v5 s0 σ α hw
  unfold wb_X7_measureChoice_102 at hw
  refine j_istore X (pc' := 104) (i := 4) (loc' := [(4, .int s0), (0, .ref mm), (1, .int v1), (2, .int v2), (3, .int v3), (5, .int v5)]) dX7_measureChoice_102 rfl (by decide) rfl ?_
  refine j_iinc X (pc' := 107) (i := 5) (v := v5 + 1) (loc' := [(5, .int (v5 + 1)), (4, .int s0), (0, .ref mm), (1, .int v1), (2, .int v2), (3, .int v3)]) 5 rfl rfl dX7_measureChoice_104 rfl (by decide) rfl ?_
  refine j_goto X (tgt := 12) dX7_measureChoice_107 (by decide) ?_
  refine j_loc [2, 3, 4, 5, 1, 0] rfl ?_
  exact hK12 _ _ _ _ _ _ _ hw
def wb_X7_measureChoice_77 (post : (Nat → Int32) → (Nat → Nat → Int32) → Prop) (K12 : Int32 → Int32 → Int32 → Int32 → Int32 → (Nat → Int32) → (Nat → Nat → Int32) → Prop) (v1 : Int32) (v2 : Int32) (v4 : Int32) (v5 : Int32) (v6 : Int32) (s0 : Int32) (σ : Nat → Int32) (α : Nat → Nat → Int32) : Prop := vp_in v6 16 ∧ ((α 11 v6.toNatClampNeg) ≤ v4 → (wb_X7_measureChoice_102 post K12 v1 v2 s0 v5 v4 σ α)) ∧ (¬ (α 11 v6.toNatClampNeg) ≤ v4 → (vp_in v6 16 ∧ wb_X7_measureChoice_102 post K12 v1 v2 s0 v5 (α 11 v6.toNatClampNeg) σ α))
set_option maxHeartbeats 4000000 in
set_option maxRecDepth 100000 in
theorem tb_X7_measureChoice_77 {p : Program} {l : Launch} {e : Env} {s : State} {m : MethodId} {args : Array Value} {below : List Frame} {meth : Method} {c : Code} {G : gG} {A : Nat → Prop} {μ0 : Mm} {mm : Nat} {rf : Nat → Nat} {post : (Nat → Int32) → (Nat → Nat → Int32) → Prop} {K12 : Int32 → Int32 → Int32 → Int32 → Int32 → (Nat → Int32) → (Nat → Nat → Int32) → Prop} (X : Cx p l s m args meth c cX7_measureChoice 7 none RX7 G A) (hMO : MOk mm rf) (hK12 : ∀ (v1 : Int32) (v2 : Int32) (v3 : Int32) (v4 : Int32) (v5 : Int32) (σ : Nat → Int32) (α : Nat → Nat → Int32), K12 v1 v2 v3 v4 v5 σ α → J p l e (rmL (2) 0 0) s m args below meth c 7 G A (MQ below (QG G A (pV (pMv μ0 mm rf post))) args s 0 0 A) 0 0 12 [(0, .ref mm), (1, .int v1), (2, .int v2), (3, .int v3), (4, .int v4), (5, .int v5)] [] (mset μ0 mm rf σ α)) : ∀ (v1 : Int32) (v2 : Int32) (v4 : Int32) (v5 : Int32) (v6 : Int32) (s0 : Int32) (σ : Nat → Int32) (α : Nat → Nat → Int32), wb_X7_measureChoice_77 post K12 v1 v2 v4 v5 v6 s0 σ α → J p l e (rmL (2) 0 0) s m args below meth c 7 G A (MQ below (QG G A (pV (pMv μ0 mm rf post))) args s 0 0 A) 0 0 77 [(0, .ref mm), (1, .int v1), (2, .int v2), (4, .int v4), (5, .int v5), (6, .int v6)] [.int s0] (mset μ0 mm rf σ α) := by
  intro v1 v2 v4 v5 v6 s0 σ α hw
  unfold wb_X7_measureChoice_77 at hw
  refine j_istore_n X (pc' := 78) (kk := 3) (i := 3) (loc' := [(3, .int s0), (0, .ref mm), (1, .int v1), (2, .int v2), (4, .int v4), (5, .int v5), (6, .int v6)]) dX7_measureChoice_77 rfl rfl (by decide) rfl ?_
  refine j_aload_n X (pc' := 79) (kk := 0) (i := 0) 1 rfl rfl dX7_measureChoice_78 rfl ?_
  refine j_getf X (pc' := 82) mset_o 11 rfl rfl fw_TX7 (by decide) wt_3_176 dX7_measureChoice_79 rfl ?_
  refine j_iload X (pc' := 84) (i := 6) 6 rfl dX7_measureChoice_82 rfl ?_
  have h33 := hw.1
  have hw1 := hw.2
  refine j_iald X (pc' := 85) (mset_a hMO 11 (by decide)) h33 dX7_measureChoice_84 rfl ?_
  refine j_iload X (pc' := 87) (i := 4) 4 rfl dX7_measureChoice_85 rfl ?_
  refine j_icmp_le X (pc' := 90) (tgt := 100) dX7_measureChoice_87 rfl (by decide) (fun c34 => ?_) (fun c34 => ?_)
  · have hw2 := hw1.1 c34
    refine j_iload X (pc' := 102) (i := 4) 4 rfl dX7_measureChoice_100 rfl ?_
    refine j_loc [1, 2, 3, 0, 5] rfl ?_
    exact tb_X7_measureChoice_102 X hMO hK12 _ _ _ _ _ _ _ hw2
  · have hw3 := hw1.2 c34
    refine j_aload_n X (pc' := 91) (kk := 0) (i := 0) 1 rfl rfl dX7_measureChoice_90 rfl ?_
    refine j_getf X (pc' := 94) mset_o 11 rfl rfl fw_TX7 (by decide) wt_3_176 dX7_measureChoice_91 rfl ?_
    refine j_iload X (pc' := 96) (i := 6) 6 rfl dX7_measureChoice_94 rfl ?_
    have h35 := hw3.1
    have hw4 := hw3.2
    refine j_iald X (pc' := 97) (mset_a hMO 11 (by decide)) h35 dX7_measureChoice_96 rfl ?_
    refine j_goto X (tgt := 102) dX7_measureChoice_97 (by decide) ?_
    refine j_loc [1, 2, 3, 0, 5] rfl ?_
    exact tb_X7_measureChoice_102 X hMO hK12 _ _ _ _ _ _ _ hw4
def wb_X7_measureChoice_54 (post : (Nat → Int32) → (Nat → Nat → Int32) → Prop) (K12 : Int32 → Int32 → Int32 → Int32 → Int32 → (Nat → Int32) → (Nat → Nat → Int32) → Prop) (v1 : Int32) (v3 : Int32) (v4 : Int32) (v5 : Int32) (v6 : Int32) (s0 : Int32) (σ : Nat → Int32) (α : Nat → Nat → Int32) : Prop := vp_in v6 16 ∧ ((α 10 v6.toNatClampNeg) ≤ v3 → (wb_X7_measureChoice_77 post K12 v1 s0 v4 v5 v6 v3 σ α)) ∧ (¬ (α 10 v6.toNatClampNeg) ≤ v3 → (vp_in v6 16 ∧ wb_X7_measureChoice_77 post K12 v1 s0 v4 v5 v6 (α 10 v6.toNatClampNeg) σ α))
set_option maxHeartbeats 4000000 in
set_option maxRecDepth 100000 in
theorem tb_X7_measureChoice_54 {p : Program} {l : Launch} {e : Env} {s : State} {m : MethodId} {args : Array Value} {below : List Frame} {meth : Method} {c : Code} {G : gG} {A : Nat → Prop} {μ0 : Mm} {mm : Nat} {rf : Nat → Nat} {post : (Nat → Int32) → (Nat → Nat → Int32) → Prop} {K12 : Int32 → Int32 → Int32 → Int32 → Int32 → (Nat → Int32) → (Nat → Nat → Int32) → Prop} (X : Cx p l s m args meth c cX7_measureChoice 7 none RX7 G A) (hMO : MOk mm rf) (hK12 : ∀ (v1 : Int32) (v2 : Int32) (v3 : Int32) (v4 : Int32) (v5 : Int32) (σ : Nat → Int32) (α : Nat → Nat → Int32), K12 v1 v2 v3 v4 v5 σ α → J p l e (rmL (2) 0 0) s m args below meth c 7 G A (MQ below (QG G A (pV (pMv μ0 mm rf post))) args s 0 0 A) 0 0 12 [(0, .ref mm), (1, .int v1), (2, .int v2), (3, .int v3), (4, .int v4), (5, .int v5)] [] (mset μ0 mm rf σ α)) : ∀ (v1 : Int32) (v3 : Int32) (v4 : Int32) (v5 : Int32) (v6 : Int32) (s0 : Int32) (σ : Nat → Int32) (α : Nat → Nat → Int32), wb_X7_measureChoice_54 post K12 v1 v3 v4 v5 v6 s0 σ α → J p l e (rmL (2) 0 0) s m args below meth c 7 G A (MQ below (QG G A (pV (pMv μ0 mm rf post))) args s 0 0 A) 0 0 54 [(0, .ref mm), (1, .int v1), (3, .int v3), (4, .int v4), (5, .int v5), (6, .int v6)] [.int s0] (mset μ0 mm rf σ α) := by
  intro v1 v3 v4 v5 v6 s0 σ α hw
  unfold wb_X7_measureChoice_54 at hw
  refine j_istore_n X (pc' := 55) (kk := 2) (i := 2) (loc' := [(2, .int s0), (0, .ref mm), (1, .int v1), (3, .int v3), (4, .int v4), (5, .int v5), (6, .int v6)]) dX7_measureChoice_54 rfl rfl (by decide) rfl ?_
  refine j_aload_n X (pc' := 56) (kk := 0) (i := 0) 1 rfl rfl dX7_measureChoice_55 rfl ?_
  refine j_getf X (pc' := 59) mset_o 10 rfl rfl fw_TX7 (by decide) wt_3_175 dX7_measureChoice_56 rfl ?_
  refine j_iload X (pc' := 61) (i := 6) 6 rfl dX7_measureChoice_59 rfl ?_
  have h30 := hw.1
  have hw1 := hw.2
  refine j_iald X (pc' := 62) (mset_a hMO 10 (by decide)) h30 dX7_measureChoice_61 rfl ?_
  refine j_iload_n X (pc' := 63) (kk := 3) (i := 3) 3 rfl rfl dX7_measureChoice_62 rfl ?_
  refine j_icmp_le X (pc' := 66) (tgt := 76) dX7_measureChoice_63 rfl (by decide) (fun c31 => ?_) (fun c31 => ?_)
  · have hw2 := hw1.1 c31
    refine j_iload_n X (pc' := 77) (kk := 3) (i := 3) 3 rfl rfl dX7_measureChoice_76 rfl ?_
    refine j_loc [1, 2, 0, 4, 5, 6] rfl ?_
    exact tb_X7_measureChoice_77 X hMO hK12 _ _ _ _ _ _ _ _ hw2
  · have hw3 := hw1.2 c31
    refine j_aload_n X (pc' := 67) (kk := 0) (i := 0) 1 rfl rfl dX7_measureChoice_66 rfl ?_
    refine j_getf X (pc' := 70) mset_o 10 rfl rfl fw_TX7 (by decide) wt_3_175 dX7_measureChoice_67 rfl ?_
    refine j_iload X (pc' := 72) (i := 6) 6 rfl dX7_measureChoice_70 rfl ?_
    have h32 := hw3.1
    have hw4 := hw3.2
    refine j_iald X (pc' := 73) (mset_a hMO 10 (by decide)) h32 dX7_measureChoice_72 rfl ?_
    refine j_goto X (tgt := 77) dX7_measureChoice_73 (by decide) ?_
    refine j_loc [1, 2, 0, 4, 5, 6] rfl ?_
    exact tb_X7_measureChoice_77 X hMO hK12 _ _ _ _ _ _ _ _ hw4
def wb_X7_measureChoice_12 (post : (Nat → Int32) → (Nat → Nat → Int32) → Prop)  : Nat → Int32 → Int32 → Int32 → Int32 → Int32 → (Nat → Int32) → (Nat → Nat → Int32) → Prop
  | 0 => fun _ _ _ _ _ _ _ => False
  | n + 1 => fun v1 v2 v3 v4 v5 σ α => vp_in v1 16 ∧ ((α 6 v1.toNatClampNeg) ≤ v5 → (wp_X7_widthOf v1 σ α (fun r3 σ4 α5 => vp_in v1 16 ∧ ∀ α7, α7 = upA α5 9 (upd (α5 9) v1.toNatClampNeg (r3 + v2)) → wp_X7_widthOf v1 σ4 α7 (fun r9 σ10 α11 => vp_in v1 16 ∧ ∀ α13, α13 = upA α11 10 (upd (α11 10) v1.toNatClampNeg (r9 + v3)) → vp_in v1 16 ∧ ∀ α16, α16 = upA α13 11 (upd (α13 11) v1.toNatClampNeg ((1 : Int32) + v4)) → post σ10 α16)))) ∧ (¬ (α 6 v1.toNatClampNeg) ≤ v5 → (wp_X7_partOf v1 v5 σ α (fun r22 σ23 α24 => vp_in r22 16 ∧ (v2 ≤ (α24 9 r22.toNatClampNeg) → (wb_X7_measureChoice_54 post (wb_X7_measureChoice_12 post n) v1 v3 v4 v5 r22 v2 σ23 α24)) ∧ (¬ v2 ≤ (α24 9 r22.toNatClampNeg) → (vp_in r22 16 ∧ wb_X7_measureChoice_54 post (wb_X7_measureChoice_12 post n) v1 v3 v4 v5 r22 (α24 9 r22.toNatClampNeg) σ23 α24)))))
set_option maxHeartbeats 4000000 in
set_option maxRecDepth 100000 in
theorem tb_X7_measureChoice_12 {p : Program} {l : Launch} {e : Env} {s : State} {m : MethodId} {args : Array Value} {below : List Frame} {meth : Method} {c : Code} {G : gG} {A : Nat → Prop} {μ0 : Mm} {mm : Nat} {rf : Nat → Nat} {post : (Nat → Int32) → (Nat → Nat → Int32) → Prop} (X : Cx p l s m args meth c cX7_measureChoice 7 none RX7 G A) (hMO : MOk mm rf) : ∀ (n : Nat) (v1 : Int32) (v2 : Int32) (v3 : Int32) (v4 : Int32) (v5 : Int32) (σ : Nat → Int32) (α : Nat → Nat → Int32), wb_X7_measureChoice_12 post n v1 v2 v3 v4 v5 σ α → J p l e (rmL (2) 0 0) s m args below meth c 7 G A (MQ below (QG G A (pV (pMv μ0 mm rf post))) args s 0 0 A) 0 0 12 [(0, .ref mm), (1, .int v1), (2, .int v2), (3, .int v3), (4, .int v4), (5, .int v5)] [] (mset μ0 mm rf σ α) := by
  intro n
  induction n with
  | zero => intro v1 v2 v3 v4 v5 σ α hw; exact hw.elim
  | succ n ih =>
    intro v1 v2 v3 v4 v5 σ α hw
    rw [wb_X7_measureChoice_12] at hw
    refine j_iload X (pc' := 14) (i := 5) 5 rfl dX7_measureChoice_12 rfl ?_
    refine j_aload_n X (pc' := 15) (kk := 0) (i := 0) 0 rfl rfl dX7_measureChoice_14 rfl ?_
    refine j_getf X (pc' := 18) mset_o 6 rfl rfl fw_TX7 (by decide) wt_3_171 dX7_measureChoice_15 rfl ?_
    refine j_iload_n X (pc' := 19) (kk := 1) (i := 1) 1 rfl rfl dX7_measureChoice_18 rfl ?_
    have h1 := hw.1
    have hw1 := hw.2
    refine j_iald X (pc' := 20) (mset_a hMO 6 (by decide)) h1 dX7_measureChoice_19 rfl ?_
    refine j_icmp_ge X (pc' := 23) (tgt := 110) dX7_measureChoice_20 rfl (by decide) (fun c2 => ?_) (fun c2 => ?_)
    · have hw2 := hw1.1 c2
      refine j_aload_n X (pc' := 111) (kk := 0) (i := 0) 0 rfl rfl dX7_measureChoice_110 rfl ?_
      refine j_getf X (pc' := 114) mset_o 9 rfl rfl fw_TX7 (by decide) wt_3_174 dX7_measureChoice_111 rfl ?_
      refine j_iload_n X (pc' := 115) (kk := 1) (i := 1) 1 rfl rfl dX7_measureChoice_114 rfl ?_
      refine j_aload_n X (pc' := 116) (kk := 0) (i := 0) 0 rfl rfl dX7_measureChoice_115 rfl ?_
      refine j_iload_n X (pc' := 117) (kk := 1) (i := 1) 1 rfl rfl dX7_measureChoice_116 rfl ?_
      refine j_callVi (As := [.int v1]) (rest := [.int v1, .ref (rf 9)]) X (pc' := 120) (cells' := 0) (slots' := 0) (c_X7_widthOf l G A hMO μ0 v1 σ α _ hw2) (gk_X7_widthOf wt_4_59) hd_X7_widthOf (rmL_fit (k1 := 1) (k := 2) (by omega) (by decide)) mset_o rfl rfl rfl (Nat.le_of_ble_eq_true rfl) dX7_measureChoice_117 rfl ⟨Nat.le_of_ble_eq_true rfl, Nat.le_of_ble_eq_true rfl⟩ rfl rfl (fun r3 μ21 hw3 => ?_)
      obtain ⟨σ4, α5, rfl, hw4⟩ := hw3
      refine j_iload_n X (pc' := 121) (kk := 2) (i := 2) 2 rfl rfl dX7_measureChoice_120 rfl ?_
      refine j_iadd X (pc' := 122) dX7_measureChoice_121 rfl ?_
      have h6 := hw4.1
      have hw5 := hw4.2
      refine jm_iast X (pc' := 123) hMO 9 (by decide) h6 dX7_measureChoice_122 rfl (fun α7 e8 => ?_)
      have hw6 := hw5 α7 e8
      refine j_aload_n X (pc' := 124) (kk := 0) (i := 0) 0 rfl rfl dX7_measureChoice_123 rfl ?_
      refine j_getf X (pc' := 127) mset_o 10 rfl rfl fw_TX7 (by decide) wt_3_175 dX7_measureChoice_124 rfl ?_
      refine j_iload_n X (pc' := 128) (kk := 1) (i := 1) 1 rfl rfl dX7_measureChoice_127 rfl ?_
      refine j_aload_n X (pc' := 129) (kk := 0) (i := 0) 0 rfl rfl dX7_measureChoice_128 rfl ?_
      refine j_iload_n X (pc' := 130) (kk := 1) (i := 1) 1 rfl rfl dX7_measureChoice_129 rfl ?_
      refine j_callVi (As := [.int v1]) (rest := [.int v1, .ref (rf 10)]) X (pc' := 133) (cells' := 0) (slots' := 0) (c_X7_widthOf l G A hMO μ0 v1 σ4 α7 _ hw6) (gk_X7_widthOf wt_4_59) hd_X7_widthOf (rmL_fit (k1 := 1) (k := 2) (by omega) (by decide)) mset_o rfl rfl rfl (Nat.le_of_ble_eq_true rfl) dX7_measureChoice_130 rfl ⟨Nat.le_of_ble_eq_true rfl, Nat.le_of_ble_eq_true rfl⟩ rfl rfl (fun r9 μ19 hw7 => ?_)
      obtain ⟨σ10, α11, rfl, hw8⟩ := hw7
      refine j_iload_n X (pc' := 134) (kk := 3) (i := 3) 3 rfl rfl dX7_measureChoice_133 rfl ?_
      refine j_iadd X (pc' := 135) dX7_measureChoice_134 rfl ?_
      have h12 := hw8.1
      have hw9 := hw8.2
      refine jm_iast X (pc' := 136) hMO 10 (by decide) h12 dX7_measureChoice_135 rfl (fun α13 e14 => ?_)
      have hw10 := hw9 α13 e14
      refine j_aload_n X (pc' := 137) (kk := 0) (i := 0) 0 rfl rfl dX7_measureChoice_136 rfl ?_
      refine j_getf X (pc' := 140) mset_o 11 rfl rfl fw_TX7 (by decide) wt_3_176 dX7_measureChoice_137 rfl ?_
      refine j_iload_n X (pc' := 141) (kk := 1) (i := 1) 1 rfl rfl dX7_measureChoice_140 rfl ?_
      refine j_iconst X (pc' := 142) (v := 1) (by decide) dX7_measureChoice_141 rfl ?_
      refine j_iload X (pc' := 144) (i := 4) 4 rfl dX7_measureChoice_142 rfl ?_
      refine j_iadd X (pc' := 145) dX7_measureChoice_144 rfl ?_
      have h15 := hw10.1
      have hw11 := hw10.2
      refine jm_iast X (pc' := 146) hMO 11 (by decide) h15 dX7_measureChoice_145 rfl (fun α16 e17 => ?_)
      have hw12 := hw11 α16 e17
      exact j_vret X ⟨rfl, _, _, rfl, hw12⟩ (Nat.le_of_ble_eq_true rfl) (Nat.le_of_ble_eq_true rfl) dX7_measureChoice_146
    · have hw13 := hw1.2 c2
      refine j_aload_n X (pc' := 24) (kk := 0) (i := 0) 0 rfl rfl dX7_measureChoice_23 rfl ?_
      refine j_iload_n X (pc' := 25) (kk := 1) (i := 1) 1 rfl rfl dX7_measureChoice_24 rfl ?_
      refine j_iload X (pc' := 27) (i := 5) 5 rfl dX7_measureChoice_25 rfl ?_
      refine j_callVi (As := [.int v1, .int v5]) (rest := []) X (pc' := 30) (cells' := 0) (slots' := 0) (c_X7_partOf l G A hMO μ0 v1 v5 σ α _ hw13) (gk_X7_partOf wt_4_51) hd_X7_partOf (rmL_fit (k1 := 0) (k := 2) (by omega) (by decide)) mset_o rfl rfl rfl (Nat.le_of_ble_eq_true rfl) dX7_measureChoice_27 rfl ⟨Nat.le_of_ble_eq_true rfl, Nat.le_of_ble_eq_true rfl⟩ rfl rfl (fun r22 μ29 hw14 => ?_)
      obtain ⟨σ23, α24, rfl, hw15⟩ := hw14
      refine j_istore X (pc' := 32) (i := 6) (loc' := [(6, .int r22), (0, .ref mm), (1, .int v1), (2, .int v2), (3, .int v3), (4, .int v4), (5, .int v5)]) dX7_measureChoice_30 rfl (by decide) rfl ?_
      refine j_aload_n X (pc' := 33) (kk := 0) (i := 0) 1 rfl rfl dX7_measureChoice_32 rfl ?_
      refine j_getf X (pc' := 36) mset_o 9 rfl rfl fw_TX7 (by decide) wt_3_174 dX7_measureChoice_33 rfl ?_
      refine j_iload X (pc' := 38) (i := 6) 0 rfl dX7_measureChoice_36 rfl ?_
      have h25 := hw15.1
      have hw16 := hw15.2
      refine j_iald X (pc' := 39) (mset_a hMO 9 (by decide)) h25 dX7_measureChoice_38 rfl ?_
      refine j_iload_n X (pc' := 40) (kk := 2) (i := 2) 3 rfl rfl dX7_measureChoice_39 rfl ?_
      refine j_icmp_ge X (pc' := 43) (tgt := 53) dX7_measureChoice_40 rfl (by decide) (fun c26 => ?_) (fun c26 => ?_)
      · have hw17 := hw16.1 c26
        refine j_iload_n X (pc' := 54) (kk := 2) (i := 2) 3 rfl rfl dX7_measureChoice_53 rfl ?_
        refine j_loc [1, 2, 4, 5, 6, 0] rfl ?_
        exact tb_X7_measureChoice_54 X hMO ih _ _ _ _ _ _ _ _ hw17
      · have hw18 := hw16.2 c26
        refine j_aload_n X (pc' := 44) (kk := 0) (i := 0) 1 rfl rfl dX7_measureChoice_43 rfl ?_
        refine j_getf X (pc' := 47) mset_o 9 rfl rfl fw_TX7 (by decide) wt_3_174 dX7_measureChoice_44 rfl ?_
        refine j_iload X (pc' := 49) (i := 6) 0 rfl dX7_measureChoice_47 rfl ?_
        have h27 := hw18.1
        have hw19 := hw18.2
        refine j_iald X (pc' := 50) (mset_a hMO 9 (by decide)) h27 dX7_measureChoice_49 rfl ?_
        refine j_goto X (tgt := 54) dX7_measureChoice_50 (by decide) ?_
        refine j_loc [1, 2, 4, 5, 6, 0] rfl ?_
        exact tb_X7_measureChoice_54 X hMO ih _ _ _ _ _ _ _ _ hw19
def wp_X7_measureChoice (x1 : Int32) (σ : Nat → Int32) (α : Nat → Nat → Int32) (post : (Nat → Int32) → (Nat → Nat → Int32) → Prop) : Prop := ∃ n, wb_X7_measureChoice_12 post n x1 (241 : Int32) (0 : Int32) (0 : Int32) (0 : Int32) σ α
set_option maxHeartbeats 4000000 in
set_option maxRecDepth 100000 in
theorem c_X7_measureChoice (l : Launch) (G : gG) (A : Nat → Prop) {mm : Nat} {rf : Nat → Nat} (hMO : MOk mm rf) (μ0 : Mm) (x1 : Int32) (σ : Nat → Int32) (α : Nat → Nat → Int32) (post : (Nat → Int32) → (Nat → Nat → Int32) → Prop) (h : wp_X7_measureChoice x1 σ α post) : Met l yX7_measureChoice (.code yX7_measureChoice cX7_measureChoice 7 none :: wsA) (rmL (2) 0 0) (PcG G A (mset μ0 mm rf σ α) [.ref mm, .int x1]) (QG G A (pV (pMv μ0 mm rf post))) 0 0 A := by
  refine met_J (loc := [(0, .ref mm), (1, .int x1)]) (by decide +kernel) (Nat.le_of_ble_eq_true rfl) rfl ?_
  intro p e s m args below meth c X hin
  have X : Cx p l s m args meth c cX7_measureChoice 7 none RX7 G A := X
  have hw := h
  unfold wp_X7_measureChoice at hw
  refine j_sipush X (pc' := 3) (v := 241) (by decide) dX7_measureChoice_0 rfl ?_
  refine j_istore_n X (pc' := 4) (kk := 2) (i := 2) (loc' := [(2, .int ((241 : Int32))), (0, .ref mm), (1, .int x1)]) dX7_measureChoice_3 rfl rfl (by decide) rfl ?_
  refine j_iconst X (pc' := 5) (v := 0) (by decide) dX7_measureChoice_4 rfl ?_
  refine j_istore_n X (pc' := 6) (kk := 3) (i := 3) (loc' := [(3, .int ((0 : Int32))), (2, .int ((241 : Int32))), (0, .ref mm), (1, .int x1)]) dX7_measureChoice_5 rfl rfl (by decide) rfl ?_
  refine j_iconst X (pc' := 7) (v := 0) (by decide) dX7_measureChoice_6 rfl ?_
  refine j_istore X (pc' := 9) (i := 4) (loc' := [(4, .int ((0 : Int32))), (3, .int ((0 : Int32))), (2, .int ((241 : Int32))), (0, .ref mm), (1, .int x1)]) dX7_measureChoice_7 rfl (by decide) rfl ?_
  refine j_iconst X (pc' := 10) (v := 0) (by decide) dX7_measureChoice_9 rfl ?_
  refine j_istore X (pc' := 12) (i := 5) (loc' := [(5, .int ((0 : Int32))), (4, .int ((0 : Int32))), (3, .int ((0 : Int32))), (2, .int ((241 : Int32))), (0, .ref mm), (1, .int x1)]) dX7_measureChoice_10 rfl (by decide) rfl ?_
  obtain ⟨n0, hw1⟩ := hw
  refine j_loc [4, 5, 3, 2, 1, 0] rfl ?_
  exact tb_X7_measureChoice_12 X hMO n0 _ _ _ _ _ _ _ hw1
/-! BitNotationModel.measure(I)Z -/
theorem dX7_measure_0 : decode cX7_measure 0 = .ok (.aload_n 0, 1) := by decide +kernel
theorem dX7_measure_1 : decode cX7_measure 1 = .ok (.getfield 7, 3) := by decide +kernel
theorem dX7_measure_4 : decode cX7_measure 4 = .ok (.iload_n 1, 1) := by decide +kernel
theorem dX7_measure_5 : decode cX7_measure 5 = .ok (.iaload, 1) := by decide +kernel
theorem dX7_measure_6 : decode cX7_measure 6 = .ok (.iconst 2, 1) := by decide +kernel
theorem dX7_measure_7 : decode cX7_measure 7 = .ok (.if_icmp .ne 11, 3) := by decide +kernel
theorem dX7_measure_10 : decode cX7_measure 10 = .ok (.aload_n 0, 1) := by decide +kernel
theorem dX7_measure_11 : decode cX7_measure 11 = .ok (.iload_n 1, 1) := by decide +kernel
theorem dX7_measure_12 : decode cX7_measure 12 = .ok (.invokevirtual 102, 3) := by decide +kernel
theorem dX7_measure_15 : decode cX7_measure 15 = .ok (.goto 139, 3) := by decide +kernel
theorem dX7_measure_18 : decode cX7_measure 18 = .ok (.aload_n 0, 1) := by decide +kernel
theorem dX7_measure_19 : decode cX7_measure 19 = .ok (.getfield 7, 3) := by decide +kernel
theorem dX7_measure_22 : decode cX7_measure 22 = .ok (.iload_n 1, 1) := by decide +kernel
theorem dX7_measure_23 : decode cX7_measure 23 = .ok (.iaload, 1) := by decide +kernel
theorem dX7_measure_24 : decode cX7_measure 24 = .ok (.iconst 3, 1) := by decide +kernel
theorem dX7_measure_25 : decode cX7_measure 25 = .ok (.if_icmp .ne 11, 3) := by decide +kernel
theorem dX7_measure_28 : decode cX7_measure 28 = .ok (.aload_n 0, 1) := by decide +kernel
theorem dX7_measure_29 : decode cX7_measure 29 = .ok (.iload_n 1, 1) := by decide +kernel
theorem dX7_measure_30 : decode cX7_measure 30 = .ok (.invokevirtual 106, 3) := by decide +kernel
theorem dX7_measure_33 : decode cX7_measure 33 = .ok (.goto 121, 3) := by decide +kernel
theorem dX7_measure_36 : decode cX7_measure 36 = .ok (.aload_n 0, 1) := by decide +kernel
theorem dX7_measure_37 : decode cX7_measure 37 = .ok (.getfield 7, 3) := by decide +kernel
theorem dX7_measure_40 : decode cX7_measure 40 = .ok (.iload_n 1, 1) := by decide +kernel
theorem dX7_measure_41 : decode cX7_measure 41 = .ok (.iaload, 1) := by decide +kernel
theorem dX7_measure_42 : decode cX7_measure 42 = .ok (.iconst 1, 1) := by decide +kernel
theorem dX7_measure_43 : decode cX7_measure 43 = .ok (.if_icmp .ne 7, 3) := by decide +kernel
theorem dX7_measure_46 : decode cX7_measure 46 = .ok (.iconst 1, 1) := by decide +kernel
theorem dX7_measure_47 : decode cX7_measure 47 = .ok (.goto 4, 3) := by decide +kernel
theorem dX7_measure_50 : decode cX7_measure 50 = .ok (.iconst 0, 1) := by decide +kernel
theorem dX7_measure_51 : decode cX7_measure 51 = .ok (.istore_n 2, 1) := by decide +kernel
theorem dX7_measure_52 : decode cX7_measure 52 = .ok (.aload_n 0, 1) := by decide +kernel
theorem dX7_measure_53 : decode cX7_measure 53 = .ok (.iload_n 1, 1) := by decide +kernel
theorem dX7_measure_54 : decode cX7_measure 54 = .ok (.iconst 0, 1) := by decide +kernel
theorem dX7_measure_55 : decode cX7_measure 55 = .ok (.invokevirtual 95, 3) := by decide +kernel
theorem dX7_measure_58 : decode cX7_measure 58 = .ok (.istore_n 3, 1) := by decide +kernel
theorem dX7_measure_59 : decode cX7_measure 59 = .ok (.aload_n 0, 1) := by decide +kernel
theorem dX7_measure_60 : decode cX7_measure 60 = .ok (.getfield 31, 3) := by decide +kernel
theorem dX7_measure_63 : decode cX7_measure 63 = .ok (.iload_n 1, 1) := by decide +kernel
theorem dX7_measure_64 : decode cX7_measure 64 = .ok (.aload_n 0, 1) := by decide +kernel
theorem dX7_measure_65 : decode cX7_measure 65 = .ok (.iload_n 1, 1) := by decide +kernel
theorem dX7_measure_66 : decode cX7_measure 66 = .ok (.invokevirtual 99, 3) := by decide +kernel
theorem dX7_measure_69 : decode cX7_measure 69 = .ok (.iload_n 2, 1) := by decide +kernel
theorem dX7_measure_70 : decode cX7_measure 70 = .ok (.ifCond .eq 19, 3) := by decide +kernel
theorem dX7_measure_73 : decode cX7_measure 73 = .ok (.aload_n 0, 1) := by decide +kernel
theorem dX7_measure_74 : decode cX7_measure 74 = .ok (.getfield 13, 3) := by decide +kernel
theorem dX7_measure_77 : decode cX7_measure 77 = .ok (.iload_n 1, 1) := by decide +kernel
theorem dX7_measure_78 : decode cX7_measure 78 = .ok (.iaload, 1) := by decide +kernel
theorem dX7_measure_79 : decode cX7_measure 79 = .ok (.aload_n 0, 1) := by decide +kernel
theorem dX7_measure_80 : decode cX7_measure 80 = .ok (.getfield 31, 3) := by decide +kernel
theorem dX7_measure_83 : decode cX7_measure 83 = .ok (.iload_n 3, 1) := by decide +kernel
theorem dX7_measure_84 : decode cX7_measure 84 = .ok (.iaload, 1) := by decide +kernel
theorem dX7_measure_85 : decode cX7_measure 85 = .ok (.imul, 1) := by decide +kernel
theorem dX7_measure_86 : decode cX7_measure 86 = .ok (.goto 4, 3) := by decide +kernel
theorem dX7_measure_89 : decode cX7_measure 89 = .ok (.iconst 0, 1) := by decide +kernel
theorem dX7_measure_90 : decode cX7_measure 90 = .ok (.iadd, 1) := by decide +kernel
theorem dX7_measure_91 : decode cX7_measure 91 = .ok (.iastore, 1) := by decide +kernel
theorem dX7_measure_92 : decode cX7_measure 92 = .ok (.aload_n 0, 1) := by decide +kernel
theorem dX7_measure_93 : decode cX7_measure 93 = .ok (.getfield 34, 3) := by decide +kernel
theorem dX7_measure_96 : decode cX7_measure 96 = .ok (.iload_n 1, 1) := by decide +kernel
theorem dX7_measure_97 : decode cX7_measure 97 = .ok (.aload_n 0, 1) := by decide +kernel
theorem dX7_measure_98 : decode cX7_measure 98 = .ok (.iload_n 1, 1) := by decide +kernel
theorem dX7_measure_99 : decode cX7_measure 99 = .ok (.invokevirtual 99, 3) := by decide +kernel
theorem dX7_measure_102 : decode cX7_measure 102 = .ok (.iload_n 2, 1) := by decide +kernel
theorem dX7_measure_103 : decode cX7_measure 103 = .ok (.ifCond .eq 19, 3) := by decide +kernel
theorem dX7_measure_106 : decode cX7_measure 106 = .ok (.aload_n 0, 1) := by decide +kernel
theorem dX7_measure_107 : decode cX7_measure 107 = .ok (.getfield 16, 3) := by decide +kernel
theorem dX7_measure_110 : decode cX7_measure 110 = .ok (.iload_n 1, 1) := by decide +kernel
theorem dX7_measure_111 : decode cX7_measure 111 = .ok (.iaload, 1) := by decide +kernel
theorem dX7_measure_112 : decode cX7_measure 112 = .ok (.aload_n 0, 1) := by decide +kernel
theorem dX7_measure_113 : decode cX7_measure 113 = .ok (.getfield 34, 3) := by decide +kernel
theorem dX7_measure_116 : decode cX7_measure 116 = .ok (.iload_n 3, 1) := by decide +kernel
theorem dX7_measure_117 : decode cX7_measure 117 = .ok (.iaload, 1) := by decide +kernel
theorem dX7_measure_118 : decode cX7_measure 118 = .ok (.imul, 1) := by decide +kernel
theorem dX7_measure_119 : decode cX7_measure 119 = .ok (.goto 4, 3) := by decide +kernel
theorem dX7_measure_122 : decode cX7_measure 122 = .ok (.iconst 0, 1) := by decide +kernel
theorem dX7_measure_123 : decode cX7_measure 123 = .ok (.iadd, 1) := by decide +kernel
theorem dX7_measure_124 : decode cX7_measure 124 = .ok (.iastore, 1) := by decide +kernel
theorem dX7_measure_125 : decode cX7_measure 125 = .ok (.aload_n 0, 1) := by decide +kernel
theorem dX7_measure_126 : decode cX7_measure 126 = .ok (.getfield 37, 3) := by decide +kernel
theorem dX7_measure_129 : decode cX7_measure 129 = .ok (.iload_n 1, 1) := by decide +kernel
theorem dX7_measure_130 : decode cX7_measure 130 = .ok (.iconst 1, 1) := by decide +kernel
theorem dX7_measure_131 : decode cX7_measure 131 = .ok (.iload_n 2, 1) := by decide +kernel
theorem dX7_measure_132 : decode cX7_measure 132 = .ok (.ifCond .eq 19, 3) := by decide +kernel
theorem dX7_measure_135 : decode cX7_measure 135 = .ok (.aload_n 0, 1) := by decide +kernel
theorem dX7_measure_136 : decode cX7_measure 136 = .ok (.getfield 16, 3) := by decide +kernel
theorem dX7_measure_139 : decode cX7_measure 139 = .ok (.iload_n 1, 1) := by decide +kernel
theorem dX7_measure_140 : decode cX7_measure 140 = .ok (.iaload, 1) := by decide +kernel
theorem dX7_measure_141 : decode cX7_measure 141 = .ok (.aload_n 0, 1) := by decide +kernel
theorem dX7_measure_142 : decode cX7_measure 142 = .ok (.getfield 37, 3) := by decide +kernel
theorem dX7_measure_145 : decode cX7_measure 145 = .ok (.iload_n 3, 1) := by decide +kernel
theorem dX7_measure_146 : decode cX7_measure 146 = .ok (.iaload, 1) := by decide +kernel
theorem dX7_measure_147 : decode cX7_measure 147 = .ok (.imul, 1) := by decide +kernel
theorem dX7_measure_148 : decode cX7_measure 148 = .ok (.goto 4, 3) := by decide +kernel
theorem dX7_measure_151 : decode cX7_measure 151 = .ok (.iconst 0, 1) := by decide +kernel
theorem dX7_measure_152 : decode cX7_measure 152 = .ok (.iadd, 1) := by decide +kernel
theorem dX7_measure_153 : decode cX7_measure 153 = .ok (.iastore, 1) := by decide +kernel
theorem dX7_measure_154 : decode cX7_measure 154 = .ok (.aload_n 0, 1) := by decide +kernel
theorem dX7_measure_155 : decode cX7_measure 155 = .ok (.getfield 34, 3) := by decide +kernel
theorem dX7_measure_158 : decode cX7_measure 158 = .ok (.iload_n 1, 1) := by decide +kernel
theorem dX7_measure_159 : decode cX7_measure 159 = .ok (.iaload, 1) := by decide +kernel
theorem dX7_measure_160 : decode cX7_measure 160 = .ok (.sipush 240, 3) := by decide +kernel
theorem dX7_measure_163 : decode cX7_measure 163 = .ok (.if_icmp .gt 19, 3) := by decide +kernel
theorem dX7_measure_166 : decode cX7_measure 166 = .ok (.aload_n 0, 1) := by decide +kernel
theorem dX7_measure_167 : decode cX7_measure 167 = .ok (.getfield 37, 3) := by decide +kernel
theorem dX7_measure_170 : decode cX7_measure 170 = .ok (.iload_n 1, 1) := by decide +kernel
theorem dX7_measure_171 : decode cX7_measure 171 = .ok (.iaload, 1) := by decide +kernel
theorem dX7_measure_172 : decode cX7_measure 172 = .ok (.sipush 240, 3) := by decide +kernel
theorem dX7_measure_175 : decode cX7_measure 175 = .ok (.if_icmp .gt 7, 3) := by decide +kernel
theorem dX7_measure_178 : decode cX7_measure 178 = .ok (.iconst 1, 1) := by decide +kernel
theorem dX7_measure_179 : decode cX7_measure 179 = .ok (.goto 4, 3) := by decide +kernel
theorem dX7_measure_182 : decode cX7_measure 182 = .ok (.iconst 0, 1) := by decide +kernel
theorem dX7_measure_183 : decode cX7_measure 183 = .ok (.ireturn, 1) := by decide +kernel
def wb_X7_measure_154 (post : Int32 → (Nat → Int32) → (Nat → Nat → Int32) → Prop)  (v1 : Int32) (σ : Nat → Int32) (α : Nat → Nat → Int32) : Prop := vp_in v1 16 ∧ ((240 : Int32) < (α 10 v1.toNatClampNeg) → (post (0 : Int32) σ α)) ∧ (¬ (240 : Int32) < (α 10 v1.toNatClampNeg) → (vp_in v1 16 ∧ ((240 : Int32) < (α 11 v1.toNatClampNeg) → (post (0 : Int32) σ α)) ∧ (¬ (240 : Int32) < (α 11 v1.toNatClampNeg) → (post (1 : Int32) σ α))))
set_option maxHeartbeats 4000000 in
set_option maxRecDepth 100000 in
theorem tb_X7_measure_154 {p : Program} {l : Launch} {e : Env} {s : State} {m : MethodId} {args : Array Value} {below : List Frame} {meth : Method} {c : Code} {G : gG} {A : Nat → Prop} {μ0 : Mm} {mm : Nat} {rf : Nat → Nat} {post : Int32 → (Nat → Int32) → (Nat → Nat → Int32) → Prop} (X : Cx p l s m args meth c cX7_measure 4 (some .boolean) RX7 G A) (hMO : MOk mm rf) : ∀ (v1 : Int32) (σ : Nat → Int32) (α : Nat → Nat → Int32), wb_X7_measure_154 post v1 σ α → J p l e (rmL (3) 0 0) s m args below meth c 4 G A (MQ below (QG G A (pI (pMi μ0 mm rf post))) args s 0 0 A) 0 0 154 [(0, .ref mm), (1, .int v1)] [] (mset μ0 mm rf σ α) := by
  intro v1 σ α hw
  unfold wb_X7_measure_154 at hw
  refine j_aload_n X (pc' := 155) (kk := 0) (i := 0) 0 rfl rfl dX7_measure_154 rfl ?_
  refine j_getf X (pc' := 158) mset_o 10 rfl rfl fw_TX7 (by decide) wt_3_175 dX7_measure_155 rfl ?_
  refine j_iload_n X (pc' := 159) (kk := 1) (i := 1) 1 rfl rfl dX7_measure_158 rfl ?_
  have h30 := hw.1
  have hw1 := hw.2
  refine j_iald X (pc' := 160) (mset_a hMO 10 (by decide)) h30 dX7_measure_159 rfl ?_
  refine j_sipush X (pc' := 163) (v := 240) (by decide) dX7_measure_160 rfl ?_
  refine j_icmp_gt X (pc' := 166) (tgt := 182) dX7_measure_163 rfl (by decide) (fun c31 => ?_) (fun c31 => ?_)
  · have hw2 := hw1.1 c31
    refine j_iconst X (pc' := 183) (v := 0) (by decide) dX7_measure_182 rfl ?_
    exact j_zret X (Or.inl rfl) ⟨_, rfl, _, _, rfl, hw2⟩ (Nat.le_of_ble_eq_true rfl) (Nat.le_of_ble_eq_true rfl) dX7_measure_183
  · have hw3 := hw1.2 c31
    refine j_aload_n X (pc' := 167) (kk := 0) (i := 0) 0 rfl rfl dX7_measure_166 rfl ?_
    refine j_getf X (pc' := 170) mset_o 11 rfl rfl fw_TX7 (by decide) wt_3_176 dX7_measure_167 rfl ?_
    refine j_iload_n X (pc' := 171) (kk := 1) (i := 1) 1 rfl rfl dX7_measure_170 rfl ?_
    have h32 := hw3.1
    have hw4 := hw3.2
    refine j_iald X (pc' := 172) (mset_a hMO 11 (by decide)) h32 dX7_measure_171 rfl ?_
    refine j_sipush X (pc' := 175) (v := 240) (by decide) dX7_measure_172 rfl ?_
    refine j_icmp_gt X (pc' := 178) (tgt := 182) dX7_measure_175 rfl (by decide) (fun c33 => ?_) (fun c33 => ?_)
    · have hw5 := hw4.1 c33
      refine j_iconst X (pc' := 183) (v := 0) (by decide) dX7_measure_182 rfl ?_
      exact j_zret X (Or.inl rfl) ⟨_, rfl, _, _, rfl, hw5⟩ (Nat.le_of_ble_eq_true rfl) (Nat.le_of_ble_eq_true rfl) dX7_measure_183
    · have hw6 := hw4.2 c33
      refine j_iconst X (pc' := 179) (v := 1) (by decide) dX7_measure_178 rfl ?_
      refine j_goto X (tgt := 183) dX7_measure_179 (by decide) ?_
      exact j_zret X (Or.inr rfl) ⟨_, rfl, _, _, rfl, hw6⟩ (Nat.le_of_ble_eq_true rfl) (Nat.le_of_ble_eq_true rfl) dX7_measure_183
def wb_X7_measure_152 (post : Int32 → (Nat → Int32) → (Nat → Nat → Int32) → Prop)  (v1 : Int32) (s0 : Int32) (s1 : Int32) (s2 : Int32) (σ : Nat → Int32) (α : Nat → Nat → Int32) : Prop := vp_in s2 16 ∧ ∀ α52, α52 = upA α 11 (upd (α 11) s2.toNatClampNeg (s1 + s0)) → wb_X7_measure_154 post v1 σ α52
set_option maxHeartbeats 4000000 in
set_option maxRecDepth 100000 in
theorem tb_X7_measure_152 {p : Program} {l : Launch} {e : Env} {s : State} {m : MethodId} {args : Array Value} {below : List Frame} {meth : Method} {c : Code} {G : gG} {A : Nat → Prop} {μ0 : Mm} {mm : Nat} {rf : Nat → Nat} {post : Int32 → (Nat → Int32) → (Nat → Nat → Int32) → Prop} (X : Cx p l s m args meth c cX7_measure 4 (some .boolean) RX7 G A) (hMO : MOk mm rf) : ∀ (v1 : Int32) (s0 : Int32) (s1 : Int32) (s2 : Int32) (σ : Nat → Int32) (α : Nat → Nat → Int32), wb_X7_measure_152 post v1 s0 s1 s2 σ α → J p l e (rmL (3) 0 0) s m args below meth c 4 G A (MQ below (QG G A (pI (pMi μ0 mm rf post))) args s 0 0 A) 0 0 152 [(0, .ref mm), (1, .int v1)] [.int s0, .int s1, .int s2, .ref (rf 11)] (mset μ0 mm rf σ α) := by
  intro v1 s0 s1 s2 σ α hw
  unfold wb_X7_measure_152 at hw
  refine j_iadd X (pc' := 153) dX7_measure_152 rfl ?_
  have h51 := hw.1
  have hw1 := hw.2
  refine jm_iast X (pc' := 154) hMO 11 (by decide) h51 dX7_measure_153 rfl (fun α52 e53 => ?_)
  have hw2 := hw1 α52 e53
  exact tb_X7_measure_154 X hMO _ _ _ hw2
def wb_X7_measure_123 (post : Int32 → (Nat → Int32) → (Nat → Nat → Int32) → Prop)  (v1 : Int32) (v2 : Int32) (v3 : Int32) (s0 : Int32) (s1 : Int32) (s2 : Int32) (σ : Nat → Int32) (α : Nat → Nat → Int32) : Prop := vp_in s2 16 ∧ ∀ α46, α46 = upA α 10 (upd (α 10) s2.toNatClampNeg (s1 + s0)) → (v2 = 0 → (wb_X7_measure_152 post v1 (0 : Int32) (1 : Int32) v1 σ α46)) ∧ (¬ v2 = 0 → (vp_in v1 16 ∧ vp_in v3 16 ∧ wb_X7_measure_152 post v1 ((α46 4 v1.toNatClampNeg) * (α46 11 v3.toNatClampNeg)) (1 : Int32) v1 σ α46))
set_option maxHeartbeats 4000000 in
set_option maxRecDepth 100000 in
theorem tb_X7_measure_123 {p : Program} {l : Launch} {e : Env} {s : State} {m : MethodId} {args : Array Value} {below : List Frame} {meth : Method} {c : Code} {G : gG} {A : Nat → Prop} {μ0 : Mm} {mm : Nat} {rf : Nat → Nat} {post : Int32 → (Nat → Int32) → (Nat → Nat → Int32) → Prop} (X : Cx p l s m args meth c cX7_measure 4 (some .boolean) RX7 G A) (hMO : MOk mm rf) : ∀ (v1 : Int32) (v2 : Int32) (v3 : Int32) (s0 : Int32) (s1 : Int32) (s2 : Int32) (σ : Nat → Int32) (α : Nat → Nat → Int32), wb_X7_measure_123 post v1 v2 v3 s0 s1 s2 σ α → J p l e (rmL (3) 0 0) s m args below meth c 4 G A (MQ below (QG G A (pI (pMi μ0 mm rf post))) args s 0 0 A) 0 0 123 [(0, .ref mm), (1, .int v1), (2, .int v2), (3, .int v3)] [.int s0, .int s1, .int s2, .ref (rf 10)] (mset μ0 mm rf σ α) := by
  intro v1 v2 v3 s0 s1 s2 σ α hw
  unfold wb_X7_measure_123 at hw
  refine j_iadd X (pc' := 124) dX7_measure_123 rfl ?_
  have h45 := hw.1
  have hw1 := hw.2
  refine jm_iast X (pc' := 125) hMO 10 (by decide) h45 dX7_measure_124 rfl (fun α46 e47 => ?_)
  have hw2 := hw1 α46 e47
  refine j_aload_n X (pc' := 126) (kk := 0) (i := 0) 0 rfl rfl dX7_measure_125 rfl ?_
  refine j_getf X (pc' := 129) mset_o 11 rfl rfl fw_TX7 (by decide) wt_3_176 dX7_measure_126 rfl ?_
  refine j_iload_n X (pc' := 130) (kk := 1) (i := 1) 1 rfl rfl dX7_measure_129 rfl ?_
  refine j_iconst X (pc' := 131) (v := 1) (by decide) dX7_measure_130 rfl ?_
  refine j_iload_n X (pc' := 132) (kk := 2) (i := 2) 2 rfl rfl dX7_measure_131 rfl ?_
  refine j_if_eq X (pc' := 135) (tgt := 151) dX7_measure_132 rfl (by decide) (fun c48 => ?_) (fun c48 => ?_)
  · have hw3 := hw2.1 c48
    refine j_iconst X (pc' := 152) (v := 0) (by decide) dX7_measure_151 rfl ?_
    refine j_loc [0, 1] rfl ?_
    exact tb_X7_measure_152 X hMO _ _ _ _ _ _ hw3
  · have hw4 := hw2.2 c48
    refine j_aload_n X (pc' := 136) (kk := 0) (i := 0) 0 rfl rfl dX7_measure_135 rfl ?_
    refine j_getf X (pc' := 139) mset_o 4 rfl rfl fw_TX7 (by decide) wt_3_169 dX7_measure_136 rfl ?_
    refine j_iload_n X (pc' := 140) (kk := 1) (i := 1) 1 rfl rfl dX7_measure_139 rfl ?_
    have h49 := hw4.1
    have hw5 := hw4.2
    refine j_iald X (pc' := 141) (mset_a hMO 4 (by decide)) h49 dX7_measure_140 rfl ?_
    refine j_aload_n X (pc' := 142) (kk := 0) (i := 0) 0 rfl rfl dX7_measure_141 rfl ?_
    refine j_getf X (pc' := 145) mset_o 11 rfl rfl fw_TX7 (by decide) wt_3_176 dX7_measure_142 rfl ?_
    refine j_iload_n X (pc' := 146) (kk := 3) (i := 3) 3 rfl rfl dX7_measure_145 rfl ?_
    have h50 := hw5.1
    have hw6 := hw5.2
    refine j_iald X (pc' := 147) (mset_a hMO 11 (by decide)) h50 dX7_measure_146 rfl ?_
    refine j_imul X (pc' := 148) dX7_measure_147 rfl ?_
    refine j_goto X (tgt := 152) dX7_measure_148 (by decide) ?_
    refine j_loc [0, 1] rfl ?_
    exact tb_X7_measure_152 X hMO _ _ _ _ _ _ hw6
def wb_X7_measure_90 (post : Int32 → (Nat → Int32) → (Nat → Nat → Int32) → Prop)  (v1 : Int32) (v2 : Int32) (v3 : Int32) (s0 : Int32) (s1 : Int32) (s2 : Int32) (σ : Nat → Int32) (α : Nat → Nat → Int32) : Prop := vp_in s2 16 ∧ ∀ α35, α35 = upA α 9 (upd (α 9) s2.toNatClampNeg (s1 + s0)) → wp_X7_widthOf v1 σ α35 (fun r37 σ38 α39 => (v2 = 0 → (wb_X7_measure_123 post v1 v2 v3 (0 : Int32) r37 v1 σ38 α39)) ∧ (¬ v2 = 0 → (vp_in v1 16 ∧ vp_in v3 16 ∧ wb_X7_measure_123 post v1 v2 v3 ((α39 4 v1.toNatClampNeg) * (α39 10 v3.toNatClampNeg)) r37 v1 σ38 α39)))
set_option maxHeartbeats 4000000 in
set_option maxRecDepth 100000 in
theorem tb_X7_measure_90 {p : Program} {l : Launch} {e : Env} {s : State} {m : MethodId} {args : Array Value} {below : List Frame} {meth : Method} {c : Code} {G : gG} {A : Nat → Prop} {μ0 : Mm} {mm : Nat} {rf : Nat → Nat} {post : Int32 → (Nat → Int32) → (Nat → Nat → Int32) → Prop} (X : Cx p l s m args meth c cX7_measure 4 (some .boolean) RX7 G A) (hMO : MOk mm rf) : ∀ (v1 : Int32) (v2 : Int32) (v3 : Int32) (s0 : Int32) (s1 : Int32) (s2 : Int32) (σ : Nat → Int32) (α : Nat → Nat → Int32), wb_X7_measure_90 post v1 v2 v3 s0 s1 s2 σ α → J p l e (rmL (3) 0 0) s m args below meth c 4 G A (MQ below (QG G A (pI (pMi μ0 mm rf post))) args s 0 0 A) 0 0 90 [(0, .ref mm), (1, .int v1), (2, .int v2), (3, .int v3)] [.int s0, .int s1, .int s2, .ref (rf 9)] (mset μ0 mm rf σ α) := by
  intro v1 v2 v3 s0 s1 s2 σ α hw
  unfold wb_X7_measure_90 at hw
  refine j_iadd X (pc' := 91) dX7_measure_90 rfl ?_
  have h34 := hw.1
  have hw1 := hw.2
  refine jm_iast X (pc' := 92) hMO 9 (by decide) h34 dX7_measure_91 rfl (fun α35 e36 => ?_)
  have hw2 := hw1 α35 e36
  refine j_aload_n X (pc' := 93) (kk := 0) (i := 0) 0 rfl rfl dX7_measure_92 rfl ?_
  refine j_getf X (pc' := 96) mset_o 10 rfl rfl fw_TX7 (by decide) wt_3_175 dX7_measure_93 rfl ?_
  refine j_iload_n X (pc' := 97) (kk := 1) (i := 1) 1 rfl rfl dX7_measure_96 rfl ?_
  refine j_aload_n X (pc' := 98) (kk := 0) (i := 0) 0 rfl rfl dX7_measure_97 rfl ?_
  refine j_iload_n X (pc' := 99) (kk := 1) (i := 1) 1 rfl rfl dX7_measure_98 rfl ?_
  refine j_callVi (As := [.int v1]) (rest := [.int v1, .ref (rf 10)]) X (pc' := 102) (cells' := 0) (slots' := 0) (c_X7_widthOf l G A hMO μ0 v1 σ α35 _ hw2) (gk_X7_widthOf wt_4_59) hd_X7_widthOf (rmL_fit (k1 := 1) (k := 3) (by omega) (by decide)) mset_o rfl rfl rfl (Nat.le_of_ble_eq_true rfl) dX7_measure_99 rfl ⟨Nat.le_of_ble_eq_true rfl, Nat.le_of_ble_eq_true rfl⟩ rfl rfl (fun r37 μ44 hw3 => ?_)
  obtain ⟨σ38, α39, rfl, hw4⟩ := hw3
  refine j_iload_n X (pc' := 103) (kk := 2) (i := 2) 2 rfl rfl dX7_measure_102 rfl ?_
  refine j_if_eq X (pc' := 106) (tgt := 122) dX7_measure_103 rfl (by decide) (fun c40 => ?_) (fun c40 => ?_)
  · have hw5 := hw4.1 c40
    refine j_iconst X (pc' := 123) (v := 0) (by decide) dX7_measure_122 rfl ?_
    exact tb_X7_measure_123 X hMO _ _ _ _ _ _ _ _ hw5
  · have hw6 := hw4.2 c40
    refine j_aload_n X (pc' := 107) (kk := 0) (i := 0) 0 rfl rfl dX7_measure_106 rfl ?_
    refine j_getf X (pc' := 110) mset_o 4 rfl rfl fw_TX7 (by decide) wt_3_169 dX7_measure_107 rfl ?_
    refine j_iload_n X (pc' := 111) (kk := 1) (i := 1) 1 rfl rfl dX7_measure_110 rfl ?_
    have h41 := hw6.1
    have hw7 := hw6.2
    refine j_iald X (pc' := 112) (mset_a hMO 4 (by decide)) h41 dX7_measure_111 rfl ?_
    refine j_aload_n X (pc' := 113) (kk := 0) (i := 0) 0 rfl rfl dX7_measure_112 rfl ?_
    refine j_getf X (pc' := 116) mset_o 10 rfl rfl fw_TX7 (by decide) wt_3_175 dX7_measure_113 rfl ?_
    refine j_iload_n X (pc' := 117) (kk := 3) (i := 3) 3 rfl rfl dX7_measure_116 rfl ?_
    have h42 := hw7.1
    have hw8 := hw7.2
    refine j_iald X (pc' := 118) (mset_a hMO 10 (by decide)) h42 dX7_measure_117 rfl ?_
    refine j_imul X (pc' := 119) dX7_measure_118 rfl ?_
    refine j_goto X (tgt := 123) dX7_measure_119 (by decide) ?_
    exact tb_X7_measure_123 X hMO _ _ _ _ _ _ _ _ hw8
def wb_X7_measure_51 (post : Int32 → (Nat → Int32) → (Nat → Nat → Int32) → Prop)  (v1 : Int32) (s0 : Int32) (σ : Nat → Int32) (α : Nat → Nat → Int32) : Prop := wp_X7_partOf v1 (0 : Int32) σ α (fun r17 σ18 α19 => wp_X7_widthOf v1 σ18 α19 (fun r20 σ21 α22 => (s0 = 0 → (wb_X7_measure_90 post v1 s0 r17 (0 : Int32) r20 v1 σ21 α22)) ∧ (¬ s0 = 0 → (vp_in v1 16 ∧ vp_in r17 16 ∧ wb_X7_measure_90 post v1 s0 r17 ((α22 3 v1.toNatClampNeg) * (α22 9 r17.toNatClampNeg)) r20 v1 σ21 α22))))
set_option maxHeartbeats 4000000 in
set_option maxRecDepth 100000 in
theorem tb_X7_measure_51 {p : Program} {l : Launch} {e : Env} {s : State} {m : MethodId} {args : Array Value} {below : List Frame} {meth : Method} {c : Code} {G : gG} {A : Nat → Prop} {μ0 : Mm} {mm : Nat} {rf : Nat → Nat} {post : Int32 → (Nat → Int32) → (Nat → Nat → Int32) → Prop} (X : Cx p l s m args meth c cX7_measure 4 (some .boolean) RX7 G A) (hMO : MOk mm rf) : ∀ (v1 : Int32) (s0 : Int32) (σ : Nat → Int32) (α : Nat → Nat → Int32), wb_X7_measure_51 post v1 s0 σ α → J p l e (rmL (3) 0 0) s m args below meth c 4 G A (MQ below (QG G A (pI (pMi μ0 mm rf post))) args s 0 0 A) 0 0 51 [(0, .ref mm), (1, .int v1)] [.int s0] (mset μ0 mm rf σ α) := by
  intro v1 s0 σ α hw
  unfold wb_X7_measure_51 at hw
  refine j_istore_n X (pc' := 52) (kk := 2) (i := 2) (loc' := [(2, .int s0), (0, .ref mm), (1, .int v1)]) dX7_measure_51 rfl rfl (by decide) rfl ?_
  refine j_aload_n X (pc' := 53) (kk := 0) (i := 0) 1 rfl rfl dX7_measure_52 rfl ?_
  refine j_iload_n X (pc' := 54) (kk := 1) (i := 1) 2 rfl rfl dX7_measure_53 rfl ?_
  refine j_iconst X (pc' := 55) (v := 0) (by decide) dX7_measure_54 rfl ?_
  refine j_callVi (As := [.int v1, .int (0 : Int32)]) (rest := []) X (pc' := 58) (cells' := 0) (slots' := 0) (c_X7_partOf l G A hMO μ0 v1 (0 : Int32) σ α _ hw) (gk_X7_partOf wt_4_51) hd_X7_partOf (rmL_fit (k1 := 0) (k := 3) (by omega) (by decide)) mset_o rfl rfl rfl (Nat.le_of_ble_eq_true rfl) dX7_measure_55 rfl ⟨Nat.le_of_ble_eq_true rfl, Nat.le_of_ble_eq_true rfl⟩ rfl rfl (fun r17 μ29 hw1 => ?_)
  obtain ⟨σ18, α19, rfl, hw2⟩ := hw1
  refine j_istore_n X (pc' := 59) (kk := 3) (i := 3) (loc' := [(3, .int r17), (2, .int s0), (0, .ref mm), (1, .int v1)]) dX7_measure_58 rfl rfl (by decide) rfl ?_
  refine j_aload_n X (pc' := 60) (kk := 0) (i := 0) 2 rfl rfl dX7_measure_59 rfl ?_
  refine j_getf X (pc' := 63) mset_o 9 rfl rfl fw_TX7 (by decide) wt_3_174 dX7_measure_60 rfl ?_
  refine j_iload_n X (pc' := 64) (kk := 1) (i := 1) 3 rfl rfl dX7_measure_63 rfl ?_
  refine j_aload_n X (pc' := 65) (kk := 0) (i := 0) 2 rfl rfl dX7_measure_64 rfl ?_
  refine j_iload_n X (pc' := 66) (kk := 1) (i := 1) 3 rfl rfl dX7_measure_65 rfl ?_
  refine j_callVi (As := [.int v1]) (rest := [.int v1, .ref (rf 9)]) X (pc' := 69) (cells' := 0) (slots' := 0) (c_X7_widthOf l G A hMO μ0 v1 σ18 α19 _ hw2) (gk_X7_widthOf wt_4_59) hd_X7_widthOf (rmL_fit (k1 := 1) (k := 3) (by omega) (by decide)) mset_o rfl rfl rfl (Nat.le_of_ble_eq_true rfl) dX7_measure_66 rfl ⟨Nat.le_of_ble_eq_true rfl, Nat.le_of_ble_eq_true rfl⟩ rfl rfl (fun r20 μ27 hw3 => ?_)
  obtain ⟨σ21, α22, rfl, hw4⟩ := hw3
  refine j_iload_n X (pc' := 70) (kk := 2) (i := 2) 1 rfl rfl dX7_measure_69 rfl ?_
  refine j_if_eq X (pc' := 73) (tgt := 89) dX7_measure_70 rfl (by decide) (fun c23 => ?_) (fun c23 => ?_)
  · have hw5 := hw4.1 c23
    refine j_iconst X (pc' := 90) (v := 0) (by decide) dX7_measure_89 rfl ?_
    refine j_loc [2, 3, 1, 0] rfl ?_
    exact tb_X7_measure_90 X hMO _ _ _ _ _ _ _ _ hw5
  · have hw6 := hw4.2 c23
    refine j_aload_n X (pc' := 74) (kk := 0) (i := 0) 2 rfl rfl dX7_measure_73 rfl ?_
    refine j_getf X (pc' := 77) mset_o 3 rfl rfl fw_TX7 (by decide) wt_3_168 dX7_measure_74 rfl ?_
    refine j_iload_n X (pc' := 78) (kk := 1) (i := 1) 3 rfl rfl dX7_measure_77 rfl ?_
    have h24 := hw6.1
    have hw7 := hw6.2
    refine j_iald X (pc' := 79) (mset_a hMO 3 (by decide)) h24 dX7_measure_78 rfl ?_
    refine j_aload_n X (pc' := 80) (kk := 0) (i := 0) 2 rfl rfl dX7_measure_79 rfl ?_
    refine j_getf X (pc' := 83) mset_o 9 rfl rfl fw_TX7 (by decide) wt_3_174 dX7_measure_80 rfl ?_
    refine j_iload_n X (pc' := 84) (kk := 3) (i := 3) 0 rfl rfl dX7_measure_83 rfl ?_
    have h25 := hw7.1
    have hw8 := hw7.2
    refine j_iald X (pc' := 85) (mset_a hMO 9 (by decide)) h25 dX7_measure_84 rfl ?_
    refine j_imul X (pc' := 86) dX7_measure_85 rfl ?_
    refine j_goto X (tgt := 90) dX7_measure_86 (by decide) ?_
    refine j_loc [2, 3, 1, 0] rfl ?_
    exact tb_X7_measure_90 X hMO _ _ _ _ _ _ _ _ hw8
def wp_X7_measure (x1 : Int32) (σ : Nat → Int32) (α : Nat → Nat → Int32) (post : Int32 → (Nat → Int32) → (Nat → Nat → Int32) → Prop) : Prop := vp_in x1 16 ∧ (¬ (α 2 x1.toNatClampNeg) = (2 : Int32) → (vp_in x1 16 ∧ (¬ (α 2 x1.toNatClampNeg) = (3 : Int32) → (vp_in x1 16 ∧ (¬ (α 2 x1.toNatClampNeg) = (1 : Int32) → (wb_X7_measure_51 post x1 (0 : Int32) σ α)) ∧ ((α 2 x1.toNatClampNeg) = (1 : Int32) → (wb_X7_measure_51 post x1 (1 : Int32) σ α)))) ∧ ((α 2 x1.toNatClampNeg) = (3 : Int32) → (wp_X7_measureChoice x1 σ α (fun σ8 α9 => wb_X7_measure_154 post x1 σ8 α9))))) ∧ ((α 2 x1.toNatClampNeg) = (2 : Int32) → (wp_X7_measureSequence x1 σ α (fun σ13 α14 => wb_X7_measure_154 post x1 σ13 α14)))
set_option maxHeartbeats 4000000 in
set_option maxRecDepth 100000 in
theorem c_X7_measure (l : Launch) (G : gG) (A : Nat → Prop) {mm : Nat} {rf : Nat → Nat} (hMO : MOk mm rf) (μ0 : Mm) (x1 : Int32) (σ : Nat → Int32) (α : Nat → Nat → Int32) (post : Int32 → (Nat → Int32) → (Nat → Nat → Int32) → Prop) (h : wp_X7_measure x1 σ α post) : Met l yX7_measure (.code yX7_measure cX7_measure 4 (some .boolean) :: wsA) (rmL (3) 0 0) (PcG G A (mset μ0 mm rf σ α) [.ref mm, .int x1]) (QG G A (pI (pMi μ0 mm rf post))) 0 0 A := by
  refine met_J (loc := [(0, .ref mm), (1, .int x1)]) (by decide +kernel) (Nat.le_of_ble_eq_true rfl) rfl ?_
  intro p e s m args below meth c X hin
  have X : Cx p l s m args meth c cX7_measure 4 (some .boolean) RX7 G A := X
  have hw := h
  unfold wp_X7_measure at hw
  refine j_aload_n X (pc' := 1) (kk := 0) (i := 0) 0 rfl rfl dX7_measure_0 rfl ?_
  refine j_getf X (pc' := 4) mset_o 2 rfl rfl fw_TX7 (by decide) wt_3_167 dX7_measure_1 rfl ?_
  refine j_iload_n X (pc' := 5) (kk := 1) (i := 1) 1 rfl rfl dX7_measure_4 rfl ?_
  have h1 := hw.1
  have hw1 := hw.2
  refine j_iald X (pc' := 6) (mset_a hMO 2 (by decide)) h1 dX7_measure_5 rfl ?_
  refine j_iconst X (pc' := 7) (v := 2) (by decide) dX7_measure_6 rfl ?_
  refine j_icmp_ne X (pc' := 10) (tgt := 18) dX7_measure_7 rfl (by decide) (fun c2 => ?_) (fun c2 => ?_)
  · have hw2 := hw1.1 c2
    refine j_aload_n X (pc' := 19) (kk := 0) (i := 0) 0 rfl rfl dX7_measure_18 rfl ?_
    refine j_getf X (pc' := 22) mset_o 2 rfl rfl fw_TX7 (by decide) wt_3_167 dX7_measure_19 rfl ?_
    refine j_iload_n X (pc' := 23) (kk := 1) (i := 1) 1 rfl rfl dX7_measure_22 rfl ?_
    have h3 := hw2.1
    have hw3 := hw2.2
    refine j_iald X (pc' := 24) (mset_a hMO 2 (by decide)) h3 dX7_measure_23 rfl ?_
    refine j_iconst X (pc' := 25) (v := 3) (by decide) dX7_measure_24 rfl ?_
    refine j_icmp_ne X (pc' := 28) (tgt := 36) dX7_measure_25 rfl (by decide) (fun c4 => ?_) (fun c4 => ?_)
    · have hw4 := hw3.1 c4
      refine j_aload_n X (pc' := 37) (kk := 0) (i := 0) 0 rfl rfl dX7_measure_36 rfl ?_
      refine j_getf X (pc' := 40) mset_o 2 rfl rfl fw_TX7 (by decide) wt_3_167 dX7_measure_37 rfl ?_
      refine j_iload_n X (pc' := 41) (kk := 1) (i := 1) 1 rfl rfl dX7_measure_40 rfl ?_
      have h5 := hw4.1
      have hw5 := hw4.2
      refine j_iald X (pc' := 42) (mset_a hMO 2 (by decide)) h5 dX7_measure_41 rfl ?_
      refine j_iconst X (pc' := 43) (v := 1) (by decide) dX7_measure_42 rfl ?_
      refine j_icmp_ne X (pc' := 46) (tgt := 50) dX7_measure_43 rfl (by decide) (fun c6 => ?_) (fun c6 => ?_)
      · have hw6 := hw5.1 c6
        refine j_iconst X (pc' := 51) (v := 0) (by decide) dX7_measure_50 rfl ?_
        exact tb_X7_measure_51 X hMO _ _ _ _ hw6
      · have hw7 := hw5.2 c6
        refine j_iconst X (pc' := 47) (v := 1) (by decide) dX7_measure_46 rfl ?_
        refine j_goto X (tgt := 51) dX7_measure_47 (by decide) ?_
        exact tb_X7_measure_51 X hMO _ _ _ _ hw7
    · have hw8 := hw3.2 c4
      refine j_aload_n X (pc' := 29) (kk := 0) (i := 0) 0 rfl rfl dX7_measure_28 rfl ?_
      refine j_iload_n X (pc' := 30) (kk := 1) (i := 1) 1 rfl rfl dX7_measure_29 rfl ?_
      refine j_callVv (As := [.int x1]) (rest := []) X (pc' := 33) (cells' := 0) (slots' := 0) (c_X7_measureChoice l G A hMO μ0 x1 σ α _ hw8) (gk_X7_measureChoice wt_4_55) hd_X7_measureChoice (rmL_fit (k1 := 2) (k := 3) (by omega) (by decide)) mset_o rfl rfl rfl (Nat.le_of_ble_eq_true rfl) dX7_measure_30 rfl ⟨Nat.le_of_ble_eq_true rfl, Nat.le_of_ble_eq_true rfl⟩ rfl rfl (fun μ11 hw9 => ?_)
      obtain ⟨σ8, α9, rfl, hw10⟩ := hw9
      refine j_goto X (tgt := 154) dX7_measure_33 (by decide) ?_
      exact tb_X7_measure_154 X hMO _ _ _ hw10
  · have hw11 := hw1.2 c2
    refine j_aload_n X (pc' := 11) (kk := 0) (i := 0) 0 rfl rfl dX7_measure_10 rfl ?_
    refine j_iload_n X (pc' := 12) (kk := 1) (i := 1) 1 rfl rfl dX7_measure_11 rfl ?_
    refine j_callVv (As := [.int x1]) (rest := []) X (pc' := 15) (cells' := 0) (slots' := 0) (c_X7_measureSequence l G A hMO μ0 x1 σ α _ hw11) (gk_X7_measureSequence wt_4_39) hd_X7_measureSequence (rmL_fit (k1 := 2) (k := 3) (by omega) (by decide)) mset_o rfl rfl rfl (Nat.le_of_ble_eq_true rfl) dX7_measure_12 rfl ⟨Nat.le_of_ble_eq_true rfl, Nat.le_of_ble_eq_true rfl⟩ rfl rfl (fun μ16 hw12 => ?_)
    obtain ⟨σ13, α14, rfl, hw13⟩ := hw12
    refine j_goto X (tgt := 154) dX7_measure_15 (by decide) ?_
    exact tb_X7_measure_154 X hMO _ _ _ hw13
/-! BitNotationModel.lay(IIII)V -/
theorem dX7_lay_0 : decode cX7_lay 0 = .ok (.aload_n 0, 1) := by decide +kernel
theorem dX7_lay_1 : decode cX7_lay 1 = .ok (.getfield 77, 3) := by decide +kernel
theorem dX7_lay_4 : decode cX7_lay 4 = .ok (.bipush 16, 2) := by decide +kernel
theorem dX7_lay_6 : decode cX7_lay 6 = .ok (.if_icmp .ge 54, 3) := by decide +kernel
theorem dX7_lay_9 : decode cX7_lay 9 = .ok (.aload_n 0, 1) := by decide +kernel
theorem dX7_lay_10 : decode cX7_lay 10 = .ok (.getfield 7, 3) := by decide +kernel
theorem dX7_lay_13 : decode cX7_lay 13 = .ok (.aload_n 0, 1) := by decide +kernel
theorem dX7_lay_14 : decode cX7_lay 14 = .ok (.getfield 77, 3) := by decide +kernel
theorem dX7_lay_17 : decode cX7_lay 17 = .ok (.iload_n 1, 1) := by decide +kernel
theorem dX7_lay_18 : decode cX7_lay 18 = .ok (.iastore, 1) := by decide +kernel
theorem dX7_lay_19 : decode cX7_lay 19 = .ok (.aload_n 0, 1) := by decide +kernel
theorem dX7_lay_20 : decode cX7_lay 20 = .ok (.getfield 13, 3) := by decide +kernel
theorem dX7_lay_23 : decode cX7_lay 23 = .ok (.aload_n 0, 1) := by decide +kernel
theorem dX7_lay_24 : decode cX7_lay 24 = .ok (.getfield 77, 3) := by decide +kernel
theorem dX7_lay_27 : decode cX7_lay 27 = .ok (.iload_n 2, 1) := by decide +kernel
theorem dX7_lay_28 : decode cX7_lay 28 = .ok (.iastore, 1) := by decide +kernel
theorem dX7_lay_29 : decode cX7_lay 29 = .ok (.aload_n 0, 1) := by decide +kernel
theorem dX7_lay_30 : decode cX7_lay 30 = .ok (.getfield 16, 3) := by decide +kernel
theorem dX7_lay_33 : decode cX7_lay 33 = .ok (.aload_n 0, 1) := by decide +kernel
theorem dX7_lay_34 : decode cX7_lay 34 = .ok (.getfield 77, 3) := by decide +kernel
theorem dX7_lay_37 : decode cX7_lay 37 = .ok (.iload_n 3, 1) := by decide +kernel
theorem dX7_lay_38 : decode cX7_lay 38 = .ok (.iastore, 1) := by decide +kernel
theorem dX7_lay_39 : decode cX7_lay 39 = .ok (.aload_n 0, 1) := by decide +kernel
theorem dX7_lay_40 : decode cX7_lay 40 = .ok (.getfield 22, 3) := by decide +kernel
theorem dX7_lay_43 : decode cX7_lay 43 = .ok (.aload_n 0, 1) := by decide +kernel
theorem dX7_lay_44 : decode cX7_lay 44 = .ok (.getfield 77, 3) := by decide +kernel
theorem dX7_lay_47 : decode cX7_lay 47 = .ok (.iload 4, 2) := by decide +kernel
theorem dX7_lay_49 : decode cX7_lay 49 = .ok (.iastore, 1) := by decide +kernel
theorem dX7_lay_50 : decode cX7_lay 50 = .ok (.aload_n 0, 1) := by decide +kernel
theorem dX7_lay_51 : decode cX7_lay 51 = .ok (.getfield 28, 3) := by decide +kernel
theorem dX7_lay_54 : decode cX7_lay 54 = .ok (.aload_n 0, 1) := by decide +kernel
theorem dX7_lay_55 : decode cX7_lay 55 = .ok (.getfield 77, 3) := by decide +kernel
theorem dX7_lay_58 : decode cX7_lay 58 = .ok (.iconst 0, 1) := by decide +kernel
theorem dX7_lay_59 : decode cX7_lay 59 = .ok (.iastore, 1) := by decide +kernel
theorem dX7_lay_60 : decode cX7_lay 60 = .ok (.return_, 1) := by decide +kernel
def wp_X7_lay (x1 : Int32) (x2 : Int32) (x3 : Int32) (x4 : Int32) (σ : Nat → Int32) (α : Nat → Nat → Int32) (post : (Nat → Int32) → (Nat → Nat → Int32) → Prop) : Prop := ((16 : Int32) ≤ (σ 1) → (post σ α)) ∧ (¬ (16 : Int32) ≤ (σ 1) → (vp_in (σ 1) 16 ∧ ∀ α3, α3 = upA α 2 (upd (α 2) (σ 1).toNatClampNeg x1) → vp_in (σ 1) 16 ∧ ∀ α6, α6 = upA α3 3 (upd (α3 3) (σ 1).toNatClampNeg x2) → vp_in (σ 1) 16 ∧ ∀ α9, α9 = upA α6 4 (upd (α6 4) (σ 1).toNatClampNeg x3) → vp_in (σ 1) 16 ∧ ∀ α12, α12 = upA α9 6 (upd (α9 6) (σ 1).toNatClampNeg x4) → vp_in (σ 1) 16 ∧ ∀ α15, α15 = upA α12 8 (upd (α12 8) (σ 1).toNatClampNeg (0 : Int32)) → post σ α15))
set_option maxHeartbeats 4000000 in
set_option maxRecDepth 100000 in
theorem c_X7_lay (l : Launch) (G : gG) (A : Nat → Prop) {mm : Nat} {rf : Nat → Nat} (hMO : MOk mm rf) (μ0 : Mm) (x1 : Int32) (x2 : Int32) (x3 : Int32) (x4 : Int32) (σ : Nat → Int32) (α : Nat → Nat → Int32) (post : (Nat → Int32) → (Nat → Nat → Int32) → Prop) (h : wp_X7_lay x1 x2 x3 x4 σ α post) : Met l yX7_lay (.code yX7_lay cX7_lay 5 none :: wsA) (rmL (0) 0 0) (PcG G A (mset μ0 mm rf σ α) [.ref mm, .int x1, .int x2, .int x3, .int x4]) (QG G A (pV (pMv μ0 mm rf post))) 0 0 A := by
  refine met_J (loc := [(0, .ref mm), (1, .int x1), (2, .int x2), (3, .int x3), (4, .int x4)]) (by decide +kernel) (Nat.le_of_ble_eq_true rfl) rfl ?_
  intro p e s m args below meth c X hin
  have X : Cx p l s m args meth c cX7_lay 5 none RX7 G A := X
  have hw := h
  unfold wp_X7_lay at hw
  refine j_aload_n X (pc' := 1) (kk := 0) (i := 0) 0 rfl rfl dX7_lay_0 rfl ?_
  refine j_getf X (pc' := 4) mset_o 1 rfl rfl fw_TX7 (by decide) wt_3_166 dX7_lay_1 rfl ?_
  refine j_bipush X (pc' := 6) (v := 16) (by decide) dX7_lay_4 rfl ?_
  refine j_icmp_ge X (pc' := 9) (tgt := 60) dX7_lay_6 rfl (by decide) (fun c1 => ?_) (fun c1 => ?_)
  · have hw1 := hw.1 c1
    exact j_vret X ⟨rfl, _, _, rfl, hw1⟩ (Nat.le_of_ble_eq_true rfl) (Nat.le_of_ble_eq_true rfl) dX7_lay_60
  · have hw2 := hw.2 c1
    refine j_aload_n X (pc' := 10) (kk := 0) (i := 0) 0 rfl rfl dX7_lay_9 rfl ?_
    refine j_getf X (pc' := 13) mset_o 2 rfl rfl fw_TX7 (by decide) wt_3_167 dX7_lay_10 rfl ?_
    refine j_aload_n X (pc' := 14) (kk := 0) (i := 0) 0 rfl rfl dX7_lay_13 rfl ?_
    refine j_getf X (pc' := 17) mset_o 1 rfl rfl fw_TX7 (by decide) wt_3_166 dX7_lay_14 rfl ?_
    refine j_iload_n X (pc' := 18) (kk := 1) (i := 1) 1 rfl rfl dX7_lay_17 rfl ?_
    have h2 := hw2.1
    have hw3 := hw2.2
    refine jm_iast X (pc' := 19) hMO 2 (by decide) h2 dX7_lay_18 rfl (fun α3 e4 => ?_)
    have hw4 := hw3 α3 e4
    refine j_aload_n X (pc' := 20) (kk := 0) (i := 0) 0 rfl rfl dX7_lay_19 rfl ?_
    refine j_getf X (pc' := 23) mset_o 3 rfl rfl fw_TX7 (by decide) wt_3_168 dX7_lay_20 rfl ?_
    refine j_aload_n X (pc' := 24) (kk := 0) (i := 0) 0 rfl rfl dX7_lay_23 rfl ?_
    refine j_getf X (pc' := 27) mset_o 1 rfl rfl fw_TX7 (by decide) wt_3_166 dX7_lay_24 rfl ?_
    refine j_iload_n X (pc' := 28) (kk := 2) (i := 2) 2 rfl rfl dX7_lay_27 rfl ?_
    have h5 := hw4.1
    have hw5 := hw4.2
    refine jm_iast X (pc' := 29) hMO 3 (by decide) h5 dX7_lay_28 rfl (fun α6 e7 => ?_)
    have hw6 := hw5 α6 e7
    refine j_aload_n X (pc' := 30) (kk := 0) (i := 0) 0 rfl rfl dX7_lay_29 rfl ?_
    refine j_getf X (pc' := 33) mset_o 4 rfl rfl fw_TX7 (by decide) wt_3_169 dX7_lay_30 rfl ?_
    refine j_aload_n X (pc' := 34) (kk := 0) (i := 0) 0 rfl rfl dX7_lay_33 rfl ?_
    refine j_getf X (pc' := 37) mset_o 1 rfl rfl fw_TX7 (by decide) wt_3_166 dX7_lay_34 rfl ?_
    refine j_iload_n X (pc' := 38) (kk := 3) (i := 3) 3 rfl rfl dX7_lay_37 rfl ?_
    have h8 := hw6.1
    have hw7 := hw6.2
    refine jm_iast X (pc' := 39) hMO 4 (by decide) h8 dX7_lay_38 rfl (fun α9 e10 => ?_)
    have hw8 := hw7 α9 e10
    refine j_aload_n X (pc' := 40) (kk := 0) (i := 0) 0 rfl rfl dX7_lay_39 rfl ?_
    refine j_getf X (pc' := 43) mset_o 6 rfl rfl fw_TX7 (by decide) wt_3_171 dX7_lay_40 rfl ?_
    refine j_aload_n X (pc' := 44) (kk := 0) (i := 0) 0 rfl rfl dX7_lay_43 rfl ?_
    refine j_getf X (pc' := 47) mset_o 1 rfl rfl fw_TX7 (by decide) wt_3_166 dX7_lay_44 rfl ?_
    refine j_iload X (pc' := 49) (i := 4) 4 rfl dX7_lay_47 rfl ?_
    have h11 := hw8.1
    have hw9 := hw8.2
    refine jm_iast X (pc' := 50) hMO 6 (by decide) h11 dX7_lay_49 rfl (fun α12 e13 => ?_)
    have hw10 := hw9 α12 e13
    refine j_aload_n X (pc' := 51) (kk := 0) (i := 0) 0 rfl rfl dX7_lay_50 rfl ?_
    refine j_getf X (pc' := 54) mset_o 8 rfl rfl fw_TX7 (by decide) wt_3_173 dX7_lay_51 rfl ?_
    refine j_aload_n X (pc' := 55) (kk := 0) (i := 0) 0 rfl rfl dX7_lay_54 rfl ?_
    refine j_getf X (pc' := 58) mset_o 1 rfl rfl fw_TX7 (by decide) wt_3_166 dX7_lay_55 rfl ?_
    refine j_iconst X (pc' := 59) (v := 0) (by decide) dX7_lay_58 rfl ?_
    have h14 := hw10.1
    have hw11 := hw10.2
    refine jm_iast X (pc' := 60) hMO 8 (by decide) h14 dX7_lay_59 rfl (fun α15 e16 => ?_)
    have hw12 := hw11 α15 e16
    exact j_vret X ⟨rfl, _, _, rfl, hw12⟩ (Nat.le_of_ble_eq_true rfl) (Nat.le_of_ble_eq_true rfl) dX7_lay_60
/-! BitNotationModel.addNumber(II)I -/
theorem dX7_addNumber_0 : decode cX7_addNumber 0 = .ok (.iload_n 1, 1) := by decide +kernel
theorem dX7_addNumber_1 : decode cX7_addNumber 1 = .ok (.sipush (-1000), 3) := by decide +kernel
theorem dX7_addNumber_4 : decode cX7_addNumber 4 = .ok (.sipush 1000, 3) := by decide +kernel
theorem dX7_addNumber_7 : decode cX7_addNumber 7 = .ok (.invokestatic 80, 3) := by decide +kernel
theorem dX7_addNumber_10 : decode cX7_addNumber 10 = .ok (.ifCond .eq 18, 3) := by decide +kernel
theorem dX7_addNumber_13 : decode cX7_addNumber 13 = .ok (.iload_n 2, 1) := by decide +kernel
theorem dX7_addNumber_14 : decode cX7_addNumber 14 = .ok (.iload_n 1, 1) := by decide +kernel
theorem dX7_addNumber_15 : decode cX7_addNumber 15 = .ok (.sipush 1000, 3) := by decide +kernel
theorem dX7_addNumber_18 : decode cX7_addNumber 18 = .ok (.invokestatic 80, 3) := by decide +kernel
theorem dX7_addNumber_21 : decode cX7_addNumber 21 = .ok (.ifCond .eq 7, 3) := by decide +kernel
theorem dX7_addNumber_24 : decode cX7_addNumber 24 = .ok (.iconst 1, 1) := by decide +kernel
theorem dX7_addNumber_25 : decode cX7_addNumber 25 = .ok (.goto 4, 3) := by decide +kernel
theorem dX7_addNumber_28 : decode cX7_addNumber 28 = .ok (.iconst 0, 1) := by decide +kernel
theorem dX7_addNumber_29 : decode cX7_addNumber 29 = .ok (.istore_n 3, 1) := by decide +kernel
theorem dX7_addNumber_30 : decode cX7_addNumber 30 = .ok (.aload_n 0, 1) := by decide +kernel
theorem dX7_addNumber_31 : decode cX7_addNumber 31 = .ok (.iload_n 3, 1) := by decide +kernel
theorem dX7_addNumber_32 : decode cX7_addNumber 32 = .ok (.ifCond .ne 7, 3) := by decide +kernel
theorem dX7_addNumber_35 : decode cX7_addNumber 35 = .ok (.iconst 1, 1) := by decide +kernel
theorem dX7_addNumber_36 : decode cX7_addNumber 36 = .ok (.goto 17, 3) := by decide +kernel
theorem dX7_addNumber_39 : decode cX7_addNumber 39 = .ok (.aload_n 0, 1) := by decide +kernel
theorem dX7_addNumber_40 : decode cX7_addNumber 40 = .ok (.getfield 77, 3) := by decide +kernel
theorem dX7_addNumber_43 : decode cX7_addNumber 43 = .ok (.bipush 16, 2) := by decide +kernel
theorem dX7_addNumber_45 : decode cX7_addNumber 45 = .ok (.if_icmp .ne 7, 3) := by decide +kernel
theorem dX7_addNumber_48 : decode cX7_addNumber 48 = .ok (.iconst 2, 1) := by decide +kernel
theorem dX7_addNumber_49 : decode cX7_addNumber 49 = .ok (.goto 4, 3) := by decide +kernel
theorem dX7_addNumber_52 : decode cX7_addNumber 52 = .ok (.iconst 0, 1) := by decide +kernel
theorem dX7_addNumber_53 : decode cX7_addNumber 53 = .ok (.invokevirtual 109, 3) := by decide +kernel
theorem dX7_addNumber_56 : decode cX7_addNumber 56 = .ok (.ifCond .eq 5, 3) := by decide +kernel
theorem dX7_addNumber_59 : decode cX7_addNumber 59 = .ok (.iconst 0, 1) := by decide +kernel
theorem dX7_addNumber_60 : decode cX7_addNumber 60 = .ok (.ireturn, 1) := by decide +kernel
theorem dX7_addNumber_61 : decode cX7_addNumber 61 = .ok (.aload_n 0, 1) := by decide +kernel
theorem dX7_addNumber_62 : decode cX7_addNumber 62 = .ok (.iconst 0, 1) := by decide +kernel
theorem dX7_addNumber_63 : decode cX7_addNumber 63 = .ok (.iload_n 1, 1) := by decide +kernel
theorem dX7_addNumber_64 : decode cX7_addNumber 64 = .ok (.iload_n 2, 1) := by decide +kernel
theorem dX7_addNumber_65 : decode cX7_addNumber 65 = .ok (.iconst 0, 1) := by decide +kernel
theorem dX7_addNumber_66 : decode cX7_addNumber 66 = .ok (.invokevirtual 113, 3) := by decide +kernel
theorem dX7_addNumber_69 : decode cX7_addNumber 69 = .ok (.aload_n 0, 1) := by decide +kernel
theorem dX7_addNumber_70 : decode cX7_addNumber 70 = .ok (.aload_n 0, 1) := by decide +kernel
theorem dX7_addNumber_71 : decode cX7_addNumber 71 = .ok (.getfield 77, 3) := by decide +kernel
theorem dX7_addNumber_74 : decode cX7_addNumber 74 = .ok (.invokevirtual 117, 3) := by decide +kernel
theorem dX7_addNumber_77 : decode cX7_addNumber 77 = .ok (.pop, 1) := by decide +kernel
theorem dX7_addNumber_78 : decode cX7_addNumber 78 = .ok (.aload_n 0, 1) := by decide +kernel
theorem dX7_addNumber_79 : decode cX7_addNumber 79 = .ok (.dup, 1) := by decide +kernel
theorem dX7_addNumber_80 : decode cX7_addNumber 80 = .ok (.getfield 77, 3) := by decide +kernel
theorem dX7_addNumber_83 : decode cX7_addNumber 83 = .ok (.iconst 1, 1) := by decide +kernel
theorem dX7_addNumber_84 : decode cX7_addNumber 84 = .ok (.iadd, 1) := by decide +kernel
theorem dX7_addNumber_85 : decode cX7_addNumber 85 = .ok (.putfield 77, 3) := by decide +kernel
theorem dX7_addNumber_88 : decode cX7_addNumber 88 = .ok (.aload_n 0, 1) := by decide +kernel
theorem dX7_addNumber_89 : decode cX7_addNumber 89 = .ok (.getfield 77, 3) := by decide +kernel
theorem dX7_addNumber_92 : decode cX7_addNumber 92 = .ok (.iconst 1, 1) := by decide +kernel
theorem dX7_addNumber_93 : decode cX7_addNumber 93 = .ok (.isub, 1) := by decide +kernel
theorem dX7_addNumber_94 : decode cX7_addNumber 94 = .ok (.ireturn, 1) := by decide +kernel
def wb_X7_addNumber_53 (post : Int32 → (Nat → Int32) → (Nat → Nat → Int32) → Prop)  (v1 : Int32) (v2 : Int32) (s0 : Int32) (σ : Nat → Int32) (α : Nat → Nat → Int32) : Prop := wp_X7_refused s0 σ α (fun r9 σ10 α11 => (r9 = 0 → (wp_X7_lay (0 : Int32) v1 v2 (0 : Int32) σ10 α11 (fun σ14 α15 => wp_X7_measure (σ14 1) σ14 α15 (fun r16 σ17 α18 => ∀ σ19, σ19 = upd σ17 1 ((σ17 1) + (1 : Int32)) → post ((σ19 1) - (1 : Int32)) σ19 α18)))) ∧ (¬ r9 = 0 → (post (0 : Int32) σ10 α11)))
set_option maxHeartbeats 4000000 in
set_option maxRecDepth 100000 in
theorem tb_X7_addNumber_53 {p : Program} {l : Launch} {e : Env} {s : State} {m : MethodId} {args : Array Value} {below : List Frame} {meth : Method} {c : Code} {G : gG} {A : Nat → Prop} {μ0 : Mm} {mm : Nat} {rf : Nat → Nat} {post : Int32 → (Nat → Int32) → (Nat → Nat → Int32) → Prop} (X : Cx p l s m args meth c cX7_addNumber 4 (some .int) RX7 G A) (hMO : MOk mm rf) : ∀ (v1 : Int32) (v2 : Int32) (s0 : Int32) (σ : Nat → Int32) (α : Nat → Nat → Int32), wb_X7_addNumber_53 post v1 v2 s0 σ α → J p l e (rmL (4) 0 0) s m args below meth c 4 G A (MQ below (QG G A (pI (pMi μ0 mm rf post))) args s 0 0 A) 0 0 53 [(0, .ref mm), (1, .int v1), (2, .int v2)] [.int s0, .ref mm] (mset μ0 mm rf σ α) := by
  intro v1 v2 s0 σ α hw
  unfold wb_X7_addNumber_53 at hw
  refine j_callVi (As := [.int s0]) (rest := []) X (pc' := 56) (cells' := 0) (slots' := 0) (c_X7_refused l G A hMO μ0 s0 σ α _ hw) (gk_X7_refused wt_4_27) hd_X7_refused (rmL_fit (k1 := 0) (k := 4) (by omega) (by decide)) mset_o rfl rfl rfl (Nat.le_of_ble_eq_true rfl) dX7_addNumber_53 rfl ⟨Nat.le_of_ble_eq_true rfl, Nat.le_of_ble_eq_true rfl⟩ rfl rfl (fun r9 μ26 hw1 => ?_)
  obtain ⟨σ10, α11, rfl, hw2⟩ := hw1
  refine j_if_eq X (pc' := 59) (tgt := 61) dX7_addNumber_56 rfl (by decide) (fun c12 => ?_) (fun c12 => ?_)
  · have hw3 := hw2.1 c12
    refine j_aload_n X (pc' := 62) (kk := 0) (i := 0) 0 rfl rfl dX7_addNumber_61 rfl ?_
    refine j_iconst X (pc' := 63) (v := 0) (by decide) dX7_addNumber_62 rfl ?_
    refine j_iload_n X (pc' := 64) (kk := 1) (i := 1) 1 rfl rfl dX7_addNumber_63 rfl ?_
    refine j_iload_n X (pc' := 65) (kk := 2) (i := 2) 2 rfl rfl dX7_addNumber_64 rfl ?_
    refine j_iconst X (pc' := 66) (v := 0) (by decide) dX7_addNumber_65 rfl ?_
    refine j_callVv (As := [.int (0 : Int32), .int v1, .int v2, .int (0 : Int32)]) (rest := []) X (pc' := 69) (cells' := 0) (slots' := 0) (c_X7_lay l G A hMO μ0 (0 : Int32) v1 v2 (0 : Int32) σ10 α11 _ hw3) (gk_X7_lay wt_4_31) hd_X7_lay (rmL_fit (k1 := 0) (k := 4) (by omega) (by decide)) mset_o rfl rfl rfl (Nat.le_of_ble_eq_true rfl) dX7_addNumber_66 rfl ⟨Nat.le_of_ble_eq_true rfl, Nat.le_of_ble_eq_true rfl⟩ rfl rfl (fun μ24 hw4 => ?_)
    obtain ⟨σ14, α15, rfl, hw5⟩ := hw4
    refine j_aload_n X (pc' := 70) (kk := 0) (i := 0) 0 rfl rfl dX7_addNumber_69 rfl ?_
    refine j_aload_n X (pc' := 71) (kk := 0) (i := 0) 0 rfl rfl dX7_addNumber_70 rfl ?_
    refine j_getf X (pc' := 74) mset_o 1 rfl rfl fw_TX7 (by decide) wt_3_166 dX7_addNumber_71 rfl ?_
    refine j_callVi (As := [.int (σ14 1)]) (rest := []) X (pc' := 77) (cells' := 0) (slots' := 0) (c_X7_measure l G A hMO μ0 (σ14 1) σ14 α15 _ hw5) (gk_X7_measure wt_4_35) hd_X7_measure (rmL_fit (k1 := 3) (k := 4) (by omega) (by decide)) mset_o rfl rfl rfl (Nat.le_of_ble_eq_true rfl) dX7_addNumber_74 rfl ⟨Nat.le_of_ble_eq_true rfl, Nat.le_of_ble_eq_true rfl⟩ rfl rfl (fun r16 μ22 hw6 => ?_)
    obtain ⟨σ17, α18, rfl, hw7⟩ := hw6
    refine j_pop X (pc' := 78) rfl dX7_addNumber_77 rfl ?_
    refine j_aload_n X (pc' := 79) (kk := 0) (i := 0) 0 rfl rfl dX7_addNumber_78 rfl ?_
    refine j_dup X (pc' := 80) rfl dX7_addNumber_79 rfl ?_
    refine j_getf X (pc' := 83) mset_o 1 rfl rfl fw_TX7 (by decide) wt_3_166 dX7_addNumber_80 rfl ?_
    refine j_iconst X (pc' := 84) (v := 1) (by decide) dX7_addNumber_83 rfl ?_
    refine j_iadd X (pc' := 85) dX7_addNumber_84 rfl ?_
    refine jm_putf X (pc' := 88) 1 (mF_set_1 _ _ _) (by decide) rfl wt_3_166 (by decide +kernel) dX7_addNumber_85 rfl (fun σ19 e20 => ?_)
    have hw8 := hw7 σ19 e20
    refine j_aload_n X (pc' := 89) (kk := 0) (i := 0) 0 rfl rfl dX7_addNumber_88 rfl ?_
    refine j_getf X (pc' := 92) mset_o 1 rfl rfl fw_TX7 (by decide) wt_3_166 dX7_addNumber_89 rfl ?_
    refine j_iconst X (pc' := 93) (v := 1) (by decide) dX7_addNumber_92 rfl ?_
    refine j_isub X (pc' := 94) dX7_addNumber_93 rfl ?_
    exact j_iret X ⟨_, rfl, _, _, rfl, hw8⟩ (Nat.le_of_ble_eq_true rfl) (Nat.le_of_ble_eq_true rfl) dX7_addNumber_94
  · have hw9 := hw2.2 c12
    refine j_iconst X (pc' := 60) (v := 0) (by decide) dX7_addNumber_59 rfl ?_
    exact j_iret X ⟨_, rfl, _, _, rfl, hw9⟩ (Nat.le_of_ble_eq_true rfl) (Nat.le_of_ble_eq_true rfl) dX7_addNumber_60
def wb_X7_addNumber_29 (post : Int32 → (Nat → Int32) → (Nat → Nat → Int32) → Prop)  (v1 : Int32) (v2 : Int32) (s0 : Int32) (σ : Nat → Int32) (α : Nat → Nat → Int32) : Prop := (¬ s0 = 0 → ((¬ (σ 1) = (16 : Int32) → (wb_X7_addNumber_53 post v1 v2 (0 : Int32) σ α)) ∧ ((σ 1) = (16 : Int32) → (wb_X7_addNumber_53 post v1 v2 (2 : Int32) σ α)))) ∧ (s0 = 0 → (wb_X7_addNumber_53 post v1 v2 (1 : Int32) σ α))
set_option maxHeartbeats 4000000 in
set_option maxRecDepth 100000 in
theorem tb_X7_addNumber_29 {p : Program} {l : Launch} {e : Env} {s : State} {m : MethodId} {args : Array Value} {below : List Frame} {meth : Method} {c : Code} {G : gG} {A : Nat → Prop} {μ0 : Mm} {mm : Nat} {rf : Nat → Nat} {post : Int32 → (Nat → Int32) → (Nat → Nat → Int32) → Prop} (X : Cx p l s m args meth c cX7_addNumber 4 (some .int) RX7 G A) (hMO : MOk mm rf) : ∀ (v1 : Int32) (v2 : Int32) (s0 : Int32) (σ : Nat → Int32) (α : Nat → Nat → Int32), wb_X7_addNumber_29 post v1 v2 s0 σ α → J p l e (rmL (4) 0 0) s m args below meth c 4 G A (MQ below (QG G A (pI (pMi μ0 mm rf post))) args s 0 0 A) 0 0 29 [(0, .ref mm), (1, .int v1), (2, .int v2)] [.int s0] (mset μ0 mm rf σ α) := by
  intro v1 v2 s0 σ α hw
  unfold wb_X7_addNumber_29 at hw
  refine j_istore_n X (pc' := 30) (kk := 3) (i := 3) (loc' := [(3, .int s0), (0, .ref mm), (1, .int v1), (2, .int v2)]) dX7_addNumber_29 rfl rfl (by decide) rfl ?_
  refine j_aload_n X (pc' := 31) (kk := 0) (i := 0) 1 rfl rfl dX7_addNumber_30 rfl ?_
  refine j_iload_n X (pc' := 32) (kk := 3) (i := 3) 0 rfl rfl dX7_addNumber_31 rfl ?_
  refine j_if_ne X (pc' := 35) (tgt := 39) dX7_addNumber_32 rfl (by decide) (fun c7 => ?_) (fun c7 => ?_)
  · have hw1 := hw.1 c7
    refine j_aload_n X (pc' := 40) (kk := 0) (i := 0) 1 rfl rfl dX7_addNumber_39 rfl ?_
    refine j_getf X (pc' := 43) mset_o 1 rfl rfl fw_TX7 (by decide) wt_3_166 dX7_addNumber_40 rfl ?_
    refine j_bipush X (pc' := 45) (v := 16) (by decide) dX7_addNumber_43 rfl ?_
    refine j_icmp_ne X (pc' := 48) (tgt := 52) dX7_addNumber_45 rfl (by decide) (fun c8 => ?_) (fun c8 => ?_)
    · have hw2 := hw1.1 c8
      refine j_iconst X (pc' := 53) (v := 0) (by decide) dX7_addNumber_52 rfl ?_
      refine j_loc [1, 2, 3] rfl ?_
      exact tb_X7_addNumber_53 X hMO _ _ _ _ _ hw2
    · have hw3 := hw1.2 c8
      refine j_iconst X (pc' := 49) (v := 2) (by decide) dX7_addNumber_48 rfl ?_
      refine j_goto X (tgt := 53) dX7_addNumber_49 (by decide) ?_
      refine j_loc [1, 2, 3] rfl ?_
      exact tb_X7_addNumber_53 X hMO _ _ _ _ _ hw3
  · have hw4 := hw.2 c7
    refine j_iconst X (pc' := 36) (v := 1) (by decide) dX7_addNumber_35 rfl ?_
    refine j_goto X (tgt := 53) dX7_addNumber_36 (by decide) ?_
    refine j_loc [1, 2, 3] rfl ?_
    exact tb_X7_addNumber_53 X hMO _ _ _ _ _ hw4
def wb_X7_addNumber_28 (post : Int32 → (Nat → Int32) → (Nat → Nat → Int32) → Prop)  (v1 : Int32) (v2 : Int32) (σ : Nat → Int32) (α : Nat → Nat → Int32) : Prop := wb_X7_addNumber_29 post v1 v2 (0 : Int32) σ α
set_option maxHeartbeats 4000000 in
set_option maxRecDepth 100000 in
theorem tb_X7_addNumber_28 {p : Program} {l : Launch} {e : Env} {s : State} {m : MethodId} {args : Array Value} {below : List Frame} {meth : Method} {c : Code} {G : gG} {A : Nat → Prop} {μ0 : Mm} {mm : Nat} {rf : Nat → Nat} {post : Int32 → (Nat → Int32) → (Nat → Nat → Int32) → Prop} (X : Cx p l s m args meth c cX7_addNumber 4 (some .int) RX7 G A) (hMO : MOk mm rf) : ∀ (v1 : Int32) (v2 : Int32) (σ : Nat → Int32) (α : Nat → Nat → Int32), wb_X7_addNumber_28 post v1 v2 σ α → J p l e (rmL (4) 0 0) s m args below meth c 4 G A (MQ below (QG G A (pI (pMi μ0 mm rf post))) args s 0 0 A) 0 0 28 [(0, .ref mm), (1, .int v1), (2, .int v2)] [] (mset μ0 mm rf σ α) := by
  intro v1 v2 σ α hw
  unfold wb_X7_addNumber_28 at hw
  refine j_iconst X (pc' := 29) (v := 0) (by decide) dX7_addNumber_28 rfl ?_
  exact tb_X7_addNumber_29 X hMO _ _ _ _ _ hw
def wp_X7_addNumber (x1 : Int32) (x2 : Int32) (σ : Nat → Int32) (α : Nat → Nat → Int32) (post : Int32 → (Nat → Int32) → (Nat → Nat → Int32) → Prop) : Prop := wp_X7_in x1 (-1000 : Int32) (1000 : Int32) (fun r1 => (r1 = 0 → (wb_X7_addNumber_28 post x1 x2 σ α)) ∧ (¬ r1 = 0 → (wp_X7_in x2 x1 (1000 : Int32) (fun r3 => (r3 = 0 → (wb_X7_addNumber_28 post x1 x2 σ α)) ∧ (¬ r3 = 0 → (wb_X7_addNumber_29 post x1 x2 (1 : Int32) σ α))))))
set_option maxHeartbeats 4000000 in
set_option maxRecDepth 100000 in
theorem c_X7_addNumber (l : Launch) (G : gG) (A : Nat → Prop) {mm : Nat} {rf : Nat → Nat} (hMO : MOk mm rf) (μ0 : Mm) (x1 : Int32) (x2 : Int32) (σ : Nat → Int32) (α : Nat → Nat → Int32) (post : Int32 → (Nat → Int32) → (Nat → Nat → Int32) → Prop) (h : wp_X7_addNumber x1 x2 σ α post) : Met l yX7_addNumber (.code yX7_addNumber cX7_addNumber 4 (some .int) :: wsA) (rmL (4) 0 0) (PcG G A (mset μ0 mm rf σ α) [.ref mm, .int x1, .int x2]) (QG G A (pI (pMi μ0 mm rf post))) 0 0 A := by
  refine met_J (loc := [(0, .ref mm), (1, .int x1), (2, .int x2)]) (by decide +kernel) (Nat.le_of_ble_eq_true rfl) rfl ?_
  intro p e s m args below meth c X hin
  have X : Cx p l s m args meth c cX7_addNumber 4 (some .int) RX7 G A := X
  have hw := h
  unfold wp_X7_addNumber at hw
  refine j_iload_n X (pc' := 1) (kk := 1) (i := 1) 1 rfl rfl dX7_addNumber_0 rfl ?_
  refine j_sipush X (pc' := 4) (v := (-1000)) (by decide) dX7_addNumber_1 rfl ?_
  refine j_sipush X (pc' := 7) (v := 1000) (by decide) dX7_addNumber_4 rfl ?_
  refine j_callSp (As := [.int x1, .int (-1000 : Int32), .int (1000 : Int32)]) (rest := []) X (pc' := 10) (cells' := 0) (slots' := 0) (c_X7_in l G A (mset μ0 mm rf σ α) x1 (-1000 : Int32) (1000 : Int32) _ hw) (gk_X7_in wt_4_24) hd_X7_in (rmL_fit (k1 := 0) (k := 4) (by omega) (by decide)) rfl rfl (Nat.le_of_ble_eq_true rfl) dX7_addNumber_7 rfl ⟨Nat.le_of_ble_eq_true rfl, Nat.le_of_ble_eq_true rfl⟩ rfl rfl (fun r1 hw1 => ?_)
  refine j_if_eq X (pc' := 13) (tgt := 28) dX7_addNumber_10 rfl (by decide) (fun c2 => ?_) (fun c2 => ?_)
  · have hw2 := hw1.1 c2
    exact tb_X7_addNumber_28 X hMO _ _ _ _ hw2
  · have hw3 := hw1.2 c2
    refine j_iload_n X (pc' := 14) (kk := 2) (i := 2) 2 rfl rfl dX7_addNumber_13 rfl ?_
    refine j_iload_n X (pc' := 15) (kk := 1) (i := 1) 1 rfl rfl dX7_addNumber_14 rfl ?_
    refine j_sipush X (pc' := 18) (v := 1000) (by decide) dX7_addNumber_15 rfl ?_
    refine j_callSp (As := [.int x2, .int x1, .int (1000 : Int32)]) (rest := []) X (pc' := 21) (cells' := 0) (slots' := 0) (c_X7_in l G A (mset μ0 mm rf σ α) x2 x1 (1000 : Int32) _ hw3) (gk_X7_in wt_4_24) hd_X7_in (rmL_fit (k1 := 0) (k := 4) (by omega) (by decide)) rfl rfl (Nat.le_of_ble_eq_true rfl) dX7_addNumber_18 rfl ⟨Nat.le_of_ble_eq_true rfl, Nat.le_of_ble_eq_true rfl⟩ rfl rfl (fun r3 hw4 => ?_)
    refine j_if_eq X (pc' := 24) (tgt := 28) dX7_addNumber_21 rfl (by decide) (fun c4 => ?_) (fun c4 => ?_)
    · have hw5 := hw4.1 c4
      exact tb_X7_addNumber_28 X hMO _ _ _ _ hw5
    · have hw6 := hw4.2 c4
      refine j_iconst X (pc' := 25) (v := 1) (by decide) dX7_addNumber_24 rfl ?_
      refine j_goto X (tgt := 29) dX7_addNumber_25 (by decide) ?_
      exact tb_X7_addNumber_29 X hMO _ _ _ _ _ hw6
/-! BitNotationModel.addList(III)I -/
theorem dX7_addList_0 : decode cX7_addList 0 = .ok (.iload_n 2, 1) := by decide +kernel
theorem dX7_addList_1 : decode cX7_addList 1 = .ok (.iconst 0, 1) := by decide +kernel
theorem dX7_addList_2 : decode cX7_addList 2 = .ok (.bipush 8, 2) := by decide +kernel
theorem dX7_addList_4 : decode cX7_addList 4 = .ok (.invokestatic 80, 3) := by decide +kernel
theorem dX7_addList_7 : decode cX7_addList 7 = .ok (.ifCond .eq 17, 3) := by decide +kernel
theorem dX7_addList_10 : decode cX7_addList 10 = .ok (.iload_n 3, 1) := by decide +kernel
theorem dX7_addList_11 : decode cX7_addList 11 = .ok (.iload_n 2, 1) := by decide +kernel
theorem dX7_addList_12 : decode cX7_addList 12 = .ok (.bipush 8, 2) := by decide +kernel
theorem dX7_addList_14 : decode cX7_addList 14 = .ok (.invokestatic 80, 3) := by decide +kernel
theorem dX7_addList_17 : decode cX7_addList 17 = .ok (.ifCond .eq 7, 3) := by decide +kernel
theorem dX7_addList_20 : decode cX7_addList 20 = .ok (.iconst 1, 1) := by decide +kernel
theorem dX7_addList_21 : decode cX7_addList 21 = .ok (.goto 4, 3) := by decide +kernel
theorem dX7_addList_24 : decode cX7_addList 24 = .ok (.iconst 0, 1) := by decide +kernel
theorem dX7_addList_25 : decode cX7_addList 25 = .ok (.istore 4, 2) := by decide +kernel
theorem dX7_addList_27 : decode cX7_addList 27 = .ok (.aload_n 0, 1) := by decide +kernel
theorem dX7_addList_28 : decode cX7_addList 28 = .ok (.iload_n 1, 1) := by decide +kernel
theorem dX7_addList_29 : decode cX7_addList 29 = .ok (.invokevirtual 120, 3) := by decide +kernel
theorem dX7_addList_32 : decode cX7_addList 32 = .ok (.ifCond .eq 21, 3) := by decide +kernel
theorem dX7_addList_35 : decode cX7_addList 35 = .ok (.iload 4, 2) := by decide +kernel
theorem dX7_addList_37 : decode cX7_addList 37 = .ok (.ifCond .eq 16, 3) := by decide +kernel
theorem dX7_addList_40 : decode cX7_addList 40 = .ok (.aload_n 0, 1) := by decide +kernel
theorem dX7_addList_41 : decode cX7_addList 41 = .ok (.getfield 77, 3) := by decide +kernel
theorem dX7_addList_44 : decode cX7_addList 44 = .ok (.bipush 16, 2) := by decide +kernel
theorem dX7_addList_46 : decode cX7_addList 46 = .ok (.if_icmp .ge 7, 3) := by decide +kernel
theorem dX7_addList_49 : decode cX7_addList 49 = .ok (.iconst 1, 1) := by decide +kernel
theorem dX7_addList_50 : decode cX7_addList 50 = .ok (.goto 4, 3) := by decide +kernel
theorem dX7_addList_53 : decode cX7_addList 53 = .ok (.iconst 0, 1) := by decide +kernel
theorem dX7_addList_54 : decode cX7_addList 54 = .ok (.istore 5, 2) := by decide +kernel
theorem dX7_addList_56 : decode cX7_addList 56 = .ok (.iload 5, 2) := by decide +kernel
theorem dX7_addList_58 : decode cX7_addList 58 = .ok (.ifCond .eq 34, 3) := by decide +kernel
theorem dX7_addList_61 : decode cX7_addList 61 = .ok (.aload_n 0, 1) := by decide +kernel
theorem dX7_addList_62 : decode cX7_addList 62 = .ok (.iconst 1, 1) := by decide +kernel
theorem dX7_addList_63 : decode cX7_addList 63 = .ok (.iload_n 2, 1) := by decide +kernel
theorem dX7_addList_64 : decode cX7_addList 64 = .ok (.iload_n 3, 1) := by decide +kernel
theorem dX7_addList_65 : decode cX7_addList 65 = .ok (.iconst 1, 1) := by decide +kernel
theorem dX7_addList_66 : decode cX7_addList 66 = .ok (.invokevirtual 113, 3) := by decide +kernel
theorem dX7_addList_69 : decode cX7_addList 69 = .ok (.aload_n 0, 1) := by decide +kernel
theorem dX7_addList_70 : decode cX7_addList 70 = .ok (.getfield 19, 3) := by decide +kernel
theorem dX7_addList_73 : decode cX7_addList 73 = .ok (.bipush 6, 2) := by decide +kernel
theorem dX7_addList_75 : decode cX7_addList 75 = .ok (.aload_n 0, 1) := by decide +kernel
theorem dX7_addList_76 : decode cX7_addList 76 = .ok (.getfield 77, 3) := by decide +kernel
theorem dX7_addList_79 : decode cX7_addList 79 = .ok (.imul, 1) := by decide +kernel
theorem dX7_addList_80 : decode cX7_addList 80 = .ok (.iload_n 1, 1) := by decide +kernel
theorem dX7_addList_81 : decode cX7_addList 81 = .ok (.iastore, 1) := by decide +kernel
theorem dX7_addList_82 : decode cX7_addList 82 = .ok (.aload_n 0, 1) := by decide +kernel
theorem dX7_addList_83 : decode cX7_addList 83 = .ok (.aload_n 0, 1) := by decide +kernel
theorem dX7_addList_84 : decode cX7_addList 84 = .ok (.getfield 77, 3) := by decide +kernel
theorem dX7_addList_87 : decode cX7_addList 87 = .ok (.invokevirtual 117, 3) := by decide +kernel
theorem dX7_addList_90 : decode cX7_addList 90 = .ok (.istore 5, 2) := by decide +kernel
theorem dX7_addList_92 : decode cX7_addList 92 = .ok (.aload_n 0, 1) := by decide +kernel
theorem dX7_addList_93 : decode cX7_addList 93 = .ok (.aload_n 0, 1) := by decide +kernel
theorem dX7_addList_94 : decode cX7_addList 94 = .ok (.iload_n 1, 1) := by decide +kernel
theorem dX7_addList_95 : decode cX7_addList 95 = .ok (.invokevirtual 120, 3) := by decide +kernel
theorem dX7_addList_98 : decode cX7_addList 98 = .ok (.ifCond .ne 7, 3) := by decide +kernel
theorem dX7_addList_101 : decode cX7_addList 101 = .ok (.iconst 1, 1) := by decide +kernel
theorem dX7_addList_102 : decode cX7_addList 102 = .ok (.goto 22, 3) := by decide +kernel
theorem dX7_addList_105 : decode cX7_addList 105 = .ok (.iload 4, 2) := by decide +kernel
theorem dX7_addList_107 : decode cX7_addList 107 = .ok (.ifCond .ne 7, 3) := by decide +kernel
theorem dX7_addList_110 : decode cX7_addList 110 = .ok (.iconst 2, 1) := by decide +kernel
theorem dX7_addList_111 : decode cX7_addList 111 = .ok (.goto 13, 3) := by decide +kernel
theorem dX7_addList_114 : decode cX7_addList 114 = .ok (.iload 5, 2) := by decide +kernel
theorem dX7_addList_116 : decode cX7_addList 116 = .ok (.ifCond .eq 7, 3) := by decide +kernel
theorem dX7_addList_119 : decode cX7_addList 119 = .ok (.iconst 0, 1) := by decide +kernel
theorem dX7_addList_120 : decode cX7_addList 120 = .ok (.goto 4, 3) := by decide +kernel
theorem dX7_addList_123 : decode cX7_addList 123 = .ok (.iconst 3, 1) := by decide +kernel
theorem dX7_addList_124 : decode cX7_addList 124 = .ok (.invokevirtual 109, 3) := by decide +kernel
theorem dX7_addList_127 : decode cX7_addList 127 = .ok (.ifCond .eq 5, 3) := by decide +kernel
theorem dX7_addList_130 : decode cX7_addList 130 = .ok (.iconst 0, 1) := by decide +kernel
theorem dX7_addList_131 : decode cX7_addList 131 = .ok (.ireturn, 1) := by decide +kernel
theorem dX7_addList_132 : decode cX7_addList 132 = .ok (.aload_n 0, 1) := by decide +kernel
theorem dX7_addList_133 : decode cX7_addList 133 = .ok (.dup, 1) := by decide +kernel
theorem dX7_addList_134 : decode cX7_addList 134 = .ok (.getfield 77, 3) := by decide +kernel
theorem dX7_addList_137 : decode cX7_addList 137 = .ok (.iconst 1, 1) := by decide +kernel
theorem dX7_addList_138 : decode cX7_addList 138 = .ok (.iadd, 1) := by decide +kernel
theorem dX7_addList_139 : decode cX7_addList 139 = .ok (.putfield 77, 3) := by decide +kernel
theorem dX7_addList_142 : decode cX7_addList 142 = .ok (.aload_n 0, 1) := by decide +kernel
theorem dX7_addList_143 : decode cX7_addList 143 = .ok (.getfield 77, 3) := by decide +kernel
theorem dX7_addList_146 : decode cX7_addList 146 = .ok (.iconst 1, 1) := by decide +kernel
theorem dX7_addList_147 : decode cX7_addList 147 = .ok (.isub, 1) := by decide +kernel
theorem dX7_addList_148 : decode cX7_addList 148 = .ok (.ireturn, 1) := by decide +kernel
def wb_X7_addList_124 (post : Int32 → (Nat → Int32) → (Nat → Nat → Int32) → Prop)  (s0 : Int32) (σ : Nat → Int32) (α : Nat → Nat → Int32) : Prop := wp_X7_refused s0 σ α (fun r37 σ38 α39 => (r37 = 0 → (∀ σ41, σ41 = upd σ38 1 ((σ38 1) + (1 : Int32)) → post ((σ41 1) - (1 : Int32)) σ41 α39)) ∧ (¬ r37 = 0 → (post (0 : Int32) σ38 α39)))
set_option maxHeartbeats 4000000 in
set_option maxRecDepth 100000 in
theorem tb_X7_addList_124 {p : Program} {l : Launch} {e : Env} {s : State} {m : MethodId} {args : Array Value} {below : List Frame} {meth : Method} {c : Code} {G : gG} {A : Nat → Prop} {μ0 : Mm} {mm : Nat} {rf : Nat → Nat} {post : Int32 → (Nat → Int32) → (Nat → Nat → Int32) → Prop} (X : Cx p l s m args meth c cX7_addList 6 (some .int) RX7 G A) (hMO : MOk mm rf) : ∀ (s0 : Int32) (σ : Nat → Int32) (α : Nat → Nat → Int32), wb_X7_addList_124 post s0 σ α → J p l e (rmL (4) 0 0) s m args below meth c 6 G A (MQ below (QG G A (pI (pMi μ0 mm rf post))) args s 0 0 A) 0 0 124 [(0, .ref mm)] [.int s0, .ref mm] (mset μ0 mm rf σ α) := by
  intro s0 σ α hw
  unfold wb_X7_addList_124 at hw
  refine j_callVi (As := [.int s0]) (rest := []) X (pc' := 127) (cells' := 0) (slots' := 0) (c_X7_refused l G A hMO μ0 s0 σ α _ hw) (gk_X7_refused wt_4_27) hd_X7_refused (rmL_fit (k1 := 0) (k := 4) (by omega) (by decide)) mset_o rfl rfl rfl (Nat.le_of_ble_eq_true rfl) dX7_addList_124 rfl ⟨Nat.le_of_ble_eq_true rfl, Nat.le_of_ble_eq_true rfl⟩ rfl rfl (fun r37 μ44 hw1 => ?_)
  obtain ⟨σ38, α39, rfl, hw2⟩ := hw1
  refine j_if_eq X (pc' := 130) (tgt := 132) dX7_addList_127 rfl (by decide) (fun c40 => ?_) (fun c40 => ?_)
  · have hw3 := hw2.1 c40
    refine j_aload_n X (pc' := 133) (kk := 0) (i := 0) 0 rfl rfl dX7_addList_132 rfl ?_
    refine j_dup X (pc' := 134) rfl dX7_addList_133 rfl ?_
    refine j_getf X (pc' := 137) mset_o 1 rfl rfl fw_TX7 (by decide) wt_3_166 dX7_addList_134 rfl ?_
    refine j_iconst X (pc' := 138) (v := 1) (by decide) dX7_addList_137 rfl ?_
    refine j_iadd X (pc' := 139) dX7_addList_138 rfl ?_
    refine jm_putf X (pc' := 142) 1 (mF_set_1 _ _ _) (by decide) rfl wt_3_166 (by decide +kernel) dX7_addList_139 rfl (fun σ41 e42 => ?_)
    have hw4 := hw3 σ41 e42
    refine j_aload_n X (pc' := 143) (kk := 0) (i := 0) 0 rfl rfl dX7_addList_142 rfl ?_
    refine j_getf X (pc' := 146) mset_o 1 rfl rfl fw_TX7 (by decide) wt_3_166 dX7_addList_143 rfl ?_
    refine j_iconst X (pc' := 147) (v := 1) (by decide) dX7_addList_146 rfl ?_
    refine j_isub X (pc' := 148) dX7_addList_147 rfl ?_
    exact j_iret X ⟨_, rfl, _, _, rfl, hw4⟩ (Nat.le_of_ble_eq_true rfl) (Nat.le_of_ble_eq_true rfl) dX7_addList_148
  · have hw5 := hw2.2 c40
    refine j_iconst X (pc' := 131) (v := 0) (by decide) dX7_addList_130 rfl ?_
    exact j_iret X ⟨_, rfl, _, _, rfl, hw5⟩ (Nat.le_of_ble_eq_true rfl) (Nat.le_of_ble_eq_true rfl) dX7_addList_131
def wb_X7_addList_92 (post : Int32 → (Nat → Int32) → (Nat → Nat → Int32) → Prop)  (v1 : Int32) (v4 : Int32) (v5 : Int32) (σ : Nat → Int32) (α : Nat → Nat → Int32) : Prop := wp_X7_isType v1 σ α (fun r29 σ30 α31 => (¬ r29 = 0 → ((¬ v4 = 0 → ((v5 = 0 → (wb_X7_addList_124 post (3 : Int32) σ30 α31)) ∧ (¬ v5 = 0 → (wb_X7_addList_124 post (0 : Int32) σ30 α31)))) ∧ (v4 = 0 → (wb_X7_addList_124 post (2 : Int32) σ30 α31)))) ∧ (r29 = 0 → (wb_X7_addList_124 post (1 : Int32) σ30 α31)))
set_option maxHeartbeats 4000000 in
set_option maxRecDepth 100000 in
theorem tb_X7_addList_92 {p : Program} {l : Launch} {e : Env} {s : State} {m : MethodId} {args : Array Value} {below : List Frame} {meth : Method} {c : Code} {G : gG} {A : Nat → Prop} {μ0 : Mm} {mm : Nat} {rf : Nat → Nat} {post : Int32 → (Nat → Int32) → (Nat → Nat → Int32) → Prop} (X : Cx p l s m args meth c cX7_addList 6 (some .int) RX7 G A) (hMO : MOk mm rf) : ∀ (v1 : Int32) (v4 : Int32) (v5 : Int32) (σ : Nat → Int32) (α : Nat → Nat → Int32), wb_X7_addList_92 post v1 v4 v5 σ α → J p l e (rmL (4) 0 0) s m args below meth c 6 G A (MQ below (QG G A (pI (pMi μ0 mm rf post))) args s 0 0 A) 0 0 92 [(0, .ref mm), (1, .int v1), (4, .int v4), (5, .int v5)] [] (mset μ0 mm rf σ α) := by
  intro v1 v4 v5 σ α hw
  unfold wb_X7_addList_92 at hw
  refine j_aload_n X (pc' := 93) (kk := 0) (i := 0) 0 rfl rfl dX7_addList_92 rfl ?_
  refine j_aload_n X (pc' := 94) (kk := 0) (i := 0) 0 rfl rfl dX7_addList_93 rfl ?_
  refine j_iload_n X (pc' := 95) (kk := 1) (i := 1) 1 rfl rfl dX7_addList_94 rfl ?_
  refine j_callVi (As := [.int v1]) (rest := [.ref mm]) X (pc' := 98) (cells' := 0) (slots' := 0) (c_X7_isType l G A hMO μ0 v1 σ α _ hw) (gk_X7_isType wt_4_70) hd_X7_isType (rmL_fit (k1 := 1) (k := 4) (by omega) (by decide)) mset_o rfl rfl rfl (Nat.le_of_ble_eq_true rfl) dX7_addList_95 rfl ⟨Nat.le_of_ble_eq_true rfl, Nat.le_of_ble_eq_true rfl⟩ rfl rfl (fun r29 μ36 hw1 => ?_)
  obtain ⟨σ30, α31, rfl, hw2⟩ := hw1
  refine j_if_ne X (pc' := 101) (tgt := 105) dX7_addList_98 rfl (by decide) (fun c32 => ?_) (fun c32 => ?_)
  · have hw3 := hw2.1 c32
    refine j_iload X (pc' := 107) (i := 4) 2 rfl dX7_addList_105 rfl ?_
    refine j_if_ne X (pc' := 110) (tgt := 114) dX7_addList_107 rfl (by decide) (fun c33 => ?_) (fun c33 => ?_)
    · have hw4 := hw3.1 c33
      refine j_iload X (pc' := 116) (i := 5) 3 rfl dX7_addList_114 rfl ?_
      refine j_if_eq X (pc' := 119) (tgt := 123) dX7_addList_116 rfl (by decide) (fun c34 => ?_) (fun c34 => ?_)
      · have hw5 := hw4.1 c34
        refine j_iconst X (pc' := 124) (v := 3) (by decide) dX7_addList_123 rfl ?_
        refine j_loc [0] rfl ?_
        exact tb_X7_addList_124 X hMO _ _ _ hw5
      · have hw6 := hw4.2 c34
        refine j_iconst X (pc' := 120) (v := 0) (by decide) dX7_addList_119 rfl ?_
        refine j_goto X (tgt := 124) dX7_addList_120 (by decide) ?_
        refine j_loc [0] rfl ?_
        exact tb_X7_addList_124 X hMO _ _ _ hw6
    · have hw7 := hw3.2 c33
      refine j_iconst X (pc' := 111) (v := 2) (by decide) dX7_addList_110 rfl ?_
      refine j_goto X (tgt := 124) dX7_addList_111 (by decide) ?_
      refine j_loc [0] rfl ?_
      exact tb_X7_addList_124 X hMO _ _ _ hw7
  · have hw8 := hw2.2 c32
    refine j_iconst X (pc' := 102) (v := 1) (by decide) dX7_addList_101 rfl ?_
    refine j_goto X (tgt := 124) dX7_addList_102 (by decide) ?_
    refine j_loc [0] rfl ?_
    exact tb_X7_addList_124 X hMO _ _ _ hw8
def wb_X7_addList_54 (post : Int32 → (Nat → Int32) → (Nat → Nat → Int32) → Prop)  (v1 : Int32) (v2 : Int32) (v3 : Int32) (v4 : Int32) (s0 : Int32) (σ : Nat → Int32) (α : Nat → Nat → Int32) : Prop := (s0 = 0 → (wb_X7_addList_92 post v1 v4 s0 σ α)) ∧ (¬ s0 = 0 → (wp_X7_lay (1 : Int32) v2 v3 (1 : Int32) σ α (fun σ17 α18 => vp_in ((6 : Int32) * (σ17 1)) 96 ∧ ∀ α20, α20 = upA α18 5 (upd (α18 5) ((6 : Int32) * (σ17 1)).toNatClampNeg v1) → wp_X7_measure (σ17 1) σ17 α20 (fun r22 σ23 α24 => wb_X7_addList_92 post v1 v4 r22 σ23 α24))))
set_option maxHeartbeats 4000000 in
set_option maxRecDepth 100000 in
theorem tb_X7_addList_54 {p : Program} {l : Launch} {e : Env} {s : State} {m : MethodId} {args : Array Value} {below : List Frame} {meth : Method} {c : Code} {G : gG} {A : Nat → Prop} {μ0 : Mm} {mm : Nat} {rf : Nat → Nat} {post : Int32 → (Nat → Int32) → (Nat → Nat → Int32) → Prop} (X : Cx p l s m args meth c cX7_addList 6 (some .int) RX7 G A) (hMO : MOk mm rf) : ∀ (v1 : Int32) (v2 : Int32) (v3 : Int32) (v4 : Int32) (s0 : Int32) (σ : Nat → Int32) (α : Nat → Nat → Int32), wb_X7_addList_54 post v1 v2 v3 v4 s0 σ α → J p l e (rmL (4) 0 0) s m args below meth c 6 G A (MQ below (QG G A (pI (pMi μ0 mm rf post))) args s 0 0 A) 0 0 54 [(0, .ref mm), (1, .int v1), (2, .int v2), (3, .int v3), (4, .int v4)] [.int s0] (mset μ0 mm rf σ α) := by
  intro v1 v2 v3 v4 s0 σ α hw
  unfold wb_X7_addList_54 at hw
  refine j_istore X (pc' := 56) (i := 5) (loc' := [(5, .int s0), (0, .ref mm), (1, .int v1), (2, .int v2), (3, .int v3), (4, .int v4)]) dX7_addList_54 rfl (by decide) rfl ?_
  refine j_iload X (pc' := 58) (i := 5) 0 rfl dX7_addList_56 rfl ?_
  refine j_if_eq X (pc' := 61) (tgt := 92) dX7_addList_58 rfl (by decide) (fun c15 => ?_) (fun c15 => ?_)
  · have hw1 := hw.1 c15
    refine j_loc [1, 2, 5, 0] rfl ?_
    exact tb_X7_addList_92 X hMO _ _ _ _ _ hw1
  · have hw2 := hw.2 c15
    refine j_aload_n X (pc' := 62) (kk := 0) (i := 0) 1 rfl rfl dX7_addList_61 rfl ?_
    refine j_iconst X (pc' := 63) (v := 1) (by decide) dX7_addList_62 rfl ?_
    refine j_iload_n X (pc' := 64) (kk := 2) (i := 2) 3 rfl rfl dX7_addList_63 rfl ?_
    refine j_iload_n X (pc' := 65) (kk := 3) (i := 3) 4 rfl rfl dX7_addList_64 rfl ?_
    refine j_iconst X (pc' := 66) (v := 1) (by decide) dX7_addList_65 rfl ?_
    refine j_callVv (As := [.int (1 : Int32), .int v2, .int v3, .int (1 : Int32)]) (rest := []) X (pc' := 69) (cells' := 0) (slots' := 0) (c_X7_lay l G A hMO μ0 (1 : Int32) v2 v3 (1 : Int32) σ α _ hw2) (gk_X7_lay wt_4_31) hd_X7_lay (rmL_fit (k1 := 0) (k := 4) (by omega) (by decide)) mset_o rfl rfl rfl (Nat.le_of_ble_eq_true rfl) dX7_addList_66 rfl ⟨Nat.le_of_ble_eq_true rfl, Nat.le_of_ble_eq_true rfl⟩ rfl rfl (fun μ28 hw3 => ?_)
    obtain ⟨σ17, α18, rfl, hw4⟩ := hw3
    refine j_aload_n X (pc' := 70) (kk := 0) (i := 0) 1 rfl rfl dX7_addList_69 rfl ?_
    refine j_getf X (pc' := 73) mset_o 5 rfl rfl fw_TX7 (by decide) wt_3_170 dX7_addList_70 rfl ?_
    refine j_bipush X (pc' := 75) (v := 6) (by decide) dX7_addList_73 rfl ?_
    refine j_aload_n X (pc' := 76) (kk := 0) (i := 0) 1 rfl rfl dX7_addList_75 rfl ?_
    refine j_getf X (pc' := 79) mset_o 1 rfl rfl fw_TX7 (by decide) wt_3_166 dX7_addList_76 rfl ?_
    refine j_imul X (pc' := 80) dX7_addList_79 rfl ?_
    refine j_iload_n X (pc' := 81) (kk := 1) (i := 1) 2 rfl rfl dX7_addList_80 rfl ?_
    have h19 := hw4.1
    have hw5 := hw4.2
    refine jm_iast X (pc' := 82) hMO 5 (by decide) h19 dX7_addList_81 rfl (fun α20 e21 => ?_)
    have hw6 := hw5 α20 e21
    refine j_aload_n X (pc' := 83) (kk := 0) (i := 0) 1 rfl rfl dX7_addList_82 rfl ?_
    refine j_aload_n X (pc' := 84) (kk := 0) (i := 0) 1 rfl rfl dX7_addList_83 rfl ?_
    refine j_getf X (pc' := 87) mset_o 1 rfl rfl fw_TX7 (by decide) wt_3_166 dX7_addList_84 rfl ?_
    refine j_callVi (As := [.int (σ17 1)]) (rest := []) X (pc' := 90) (cells' := 0) (slots' := 0) (c_X7_measure l G A hMO μ0 (σ17 1) σ17 α20 _ hw6) (gk_X7_measure wt_4_35) hd_X7_measure (rmL_fit (k1 := 3) (k := 4) (by omega) (by decide)) mset_o rfl rfl rfl (Nat.le_of_ble_eq_true rfl) dX7_addList_87 rfl ⟨Nat.le_of_ble_eq_true rfl, Nat.le_of_ble_eq_true rfl⟩ rfl rfl (fun r22 μ26 hw7 => ?_)
    obtain ⟨σ23, α24, rfl, hw8⟩ := hw7
    refine j_istore X (pc' := 92) (i := 5) (loc' := [(5, .int r22), (0, .ref mm), (1, .int v1), (2, .int v2), (3, .int v3), (4, .int v4)]) dX7_addList_90 rfl (by decide) rfl ?_
    refine j_loc [1, 2, 5, 0] rfl ?_
    exact tb_X7_addList_92 X hMO _ _ _ _ _ hw8
def wb_X7_addList_53 (post : Int32 → (Nat → Int32) → (Nat → Nat → Int32) → Prop)  (v1 : Int32) (v2 : Int32) (v3 : Int32) (v4 : Int32) (σ : Nat → Int32) (α : Nat → Nat → Int32) : Prop := wb_X7_addList_54 post v1 v2 v3 v4 (0 : Int32) σ α
set_option maxHeartbeats 4000000 in
set_option maxRecDepth 100000 in
theorem tb_X7_addList_53 {p : Program} {l : Launch} {e : Env} {s : State} {m : MethodId} {args : Array Value} {below : List Frame} {meth : Method} {c : Code} {G : gG} {A : Nat → Prop} {μ0 : Mm} {mm : Nat} {rf : Nat → Nat} {post : Int32 → (Nat → Int32) → (Nat → Nat → Int32) → Prop} (X : Cx p l s m args meth c cX7_addList 6 (some .int) RX7 G A) (hMO : MOk mm rf) : ∀ (v1 : Int32) (v2 : Int32) (v3 : Int32) (v4 : Int32) (σ : Nat → Int32) (α : Nat → Nat → Int32), wb_X7_addList_53 post v1 v2 v3 v4 σ α → J p l e (rmL (4) 0 0) s m args below meth c 6 G A (MQ below (QG G A (pI (pMi μ0 mm rf post))) args s 0 0 A) 0 0 53 [(0, .ref mm), (1, .int v1), (2, .int v2), (3, .int v3), (4, .int v4)] [] (mset μ0 mm rf σ α) := by
  intro v1 v2 v3 v4 σ α hw
  unfold wb_X7_addList_53 at hw
  refine j_iconst X (pc' := 54) (v := 0) (by decide) dX7_addList_53 rfl ?_
  exact tb_X7_addList_54 X hMO _ _ _ _ _ _ _ hw
def wb_X7_addList_25 (post : Int32 → (Nat → Int32) → (Nat → Nat → Int32) → Prop)  (v1 : Int32) (v2 : Int32) (v3 : Int32) (s0 : Int32) (σ : Nat → Int32) (α : Nat → Nat → Int32) : Prop := wp_X7_isType v1 σ α (fun r7 σ8 α9 => (r7 = 0 → (wb_X7_addList_53 post v1 v2 v3 s0 σ8 α9)) ∧ (¬ r7 = 0 → ((s0 = 0 → (wb_X7_addList_53 post v1 v2 v3 s0 σ8 α9)) ∧ (¬ s0 = 0 → (((16 : Int32) ≤ (σ8 1) → (wb_X7_addList_53 post v1 v2 v3 s0 σ8 α9)) ∧ (¬ (16 : Int32) ≤ (σ8 1) → (wb_X7_addList_54 post v1 v2 v3 s0 (1 : Int32) σ8 α9)))))))
set_option maxHeartbeats 4000000 in
set_option maxRecDepth 100000 in
theorem tb_X7_addList_25 {p : Program} {l : Launch} {e : Env} {s : State} {m : MethodId} {args : Array Value} {below : List Frame} {meth : Method} {c : Code} {G : gG} {A : Nat → Prop} {μ0 : Mm} {mm : Nat} {rf : Nat → Nat} {post : Int32 → (Nat → Int32) → (Nat → Nat → Int32) → Prop} (X : Cx p l s m args meth c cX7_addList 6 (some .int) RX7 G A) (hMO : MOk mm rf) : ∀ (v1 : Int32) (v2 : Int32) (v3 : Int32) (s0 : Int32) (σ : Nat → Int32) (α : Nat → Nat → Int32), wb_X7_addList_25 post v1 v2 v3 s0 σ α → J p l e (rmL (4) 0 0) s m args below meth c 6 G A (MQ below (QG G A (pI (pMi μ0 mm rf post))) args s 0 0 A) 0 0 25 [(0, .ref mm), (1, .int v1), (2, .int v2), (3, .int v3)] [.int s0] (mset μ0 mm rf σ α) := by
  intro v1 v2 v3 s0 σ α hw
  unfold wb_X7_addList_25 at hw
  refine j_istore X (pc' := 27) (i := 4) (loc' := [(4, .int s0), (0, .ref mm), (1, .int v1), (2, .int v2), (3, .int v3)]) dX7_addList_25 rfl (by decide) rfl ?_
  refine j_aload_n X (pc' := 28) (kk := 0) (i := 0) 1 rfl rfl dX7_addList_27 rfl ?_
  refine j_iload_n X (pc' := 29) (kk := 1) (i := 1) 2 rfl rfl dX7_addList_28 rfl ?_
  refine j_callVi (As := [.int v1]) (rest := []) X (pc' := 32) (cells' := 0) (slots' := 0) (c_X7_isType l G A hMO μ0 v1 σ α _ hw) (gk_X7_isType wt_4_70) hd_X7_isType (rmL_fit (k1 := 1) (k := 4) (by omega) (by decide)) mset_o rfl rfl rfl (Nat.le_of_ble_eq_true rfl) dX7_addList_29 rfl ⟨Nat.le_of_ble_eq_true rfl, Nat.le_of_ble_eq_true rfl⟩ rfl rfl (fun r7 μ14 hw1 => ?_)
  obtain ⟨σ8, α9, rfl, hw2⟩ := hw1
  refine j_if_eq X (pc' := 35) (tgt := 53) dX7_addList_32 rfl (by decide) (fun c10 => ?_) (fun c10 => ?_)
  · have hw3 := hw2.1 c10
    refine j_loc [1, 2, 3, 4, 0] rfl ?_
    exact tb_X7_addList_53 X hMO _ _ _ _ _ _ hw3
  · have hw4 := hw2.2 c10
    refine j_iload X (pc' := 37) (i := 4) 0 rfl dX7_addList_35 rfl ?_
    refine j_if_eq X (pc' := 40) (tgt := 53) dX7_addList_37 rfl (by decide) (fun c11 => ?_) (fun c11 => ?_)
    · have hw5 := hw4.1 c11
      refine j_loc [1, 2, 3, 4, 0] rfl ?_
      exact tb_X7_addList_53 X hMO _ _ _ _ _ _ hw5
    · have hw6 := hw4.2 c11
      refine j_aload_n X (pc' := 41) (kk := 0) (i := 0) 1 rfl rfl dX7_addList_40 rfl ?_
      refine j_getf X (pc' := 44) mset_o 1 rfl rfl fw_TX7 (by decide) wt_3_166 dX7_addList_41 rfl ?_
      refine j_bipush X (pc' := 46) (v := 16) (by decide) dX7_addList_44 rfl ?_
      refine j_icmp_ge X (pc' := 49) (tgt := 53) dX7_addList_46 rfl (by decide) (fun c12 => ?_) (fun c12 => ?_)
      · have hw7 := hw6.1 c12
        refine j_loc [1, 2, 3, 4, 0] rfl ?_
        exact tb_X7_addList_53 X hMO _ _ _ _ _ _ hw7
      · have hw8 := hw6.2 c12
        refine j_iconst X (pc' := 50) (v := 1) (by decide) dX7_addList_49 rfl ?_
        refine j_goto X (tgt := 54) dX7_addList_50 (by decide) ?_
        refine j_loc [1, 2, 3, 4, 0] rfl ?_
        exact tb_X7_addList_54 X hMO _ _ _ _ _ _ _ hw8
def wb_X7_addList_24 (post : Int32 → (Nat → Int32) → (Nat → Nat → Int32) → Prop)  (v1 : Int32) (v2 : Int32) (v3 : Int32) (σ : Nat → Int32) (α : Nat → Nat → Int32) : Prop := wb_X7_addList_25 post v1 v2 v3 (0 : Int32) σ α
set_option maxHeartbeats 4000000 in
set_option maxRecDepth 100000 in
theorem tb_X7_addList_24 {p : Program} {l : Launch} {e : Env} {s : State} {m : MethodId} {args : Array Value} {below : List Frame} {meth : Method} {c : Code} {G : gG} {A : Nat → Prop} {μ0 : Mm} {mm : Nat} {rf : Nat → Nat} {post : Int32 → (Nat → Int32) → (Nat → Nat → Int32) → Prop} (X : Cx p l s m args meth c cX7_addList 6 (some .int) RX7 G A) (hMO : MOk mm rf) : ∀ (v1 : Int32) (v2 : Int32) (v3 : Int32) (σ : Nat → Int32) (α : Nat → Nat → Int32), wb_X7_addList_24 post v1 v2 v3 σ α → J p l e (rmL (4) 0 0) s m args below meth c 6 G A (MQ below (QG G A (pI (pMi μ0 mm rf post))) args s 0 0 A) 0 0 24 [(0, .ref mm), (1, .int v1), (2, .int v2), (3, .int v3)] [] (mset μ0 mm rf σ α) := by
  intro v1 v2 v3 σ α hw
  unfold wb_X7_addList_24 at hw
  refine j_iconst X (pc' := 25) (v := 0) (by decide) dX7_addList_24 rfl ?_
  exact tb_X7_addList_25 X hMO _ _ _ _ _ _ hw
def wp_X7_addList (x1 : Int32) (x2 : Int32) (x3 : Int32) (σ : Nat → Int32) (α : Nat → Nat → Int32) (post : Int32 → (Nat → Int32) → (Nat → Nat → Int32) → Prop) : Prop := wp_X7_in x2 (0 : Int32) (8 : Int32) (fun r1 => (r1 = 0 → (wb_X7_addList_24 post x1 x2 x3 σ α)) ∧ (¬ r1 = 0 → (wp_X7_in x3 x2 (8 : Int32) (fun r3 => (r3 = 0 → (wb_X7_addList_24 post x1 x2 x3 σ α)) ∧ (¬ r3 = 0 → (wb_X7_addList_25 post x1 x2 x3 (1 : Int32) σ α))))))
set_option maxHeartbeats 4000000 in
set_option maxRecDepth 100000 in
theorem c_X7_addList (l : Launch) (G : gG) (A : Nat → Prop) {mm : Nat} {rf : Nat → Nat} (hMO : MOk mm rf) (μ0 : Mm) (x1 : Int32) (x2 : Int32) (x3 : Int32) (σ : Nat → Int32) (α : Nat → Nat → Int32) (post : Int32 → (Nat → Int32) → (Nat → Nat → Int32) → Prop) (h : wp_X7_addList x1 x2 x3 σ α post) : Met l yX7_addList (.code yX7_addList cX7_addList 6 (some .int) :: wsA) (rmL (4) 0 0) (PcG G A (mset μ0 mm rf σ α) [.ref mm, .int x1, .int x2, .int x3]) (QG G A (pI (pMi μ0 mm rf post))) 0 0 A := by
  refine met_J (loc := [(0, .ref mm), (1, .int x1), (2, .int x2), (3, .int x3)]) (by decide +kernel) (Nat.le_of_ble_eq_true rfl) rfl ?_
  intro p e s m args below meth c X hin
  have X : Cx p l s m args meth c cX7_addList 6 (some .int) RX7 G A := X
  have hw := h
  unfold wp_X7_addList at hw
  refine j_iload_n X (pc' := 1) (kk := 2) (i := 2) 2 rfl rfl dX7_addList_0 rfl ?_
  refine j_iconst X (pc' := 2) (v := 0) (by decide) dX7_addList_1 rfl ?_
  refine j_bipush X (pc' := 4) (v := 8) (by decide) dX7_addList_2 rfl ?_
  refine j_callSp (As := [.int x2, .int (0 : Int32), .int (8 : Int32)]) (rest := []) X (pc' := 7) (cells' := 0) (slots' := 0) (c_X7_in l G A (mset μ0 mm rf σ α) x2 (0 : Int32) (8 : Int32) _ hw) (gk_X7_in wt_4_24) hd_X7_in (rmL_fit (k1 := 0) (k := 4) (by omega) (by decide)) rfl rfl (Nat.le_of_ble_eq_true rfl) dX7_addList_4 rfl ⟨Nat.le_of_ble_eq_true rfl, Nat.le_of_ble_eq_true rfl⟩ rfl rfl (fun r1 hw1 => ?_)
  refine j_if_eq X (pc' := 10) (tgt := 24) dX7_addList_7 rfl (by decide) (fun c2 => ?_) (fun c2 => ?_)
  · have hw2 := hw1.1 c2
    exact tb_X7_addList_24 X hMO _ _ _ _ _ hw2
  · have hw3 := hw1.2 c2
    refine j_iload_n X (pc' := 11) (kk := 3) (i := 3) 3 rfl rfl dX7_addList_10 rfl ?_
    refine j_iload_n X (pc' := 12) (kk := 2) (i := 2) 2 rfl rfl dX7_addList_11 rfl ?_
    refine j_bipush X (pc' := 14) (v := 8) (by decide) dX7_addList_12 rfl ?_
    refine j_callSp (As := [.int x3, .int x2, .int (8 : Int32)]) (rest := []) X (pc' := 17) (cells' := 0) (slots' := 0) (c_X7_in l G A (mset μ0 mm rf σ α) x3 x2 (8 : Int32) _ hw3) (gk_X7_in wt_4_24) hd_X7_in (rmL_fit (k1 := 0) (k := 4) (by omega) (by decide)) rfl rfl (Nat.le_of_ble_eq_true rfl) dX7_addList_14 rfl ⟨Nat.le_of_ble_eq_true rfl, Nat.le_of_ble_eq_true rfl⟩ rfl rfl (fun r3 hw4 => ?_)
    refine j_if_eq X (pc' := 20) (tgt := 24) dX7_addList_17 rfl (by decide) (fun c4 => ?_) (fun c4 => ?_)
    · have hw5 := hw4.1 c4
      exact tb_X7_addList_24 X hMO _ _ _ _ _ hw5
    · have hw6 := hw4.2 c4
      refine j_iconst X (pc' := 21) (v := 1) (by decide) dX7_addList_20 rfl ?_
      refine j_goto X (tgt := 25) dX7_addList_21 (by decide) ?_
      exact tb_X7_addList_25 X hMO _ _ _ _ _ _ hw6
/-! BitNotationModel.part(IZ)I -/
theorem dX7_part_0 : decode cX7_part 0 = .ok (.aload_n 0, 1) := by decide +kernel
theorem dX7_part_1 : decode cX7_part 1 = .ok (.aload_n 0, 1) := by decide +kernel
theorem dX7_part_2 : decode cX7_part 2 = .ok (.iload_n 1, 1) := by decide +kernel
theorem dX7_part_3 : decode cX7_part 3 = .ok (.invokevirtual 120, 3) := by decide +kernel
theorem dX7_part_6 : decode cX7_part 6 = .ok (.ifCond .ne 7, 3) := by decide +kernel
theorem dX7_part_9 : decode cX7_part 9 = .ok (.iconst 1, 1) := by decide +kernel
theorem dX7_part_10 : decode cX7_part 10 = .ok (.goto 17, 3) := by decide +kernel
theorem dX7_part_13 : decode cX7_part 13 = .ok (.aload_n 0, 1) := by decide +kernel
theorem dX7_part_14 : decode cX7_part 14 = .ok (.getfield 123, 3) := by decide +kernel
theorem dX7_part_17 : decode cX7_part 17 = .ok (.bipush 6, 2) := by decide +kernel
theorem dX7_part_19 : decode cX7_part 19 = .ok (.if_icmp .ne 7, 3) := by decide +kernel
theorem dX7_part_22 : decode cX7_part 22 = .ok (.iconst 2, 1) := by decide +kernel
theorem dX7_part_23 : decode cX7_part 23 = .ok (.goto 4, 3) := by decide +kernel
theorem dX7_part_26 : decode cX7_part 26 = .ok (.iconst 0, 1) := by decide +kernel
theorem dX7_part_27 : decode cX7_part 27 = .ok (.invokevirtual 109, 3) := by decide +kernel
theorem dX7_part_30 : decode cX7_part 30 = .ok (.ifCond .eq 5, 3) := by decide +kernel
theorem dX7_part_33 : decode cX7_part 33 = .ok (.iconst 0, 1) := by decide +kernel
theorem dX7_part_34 : decode cX7_part 34 = .ok (.ireturn, 1) := by decide +kernel
theorem dX7_part_35 : decode cX7_part 35 = .ok (.aload_n 0, 1) := by decide +kernel
theorem dX7_part_36 : decode cX7_part 36 = .ok (.getfield 40, 3) := by decide +kernel
theorem dX7_part_39 : decode cX7_part 39 = .ok (.aload_n 0, 1) := by decide +kernel
theorem dX7_part_40 : decode cX7_part 40 = .ok (.getfield 123, 3) := by decide +kernel
theorem dX7_part_43 : decode cX7_part 43 = .ok (.iload_n 1, 1) := by decide +kernel
theorem dX7_part_44 : decode cX7_part 44 = .ok (.iload_n 2, 1) := by decide +kernel
theorem dX7_part_45 : decode cX7_part 45 = .ok (.ifCond .eq 8, 3) := by decide +kernel
theorem dX7_part_48 : decode cX7_part 48 = .ok (.bipush 100, 2) := by decide +kernel
theorem dX7_part_50 : decode cX7_part 50 = .ok (.goto 4, 3) := by decide +kernel
theorem dX7_part_53 : decode cX7_part 53 = .ok (.iconst 0, 1) := by decide +kernel
theorem dX7_part_54 : decode cX7_part 54 = .ok (.iadd, 1) := by decide +kernel
theorem dX7_part_55 : decode cX7_part 55 = .ok (.iastore, 1) := by decide +kernel
theorem dX7_part_56 : decode cX7_part 56 = .ok (.aload_n 0, 1) := by decide +kernel
theorem dX7_part_57 : decode cX7_part 57 = .ok (.dup, 1) := by decide +kernel
theorem dX7_part_58 : decode cX7_part 58 = .ok (.getfield 123, 3) := by decide +kernel
theorem dX7_part_61 : decode cX7_part 61 = .ok (.iconst 1, 1) := by decide +kernel
theorem dX7_part_62 : decode cX7_part 62 = .ok (.iadd, 1) := by decide +kernel
theorem dX7_part_63 : decode cX7_part 63 = .ok (.putfield 123, 3) := by decide +kernel
theorem dX7_part_66 : decode cX7_part 66 = .ok (.aload_n 0, 1) := by decide +kernel
theorem dX7_part_67 : decode cX7_part 67 = .ok (.getfield 123, 3) := by decide +kernel
theorem dX7_part_70 : decode cX7_part 70 = .ok (.ireturn, 1) := by decide +kernel
def wb_X7_part_54 (post : Int32 → (Nat → Int32) → (Nat → Nat → Int32) → Prop)  (s0 : Int32) (s1 : Int32) (s2 : Int32) (σ : Nat → Int32) (α : Nat → Nat → Int32) : Prop := vp_in s2 6 ∧ ∀ α16, α16 = upA α 13 (upd (α 13) s2.toNatClampNeg (s1 + s0)) → ∀ σ18, σ18 = upd σ 12 ((σ 12) + (1 : Int32)) → post (σ18 12) σ18 α16
set_option maxHeartbeats 4000000 in
set_option maxRecDepth 100000 in
theorem tb_X7_part_54 {p : Program} {l : Launch} {e : Env} {s : State} {m : MethodId} {args : Array Value} {below : List Frame} {meth : Method} {c : Code} {G : gG} {A : Nat → Prop} {μ0 : Mm} {mm : Nat} {rf : Nat → Nat} {post : Int32 → (Nat → Int32) → (Nat → Nat → Int32) → Prop} (X : Cx p l s m args meth c cX7_part 3 (some .int) RX7 G A) (hMO : MOk mm rf) : ∀ (s0 : Int32) (s1 : Int32) (s2 : Int32) (σ : Nat → Int32) (α : Nat → Nat → Int32), wb_X7_part_54 post s0 s1 s2 σ α → J p l e (rmL (2) 0 0) s m args below meth c 3 G A (MQ below (QG G A (pI (pMi μ0 mm rf post))) args s 0 0 A) 0 0 54 [(0, .ref mm)] [.int s0, .int s1, .int s2, .ref (rf 13)] (mset μ0 mm rf σ α) := by
  intro s0 s1 s2 σ α hw
  unfold wb_X7_part_54 at hw
  refine j_iadd X (pc' := 55) dX7_part_54 rfl ?_
  have h15 := hw.1
  have hw1 := hw.2
  refine jm_iast X (pc' := 56) hMO 13 (by decide) h15 dX7_part_55 rfl (fun α16 e17 => ?_)
  have hw2 := hw1 α16 e17
  refine j_aload_n X (pc' := 57) (kk := 0) (i := 0) 0 rfl rfl dX7_part_56 rfl ?_
  refine j_dup X (pc' := 58) rfl dX7_part_57 rfl ?_
  refine j_getf X (pc' := 61) mset_o 12 rfl rfl fw_TX7 (by decide) wt_3_177 dX7_part_58 rfl ?_
  refine j_iconst X (pc' := 62) (v := 1) (by decide) dX7_part_61 rfl ?_
  refine j_iadd X (pc' := 63) dX7_part_62 rfl ?_
  refine jm_putf X (pc' := 66) 12 (mF_set_12 _ _ _) (by decide) rfl wt_3_177 (by decide +kernel) dX7_part_63 rfl (fun σ18 e19 => ?_)
  have hw3 := hw2 σ18 e19
  refine j_aload_n X (pc' := 67) (kk := 0) (i := 0) 0 rfl rfl dX7_part_66 rfl ?_
  refine j_getf X (pc' := 70) mset_o 12 rfl rfl fw_TX7 (by decide) wt_3_177 dX7_part_67 rfl ?_
  exact j_iret X ⟨_, rfl, _, _, rfl, hw3⟩ (Nat.le_of_ble_eq_true rfl) (Nat.le_of_ble_eq_true rfl) dX7_part_70
def wb_X7_part_27 (post : Int32 → (Nat → Int32) → (Nat → Nat → Int32) → Prop)  (v1 : Int32) (v2 : Int32) (s0 : Int32) (σ : Nat → Int32) (α : Nat → Nat → Int32) : Prop := wp_X7_refused s0 σ α (fun r8 σ9 α10 => (r8 = 0 → ((v2 = 0 → (wb_X7_part_54 post (0 : Int32) v1 (σ9 12) σ9 α10)) ∧ (¬ v2 = 0 → (wb_X7_part_54 post (100 : Int32) v1 (σ9 12) σ9 α10)))) ∧ (¬ r8 = 0 → (post (0 : Int32) σ9 α10)))
set_option maxHeartbeats 4000000 in
set_option maxRecDepth 100000 in
theorem tb_X7_part_27 {p : Program} {l : Launch} {e : Env} {s : State} {m : MethodId} {args : Array Value} {below : List Frame} {meth : Method} {c : Code} {G : gG} {A : Nat → Prop} {μ0 : Mm} {mm : Nat} {rf : Nat → Nat} {post : Int32 → (Nat → Int32) → (Nat → Nat → Int32) → Prop} (X : Cx p l s m args meth c cX7_part 3 (some .int) RX7 G A) (hMO : MOk mm rf) : ∀ (v1 : Int32) (v2 : Int32) (s0 : Int32) (σ : Nat → Int32) (α : Nat → Nat → Int32), wb_X7_part_27 post v1 v2 s0 σ α → J p l e (rmL (2) 0 0) s m args below meth c 3 G A (MQ below (QG G A (pI (pMi μ0 mm rf post))) args s 0 0 A) 0 0 27 [(0, .ref mm), (1, .int v1), (2, .int v2)] [.int s0, .ref mm] (mset μ0 mm rf σ α) := by
  intro v1 v2 s0 σ α hw
  unfold wb_X7_part_27 at hw
  refine j_callVi (As := [.int s0]) (rest := []) X (pc' := 30) (cells' := 0) (slots' := 0) (c_X7_refused l G A hMO μ0 s0 σ α _ hw) (gk_X7_refused wt_4_27) hd_X7_refused (rmL_fit (k1 := 0) (k := 2) (by omega) (by decide)) mset_o rfl rfl rfl (Nat.le_of_ble_eq_true rfl) dX7_part_27 rfl ⟨Nat.le_of_ble_eq_true rfl, Nat.le_of_ble_eq_true rfl⟩ rfl rfl (fun r8 μ14 hw1 => ?_)
  obtain ⟨σ9, α10, rfl, hw2⟩ := hw1
  refine j_if_eq X (pc' := 33) (tgt := 35) dX7_part_30 rfl (by decide) (fun c11 => ?_) (fun c11 => ?_)
  · have hw3 := hw2.1 c11
    refine j_aload_n X (pc' := 36) (kk := 0) (i := 0) 0 rfl rfl dX7_part_35 rfl ?_
    refine j_getf X (pc' := 39) mset_o 13 rfl rfl fw_TX7 (by decide) wt_3_178 dX7_part_36 rfl ?_
    refine j_aload_n X (pc' := 40) (kk := 0) (i := 0) 0 rfl rfl dX7_part_39 rfl ?_
    refine j_getf X (pc' := 43) mset_o 12 rfl rfl fw_TX7 (by decide) wt_3_177 dX7_part_40 rfl ?_
    refine j_iload_n X (pc' := 44) (kk := 1) (i := 1) 1 rfl rfl dX7_part_43 rfl ?_
    refine j_iload_n X (pc' := 45) (kk := 2) (i := 2) 2 rfl rfl dX7_part_44 rfl ?_
    refine j_if_eq X (pc' := 48) (tgt := 53) dX7_part_45 rfl (by decide) (fun c12 => ?_) (fun c12 => ?_)
    · have hw4 := hw3.1 c12
      refine j_iconst X (pc' := 54) (v := 0) (by decide) dX7_part_53 rfl ?_
      refine j_loc [0] rfl ?_
      exact tb_X7_part_54 X hMO _ _ _ _ _ hw4
    · have hw5 := hw3.2 c12
      refine j_bipush X (pc' := 50) (v := 100) (by decide) dX7_part_48 rfl ?_
      refine j_goto X (tgt := 54) dX7_part_50 (by decide) ?_
      refine j_loc [0] rfl ?_
      exact tb_X7_part_54 X hMO _ _ _ _ _ hw5
  · have hw6 := hw2.2 c11
    refine j_iconst X (pc' := 34) (v := 0) (by decide) dX7_part_33 rfl ?_
    exact j_iret X ⟨_, rfl, _, _, rfl, hw6⟩ (Nat.le_of_ble_eq_true rfl) (Nat.le_of_ble_eq_true rfl) dX7_part_34
def wp_X7_part (x1 : Int32) (x2 : Int32) (σ : Nat → Int32) (α : Nat → Nat → Int32) (post : Int32 → (Nat → Int32) → (Nat → Nat → Int32) → Prop) : Prop := wp_X7_isType x1 σ α (fun r1 σ2 α3 => (¬ r1 = 0 → ((¬ (σ2 12) = (6 : Int32) → (wb_X7_part_27 post x1 x2 (0 : Int32) σ2 α3)) ∧ ((σ2 12) = (6 : Int32) → (wb_X7_part_27 post x1 x2 (2 : Int32) σ2 α3)))) ∧ (r1 = 0 → (wb_X7_part_27 post x1 x2 (1 : Int32) σ2 α3)))
set_option maxHeartbeats 4000000 in
set_option maxRecDepth 100000 in
theorem c_X7_part (l : Launch) (G : gG) (A : Nat → Prop) {mm : Nat} {rf : Nat → Nat} (hMO : MOk mm rf) (μ0 : Mm) (x1 : Int32) (x2 : Int32) (σ : Nat → Int32) (α : Nat → Nat → Int32) (post : Int32 → (Nat → Int32) → (Nat → Nat → Int32) → Prop) (h : wp_X7_part x1 x2 σ α post) : Met l yX7_part (.code yX7_part cX7_part 3 (some .int) :: wsA) (rmL (2) 0 0) (PcG G A (mset μ0 mm rf σ α) [.ref mm, .int x1, .int x2]) (QG G A (pI (pMi μ0 mm rf post))) 0 0 A := by
  refine met_J (loc := [(0, .ref mm), (1, .int x1), (2, .int x2)]) (by decide +kernel) (Nat.le_of_ble_eq_true rfl) rfl ?_
  intro p e s m args below meth c X hin
  have X : Cx p l s m args meth c cX7_part 3 (some .int) RX7 G A := X
  have hw := h
  unfold wp_X7_part at hw
  refine j_aload_n X (pc' := 1) (kk := 0) (i := 0) 0 rfl rfl dX7_part_0 rfl ?_
  refine j_aload_n X (pc' := 2) (kk := 0) (i := 0) 0 rfl rfl dX7_part_1 rfl ?_
  refine j_iload_n X (pc' := 3) (kk := 1) (i := 1) 1 rfl rfl dX7_part_2 rfl ?_
  refine j_callVi (As := [.int x1]) (rest := [.ref mm]) X (pc' := 6) (cells' := 0) (slots' := 0) (c_X7_isType l G A hMO μ0 x1 σ α _ hw) (gk_X7_isType wt_4_70) hd_X7_isType (rmL_fit (k1 := 1) (k := 2) (by omega) (by decide)) mset_o rfl rfl rfl (Nat.le_of_ble_eq_true rfl) dX7_part_3 rfl ⟨Nat.le_of_ble_eq_true rfl, Nat.le_of_ble_eq_true rfl⟩ rfl rfl (fun r1 μ7 hw1 => ?_)
  obtain ⟨σ2, α3, rfl, hw2⟩ := hw1
  refine j_if_ne X (pc' := 9) (tgt := 13) dX7_part_6 rfl (by decide) (fun c4 => ?_) (fun c4 => ?_)
  · have hw3 := hw2.1 c4
    refine j_aload_n X (pc' := 14) (kk := 0) (i := 0) 0 rfl rfl dX7_part_13 rfl ?_
    refine j_getf X (pc' := 17) mset_o 12 rfl rfl fw_TX7 (by decide) wt_3_177 dX7_part_14 rfl ?_
    refine j_bipush X (pc' := 19) (v := 6) (by decide) dX7_part_17 rfl ?_
    refine j_icmp_ne X (pc' := 22) (tgt := 26) dX7_part_19 rfl (by decide) (fun c5 => ?_) (fun c5 => ?_)
    · have hw4 := hw3.1 c5
      refine j_iconst X (pc' := 27) (v := 0) (by decide) dX7_part_26 rfl ?_
      exact tb_X7_part_27 X hMO _ _ _ _ _ hw4
    · have hw5 := hw3.2 c5
      refine j_iconst X (pc' := 23) (v := 2) (by decide) dX7_part_22 rfl ?_
      refine j_goto X (tgt := 27) dX7_part_23 (by decide) ?_
      exact tb_X7_part_27 X hMO _ _ _ _ _ hw5
  · have hw6 := hw2.2 c4
    refine j_iconst X (pc' := 10) (v := 1) (by decide) dX7_part_9 rfl ?_
    refine j_goto X (tgt := 27) dX7_part_10 (by decide) ?_
    exact tb_X7_part_27 X hMO _ _ _ _ _ hw6
/-! BitNotationModel.addDraft(I)I -/
theorem dX7_addDraft_0 : decode cX7_addDraft 0 = .ok (.aload_n 0, 1) := by decide +kernel
theorem dX7_addDraft_1 : decode cX7_addDraft 1 = .ok (.getfield 123, 3) := by decide +kernel
theorem dX7_addDraft_4 : decode cX7_addDraft 4 = .ok (.ifCond .le 16, 3) := by decide +kernel
theorem dX7_addDraft_7 : decode cX7_addDraft 7 = .ok (.aload_n 0, 1) := by decide +kernel
theorem dX7_addDraft_8 : decode cX7_addDraft 8 = .ok (.getfield 77, 3) := by decide +kernel
theorem dX7_addDraft_11 : decode cX7_addDraft 11 = .ok (.bipush 16, 2) := by decide +kernel
theorem dX7_addDraft_13 : decode cX7_addDraft 13 = .ok (.if_icmp .ge 7, 3) := by decide +kernel
theorem dX7_addDraft_16 : decode cX7_addDraft 16 = .ok (.iconst 1, 1) := by decide +kernel
theorem dX7_addDraft_17 : decode cX7_addDraft 17 = .ok (.goto 4, 3) := by decide +kernel
theorem dX7_addDraft_20 : decode cX7_addDraft 20 = .ok (.iconst 0, 1) := by decide +kernel
theorem dX7_addDraft_21 : decode cX7_addDraft 21 = .ok (.istore_n 2, 1) := by decide +kernel
theorem dX7_addDraft_22 : decode cX7_addDraft 22 = .ok (.iload_n 2, 1) := by decide +kernel
theorem dX7_addDraft_23 : decode cX7_addDraft 23 = .ok (.ifCond .eq 59, 3) := by decide +kernel
theorem dX7_addDraft_26 : decode cX7_addDraft 26 = .ok (.aload_n 0, 1) := by decide +kernel
theorem dX7_addDraft_27 : decode cX7_addDraft 27 = .ok (.iload_n 1, 1) := by decide +kernel
theorem dX7_addDraft_28 : decode cX7_addDraft 28 = .ok (.iconst 0, 1) := by decide +kernel
theorem dX7_addDraft_29 : decode cX7_addDraft 29 = .ok (.iconst 0, 1) := by decide +kernel
theorem dX7_addDraft_30 : decode cX7_addDraft 30 = .ok (.aload_n 0, 1) := by decide +kernel
theorem dX7_addDraft_31 : decode cX7_addDraft 31 = .ok (.getfield 123, 3) := by decide +kernel
theorem dX7_addDraft_34 : decode cX7_addDraft 34 = .ok (.invokevirtual 113, 3) := by decide +kernel
theorem dX7_addDraft_37 : decode cX7_addDraft 37 = .ok (.iconst 0, 1) := by decide +kernel
theorem dX7_addDraft_38 : decode cX7_addDraft 38 = .ok (.istore_n 3, 1) := by decide +kernel
theorem dX7_addDraft_39 : decode cX7_addDraft 39 = .ok (.iload_n 3, 1) := by decide +kernel
theorem dX7_addDraft_40 : decode cX7_addDraft 40 = .ok (.aload_n 0, 1) := by decide +kernel
theorem dX7_addDraft_41 : decode cX7_addDraft 41 = .ok (.getfield 123, 3) := by decide +kernel
theorem dX7_addDraft_44 : decode cX7_addDraft 44 = .ok (.if_icmp .ge 29, 3) := by decide +kernel
theorem dX7_addDraft_47 : decode cX7_addDraft 47 = .ok (.aload_n 0, 1) := by decide +kernel
theorem dX7_addDraft_48 : decode cX7_addDraft 48 = .ok (.getfield 19, 3) := by decide +kernel
theorem dX7_addDraft_51 : decode cX7_addDraft 51 = .ok (.bipush 6, 2) := by decide +kernel
theorem dX7_addDraft_53 : decode cX7_addDraft 53 = .ok (.aload_n 0, 1) := by decide +kernel
theorem dX7_addDraft_54 : decode cX7_addDraft 54 = .ok (.getfield 77, 3) := by decide +kernel
theorem dX7_addDraft_57 : decode cX7_addDraft 57 = .ok (.imul, 1) := by decide +kernel
theorem dX7_addDraft_58 : decode cX7_addDraft 58 = .ok (.iload_n 3, 1) := by decide +kernel
theorem dX7_addDraft_59 : decode cX7_addDraft 59 = .ok (.iadd, 1) := by decide +kernel
theorem dX7_addDraft_60 : decode cX7_addDraft 60 = .ok (.aload_n 0, 1) := by decide +kernel
theorem dX7_addDraft_61 : decode cX7_addDraft 61 = .ok (.getfield 40, 3) := by decide +kernel
theorem dX7_addDraft_64 : decode cX7_addDraft 64 = .ok (.iload_n 3, 1) := by decide +kernel
theorem dX7_addDraft_65 : decode cX7_addDraft 65 = .ok (.iaload, 1) := by decide +kernel
theorem dX7_addDraft_66 : decode cX7_addDraft 66 = .ok (.iastore, 1) := by decide +kernel
theorem dX7_addDraft_67 : decode cX7_addDraft 67 = .ok (.iinc 3 1, 3) := by decide +kernel
theorem dX7_addDraft_70 : decode cX7_addDraft 70 = .ok (.goto (-31), 3) := by decide +kernel
theorem dX7_addDraft_73 : decode cX7_addDraft 73 = .ok (.aload_n 0, 1) := by decide +kernel
theorem dX7_addDraft_74 : decode cX7_addDraft 74 = .ok (.aload_n 0, 1) := by decide +kernel
theorem dX7_addDraft_75 : decode cX7_addDraft 75 = .ok (.getfield 77, 3) := by decide +kernel
theorem dX7_addDraft_78 : decode cX7_addDraft 78 = .ok (.invokevirtual 117, 3) := by decide +kernel
theorem dX7_addDraft_81 : decode cX7_addDraft 81 = .ok (.istore_n 2, 1) := by decide +kernel
theorem dX7_addDraft_82 : decode cX7_addDraft 82 = .ok (.aload_n 0, 1) := by decide +kernel
theorem dX7_addDraft_83 : decode cX7_addDraft 83 = .ok (.iload_n 2, 1) := by decide +kernel
theorem dX7_addDraft_84 : decode cX7_addDraft 84 = .ok (.ifCond .eq 7, 3) := by decide +kernel
theorem dX7_addDraft_87 : decode cX7_addDraft 87 = .ok (.iconst 0, 1) := by decide +kernel
theorem dX7_addDraft_88 : decode cX7_addDraft 88 = .ok (.goto 4, 3) := by decide +kernel
theorem dX7_addDraft_91 : decode cX7_addDraft 91 = .ok (.iconst 1, 1) := by decide +kernel
theorem dX7_addDraft_92 : decode cX7_addDraft 92 = .ok (.invokevirtual 109, 3) := by decide +kernel
theorem dX7_addDraft_95 : decode cX7_addDraft 95 = .ok (.ifCond .eq 5, 3) := by decide +kernel
theorem dX7_addDraft_98 : decode cX7_addDraft 98 = .ok (.iconst 0, 1) := by decide +kernel
theorem dX7_addDraft_99 : decode cX7_addDraft 99 = .ok (.ireturn, 1) := by decide +kernel
theorem dX7_addDraft_100 : decode cX7_addDraft 100 = .ok (.aload_n 0, 1) := by decide +kernel
theorem dX7_addDraft_101 : decode cX7_addDraft 101 = .ok (.iconst 0, 1) := by decide +kernel
theorem dX7_addDraft_102 : decode cX7_addDraft 102 = .ok (.putfield 123, 3) := by decide +kernel
theorem dX7_addDraft_105 : decode cX7_addDraft 105 = .ok (.aload_n 0, 1) := by decide +kernel
theorem dX7_addDraft_106 : decode cX7_addDraft 106 = .ok (.dup, 1) := by decide +kernel
theorem dX7_addDraft_107 : decode cX7_addDraft 107 = .ok (.getfield 77, 3) := by decide +kernel
theorem dX7_addDraft_110 : decode cX7_addDraft 110 = .ok (.iconst 1, 1) := by decide +kernel
theorem dX7_addDraft_111 : decode cX7_addDraft 111 = .ok (.iadd, 1) := by decide +kernel
theorem dX7_addDraft_112 : decode cX7_addDraft 112 = .ok (.putfield 77, 3) := by decide +kernel
theorem dX7_addDraft_115 : decode cX7_addDraft 115 = .ok (.aload_n 0, 1) := by decide +kernel
theorem dX7_addDraft_116 : decode cX7_addDraft 116 = .ok (.getfield 77, 3) := by decide +kernel
theorem dX7_addDraft_119 : decode cX7_addDraft 119 = .ok (.iconst 1, 1) := by decide +kernel
theorem dX7_addDraft_120 : decode cX7_addDraft 120 = .ok (.isub, 1) := by decide +kernel
theorem dX7_addDraft_121 : decode cX7_addDraft 121 = .ok (.ireturn, 1) := by decide +kernel
def wb_X7_addDraft_92 (post : Int32 → (Nat → Int32) → (Nat → Nat → Int32) → Prop)  (s0 : Int32) (σ : Nat → Int32) (α : Nat → Nat → Int32) : Prop := wp_X7_refused s0 σ α (fun r20 σ21 α22 => (r20 = 0 → (∀ σ24, σ24 = upd σ21 12 (0 : Int32) → ∀ σ26, σ26 = upd σ24 1 ((σ24 1) + (1 : Int32)) → post ((σ26 1) - (1 : Int32)) σ26 α22)) ∧ (¬ r20 = 0 → (post (0 : Int32) σ21 α22)))
set_option maxHeartbeats 4000000 in
set_option maxRecDepth 100000 in
theorem tb_X7_addDraft_92 {p : Program} {l : Launch} {e : Env} {s : State} {m : MethodId} {args : Array Value} {below : List Frame} {meth : Method} {c : Code} {G : gG} {A : Nat → Prop} {μ0 : Mm} {mm : Nat} {rf : Nat → Nat} {post : Int32 → (Nat → Int32) → (Nat → Nat → Int32) → Prop} (X : Cx p l s m args meth c cX7_addDraft 4 (some .int) RX7 G A) (hMO : MOk mm rf) : ∀ (s0 : Int32) (σ : Nat → Int32) (α : Nat → Nat → Int32), wb_X7_addDraft_92 post s0 σ α → J p l e (rmL (4) 0 0) s m args below meth c 4 G A (MQ below (QG G A (pI (pMi μ0 mm rf post))) args s 0 0 A) 0 0 92 [(0, .ref mm)] [.int s0, .ref mm] (mset μ0 mm rf σ α) := by
  intro s0 σ α hw
  unfold wb_X7_addDraft_92 at hw
  refine j_callVi (As := [.int s0]) (rest := []) X (pc' := 95) (cells' := 0) (slots' := 0) (c_X7_refused l G A hMO μ0 s0 σ α _ hw) (gk_X7_refused wt_4_27) hd_X7_refused (rmL_fit (k1 := 0) (k := 4) (by omega) (by decide)) mset_o rfl rfl rfl (Nat.le_of_ble_eq_true rfl) dX7_addDraft_92 rfl ⟨Nat.le_of_ble_eq_true rfl, Nat.le_of_ble_eq_true rfl⟩ rfl rfl (fun r20 μ29 hw1 => ?_)
  obtain ⟨σ21, α22, rfl, hw2⟩ := hw1
  refine j_if_eq X (pc' := 98) (tgt := 100) dX7_addDraft_95 rfl (by decide) (fun c23 => ?_) (fun c23 => ?_)
  · have hw3 := hw2.1 c23
    refine j_aload_n X (pc' := 101) (kk := 0) (i := 0) 0 rfl rfl dX7_addDraft_100 rfl ?_
    refine j_iconst X (pc' := 102) (v := 0) (by decide) dX7_addDraft_101 rfl ?_
    refine jm_putf X (pc' := 105) 12 (mF_set_12 _ _ _) (by decide) rfl wt_3_177 (by decide +kernel) dX7_addDraft_102 rfl (fun σ24 e25 => ?_)
    have hw4 := hw3 σ24 e25
    refine j_aload_n X (pc' := 106) (kk := 0) (i := 0) 0 rfl rfl dX7_addDraft_105 rfl ?_
    refine j_dup X (pc' := 107) rfl dX7_addDraft_106 rfl ?_
    refine j_getf X (pc' := 110) mset_o 1 rfl rfl fw_TX7 (by decide) wt_3_166 dX7_addDraft_107 rfl ?_
    refine j_iconst X (pc' := 111) (v := 1) (by decide) dX7_addDraft_110 rfl ?_
    refine j_iadd X (pc' := 112) dX7_addDraft_111 rfl ?_
    refine jm_putf X (pc' := 115) 1 (mF_set_1 _ _ _) (by decide) rfl wt_3_166 (by decide +kernel) dX7_addDraft_112 rfl (fun σ26 e27 => ?_)
    have hw5 := hw4 σ26 e27
    refine j_aload_n X (pc' := 116) (kk := 0) (i := 0) 0 rfl rfl dX7_addDraft_115 rfl ?_
    refine j_getf X (pc' := 119) mset_o 1 rfl rfl fw_TX7 (by decide) wt_3_166 dX7_addDraft_116 rfl ?_
    refine j_iconst X (pc' := 120) (v := 1) (by decide) dX7_addDraft_119 rfl ?_
    refine j_isub X (pc' := 121) dX7_addDraft_120 rfl ?_
    exact j_iret X ⟨_, rfl, _, _, rfl, hw5⟩ (Nat.le_of_ble_eq_true rfl) (Nat.le_of_ble_eq_true rfl) dX7_addDraft_121
  · have hw6 := hw2.2 c23
    refine j_iconst X (pc' := 99) (v := 0) (by decide) dX7_addDraft_98 rfl ?_
    exact j_iret X ⟨_, rfl, _, _, rfl, hw6⟩ (Nat.le_of_ble_eq_true rfl) (Nat.le_of_ble_eq_true rfl) dX7_addDraft_99
def wb_X7_addDraft_82 (post : Int32 → (Nat → Int32) → (Nat → Nat → Int32) → Prop)  (v2 : Int32) (σ : Nat → Int32) (α : Nat → Nat → Int32) : Prop := (v2 = 0 → (wb_X7_addDraft_92 post (1 : Int32) σ α)) ∧ (¬ v2 = 0 → (wb_X7_addDraft_92 post (0 : Int32) σ α))
set_option maxHeartbeats 4000000 in
set_option maxRecDepth 100000 in
theorem tb_X7_addDraft_82 {p : Program} {l : Launch} {e : Env} {s : State} {m : MethodId} {args : Array Value} {below : List Frame} {meth : Method} {c : Code} {G : gG} {A : Nat → Prop} {μ0 : Mm} {mm : Nat} {rf : Nat → Nat} {post : Int32 → (Nat → Int32) → (Nat → Nat → Int32) → Prop} (X : Cx p l s m args meth c cX7_addDraft 4 (some .int) RX7 G A) (hMO : MOk mm rf) : ∀ (v2 : Int32) (σ : Nat → Int32) (α : Nat → Nat → Int32), wb_X7_addDraft_82 post v2 σ α → J p l e (rmL (4) 0 0) s m args below meth c 4 G A (MQ below (QG G A (pI (pMi μ0 mm rf post))) args s 0 0 A) 0 0 82 [(0, .ref mm), (2, .int v2)] [] (mset μ0 mm rf σ α) := by
  intro v2 σ α hw
  unfold wb_X7_addDraft_82 at hw
  refine j_aload_n X (pc' := 83) (kk := 0) (i := 0) 0 rfl rfl dX7_addDraft_82 rfl ?_
  refine j_iload_n X (pc' := 84) (kk := 2) (i := 2) 1 rfl rfl dX7_addDraft_83 rfl ?_
  refine j_if_eq X (pc' := 87) (tgt := 91) dX7_addDraft_84 rfl (by decide) (fun c9 => ?_) (fun c9 => ?_)
  · have hw1 := hw.1 c9
    refine j_iconst X (pc' := 92) (v := 1) (by decide) dX7_addDraft_91 rfl ?_
    refine j_loc [0] rfl ?_
    exact tb_X7_addDraft_92 X hMO _ _ _ hw1
  · have hw2 := hw.2 c9
    refine j_iconst X (pc' := 88) (v := 0) (by decide) dX7_addDraft_87 rfl ?_
    refine j_goto X (tgt := 92) dX7_addDraft_88 (by decide) ?_
    refine j_loc [0] rfl ?_
    exact tb_X7_addDraft_92 X hMO _ _ _ hw2
def wb_X7_addDraft_39 (post : Int32 → (Nat → Int32) → (Nat → Nat → Int32) → Prop)  : Nat → Int32 → (Nat → Int32) → (Nat → Nat → Int32) → Prop
  | 0 => fun _ _ _ => False
  | n + 1 => fun v3 σ α => ((σ 12) ≤ v3 → (wp_X7_measure (σ 1) σ α (fun r11 σ12 α13 => wb_X7_addDraft_82 post r11 σ12 α13))) ∧ (¬ (σ 12) ≤ v3 → (vp_in v3 6 ∧ vp_in (((6 : Int32) * (σ 1)) + v3) 96 ∧ ∀ α18, α18 = upA α 5 (upd (α 5) (((6 : Int32) * (σ 1)) + v3).toNatClampNeg (α 13 v3.toNatClampNeg)) → wb_X7_addDraft_39 post n (v3 + 1) σ α18))
set_option maxHeartbeats 4000000 in
set_option maxRecDepth 100000 in
theorem tb_X7_addDraft_39 {p : Program} {l : Launch} {e : Env} {s : State} {m : MethodId} {args : Array Value} {below : List Frame} {meth : Method} {c : Code} {G : gG} {A : Nat → Prop} {μ0 : Mm} {mm : Nat} {rf : Nat → Nat} {post : Int32 → (Nat → Int32) → (Nat → Nat → Int32) → Prop} (X : Cx p l s m args meth c cX7_addDraft 4 (some .int) RX7 G A) (hMO : MOk mm rf) : ∀ (n : Nat) (v3 : Int32) (σ : Nat → Int32) (α : Nat → Nat → Int32), wb_X7_addDraft_39 post n v3 σ α → J p l e (rmL (4) 0 0) s m args below meth c 4 G A (MQ below (QG G A (pI (pMi μ0 mm rf post))) args s 0 0 A) 0 0 39 [(0, .ref mm), (3, .int v3)] [] (mset μ0 mm rf σ α) := by
  intro n
  induction n with
  | zero => intro v3 σ α hw; exact hw.elim
  | succ n ih =>
    intro v3 σ α hw
    rw [wb_X7_addDraft_39] at hw
    refine j_iload_n X (pc' := 40) (kk := 3) (i := 3) 1 rfl rfl dX7_addDraft_39 rfl ?_
    refine j_aload_n X (pc' := 41) (kk := 0) (i := 0) 0 rfl rfl dX7_addDraft_40 rfl ?_
    refine j_getf X (pc' := 44) mset_o 12 rfl rfl fw_TX7 (by decide) wt_3_177 dX7_addDraft_41 rfl ?_
    refine j_icmp_ge X (pc' := 47) (tgt := 73) dX7_addDraft_44 rfl (by decide) (fun c10 => ?_) (fun c10 => ?_)
    · have hw1 := hw.1 c10
      refine j_aload_n X (pc' := 74) (kk := 0) (i := 0) 0 rfl rfl dX7_addDraft_73 rfl ?_
      refine j_aload_n X (pc' := 75) (kk := 0) (i := 0) 0 rfl rfl dX7_addDraft_74 rfl ?_
      refine j_getf X (pc' := 78) mset_o 1 rfl rfl fw_TX7 (by decide) wt_3_166 dX7_addDraft_75 rfl ?_
      refine j_callVi (As := [.int (σ 1)]) (rest := []) X (pc' := 81) (cells' := 0) (slots' := 0) (c_X7_measure l G A hMO μ0 (σ 1) σ α _ hw1) (gk_X7_measure wt_4_35) hd_X7_measure (rmL_fit (k1 := 3) (k := 4) (by omega) (by decide)) mset_o rfl rfl rfl (Nat.le_of_ble_eq_true rfl) dX7_addDraft_78 rfl ⟨Nat.le_of_ble_eq_true rfl, Nat.le_of_ble_eq_true rfl⟩ rfl rfl (fun r11 μ15 hw2 => ?_)
      obtain ⟨σ12, α13, rfl, hw3⟩ := hw2
      refine j_istore_n X (pc' := 82) (kk := 2) (i := 2) (loc' := [(2, .int r11), (0, .ref mm), (3, .int v3)]) dX7_addDraft_81 rfl rfl (by decide) rfl ?_
      refine j_loc [1, 0] rfl ?_
      exact tb_X7_addDraft_82 X hMO _ _ _ hw3
    · have hw4 := hw.2 c10
      refine j_aload_n X (pc' := 48) (kk := 0) (i := 0) 0 rfl rfl dX7_addDraft_47 rfl ?_
      refine j_getf X (pc' := 51) mset_o 5 rfl rfl fw_TX7 (by decide) wt_3_170 dX7_addDraft_48 rfl ?_
      refine j_bipush X (pc' := 53) (v := 6) (by decide) dX7_addDraft_51 rfl ?_
      refine j_aload_n X (pc' := 54) (kk := 0) (i := 0) 0 rfl rfl dX7_addDraft_53 rfl ?_
      refine j_getf X (pc' := 57) mset_o 1 rfl rfl fw_TX7 (by decide) wt_3_166 dX7_addDraft_54 rfl ?_
      refine j_imul X (pc' := 58) dX7_addDraft_57 rfl ?_
      refine j_iload_n X (pc' := 59) (kk := 3) (i := 3) 1 rfl rfl dX7_addDraft_58 rfl ?_
      refine j_iadd X (pc' := 60) dX7_addDraft_59 rfl ?_
      refine j_aload_n X (pc' := 61) (kk := 0) (i := 0) 0 rfl rfl dX7_addDraft_60 rfl ?_
      refine j_getf X (pc' := 64) mset_o 13 rfl rfl fw_TX7 (by decide) wt_3_178 dX7_addDraft_61 rfl ?_
      refine j_iload_n X (pc' := 65) (kk := 3) (i := 3) 1 rfl rfl dX7_addDraft_64 rfl ?_
      have h16 := hw4.1
      have hw5 := hw4.2
      refine j_iald X (pc' := 66) (mset_a hMO 13 (by decide)) h16 dX7_addDraft_65 rfl ?_
      have h17 := hw5.1
      have hw6 := hw5.2
      refine jm_iast X (pc' := 67) hMO 5 (by decide) h17 dX7_addDraft_66 rfl (fun α18 e19 => ?_)
      have hw7 := hw6 α18 e19
      refine j_iinc X (pc' := 70) (i := 3) (v := v3 + 1) (loc' := [(3, .int (v3 + 1)), (0, .ref mm)]) 1 rfl rfl dX7_addDraft_67 rfl (by decide) rfl ?_
      refine j_goto X (tgt := 39) dX7_addDraft_70 (by decide) ?_
      refine j_loc [1, 0] rfl ?_
      exact ih _ _ _ hw7
def wb_X7_addDraft_21 (post : Int32 → (Nat → Int32) → (Nat → Nat → Int32) → Prop)  (v1 : Int32) (s0 : Int32) (σ : Nat → Int32) (α : Nat → Nat → Int32) : Prop := (s0 = 0 → (wb_X7_addDraft_82 post s0 σ α)) ∧ (¬ s0 = 0 → (wp_X7_lay v1 (0 : Int32) (0 : Int32) (σ 12) σ α (fun σ5 α6 => ∃ n, wb_X7_addDraft_39 post n (0 : Int32) σ5 α6)))
set_option maxHeartbeats 4000000 in
set_option maxRecDepth 100000 in
theorem tb_X7_addDraft_21 {p : Program} {l : Launch} {e : Env} {s : State} {m : MethodId} {args : Array Value} {below : List Frame} {meth : Method} {c : Code} {G : gG} {A : Nat → Prop} {μ0 : Mm} {mm : Nat} {rf : Nat → Nat} {post : Int32 → (Nat → Int32) → (Nat → Nat → Int32) → Prop} (X : Cx p l s m args meth c cX7_addDraft 4 (some .int) RX7 G A) (hMO : MOk mm rf) : ∀ (v1 : Int32) (s0 : Int32) (σ : Nat → Int32) (α : Nat → Nat → Int32), wb_X7_addDraft_21 post v1 s0 σ α → J p l e (rmL (4) 0 0) s m args below meth c 4 G A (MQ below (QG G A (pI (pMi μ0 mm rf post))) args s 0 0 A) 0 0 21 [(0, .ref mm), (1, .int v1)] [.int s0] (mset μ0 mm rf σ α) := by
  intro v1 s0 σ α hw
  unfold wb_X7_addDraft_21 at hw
  refine j_istore_n X (pc' := 22) (kk := 2) (i := 2) (loc' := [(2, .int s0), (0, .ref mm), (1, .int v1)]) dX7_addDraft_21 rfl rfl (by decide) rfl ?_
  refine j_iload_n X (pc' := 23) (kk := 2) (i := 2) 0 rfl rfl dX7_addDraft_22 rfl ?_
  refine j_if_eq X (pc' := 26) (tgt := 82) dX7_addDraft_23 rfl (by decide) (fun c3 => ?_) (fun c3 => ?_)
  · have hw1 := hw.1 c3
    refine j_loc [1, 0] rfl ?_
    exact tb_X7_addDraft_82 X hMO _ _ _ hw1
  · have hw2 := hw.2 c3
    refine j_aload_n X (pc' := 27) (kk := 0) (i := 0) 1 rfl rfl dX7_addDraft_26 rfl ?_
    refine j_iload_n X (pc' := 28) (kk := 1) (i := 1) 2 rfl rfl dX7_addDraft_27 rfl ?_
    refine j_iconst X (pc' := 29) (v := 0) (by decide) dX7_addDraft_28 rfl ?_
    refine j_iconst X (pc' := 30) (v := 0) (by decide) dX7_addDraft_29 rfl ?_
    refine j_aload_n X (pc' := 31) (kk := 0) (i := 0) 1 rfl rfl dX7_addDraft_30 rfl ?_
    refine j_getf X (pc' := 34) mset_o 12 rfl rfl fw_TX7 (by decide) wt_3_177 dX7_addDraft_31 rfl ?_
    refine j_callVv (As := [.int v1, .int (0 : Int32), .int (0 : Int32), .int (σ 12)]) (rest := []) X (pc' := 37) (cells' := 0) (slots' := 0) (c_X7_lay l G A hMO μ0 v1 (0 : Int32) (0 : Int32) (σ 12) σ α _ hw2) (gk_X7_lay wt_4_31) hd_X7_lay (rmL_fit (k1 := 0) (k := 4) (by omega) (by decide)) mset_o rfl rfl rfl (Nat.le_of_ble_eq_true rfl) dX7_addDraft_34 rfl ⟨Nat.le_of_ble_eq_true rfl, Nat.le_of_ble_eq_true rfl⟩ rfl rfl (fun μ8 hw3 => ?_)
    obtain ⟨σ5, α6, rfl, hw4⟩ := hw3
    refine j_iconst X (pc' := 38) (v := 0) (by decide) dX7_addDraft_37 rfl ?_
    refine j_istore_n X (pc' := 39) (kk := 3) (i := 3) (loc' := [(3, .int ((0 : Int32))), (2, .int s0), (0, .ref mm), (1, .int v1)]) dX7_addDraft_38 rfl rfl (by decide) rfl ?_
    obtain ⟨n0, hw5⟩ := hw4
    refine j_loc [2, 0] rfl ?_
    exact tb_X7_addDraft_39 X hMO n0 _ _ _ hw5
def wb_X7_addDraft_20 (post : Int32 → (Nat → Int32) → (Nat → Nat → Int32) → Prop)  (v1 : Int32) (σ : Nat → Int32) (α : Nat → Nat → Int32) : Prop := wb_X7_addDraft_21 post v1 (0 : Int32) σ α
set_option maxHeartbeats 4000000 in
set_option maxRecDepth 100000 in
theorem tb_X7_addDraft_20 {p : Program} {l : Launch} {e : Env} {s : State} {m : MethodId} {args : Array Value} {below : List Frame} {meth : Method} {c : Code} {G : gG} {A : Nat → Prop} {μ0 : Mm} {mm : Nat} {rf : Nat → Nat} {post : Int32 → (Nat → Int32) → (Nat → Nat → Int32) → Prop} (X : Cx p l s m args meth c cX7_addDraft 4 (some .int) RX7 G A) (hMO : MOk mm rf) : ∀ (v1 : Int32) (σ : Nat → Int32) (α : Nat → Nat → Int32), wb_X7_addDraft_20 post v1 σ α → J p l e (rmL (4) 0 0) s m args below meth c 4 G A (MQ below (QG G A (pI (pMi μ0 mm rf post))) args s 0 0 A) 0 0 20 [(0, .ref mm), (1, .int v1)] [] (mset μ0 mm rf σ α) := by
  intro v1 σ α hw
  unfold wb_X7_addDraft_20 at hw
  refine j_iconst X (pc' := 21) (v := 0) (by decide) dX7_addDraft_20 rfl ?_
  exact tb_X7_addDraft_21 X hMO _ _ _ _ hw
def wp_X7_addDraft (x1 : Int32) (σ : Nat → Int32) (α : Nat → Nat → Int32) (post : Int32 → (Nat → Int32) → (Nat → Nat → Int32) → Prop) : Prop := ((σ 12) ≤ 0 → (wb_X7_addDraft_20 post x1 σ α)) ∧ (¬ (σ 12) ≤ 0 → (((16 : Int32) ≤ (σ 1) → (wb_X7_addDraft_20 post x1 σ α)) ∧ (¬ (16 : Int32) ≤ (σ 1) → (wb_X7_addDraft_21 post x1 (1 : Int32) σ α))))
set_option maxHeartbeats 4000000 in
set_option maxRecDepth 100000 in
theorem c_X7_addDraft (l : Launch) (G : gG) (A : Nat → Prop) {mm : Nat} {rf : Nat → Nat} (hMO : MOk mm rf) (μ0 : Mm) (x1 : Int32) (σ : Nat → Int32) (α : Nat → Nat → Int32) (post : Int32 → (Nat → Int32) → (Nat → Nat → Int32) → Prop) (h : wp_X7_addDraft x1 σ α post) : Met l yX7_addDraft (.code yX7_addDraft cX7_addDraft 4 (some .int) :: wsA) (rmL (4) 0 0) (PcG G A (mset μ0 mm rf σ α) [.ref mm, .int x1]) (QG G A (pI (pMi μ0 mm rf post))) 0 0 A := by
  refine met_J (loc := [(0, .ref mm), (1, .int x1)]) (by decide +kernel) (Nat.le_of_ble_eq_true rfl) rfl ?_
  intro p e s m args below meth c X hin
  have X : Cx p l s m args meth c cX7_addDraft 4 (some .int) RX7 G A := X
  have hw := h
  unfold wp_X7_addDraft at hw
  refine j_aload_n X (pc' := 1) (kk := 0) (i := 0) 0 rfl rfl dX7_addDraft_0 rfl ?_
  refine j_getf X (pc' := 4) mset_o 12 rfl rfl fw_TX7 (by decide) wt_3_177 dX7_addDraft_1 rfl ?_
  refine j_if_le X (pc' := 7) (tgt := 20) dX7_addDraft_4 rfl (by decide) (fun c1 => ?_) (fun c1 => ?_)
  · have hw1 := hw.1 c1
    exact tb_X7_addDraft_20 X hMO _ _ _ hw1
  · have hw2 := hw.2 c1
    refine j_aload_n X (pc' := 8) (kk := 0) (i := 0) 0 rfl rfl dX7_addDraft_7 rfl ?_
    refine j_getf X (pc' := 11) mset_o 1 rfl rfl fw_TX7 (by decide) wt_3_166 dX7_addDraft_8 rfl ?_
    refine j_bipush X (pc' := 13) (v := 16) (by decide) dX7_addDraft_11 rfl ?_
    refine j_icmp_ge X (pc' := 16) (tgt := 20) dX7_addDraft_13 rfl (by decide) (fun c2 => ?_) (fun c2 => ?_)
    · have hw3 := hw2.1 c2
      exact tb_X7_addDraft_20 X hMO _ _ _ hw3
    · have hw4 := hw2.2 c2
      refine j_iconst X (pc' := 17) (v := 1) (by decide) dX7_addDraft_16 rfl ?_
      refine j_goto X (tgt := 21) dX7_addDraft_17 (by decide) ?_
      exact tb_X7_addDraft_21 X hMO _ _ _ _ hw4
/-! BitNotationModel.addSequence()I -/
theorem dX7_addSequence_0 : decode cX7_addSequence 0 = .ok (.aload_n 0, 1) := by decide +kernel
theorem dX7_addSequence_1 : decode cX7_addSequence 1 = .ok (.iconst 2, 1) := by decide +kernel
theorem dX7_addSequence_2 : decode cX7_addSequence 2 = .ok (.invokevirtual 126, 3) := by decide +kernel
theorem dX7_addSequence_5 : decode cX7_addSequence 5 = .ok (.ireturn, 1) := by decide +kernel
def wp_X7_addSequence (σ : Nat → Int32) (α : Nat → Nat → Int32) (post : Int32 → (Nat → Int32) → (Nat → Nat → Int32) → Prop) : Prop := wp_X7_addDraft (2 : Int32) σ α (fun r1 σ2 α3 => post r1 σ2 α3)
set_option maxHeartbeats 4000000 in
set_option maxRecDepth 100000 in
theorem c_X7_addSequence (l : Launch) (G : gG) (A : Nat → Prop) {mm : Nat} {rf : Nat → Nat} (hMO : MOk mm rf) (μ0 : Mm) (σ : Nat → Int32) (α : Nat → Nat → Int32) (post : Int32 → (Nat → Int32) → (Nat → Nat → Int32) → Prop) (h : wp_X7_addSequence σ α post) : Met l yX7_addSequence (.code yX7_addSequence cX7_addSequence 1 (some .int) :: wsA) (rmL (5) 0 0) (PcG G A (mset μ0 mm rf σ α) [.ref mm]) (QG G A (pI (pMi μ0 mm rf post))) 0 0 A := by
  refine met_J (loc := [(0, .ref mm)]) (by decide +kernel) (Nat.le_of_ble_eq_true rfl) rfl ?_
  intro p e s m args below meth c X hin
  have X : Cx p l s m args meth c cX7_addSequence 1 (some .int) RX7 G A := X
  have hw := h
  unfold wp_X7_addSequence at hw
  refine j_aload_n X (pc' := 1) (kk := 0) (i := 0) 0 rfl rfl dX7_addSequence_0 rfl ?_
  refine j_iconst X (pc' := 2) (v := 2) (by decide) dX7_addSequence_1 rfl ?_
  refine j_callVi (As := [.int (2 : Int32)]) (rest := []) X (pc' := 5) (cells' := 0) (slots' := 0) (c_X7_addDraft l G A hMO μ0 (2 : Int32) σ α _ hw) (gk_X7_addDraft wt_4_82) hd_X7_addDraft (rmL_fit (k1 := 4) (k := 5) (by omega) (by decide)) mset_o rfl rfl rfl (Nat.le_of_ble_eq_true rfl) dX7_addSequence_2 rfl ⟨Nat.le_of_ble_eq_true rfl, Nat.le_of_ble_eq_true rfl⟩ rfl rfl (fun r1 μ5 hw1 => ?_)
  obtain ⟨σ2, α3, rfl, hw2⟩ := hw1
  exact j_iret X ⟨_, rfl, _, _, rfl, hw2⟩ (Nat.le_of_ble_eq_true rfl) (Nat.le_of_ble_eq_true rfl) dX7_addSequence_5
/-! BitNotationModel.addChoice()I -/
theorem dX7_addChoice_0 : decode cX7_addChoice 0 = .ok (.aload_n 0, 1) := by decide +kernel
theorem dX7_addChoice_1 : decode cX7_addChoice 1 = .ok (.iconst 3, 1) := by decide +kernel
theorem dX7_addChoice_2 : decode cX7_addChoice 2 = .ok (.invokevirtual 126, 3) := by decide +kernel
theorem dX7_addChoice_5 : decode cX7_addChoice 5 = .ok (.ireturn, 1) := by decide +kernel
def wp_X7_addChoice (σ : Nat → Int32) (α : Nat → Nat → Int32) (post : Int32 → (Nat → Int32) → (Nat → Nat → Int32) → Prop) : Prop := wp_X7_addDraft (3 : Int32) σ α (fun r1 σ2 α3 => post r1 σ2 α3)
set_option maxHeartbeats 4000000 in
set_option maxRecDepth 100000 in
theorem c_X7_addChoice (l : Launch) (G : gG) (A : Nat → Prop) {mm : Nat} {rf : Nat → Nat} (hMO : MOk mm rf) (μ0 : Mm) (σ : Nat → Int32) (α : Nat → Nat → Int32) (post : Int32 → (Nat → Int32) → (Nat → Nat → Int32) → Prop) (h : wp_X7_addChoice σ α post) : Met l yX7_addChoice (.code yX7_addChoice cX7_addChoice 1 (some .int) :: wsA) (rmL (5) 0 0) (PcG G A (mset μ0 mm rf σ α) [.ref mm]) (QG G A (pI (pMi μ0 mm rf post))) 0 0 A := by
  refine met_J (loc := [(0, .ref mm)]) (by decide +kernel) (Nat.le_of_ble_eq_true rfl) rfl ?_
  intro p e s m args below meth c X hin
  have X : Cx p l s m args meth c cX7_addChoice 1 (some .int) RX7 G A := X
  have hw := h
  unfold wp_X7_addChoice at hw
  refine j_aload_n X (pc' := 1) (kk := 0) (i := 0) 0 rfl rfl dX7_addChoice_0 rfl ?_
  refine j_iconst X (pc' := 2) (v := 3) (by decide) dX7_addChoice_1 rfl ?_
  refine j_callVi (As := [.int (3 : Int32)]) (rest := []) X (pc' := 5) (cells' := 0) (slots' := 0) (c_X7_addDraft l G A hMO μ0 (3 : Int32) σ α _ hw) (gk_X7_addDraft wt_4_82) hd_X7_addDraft (rmL_fit (k1 := 4) (k := 5) (by omega) (by decide)) mset_o rfl rfl rfl (Nat.le_of_ble_eq_true rfl) dX7_addChoice_2 rfl ⟨Nat.le_of_ble_eq_true rfl, Nat.le_of_ble_eq_true rfl⟩ rfl rfl (fun r1 μ5 hw1 => ?_)
  obtain ⟨σ2, α3, rfl, hw2⟩ := hw1
  exact j_iret X ⟨_, rfl, _, _, rfl, hw2⟩ (Nat.le_of_ble_eq_true rfl) (Nat.le_of_ble_eq_true rfl) dX7_addChoice_5
/-! BitNotationModel.measureAll()Z -/
theorem dX7_measureAll_0 : decode cX7_measureAll 0 = .ok (.iconst 1, 1) := by decide +kernel
theorem dX7_measureAll_1 : decode cX7_measureAll 1 = .ok (.istore_n 1, 1) := by decide +kernel
theorem dX7_measureAll_2 : decode cX7_measureAll 2 = .ok (.iconst 0, 1) := by decide +kernel
theorem dX7_measureAll_3 : decode cX7_measureAll 3 = .ok (.istore_n 2, 1) := by decide +kernel
theorem dX7_measureAll_4 : decode cX7_measureAll 4 = .ok (.iload_n 2, 1) := by decide +kernel
theorem dX7_measureAll_5 : decode cX7_measureAll 5 = .ok (.aload_n 0, 1) := by decide +kernel
theorem dX7_measureAll_6 : decode cX7_measureAll 6 = .ok (.getfield 77, 3) := by decide +kernel
theorem dX7_measureAll_9 : decode cX7_measureAll 9 = .ok (.if_icmp .ge 17, 3) := by decide +kernel
theorem dX7_measureAll_12 : decode cX7_measureAll 12 = .ok (.iload_n 1, 1) := by decide +kernel
theorem dX7_measureAll_13 : decode cX7_measureAll 13 = .ok (.aload_n 0, 1) := by decide +kernel
theorem dX7_measureAll_14 : decode cX7_measureAll 14 = .ok (.iload_n 2, 1) := by decide +kernel
theorem dX7_measureAll_15 : decode cX7_measureAll 15 = .ok (.invokevirtual 117, 3) := by decide +kernel
theorem dX7_measureAll_18 : decode cX7_measureAll 18 = .ok (.iand, 1) := by decide +kernel
theorem dX7_measureAll_19 : decode cX7_measureAll 19 = .ok (.istore_n 1, 1) := by decide +kernel
theorem dX7_measureAll_20 : decode cX7_measureAll 20 = .ok (.iinc 2 1, 3) := by decide +kernel
theorem dX7_measureAll_23 : decode cX7_measureAll 23 = .ok (.goto (-19), 3) := by decide +kernel
theorem dX7_measureAll_26 : decode cX7_measureAll 26 = .ok (.iload_n 1, 1) := by decide +kernel
theorem dX7_measureAll_27 : decode cX7_measureAll 27 = .ok (.ireturn, 1) := by decide +kernel
def wb_X7_measureAll_4 (post : Int32 → (Nat → Int32) → (Nat → Nat → Int32) → Prop)  : Nat → Int32 → Int32 → (Nat → Int32) → (Nat → Nat → Int32) → Prop
  | 0 => fun _ _ _ _ => False
  | n + 1 => fun v1 v2 σ α => ((σ 1) ≤ v2 → ((v1 = 0 ∨ v1 = 1) ∧ post v1 σ α)) ∧ (¬ (σ 1) ≤ v2 → (wp_X7_measure v2 σ α (fun r2 σ3 α4 => wb_X7_measureAll_4 post n (v1 &&& r2) (v2 + 1) σ3 α4)))
set_option maxHeartbeats 4000000 in
set_option maxRecDepth 100000 in
theorem tb_X7_measureAll_4 {p : Program} {l : Launch} {e : Env} {s : State} {m : MethodId} {args : Array Value} {below : List Frame} {meth : Method} {c : Code} {G : gG} {A : Nat → Prop} {μ0 : Mm} {mm : Nat} {rf : Nat → Nat} {post : Int32 → (Nat → Int32) → (Nat → Nat → Int32) → Prop} (X : Cx p l s m args meth c cX7_measureAll 3 (some .boolean) RX7 G A) (hMO : MOk mm rf) : ∀ (n : Nat) (v1 : Int32) (v2 : Int32) (σ : Nat → Int32) (α : Nat → Nat → Int32), wb_X7_measureAll_4 post n v1 v2 σ α → J p l e (rmL (4) 0 0) s m args below meth c 3 G A (MQ below (QG G A (pI (pMi μ0 mm rf post))) args s 0 0 A) 0 0 4 [(0, .ref mm), (1, .int v1), (2, .int v2)] [] (mset μ0 mm rf σ α) := by
  intro n
  induction n with
  | zero => intro v1 v2 σ α hw; exact hw.elim
  | succ n ih =>
    intro v1 v2 σ α hw
    rw [wb_X7_measureAll_4] at hw
    refine j_iload_n X (pc' := 5) (kk := 2) (i := 2) 2 rfl rfl dX7_measureAll_4 rfl ?_
    refine j_aload_n X (pc' := 6) (kk := 0) (i := 0) 0 rfl rfl dX7_measureAll_5 rfl ?_
    refine j_getf X (pc' := 9) mset_o 1 rfl rfl fw_TX7 (by decide) wt_3_166 dX7_measureAll_6 rfl ?_
    refine j_icmp_ge X (pc' := 12) (tgt := 26) dX7_measureAll_9 rfl (by decide) (fun c1 => ?_) (fun c1 => ?_)
    · have hw1 := hw.1 c1
      refine j_iload_n X (pc' := 27) (kk := 1) (i := 1) 1 rfl rfl dX7_measureAll_26 rfl ?_
      have hb := hw1.1
      have hw2 := hw1.2
      exact j_zret X hb ⟨_, rfl, _, _, rfl, hw2⟩ (Nat.le_of_ble_eq_true rfl) (Nat.le_of_ble_eq_true rfl) dX7_measureAll_27
    · have hw3 := hw.2 c1
      refine j_iload_n X (pc' := 13) (kk := 1) (i := 1) 1 rfl rfl dX7_measureAll_12 rfl ?_
      refine j_aload_n X (pc' := 14) (kk := 0) (i := 0) 0 rfl rfl dX7_measureAll_13 rfl ?_
      refine j_iload_n X (pc' := 15) (kk := 2) (i := 2) 2 rfl rfl dX7_measureAll_14 rfl ?_
      refine j_callVi (As := [.int v2]) (rest := [.int v1]) X (pc' := 18) (cells' := 0) (slots' := 0) (c_X7_measure l G A hMO μ0 v2 σ α _ hw3) (gk_X7_measure wt_4_35) hd_X7_measure (rmL_fit (k1 := 3) (k := 4) (by omega) (by decide)) mset_o rfl rfl rfl (Nat.le_of_ble_eq_true rfl) dX7_measureAll_15 rfl ⟨Nat.le_of_ble_eq_true rfl, Nat.le_of_ble_eq_true rfl⟩ rfl rfl (fun r2 μ6 hw4 => ?_)
      obtain ⟨σ3, α4, rfl, hw5⟩ := hw4
      refine j_iand X (pc' := 19) dX7_measureAll_18 rfl ?_
      refine j_istore_n X (pc' := 20) (kk := 1) (i := 1) (loc' := [(1, .int (v1 &&& r2)), (0, .ref mm), (2, .int v2)]) dX7_measureAll_19 rfl rfl (by decide) rfl ?_
      refine j_iinc X (pc' := 23) (i := 2) (v := v2 + 1) (loc' := [(2, .int (v2 + 1)), (1, .int (v1 &&& r2)), (0, .ref mm)]) 2 rfl rfl dX7_measureAll_20 rfl (by decide) rfl ?_
      refine j_goto X (tgt := 4) dX7_measureAll_23 (by decide) ?_
      refine j_loc [2, 1, 0] rfl ?_
      exact ih _ _ _ _ hw5
def wp_X7_measureAll (σ : Nat → Int32) (α : Nat → Nat → Int32) (post : Int32 → (Nat → Int32) → (Nat → Nat → Int32) → Prop) : Prop := ∃ n, wb_X7_measureAll_4 post n (1 : Int32) (0 : Int32) σ α
set_option maxHeartbeats 4000000 in
set_option maxRecDepth 100000 in
theorem c_X7_measureAll (l : Launch) (G : gG) (A : Nat → Prop) {mm : Nat} {rf : Nat → Nat} (hMO : MOk mm rf) (μ0 : Mm) (σ : Nat → Int32) (α : Nat → Nat → Int32) (post : Int32 → (Nat → Int32) → (Nat → Nat → Int32) → Prop) (h : wp_X7_measureAll σ α post) : Met l yX7_measureAll (.code yX7_measureAll cX7_measureAll 3 (some .boolean) :: wsA) (rmL (4) 0 0) (PcG G A (mset μ0 mm rf σ α) [.ref mm]) (QG G A (pI (pMi μ0 mm rf post))) 0 0 A := by
  refine met_J (loc := [(0, .ref mm)]) (by decide +kernel) (Nat.le_of_ble_eq_true rfl) rfl ?_
  intro p e s m args below meth c X hin
  have X : Cx p l s m args meth c cX7_measureAll 3 (some .boolean) RX7 G A := X
  have hw := h
  unfold wp_X7_measureAll at hw
  refine j_iconst X (pc' := 1) (v := 1) (by decide) dX7_measureAll_0 rfl ?_
  refine j_istore_n X (pc' := 2) (kk := 1) (i := 1) (loc' := [(1, .int ((1 : Int32))), (0, .ref mm)]) dX7_measureAll_1 rfl rfl (by decide) rfl ?_
  refine j_iconst X (pc' := 3) (v := 0) (by decide) dX7_measureAll_2 rfl ?_
  refine j_istore_n X (pc' := 4) (kk := 2) (i := 2) (loc' := [(2, .int ((0 : Int32))), (1, .int ((1 : Int32))), (0, .ref mm)]) dX7_measureAll_3 rfl rfl (by decide) rfl ?_
  obtain ⟨n0, hw1⟩ := hw
  refine j_loc [2, 1, 0] rfl ?_
  exact tb_X7_measureAll_4 X hMO n0 _ _ _ _ hw1
/-! BitNotationModel.extend(II)I -/
theorem dX7_extend_0 : decode cX7_extend 0 = .ok (.aload_n 0, 1) := by decide +kernel
theorem dX7_extend_1 : decode cX7_extend 1 = .ok (.iload_n 1, 1) := by decide +kernel
theorem dX7_extend_2 : decode cX7_extend 2 = .ok (.invokevirtual 120, 3) := by decide +kernel
theorem dX7_extend_5 : decode cX7_extend 5 = .ok (.ifCond .eq 15, 3) := by decide +kernel
theorem dX7_extend_8 : decode cX7_extend 8 = .ok (.aload_n 0, 1) := by decide +kernel
theorem dX7_extend_9 : decode cX7_extend 9 = .ok (.iload_n 2, 1) := by decide +kernel
theorem dX7_extend_10 : decode cX7_extend 10 = .ok (.invokevirtual 120, 3) := by decide +kernel
theorem dX7_extend_13 : decode cX7_extend 13 = .ok (.ifCond .eq 7, 3) := by decide +kernel
theorem dX7_extend_16 : decode cX7_extend 16 = .ok (.iconst 1, 1) := by decide +kernel
theorem dX7_extend_17 : decode cX7_extend 17 = .ok (.goto 4, 3) := by decide +kernel
theorem dX7_extend_20 : decode cX7_extend 20 = .ok (.iconst 0, 1) := by decide +kernel
theorem dX7_extend_21 : decode cX7_extend 21 = .ok (.istore_n 3, 1) := by decide +kernel
theorem dX7_extend_22 : decode cX7_extend 22 = .ok (.iload_n 3, 1) := by decide +kernel
theorem dX7_extend_23 : decode cX7_extend 23 = .ok (.ifCond .eq 22, 3) := by decide +kernel
theorem dX7_extend_26 : decode cX7_extend 26 = .ok (.aload_n 0, 1) := by decide +kernel
theorem dX7_extend_27 : decode cX7_extend 27 = .ok (.getfield 7, 3) := by decide +kernel
theorem dX7_extend_30 : decode cX7_extend 30 = .ok (.iload_n 1, 1) := by decide +kernel
theorem dX7_extend_31 : decode cX7_extend 31 = .ok (.iaload, 1) := by decide +kernel
theorem dX7_extend_32 : decode cX7_extend 32 = .ok (.iconst 2, 1) := by decide +kernel
theorem dX7_extend_33 : decode cX7_extend 33 = .ok (.if_icmp .ne 12, 3) := by decide +kernel
theorem dX7_extend_36 : decode cX7_extend 36 = .ok (.iload_n 2, 1) := by decide +kernel
theorem dX7_extend_37 : decode cX7_extend 37 = .ok (.iload_n 1, 1) := by decide +kernel
theorem dX7_extend_38 : decode cX7_extend 38 = .ok (.if_icmp .ge 7, 3) := by decide +kernel
theorem dX7_extend_41 : decode cX7_extend 41 = .ok (.iconst 1, 1) := by decide +kernel
theorem dX7_extend_42 : decode cX7_extend 42 = .ok (.goto 4, 3) := by decide +kernel
theorem dX7_extend_45 : decode cX7_extend 45 = .ok (.iconst 0, 1) := by decide +kernel
theorem dX7_extend_46 : decode cX7_extend 46 = .ok (.istore 4, 2) := by decide +kernel
theorem dX7_extend_48 : decode cX7_extend 48 = .ok (.iload 4, 2) := by decide +kernel
theorem dX7_extend_50 : decode cX7_extend 50 = .ok (.ifCond .eq 17, 3) := by decide +kernel
theorem dX7_extend_53 : decode cX7_extend 53 = .ok (.aload_n 0, 1) := by decide +kernel
theorem dX7_extend_54 : decode cX7_extend 54 = .ok (.getfield 28, 3) := by decide +kernel
theorem dX7_extend_57 : decode cX7_extend 57 = .ok (.iload_n 1, 1) := by decide +kernel
theorem dX7_extend_58 : decode cX7_extend 58 = .ok (.iaload, 1) := by decide +kernel
theorem dX7_extend_59 : decode cX7_extend 59 = .ok (.iconst 3, 1) := by decide +kernel
theorem dX7_extend_60 : decode cX7_extend 60 = .ok (.if_icmp .ge 7, 3) := by decide +kernel
theorem dX7_extend_63 : decode cX7_extend 63 = .ok (.iconst 1, 1) := by decide +kernel
theorem dX7_extend_64 : decode cX7_extend 64 = .ok (.goto 4, 3) := by decide +kernel
theorem dX7_extend_67 : decode cX7_extend 67 = .ok (.iconst 0, 1) := by decide +kernel
theorem dX7_extend_68 : decode cX7_extend 68 = .ok (.istore 5, 2) := by decide +kernel
theorem dX7_extend_70 : decode cX7_extend 70 = .ok (.iload 5, 2) := by decide +kernel
theorem dX7_extend_72 : decode cX7_extend 72 = .ok (.ifCond .eq 59, 3) := by decide +kernel
theorem dX7_extend_75 : decode cX7_extend 75 = .ok (.aload_n 0, 1) := by decide +kernel
theorem dX7_extend_76 : decode cX7_extend 76 = .ok (.getfield 25, 3) := by decide +kernel
theorem dX7_extend_79 : decode cX7_extend 79 = .ok (.iconst 3, 1) := by decide +kernel
theorem dX7_extend_80 : decode cX7_extend 80 = .ok (.iload_n 1, 1) := by decide +kernel
theorem dX7_extend_81 : decode cX7_extend 81 = .ok (.imul, 1) := by decide +kernel
theorem dX7_extend_82 : decode cX7_extend 82 = .ok (.aload_n 0, 1) := by decide +kernel
theorem dX7_extend_83 : decode cX7_extend 83 = .ok (.getfield 28, 3) := by decide +kernel
theorem dX7_extend_86 : decode cX7_extend 86 = .ok (.iload_n 1, 1) := by decide +kernel
theorem dX7_extend_87 : decode cX7_extend 87 = .ok (.iaload, 1) := by decide +kernel
theorem dX7_extend_88 : decode cX7_extend 88 = .ok (.iadd, 1) := by decide +kernel
theorem dX7_extend_89 : decode cX7_extend 89 = .ok (.iload_n 2, 1) := by decide +kernel
theorem dX7_extend_90 : decode cX7_extend 90 = .ok (.iastore, 1) := by decide +kernel
theorem dX7_extend_91 : decode cX7_extend 91 = .ok (.aload_n 0, 1) := by decide +kernel
theorem dX7_extend_92 : decode cX7_extend 92 = .ok (.getfield 28, 3) := by decide +kernel
theorem dX7_extend_95 : decode cX7_extend 95 = .ok (.iload_n 1, 1) := by decide +kernel
theorem dX7_extend_96 : decode cX7_extend 96 = .ok (.dup2, 1) := by decide +kernel
theorem dX7_extend_97 : decode cX7_extend 97 = .ok (.iaload, 1) := by decide +kernel
theorem dX7_extend_98 : decode cX7_extend 98 = .ok (.iconst 1, 1) := by decide +kernel
theorem dX7_extend_99 : decode cX7_extend 99 = .ok (.iadd, 1) := by decide +kernel
theorem dX7_extend_100 : decode cX7_extend 100 = .ok (.iastore, 1) := by decide +kernel
theorem dX7_extend_101 : decode cX7_extend 101 = .ok (.aload_n 0, 1) := by decide +kernel
theorem dX7_extend_102 : decode cX7_extend 102 = .ok (.invokevirtual 129, 3) := by decide +kernel
theorem dX7_extend_105 : decode cX7_extend 105 = .ok (.istore 5, 2) := by decide +kernel
theorem dX7_extend_107 : decode cX7_extend 107 = .ok (.aload_n 0, 1) := by decide +kernel
theorem dX7_extend_108 : decode cX7_extend 108 = .ok (.getfield 28, 3) := by decide +kernel
theorem dX7_extend_111 : decode cX7_extend 111 = .ok (.iload_n 1, 1) := by decide +kernel
theorem dX7_extend_112 : decode cX7_extend 112 = .ok (.dup2, 1) := by decide +kernel
theorem dX7_extend_113 : decode cX7_extend 113 = .ok (.iaload, 1) := by decide +kernel
theorem dX7_extend_114 : decode cX7_extend 114 = .ok (.iload 5, 2) := by decide +kernel
theorem dX7_extend_116 : decode cX7_extend 116 = .ok (.ifCond .eq 7, 3) := by decide +kernel
theorem dX7_extend_119 : decode cX7_extend 119 = .ok (.iconst 0, 1) := by decide +kernel
theorem dX7_extend_120 : decode cX7_extend 120 = .ok (.goto 4, 3) := by decide +kernel
theorem dX7_extend_123 : decode cX7_extend 123 = .ok (.iconst 1, 1) := by decide +kernel
theorem dX7_extend_124 : decode cX7_extend 124 = .ok (.isub, 1) := by decide +kernel
theorem dX7_extend_125 : decode cX7_extend 125 = .ok (.iastore, 1) := by decide +kernel
theorem dX7_extend_126 : decode cX7_extend 126 = .ok (.aload_n 0, 1) := by decide +kernel
theorem dX7_extend_127 : decode cX7_extend 127 = .ok (.invokevirtual 129, 3) := by decide +kernel
theorem dX7_extend_130 : decode cX7_extend 130 = .ok (.pop, 1) := by decide +kernel
theorem dX7_extend_131 : decode cX7_extend 131 = .ok (.aload_n 0, 1) := by decide +kernel
theorem dX7_extend_132 : decode cX7_extend 132 = .ok (.iload_n 3, 1) := by decide +kernel
theorem dX7_extend_133 : decode cX7_extend 133 = .ok (.ifCond .ne 7, 3) := by decide +kernel
theorem dX7_extend_136 : decode cX7_extend 136 = .ok (.iconst 1, 1) := by decide +kernel
theorem dX7_extend_137 : decode cX7_extend 137 = .ok (.goto 22, 3) := by decide +kernel
theorem dX7_extend_140 : decode cX7_extend 140 = .ok (.iload 4, 2) := by decide +kernel
theorem dX7_extend_142 : decode cX7_extend 142 = .ok (.ifCond .ne 7, 3) := by decide +kernel
theorem dX7_extend_145 : decode cX7_extend 145 = .ok (.iconst 2, 1) := by decide +kernel
theorem dX7_extend_146 : decode cX7_extend 146 = .ok (.goto 13, 3) := by decide +kernel
theorem dX7_extend_149 : decode cX7_extend 149 = .ok (.iload 5, 2) := by decide +kernel
theorem dX7_extend_151 : decode cX7_extend 151 = .ok (.ifCond .eq 7, 3) := by decide +kernel
theorem dX7_extend_154 : decode cX7_extend 154 = .ok (.iconst 0, 1) := by decide +kernel
theorem dX7_extend_155 : decode cX7_extend 155 = .ok (.goto 4, 3) := by decide +kernel
theorem dX7_extend_158 : decode cX7_extend 158 = .ok (.iconst 3, 1) := by decide +kernel
theorem dX7_extend_159 : decode cX7_extend 159 = .ok (.invokevirtual 109, 3) := by decide +kernel
theorem dX7_extend_162 : decode cX7_extend 162 = .ok (.ifCond .eq 7, 3) := by decide +kernel
theorem dX7_extend_165 : decode cX7_extend 165 = .ok (.iconst 0, 1) := by decide +kernel
theorem dX7_extend_166 : decode cX7_extend 166 = .ok (.goto 9, 3) := by decide +kernel
theorem dX7_extend_169 : decode cX7_extend 169 = .ok (.aload_n 0, 1) := by decide +kernel
theorem dX7_extend_170 : decode cX7_extend 170 = .ok (.getfield 28, 3) := by decide +kernel
theorem dX7_extend_173 : decode cX7_extend 173 = .ok (.iload_n 1, 1) := by decide +kernel
theorem dX7_extend_174 : decode cX7_extend 174 = .ok (.iaload, 1) := by decide +kernel
theorem dX7_extend_175 : decode cX7_extend 175 = .ok (.ireturn, 1) := by decide +kernel
def wb_X7_extend_159 (post : Int32 → (Nat → Int32) → (Nat → Nat → Int32) → Prop)  (v1 : Int32) (s0 : Int32) (σ : Nat → Int32) (α : Nat → Nat → Int32) : Prop := wp_X7_refused s0 σ α (fun r47 σ48 α49 => (r47 = 0 → (vp_in v1 16 ∧ post (α49 8 v1.toNatClampNeg) σ48 α49)) ∧ (¬ r47 = 0 → (post (0 : Int32) σ48 α49)))
set_option maxHeartbeats 4000000 in
set_option maxRecDepth 100000 in
theorem tb_X7_extend_159 {p : Program} {l : Launch} {e : Env} {s : State} {m : MethodId} {args : Array Value} {below : List Frame} {meth : Method} {c : Code} {G : gG} {A : Nat → Prop} {μ0 : Mm} {mm : Nat} {rf : Nat → Nat} {post : Int32 → (Nat → Int32) → (Nat → Nat → Int32) → Prop} (X : Cx p l s m args meth c cX7_extend 6 (some .int) RX7 G A) (hMO : MOk mm rf) : ∀ (v1 : Int32) (s0 : Int32) (σ : Nat → Int32) (α : Nat → Nat → Int32), wb_X7_extend_159 post v1 s0 σ α → J p l e (rmL (5) 0 0) s m args below meth c 6 G A (MQ below (QG G A (pI (pMi μ0 mm rf post))) args s 0 0 A) 0 0 159 [(0, .ref mm), (1, .int v1)] [.int s0, .ref mm] (mset μ0 mm rf σ α) := by
  intro v1 s0 σ α hw
  unfold wb_X7_extend_159 at hw
  refine j_callVi (As := [.int s0]) (rest := []) X (pc' := 162) (cells' := 0) (slots' := 0) (c_X7_refused l G A hMO μ0 s0 σ α _ hw) (gk_X7_refused wt_4_27) hd_X7_refused (rmL_fit (k1 := 0) (k := 5) (by omega) (by decide)) mset_o rfl rfl rfl (Nat.le_of_ble_eq_true rfl) dX7_extend_159 rfl ⟨Nat.le_of_ble_eq_true rfl, Nat.le_of_ble_eq_true rfl⟩ rfl rfl (fun r47 μ53 hw1 => ?_)
  obtain ⟨σ48, α49, rfl, hw2⟩ := hw1
  refine j_if_eq X (pc' := 165) (tgt := 169) dX7_extend_162 rfl (by decide) (fun c50 => ?_) (fun c50 => ?_)
  · have hw3 := hw2.1 c50
    refine j_aload_n X (pc' := 170) (kk := 0) (i := 0) 0 rfl rfl dX7_extend_169 rfl ?_
    refine j_getf X (pc' := 173) mset_o 8 rfl rfl fw_TX7 (by decide) wt_3_173 dX7_extend_170 rfl ?_
    refine j_iload_n X (pc' := 174) (kk := 1) (i := 1) 1 rfl rfl dX7_extend_173 rfl ?_
    have h51 := hw3.1
    have hw4 := hw3.2
    refine j_iald X (pc' := 175) (mset_a hMO 8 (by decide)) h51 dX7_extend_174 rfl ?_
    exact j_iret X ⟨_, rfl, _, _, rfl, hw4⟩ (Nat.le_of_ble_eq_true rfl) (Nat.le_of_ble_eq_true rfl) dX7_extend_175
  · have hw5 := hw2.2 c50
    refine j_iconst X (pc' := 166) (v := 0) (by decide) dX7_extend_165 rfl ?_
    refine j_goto X (tgt := 175) dX7_extend_166 (by decide) ?_
    exact j_iret X ⟨_, rfl, _, _, rfl, hw5⟩ (Nat.le_of_ble_eq_true rfl) (Nat.le_of_ble_eq_true rfl) dX7_extend_175
def wb_X7_extend_131 (post : Int32 → (Nat → Int32) → (Nat → Nat → Int32) → Prop)  (v1 : Int32) (v3 : Int32) (v4 : Int32) (v5 : Int32) (σ : Nat → Int32) (α : Nat → Nat → Int32) : Prop := (¬ v3 = 0 → ((¬ v4 = 0 → ((v5 = 0 → (wb_X7_extend_159 post v1 (3 : Int32) σ α)) ∧ (¬ v5 = 0 → (wb_X7_extend_159 post v1 (0 : Int32) σ α)))) ∧ (v4 = 0 → (wb_X7_extend_159 post v1 (2 : Int32) σ α)))) ∧ (v3 = 0 → (wb_X7_extend_159 post v1 (1 : Int32) σ α))
set_option maxHeartbeats 4000000 in
set_option maxRecDepth 100000 in
theorem tb_X7_extend_131 {p : Program} {l : Launch} {e : Env} {s : State} {m : MethodId} {args : Array Value} {below : List Frame} {meth : Method} {c : Code} {G : gG} {A : Nat → Prop} {μ0 : Mm} {mm : Nat} {rf : Nat → Nat} {post : Int32 → (Nat → Int32) → (Nat → Nat → Int32) → Prop} (X : Cx p l s m args meth c cX7_extend 6 (some .int) RX7 G A) (hMO : MOk mm rf) : ∀ (v1 : Int32) (v3 : Int32) (v4 : Int32) (v5 : Int32) (σ : Nat → Int32) (α : Nat → Nat → Int32), wb_X7_extend_131 post v1 v3 v4 v5 σ α → J p l e (rmL (5) 0 0) s m args below meth c 6 G A (MQ below (QG G A (pI (pMi μ0 mm rf post))) args s 0 0 A) 0 0 131 [(0, .ref mm), (1, .int v1), (3, .int v3), (4, .int v4), (5, .int v5)] [] (mset μ0 mm rf σ α) := by
  intro v1 v3 v4 v5 σ α hw
  unfold wb_X7_extend_131 at hw
  refine j_aload_n X (pc' := 132) (kk := 0) (i := 0) 0 rfl rfl dX7_extend_131 rfl ?_
  refine j_iload_n X (pc' := 133) (kk := 3) (i := 3) 2 rfl rfl dX7_extend_132 rfl ?_
  refine j_if_ne X (pc' := 136) (tgt := 140) dX7_extend_133 rfl (by decide) (fun c36 => ?_) (fun c36 => ?_)
  · have hw1 := hw.1 c36
    refine j_iload X (pc' := 142) (i := 4) 3 rfl dX7_extend_140 rfl ?_
    refine j_if_ne X (pc' := 145) (tgt := 149) dX7_extend_142 rfl (by decide) (fun c37 => ?_) (fun c37 => ?_)
    · have hw2 := hw1.1 c37
      refine j_iload X (pc' := 151) (i := 5) 4 rfl dX7_extend_149 rfl ?_
      refine j_if_eq X (pc' := 154) (tgt := 158) dX7_extend_151 rfl (by decide) (fun c38 => ?_) (fun c38 => ?_)
      · have hw3 := hw2.1 c38
        refine j_iconst X (pc' := 159) (v := 3) (by decide) dX7_extend_158 rfl ?_
        refine j_loc [0, 1] rfl ?_
        exact tb_X7_extend_159 X hMO _ _ _ _ hw3
      · have hw4 := hw2.2 c38
        refine j_iconst X (pc' := 155) (v := 0) (by decide) dX7_extend_154 rfl ?_
        refine j_goto X (tgt := 159) dX7_extend_155 (by decide) ?_
        refine j_loc [0, 1] rfl ?_
        exact tb_X7_extend_159 X hMO _ _ _ _ hw4
    · have hw5 := hw1.2 c37
      refine j_iconst X (pc' := 146) (v := 2) (by decide) dX7_extend_145 rfl ?_
      refine j_goto X (tgt := 159) dX7_extend_146 (by decide) ?_
      refine j_loc [0, 1] rfl ?_
      exact tb_X7_extend_159 X hMO _ _ _ _ hw5
  · have hw6 := hw.2 c36
    refine j_iconst X (pc' := 137) (v := 1) (by decide) dX7_extend_136 rfl ?_
    refine j_goto X (tgt := 159) dX7_extend_137 (by decide) ?_
    refine j_loc [0, 1] rfl ?_
    exact tb_X7_extend_159 X hMO _ _ _ _ hw6
def wb_X7_extend_124 (post : Int32 → (Nat → Int32) → (Nat → Nat → Int32) → Prop)  (v1 : Int32) (v3 : Int32) (v4 : Int32) (v5 : Int32) (s0 : Int32) (s1 : Int32) (s2 : Int32) (σ : Nat → Int32) (α : Nat → Nat → Int32) : Prop := vp_in s2 16 ∧ ∀ α40, α40 = upA α 8 (upd (α 8) s2.toNatClampNeg (s1 - s0)) → wp_X7_measureAll σ α40 (fun r42 σ43 α44 => wb_X7_extend_131 post v1 v3 v4 v5 σ43 α44)
set_option maxHeartbeats 4000000 in
set_option maxRecDepth 100000 in
theorem tb_X7_extend_124 {p : Program} {l : Launch} {e : Env} {s : State} {m : MethodId} {args : Array Value} {below : List Frame} {meth : Method} {c : Code} {G : gG} {A : Nat → Prop} {μ0 : Mm} {mm : Nat} {rf : Nat → Nat} {post : Int32 → (Nat → Int32) → (Nat → Nat → Int32) → Prop} (X : Cx p l s m args meth c cX7_extend 6 (some .int) RX7 G A) (hMO : MOk mm rf) : ∀ (v1 : Int32) (v3 : Int32) (v4 : Int32) (v5 : Int32) (s0 : Int32) (s1 : Int32) (s2 : Int32) (σ : Nat → Int32) (α : Nat → Nat → Int32), wb_X7_extend_124 post v1 v3 v4 v5 s0 s1 s2 σ α → J p l e (rmL (5) 0 0) s m args below meth c 6 G A (MQ below (QG G A (pI (pMi μ0 mm rf post))) args s 0 0 A) 0 0 124 [(0, .ref mm), (1, .int v1), (3, .int v3), (4, .int v4), (5, .int v5)] [.int s0, .int s1, .int s2, .ref (rf 8)] (mset μ0 mm rf σ α) := by
  intro v1 v3 v4 v5 s0 s1 s2 σ α hw
  unfold wb_X7_extend_124 at hw
  refine j_isub X (pc' := 125) dX7_extend_124 rfl ?_
  have h39 := hw.1
  have hw1 := hw.2
  refine jm_iast X (pc' := 126) hMO 8 (by decide) h39 dX7_extend_125 rfl (fun α40 e41 => ?_)
  have hw2 := hw1 α40 e41
  refine j_aload_n X (pc' := 127) (kk := 0) (i := 0) 0 rfl rfl dX7_extend_126 rfl ?_
  refine j_callVi (As := []) (rest := []) X (pc' := 130) (cells' := 0) (slots' := 0) (c_X7_measureAll l G A hMO μ0 σ α40 _ hw2) (gk_X7_measureAll wt_4_94) hd_X7_measureAll (rmL_fit (k1 := 4) (k := 5) (by omega) (by decide)) mset_o rfl rfl rfl (Nat.le_of_ble_eq_true rfl) dX7_extend_127 rfl ⟨Nat.le_of_ble_eq_true rfl, Nat.le_of_ble_eq_true rfl⟩ rfl rfl (fun r42 μ46 hw3 => ?_)
  obtain ⟨σ43, α44, rfl, hw4⟩ := hw3
  refine j_pop X (pc' := 131) rfl dX7_extend_130 rfl ?_
  exact tb_X7_extend_131 X hMO _ _ _ _ _ _ hw4
def wb_X7_extend_68 (post : Int32 → (Nat → Int32) → (Nat → Nat → Int32) → Prop)  (v1 : Int32) (v2 : Int32) (v3 : Int32) (v4 : Int32) (s0 : Int32) (σ : Nat → Int32) (α : Nat → Nat → Int32) : Prop := (s0 = 0 → (wb_X7_extend_131 post v1 v3 v4 s0 σ α)) ∧ (¬ s0 = 0 → (vp_in v1 16 ∧ vp_in (((3 : Int32) * v1) + (α 8 v1.toNatClampNeg)) 48 ∧ ∀ α23, α23 = upA α 7 (upd (α 7) (((3 : Int32) * v1) + (α 8 v1.toNatClampNeg)).toNatClampNeg v2) → vp_in v1 16 ∧ vp_in v1 16 ∧ ∀ α27, α27 = upA α23 8 (upd (α23 8) v1.toNatClampNeg ((α23 8 v1.toNatClampNeg) + (1 : Int32))) → wp_X7_measureAll σ α27 (fun r29 σ30 α31 => vp_in v1 16 ∧ (r29 = 0 → (wb_X7_extend_124 post v1 v3 v4 r29 (1 : Int32) (α31 8 v1.toNatClampNeg) v1 σ30 α31)) ∧ (¬ r29 = 0 → (wb_X7_extend_124 post v1 v3 v4 r29 (0 : Int32) (α31 8 v1.toNatClampNeg) v1 σ30 α31)))))
set_option maxHeartbeats 4000000 in
set_option maxRecDepth 100000 in
theorem tb_X7_extend_68 {p : Program} {l : Launch} {e : Env} {s : State} {m : MethodId} {args : Array Value} {below : List Frame} {meth : Method} {c : Code} {G : gG} {A : Nat → Prop} {μ0 : Mm} {mm : Nat} {rf : Nat → Nat} {post : Int32 → (Nat → Int32) → (Nat → Nat → Int32) → Prop} (X : Cx p l s m args meth c cX7_extend 6 (some .int) RX7 G A) (hMO : MOk mm rf) : ∀ (v1 : Int32) (v2 : Int32) (v3 : Int32) (v4 : Int32) (s0 : Int32) (σ : Nat → Int32) (α : Nat → Nat → Int32), wb_X7_extend_68 post v1 v2 v3 v4 s0 σ α → J p l e (rmL (5) 0 0) s m args below meth c 6 G A (MQ below (QG G A (pI (pMi μ0 mm rf post))) args s 0 0 A) 0 0 68 [(0, .ref mm), (1, .int v1), (2, .int v2), (3, .int v3), (4, .int v4)] [.int s0] (mset μ0 mm rf σ α) := by
  intro v1 v2 v3 v4 s0 σ α hw
  unfold wb_X7_extend_68 at hw
  refine j_istore X (pc' := 70) (i := 5) (loc' := [(5, .int s0), (0, .ref mm), (1, .int v1), (2, .int v2), (3, .int v3), (4, .int v4)]) dX7_extend_68 rfl (by decide) rfl ?_
  refine j_iload X (pc' := 72) (i := 5) 0 rfl dX7_extend_70 rfl ?_
  refine j_if_eq X (pc' := 75) (tgt := 131) dX7_extend_72 rfl (by decide) (fun c20 => ?_) (fun c20 => ?_)
  · have hw1 := hw.1 c20
    refine j_loc [1, 2, 4, 5, 0] rfl ?_
    exact tb_X7_extend_131 X hMO _ _ _ _ _ _ hw1
  · have hw2 := hw.2 c20
    refine j_aload_n X (pc' := 76) (kk := 0) (i := 0) 1 rfl rfl dX7_extend_75 rfl ?_
    refine j_getf X (pc' := 79) mset_o 7 rfl rfl fw_TX7 (by decide) wt_3_172 dX7_extend_76 rfl ?_
    refine j_iconst X (pc' := 80) (v := 3) (by decide) dX7_extend_79 rfl ?_
    refine j_iload_n X (pc' := 81) (kk := 1) (i := 1) 2 rfl rfl dX7_extend_80 rfl ?_
    refine j_imul X (pc' := 82) dX7_extend_81 rfl ?_
    refine j_aload_n X (pc' := 83) (kk := 0) (i := 0) 1 rfl rfl dX7_extend_82 rfl ?_
    refine j_getf X (pc' := 86) mset_o 8 rfl rfl fw_TX7 (by decide) wt_3_173 dX7_extend_83 rfl ?_
    refine j_iload_n X (pc' := 87) (kk := 1) (i := 1) 2 rfl rfl dX7_extend_86 rfl ?_
    have h21 := hw2.1
    have hw3 := hw2.2
    refine j_iald X (pc' := 88) (mset_a hMO 8 (by decide)) h21 dX7_extend_87 rfl ?_
    refine j_iadd X (pc' := 89) dX7_extend_88 rfl ?_
    refine j_iload_n X (pc' := 90) (kk := 2) (i := 2) 3 rfl rfl dX7_extend_89 rfl ?_
    have h22 := hw3.1
    have hw4 := hw3.2
    refine jm_iast X (pc' := 91) hMO 7 (by decide) h22 dX7_extend_90 rfl (fun α23 e24 => ?_)
    have hw5 := hw4 α23 e24
    refine j_aload_n X (pc' := 92) (kk := 0) (i := 0) 1 rfl rfl dX7_extend_91 rfl ?_
    refine j_getf X (pc' := 95) mset_o 8 rfl rfl fw_TX7 (by decide) wt_3_173 dX7_extend_92 rfl ?_
    refine j_iload_n X (pc' := 96) (kk := 1) (i := 1) 2 rfl rfl dX7_extend_95 rfl ?_
    refine j_dup2 X (pc' := 97) rfl rfl dX7_extend_96 rfl ?_
    have h25 := hw5.1
    have hw6 := hw5.2
    refine j_iald X (pc' := 98) (mset_a hMO 8 (by decide)) h25 dX7_extend_97 rfl ?_
    refine j_iconst X (pc' := 99) (v := 1) (by decide) dX7_extend_98 rfl ?_
    refine j_iadd X (pc' := 100) dX7_extend_99 rfl ?_
    have h26 := hw6.1
    have hw7 := hw6.2
    refine jm_iast X (pc' := 101) hMO 8 (by decide) h26 dX7_extend_100 rfl (fun α27 e28 => ?_)
    have hw8 := hw7 α27 e28
    refine j_aload_n X (pc' := 102) (kk := 0) (i := 0) 1 rfl rfl dX7_extend_101 rfl ?_
    refine j_callVi (As := []) (rest := []) X (pc' := 105) (cells' := 0) (slots' := 0) (c_X7_measureAll l G A hMO μ0 σ α27 _ hw8) (gk_X7_measureAll wt_4_94) hd_X7_measureAll (rmL_fit (k1 := 4) (k := 5) (by omega) (by decide)) mset_o rfl rfl rfl (Nat.le_of_ble_eq_true rfl) dX7_extend_102 rfl ⟨Nat.le_of_ble_eq_true rfl, Nat.le_of_ble_eq_true rfl⟩ rfl rfl (fun r29 μ35 hw9 => ?_)
    obtain ⟨σ30, α31, rfl, hw10⟩ := hw9
    refine j_istore X (pc' := 107) (i := 5) (loc' := [(5, .int r29), (0, .ref mm), (1, .int v1), (2, .int v2), (3, .int v3), (4, .int v4)]) dX7_extend_105 rfl (by decide) rfl ?_
    refine j_aload_n X (pc' := 108) (kk := 0) (i := 0) 1 rfl rfl dX7_extend_107 rfl ?_
    refine j_getf X (pc' := 111) mset_o 8 rfl rfl fw_TX7 (by decide) wt_3_173 dX7_extend_108 rfl ?_
    refine j_iload_n X (pc' := 112) (kk := 1) (i := 1) 2 rfl rfl dX7_extend_111 rfl ?_
    refine j_dup2 X (pc' := 113) rfl rfl dX7_extend_112 rfl ?_
    have h32 := hw10.1
    have hw11 := hw10.2
    refine j_iald X (pc' := 114) (mset_a hMO 8 (by decide)) h32 dX7_extend_113 rfl ?_
    refine j_iload X (pc' := 116) (i := 5) 0 rfl dX7_extend_114 rfl ?_
    refine j_if_eq X (pc' := 119) (tgt := 123) dX7_extend_116 rfl (by decide) (fun c33 => ?_) (fun c33 => ?_)
    · have hw12 := hw11.1 c33
      refine j_iconst X (pc' := 124) (v := 1) (by decide) dX7_extend_123 rfl ?_
      refine j_loc [1, 2, 4, 5, 0] rfl ?_
      exact tb_X7_extend_124 X hMO _ _ _ _ _ _ _ _ _ hw12
    · have hw13 := hw11.2 c33
      refine j_iconst X (pc' := 120) (v := 0) (by decide) dX7_extend_119 rfl ?_
      refine j_goto X (tgt := 124) dX7_extend_120 (by decide) ?_
      refine j_loc [1, 2, 4, 5, 0] rfl ?_
      exact tb_X7_extend_124 X hMO _ _ _ _ _ _ _ _ _ hw13
def wb_X7_extend_67 (post : Int32 → (Nat → Int32) → (Nat → Nat → Int32) → Prop)  (v1 : Int32) (v2 : Int32) (v3 : Int32) (v4 : Int32) (σ : Nat → Int32) (α : Nat → Nat → Int32) : Prop := wb_X7_extend_68 post v1 v2 v3 v4 (0 : Int32) σ α
set_option maxHeartbeats 4000000 in
set_option maxRecDepth 100000 in
theorem tb_X7_extend_67 {p : Program} {l : Launch} {e : Env} {s : State} {m : MethodId} {args : Array Value} {below : List Frame} {meth : Method} {c : Code} {G : gG} {A : Nat → Prop} {μ0 : Mm} {mm : Nat} {rf : Nat → Nat} {post : Int32 → (Nat → Int32) → (Nat → Nat → Int32) → Prop} (X : Cx p l s m args meth c cX7_extend 6 (some .int) RX7 G A) (hMO : MOk mm rf) : ∀ (v1 : Int32) (v2 : Int32) (v3 : Int32) (v4 : Int32) (σ : Nat → Int32) (α : Nat → Nat → Int32), wb_X7_extend_67 post v1 v2 v3 v4 σ α → J p l e (rmL (5) 0 0) s m args below meth c 6 G A (MQ below (QG G A (pI (pMi μ0 mm rf post))) args s 0 0 A) 0 0 67 [(0, .ref mm), (1, .int v1), (2, .int v2), (3, .int v3), (4, .int v4)] [] (mset μ0 mm rf σ α) := by
  intro v1 v2 v3 v4 σ α hw
  unfold wb_X7_extend_67 at hw
  refine j_iconst X (pc' := 68) (v := 0) (by decide) dX7_extend_67 rfl ?_
  exact tb_X7_extend_68 X hMO _ _ _ _ _ _ _ hw
def wb_X7_extend_46 (post : Int32 → (Nat → Int32) → (Nat → Nat → Int32) → Prop)  (v1 : Int32) (v2 : Int32) (v3 : Int32) (s0 : Int32) (σ : Nat → Int32) (α : Nat → Nat → Int32) : Prop := (s0 = 0 → (wb_X7_extend_67 post v1 v2 v3 s0 σ α)) ∧ (¬ s0 = 0 → (vp_in v1 16 ∧ ((3 : Int32) ≤ (α 8 v1.toNatClampNeg) → (wb_X7_extend_67 post v1 v2 v3 s0 σ α)) ∧ (¬ (3 : Int32) ≤ (α 8 v1.toNatClampNeg) → (wb_X7_extend_68 post v1 v2 v3 s0 (1 : Int32) σ α))))
set_option maxHeartbeats 4000000 in
set_option maxRecDepth 100000 in
theorem tb_X7_extend_46 {p : Program} {l : Launch} {e : Env} {s : State} {m : MethodId} {args : Array Value} {below : List Frame} {meth : Method} {c : Code} {G : gG} {A : Nat → Prop} {μ0 : Mm} {mm : Nat} {rf : Nat → Nat} {post : Int32 → (Nat → Int32) → (Nat → Nat → Int32) → Prop} (X : Cx p l s m args meth c cX7_extend 6 (some .int) RX7 G A) (hMO : MOk mm rf) : ∀ (v1 : Int32) (v2 : Int32) (v3 : Int32) (s0 : Int32) (σ : Nat → Int32) (α : Nat → Nat → Int32), wb_X7_extend_46 post v1 v2 v3 s0 σ α → J p l e (rmL (5) 0 0) s m args below meth c 6 G A (MQ below (QG G A (pI (pMi μ0 mm rf post))) args s 0 0 A) 0 0 46 [(0, .ref mm), (1, .int v1), (2, .int v2), (3, .int v3)] [.int s0] (mset μ0 mm rf σ α) := by
  intro v1 v2 v3 s0 σ α hw
  unfold wb_X7_extend_46 at hw
  refine j_istore X (pc' := 48) (i := 4) (loc' := [(4, .int s0), (0, .ref mm), (1, .int v1), (2, .int v2), (3, .int v3)]) dX7_extend_46 rfl (by decide) rfl ?_
  refine j_iload X (pc' := 50) (i := 4) 0 rfl dX7_extend_48 rfl ?_
  refine j_if_eq X (pc' := 53) (tgt := 67) dX7_extend_50 rfl (by decide) (fun c17 => ?_) (fun c17 => ?_)
  · have hw1 := hw.1 c17
    refine j_loc [1, 2, 3, 4, 0] rfl ?_
    exact tb_X7_extend_67 X hMO _ _ _ _ _ _ hw1
  · have hw2 := hw.2 c17
    refine j_aload_n X (pc' := 54) (kk := 0) (i := 0) 1 rfl rfl dX7_extend_53 rfl ?_
    refine j_getf X (pc' := 57) mset_o 8 rfl rfl fw_TX7 (by decide) wt_3_173 dX7_extend_54 rfl ?_
    refine j_iload_n X (pc' := 58) (kk := 1) (i := 1) 2 rfl rfl dX7_extend_57 rfl ?_
    have h18 := hw2.1
    have hw3 := hw2.2
    refine j_iald X (pc' := 59) (mset_a hMO 8 (by decide)) h18 dX7_extend_58 rfl ?_
    refine j_iconst X (pc' := 60) (v := 3) (by decide) dX7_extend_59 rfl ?_
    refine j_icmp_ge X (pc' := 63) (tgt := 67) dX7_extend_60 rfl (by decide) (fun c19 => ?_) (fun c19 => ?_)
    · have hw4 := hw3.1 c19
      refine j_loc [1, 2, 3, 4, 0] rfl ?_
      exact tb_X7_extend_67 X hMO _ _ _ _ _ _ hw4
    · have hw5 := hw3.2 c19
      refine j_iconst X (pc' := 64) (v := 1) (by decide) dX7_extend_63 rfl ?_
      refine j_goto X (tgt := 68) dX7_extend_64 (by decide) ?_
      refine j_loc [1, 2, 3, 4, 0] rfl ?_
      exact tb_X7_extend_68 X hMO _ _ _ _ _ _ _ hw5
def wb_X7_extend_45 (post : Int32 → (Nat → Int32) → (Nat → Nat → Int32) → Prop)  (v1 : Int32) (v2 : Int32) (v3 : Int32) (σ : Nat → Int32) (α : Nat → Nat → Int32) : Prop := wb_X7_extend_46 post v1 v2 v3 (0 : Int32) σ α
set_option maxHeartbeats 4000000 in
set_option maxRecDepth 100000 in
theorem tb_X7_extend_45 {p : Program} {l : Launch} {e : Env} {s : State} {m : MethodId} {args : Array Value} {below : List Frame} {meth : Method} {c : Code} {G : gG} {A : Nat → Prop} {μ0 : Mm} {mm : Nat} {rf : Nat → Nat} {post : Int32 → (Nat → Int32) → (Nat → Nat → Int32) → Prop} (X : Cx p l s m args meth c cX7_extend 6 (some .int) RX7 G A) (hMO : MOk mm rf) : ∀ (v1 : Int32) (v2 : Int32) (v3 : Int32) (σ : Nat → Int32) (α : Nat → Nat → Int32), wb_X7_extend_45 post v1 v2 v3 σ α → J p l e (rmL (5) 0 0) s m args below meth c 6 G A (MQ below (QG G A (pI (pMi μ0 mm rf post))) args s 0 0 A) 0 0 45 [(0, .ref mm), (1, .int v1), (2, .int v2), (3, .int v3)] [] (mset μ0 mm rf σ α) := by
  intro v1 v2 v3 σ α hw
  unfold wb_X7_extend_45 at hw
  refine j_iconst X (pc' := 46) (v := 0) (by decide) dX7_extend_45 rfl ?_
  exact tb_X7_extend_46 X hMO _ _ _ _ _ _ hw
def wb_X7_extend_21 (post : Int32 → (Nat → Int32) → (Nat → Nat → Int32) → Prop)  (v1 : Int32) (v2 : Int32) (s0 : Int32) (σ : Nat → Int32) (α : Nat → Nat → Int32) : Prop := (s0 = 0 → (wb_X7_extend_45 post v1 v2 s0 σ α)) ∧ (¬ s0 = 0 → (vp_in v1 16 ∧ (¬ (α 2 v1.toNatClampNeg) = (2 : Int32) → (wb_X7_extend_45 post v1 v2 s0 σ α)) ∧ ((α 2 v1.toNatClampNeg) = (2 : Int32) → ((v1 ≤ v2 → (wb_X7_extend_45 post v1 v2 s0 σ α)) ∧ (¬ v1 ≤ v2 → (wb_X7_extend_46 post v1 v2 s0 (1 : Int32) σ α))))))
set_option maxHeartbeats 4000000 in
set_option maxRecDepth 100000 in
theorem tb_X7_extend_21 {p : Program} {l : Launch} {e : Env} {s : State} {m : MethodId} {args : Array Value} {below : List Frame} {meth : Method} {c : Code} {G : gG} {A : Nat → Prop} {μ0 : Mm} {mm : Nat} {rf : Nat → Nat} {post : Int32 → (Nat → Int32) → (Nat → Nat → Int32) → Prop} (X : Cx p l s m args meth c cX7_extend 6 (some .int) RX7 G A) (hMO : MOk mm rf) : ∀ (v1 : Int32) (v2 : Int32) (s0 : Int32) (σ : Nat → Int32) (α : Nat → Nat → Int32), wb_X7_extend_21 post v1 v2 s0 σ α → J p l e (rmL (5) 0 0) s m args below meth c 6 G A (MQ below (QG G A (pI (pMi μ0 mm rf post))) args s 0 0 A) 0 0 21 [(0, .ref mm), (1, .int v1), (2, .int v2)] [.int s0] (mset μ0 mm rf σ α) := by
  intro v1 v2 s0 σ α hw
  unfold wb_X7_extend_21 at hw
  refine j_istore_n X (pc' := 22) (kk := 3) (i := 3) (loc' := [(3, .int s0), (0, .ref mm), (1, .int v1), (2, .int v2)]) dX7_extend_21 rfl rfl (by decide) rfl ?_
  refine j_iload_n X (pc' := 23) (kk := 3) (i := 3) 0 rfl rfl dX7_extend_22 rfl ?_
  refine j_if_eq X (pc' := 26) (tgt := 45) dX7_extend_23 rfl (by decide) (fun c13 => ?_) (fun c13 => ?_)
  · have hw1 := hw.1 c13
    refine j_loc [1, 2, 3, 0] rfl ?_
    exact tb_X7_extend_45 X hMO _ _ _ _ _ hw1
  · have hw2 := hw.2 c13
    refine j_aload_n X (pc' := 27) (kk := 0) (i := 0) 1 rfl rfl dX7_extend_26 rfl ?_
    refine j_getf X (pc' := 30) mset_o 2 rfl rfl fw_TX7 (by decide) wt_3_167 dX7_extend_27 rfl ?_
    refine j_iload_n X (pc' := 31) (kk := 1) (i := 1) 2 rfl rfl dX7_extend_30 rfl ?_
    have h14 := hw2.1
    have hw3 := hw2.2
    refine j_iald X (pc' := 32) (mset_a hMO 2 (by decide)) h14 dX7_extend_31 rfl ?_
    refine j_iconst X (pc' := 33) (v := 2) (by decide) dX7_extend_32 rfl ?_
    refine j_icmp_ne X (pc' := 36) (tgt := 45) dX7_extend_33 rfl (by decide) (fun c15 => ?_) (fun c15 => ?_)
    · have hw4 := hw3.1 c15
      refine j_loc [1, 2, 3, 0] rfl ?_
      exact tb_X7_extend_45 X hMO _ _ _ _ _ hw4
    · have hw5 := hw3.2 c15
      refine j_iload_n X (pc' := 37) (kk := 2) (i := 2) 3 rfl rfl dX7_extend_36 rfl ?_
      refine j_iload_n X (pc' := 38) (kk := 1) (i := 1) 2 rfl rfl dX7_extend_37 rfl ?_
      refine j_icmp_ge X (pc' := 41) (tgt := 45) dX7_extend_38 rfl (by decide) (fun c16 => ?_) (fun c16 => ?_)
      · have hw6 := hw5.1 c16
        refine j_loc [1, 2, 3, 0] rfl ?_
        exact tb_X7_extend_45 X hMO _ _ _ _ _ hw6
      · have hw7 := hw5.2 c16
        refine j_iconst X (pc' := 42) (v := 1) (by decide) dX7_extend_41 rfl ?_
        refine j_goto X (tgt := 46) dX7_extend_42 (by decide) ?_
        refine j_loc [1, 2, 3, 0] rfl ?_
        exact tb_X7_extend_46 X hMO _ _ _ _ _ _ hw7
def wb_X7_extend_20 (post : Int32 → (Nat → Int32) → (Nat → Nat → Int32) → Prop)  (v1 : Int32) (v2 : Int32) (σ : Nat → Int32) (α : Nat → Nat → Int32) : Prop := wb_X7_extend_21 post v1 v2 (0 : Int32) σ α
set_option maxHeartbeats 4000000 in
set_option maxRecDepth 100000 in
theorem tb_X7_extend_20 {p : Program} {l : Launch} {e : Env} {s : State} {m : MethodId} {args : Array Value} {below : List Frame} {meth : Method} {c : Code} {G : gG} {A : Nat → Prop} {μ0 : Mm} {mm : Nat} {rf : Nat → Nat} {post : Int32 → (Nat → Int32) → (Nat → Nat → Int32) → Prop} (X : Cx p l s m args meth c cX7_extend 6 (some .int) RX7 G A) (hMO : MOk mm rf) : ∀ (v1 : Int32) (v2 : Int32) (σ : Nat → Int32) (α : Nat → Nat → Int32), wb_X7_extend_20 post v1 v2 σ α → J p l e (rmL (5) 0 0) s m args below meth c 6 G A (MQ below (QG G A (pI (pMi μ0 mm rf post))) args s 0 0 A) 0 0 20 [(0, .ref mm), (1, .int v1), (2, .int v2)] [] (mset μ0 mm rf σ α) := by
  intro v1 v2 σ α hw
  unfold wb_X7_extend_20 at hw
  refine j_iconst X (pc' := 21) (v := 0) (by decide) dX7_extend_20 rfl ?_
  exact tb_X7_extend_21 X hMO _ _ _ _ _ hw
def wp_X7_extend (x1 : Int32) (x2 : Int32) (σ : Nat → Int32) (α : Nat → Nat → Int32) (post : Int32 → (Nat → Int32) → (Nat → Nat → Int32) → Prop) : Prop := wp_X7_isType x1 σ α (fun r1 σ2 α3 => (r1 = 0 → (wb_X7_extend_20 post x1 x2 σ2 α3)) ∧ (¬ r1 = 0 → (wp_X7_isType x2 σ2 α3 (fun r5 σ6 α7 => (r5 = 0 → (wb_X7_extend_20 post x1 x2 σ6 α7)) ∧ (¬ r5 = 0 → (wb_X7_extend_21 post x1 x2 (1 : Int32) σ6 α7))))))
set_option maxHeartbeats 4000000 in
set_option maxRecDepth 100000 in
theorem c_X7_extend (l : Launch) (G : gG) (A : Nat → Prop) {mm : Nat} {rf : Nat → Nat} (hMO : MOk mm rf) (μ0 : Mm) (x1 : Int32) (x2 : Int32) (σ : Nat → Int32) (α : Nat → Nat → Int32) (post : Int32 → (Nat → Int32) → (Nat → Nat → Int32) → Prop) (h : wp_X7_extend x1 x2 σ α post) : Met l yX7_extend (.code yX7_extend cX7_extend 6 (some .int) :: wsA) (rmL (5) 0 0) (PcG G A (mset μ0 mm rf σ α) [.ref mm, .int x1, .int x2]) (QG G A (pI (pMi μ0 mm rf post))) 0 0 A := by
  refine met_J (loc := [(0, .ref mm), (1, .int x1), (2, .int x2)]) (by decide +kernel) (Nat.le_of_ble_eq_true rfl) rfl ?_
  intro p e s m args below meth c X hin
  have X : Cx p l s m args meth c cX7_extend 6 (some .int) RX7 G A := X
  have hw := h
  unfold wp_X7_extend at hw
  refine j_aload_n X (pc' := 1) (kk := 0) (i := 0) 0 rfl rfl dX7_extend_0 rfl ?_
  refine j_iload_n X (pc' := 2) (kk := 1) (i := 1) 1 rfl rfl dX7_extend_1 rfl ?_
  refine j_callVi (As := [.int x1]) (rest := []) X (pc' := 5) (cells' := 0) (slots' := 0) (c_X7_isType l G A hMO μ0 x1 σ α _ hw) (gk_X7_isType wt_4_70) hd_X7_isType (rmL_fit (k1 := 1) (k := 5) (by omega) (by decide)) mset_o rfl rfl rfl (Nat.le_of_ble_eq_true rfl) dX7_extend_2 rfl ⟨Nat.le_of_ble_eq_true rfl, Nat.le_of_ble_eq_true rfl⟩ rfl rfl (fun r1 μ12 hw1 => ?_)
  obtain ⟨σ2, α3, rfl, hw2⟩ := hw1
  refine j_if_eq X (pc' := 8) (tgt := 20) dX7_extend_5 rfl (by decide) (fun c4 => ?_) (fun c4 => ?_)
  · have hw3 := hw2.1 c4
    exact tb_X7_extend_20 X hMO _ _ _ _ hw3
  · have hw4 := hw2.2 c4
    refine j_aload_n X (pc' := 9) (kk := 0) (i := 0) 0 rfl rfl dX7_extend_8 rfl ?_
    refine j_iload_n X (pc' := 10) (kk := 2) (i := 2) 2 rfl rfl dX7_extend_9 rfl ?_
    refine j_callVi (As := [.int x2]) (rest := []) X (pc' := 13) (cells' := 0) (slots' := 0) (c_X7_isType l G A hMO μ0 x2 σ2 α3 _ hw4) (gk_X7_isType wt_4_70) hd_X7_isType (rmL_fit (k1 := 1) (k := 5) (by omega) (by decide)) mset_o rfl rfl rfl (Nat.le_of_ble_eq_true rfl) dX7_extend_10 rfl ⟨Nat.le_of_ble_eq_true rfl, Nat.le_of_ble_eq_true rfl⟩ rfl rfl (fun r5 μ10 hw5 => ?_)
    obtain ⟨σ6, α7, rfl, hw6⟩ := hw5
    refine j_if_eq X (pc' := 16) (tgt := 20) dX7_extend_13 rfl (by decide) (fun c8 => ?_) (fun c8 => ?_)
    · have hw7 := hw6.1 c8
      exact tb_X7_extend_20 X hMO _ _ _ _ hw7
    · have hw8 := hw6.2 c8
      refine j_iconst X (pc' := 17) (v := 1) (by decide) dX7_extend_16 rfl ?_
      refine j_goto X (tgt := 21) dX7_extend_17 (by decide) ?_
      exact tb_X7_extend_21 X hMO _ _ _ _ _ hw8
/-! BitNotationModel.types()I -/
theorem dX7_types_0 : decode cX7_types 0 = .ok (.aload_n 0, 1) := by decide +kernel
theorem dX7_types_1 : decode cX7_types 1 = .ok (.aload_n 0, 1) := by decide +kernel
theorem dX7_types_2 : decode cX7_types 2 = .ok (.getfield 77, 3) := by decide +kernel
theorem dX7_types_5 : decode cX7_types 5 = .ok (.invokevirtual 133, 3) := by decide +kernel
theorem dX7_types_8 : decode cX7_types 8 = .ok (.ireturn, 1) := by decide +kernel
def wp_X7_types (σ : Nat → Int32) (α : Nat → Nat → Int32) (post : Int32 → (Nat → Int32) → (Nat → Nat → Int32) → Prop) : Prop := wp_X7_fine (σ 1) σ α (fun r1 σ2 α3 => post r1 σ2 α3)
set_option maxHeartbeats 4000000 in
set_option maxRecDepth 100000 in
theorem c_X7_types (l : Launch) (G : gG) (A : Nat → Prop) {mm : Nat} {rf : Nat → Nat} (hMO : MOk mm rf) (μ0 : Mm) (σ : Nat → Int32) (α : Nat → Nat → Int32) (post : Int32 → (Nat → Int32) → (Nat → Nat → Int32) → Prop) (h : wp_X7_types σ α post) : Met l yX7_types (.code yX7_types cX7_types 1 (some .int) :: wsA) (rmL (1) 0 0) (PcG G A (mset μ0 mm rf σ α) [.ref mm]) (QG G A (pI (pMi μ0 mm rf post))) 0 0 A := by
  refine met_J (loc := [(0, .ref mm)]) (by decide +kernel) (Nat.le_of_ble_eq_true rfl) rfl ?_
  intro p e s m args below meth c X hin
  have X : Cx p l s m args meth c cX7_types 1 (some .int) RX7 G A := X
  have hw := h
  unfold wp_X7_types at hw
  refine j_aload_n X (pc' := 1) (kk := 0) (i := 0) 0 rfl rfl dX7_types_0 rfl ?_
  refine j_aload_n X (pc' := 2) (kk := 0) (i := 0) 0 rfl rfl dX7_types_1 rfl ?_
  refine j_getf X (pc' := 5) mset_o 1 rfl rfl fw_TX7 (by decide) wt_3_166 dX7_types_2 rfl ?_
  refine j_callVi (As := [.int (σ 1)]) (rest := []) X (pc' := 8) (cells' := 0) (slots' := 0) (c_X7_fine l G A hMO μ0 (σ 1) σ α _ hw) (gk_X7_fine wt_4_102) hd_X7_fine (rmL_fit (k1 := 0) (k := 1) (by omega) (by decide)) mset_o rfl rfl rfl (Nat.le_of_ble_eq_true rfl) dX7_types_5 rfl ⟨Nat.le_of_ble_eq_true rfl, Nat.le_of_ble_eq_true rfl⟩ rfl rfl (fun r1 μ5 hw1 => ?_)
  obtain ⟨σ2, α3, rfl, hw2⟩ := hw1
  exact j_iret X ⟨_, rfl, _, _, rfl, hw2⟩ (Nat.le_of_ble_eq_true rfl) (Nat.le_of_ble_eq_true rfl) dX7_types_8
/-! BitNotationModel.noType(I)Z -/
theorem dX7_noType_0 : decode cX7_noType 0 = .ok (.aload_n 0, 1) := by decide +kernel
theorem dX7_noType_1 : decode cX7_noType 1 = .ok (.aload_n 0, 1) := by decide +kernel
theorem dX7_noType_2 : decode cX7_noType 2 = .ok (.iload_n 1, 1) := by decide +kernel
theorem dX7_noType_3 : decode cX7_noType 3 = .ok (.invokevirtual 120, 3) := by decide +kernel
theorem dX7_noType_6 : decode cX7_noType 6 = .ok (.ifCond .eq 7, 3) := by decide +kernel
theorem dX7_noType_9 : decode cX7_noType 9 = .ok (.iconst 0, 1) := by decide +kernel
theorem dX7_noType_10 : decode cX7_noType 10 = .ok (.goto 4, 3) := by decide +kernel
theorem dX7_noType_13 : decode cX7_noType 13 = .ok (.iconst 1, 1) := by decide +kernel
theorem dX7_noType_14 : decode cX7_noType 14 = .ok (.invokevirtual 109, 3) := by decide +kernel
theorem dX7_noType_17 : decode cX7_noType 17 = .ok (.ireturn, 1) := by decide +kernel
def wb_X7_noType_14 (post : Int32 → (Nat → Int32) → (Nat → Nat → Int32) → Prop)  (s0 : Int32) (σ : Nat → Int32) (α : Nat → Nat → Int32) : Prop := wp_X7_refused s0 σ α (fun r7 σ8 α9 => (r7 = 0 ∨ r7 = 1) ∧ post r7 σ8 α9)
set_option maxHeartbeats 4000000 in
set_option maxRecDepth 100000 in
theorem tb_X7_noType_14 {p : Program} {l : Launch} {e : Env} {s : State} {m : MethodId} {args : Array Value} {below : List Frame} {meth : Method} {c : Code} {G : gG} {A : Nat → Prop} {μ0 : Mm} {mm : Nat} {rf : Nat → Nat} {post : Int32 → (Nat → Int32) → (Nat → Nat → Int32) → Prop} (X : Cx p l s m args meth c cX7_noType 2 (some .boolean) RX7 G A) (hMO : MOk mm rf) : ∀ (s0 : Int32) (σ : Nat → Int32) (α : Nat → Nat → Int32), wb_X7_noType_14 post s0 σ α → J p l e (rmL (2) 0 0) s m args below meth c 2 G A (MQ below (QG G A (pI (pMi μ0 mm rf post))) args s 0 0 A) 0 0 14 [(0, .ref mm)] [.int s0, .ref mm] (mset μ0 mm rf σ α) := by
  intro s0 σ α hw
  unfold wb_X7_noType_14 at hw
  refine j_callVi (As := [.int s0]) (rest := []) X (pc' := 17) (cells' := 0) (slots' := 0) (c_X7_refused l G A hMO μ0 s0 σ α _ hw) (gk_X7_refused wt_4_27) hd_X7_refused (rmL_fit (k1 := 0) (k := 2) (by omega) (by decide)) mset_o rfl rfl rfl (Nat.le_of_ble_eq_true rfl) dX7_noType_14 rfl ⟨Nat.le_of_ble_eq_true rfl, Nat.le_of_ble_eq_true rfl⟩ rfl rfl (fun r7 μ11 hw1 => ?_)
  obtain ⟨σ8, α9, rfl, hw2⟩ := hw1
  have hb := hw2.1
  have hw3 := hw2.2
  exact j_zret X hb ⟨_, rfl, _, _, rfl, hw3⟩ (Nat.le_of_ble_eq_true rfl) (Nat.le_of_ble_eq_true rfl) dX7_noType_17
def wp_X7_noType (x1 : Int32) (σ : Nat → Int32) (α : Nat → Nat → Int32) (post : Int32 → (Nat → Int32) → (Nat → Nat → Int32) → Prop) : Prop := wp_X7_isType x1 σ α (fun r1 σ2 α3 => (r1 = 0 → (wb_X7_noType_14 post (1 : Int32) σ2 α3)) ∧ (¬ r1 = 0 → (wb_X7_noType_14 post (0 : Int32) σ2 α3)))
set_option maxHeartbeats 4000000 in
set_option maxRecDepth 100000 in
theorem c_X7_noType (l : Launch) (G : gG) (A : Nat → Prop) {mm : Nat} {rf : Nat → Nat} (hMO : MOk mm rf) (μ0 : Mm) (x1 : Int32) (σ : Nat → Int32) (α : Nat → Nat → Int32) (post : Int32 → (Nat → Int32) → (Nat → Nat → Int32) → Prop) (h : wp_X7_noType x1 σ α post) : Met l yX7_noType (.code yX7_noType cX7_noType 2 (some .boolean) :: wsA) (rmL (2) 0 0) (PcG G A (mset μ0 mm rf σ α) [.ref mm, .int x1]) (QG G A (pI (pMi μ0 mm rf post))) 0 0 A := by
  refine met_J (loc := [(0, .ref mm), (1, .int x1)]) (by decide +kernel) (Nat.le_of_ble_eq_true rfl) rfl ?_
  intro p e s m args below meth c X hin
  have X : Cx p l s m args meth c cX7_noType 2 (some .boolean) RX7 G A := X
  have hw := h
  unfold wp_X7_noType at hw
  refine j_aload_n X (pc' := 1) (kk := 0) (i := 0) 0 rfl rfl dX7_noType_0 rfl ?_
  refine j_aload_n X (pc' := 2) (kk := 0) (i := 0) 0 rfl rfl dX7_noType_1 rfl ?_
  refine j_iload_n X (pc' := 3) (kk := 1) (i := 1) 1 rfl rfl dX7_noType_2 rfl ?_
  refine j_callVi (As := [.int x1]) (rest := [.ref mm]) X (pc' := 6) (cells' := 0) (slots' := 0) (c_X7_isType l G A hMO μ0 x1 σ α _ hw) (gk_X7_isType wt_4_70) hd_X7_isType (rmL_fit (k1 := 1) (k := 2) (by omega) (by decide)) mset_o rfl rfl rfl (Nat.le_of_ble_eq_true rfl) dX7_noType_3 rfl ⟨Nat.le_of_ble_eq_true rfl, Nat.le_of_ble_eq_true rfl⟩ rfl rfl (fun r1 μ6 hw1 => ?_)
  obtain ⟨σ2, α3, rfl, hw2⟩ := hw1
  refine j_if_eq X (pc' := 9) (tgt := 13) dX7_noType_6 rfl (by decide) (fun c4 => ?_) (fun c4 => ?_)
  · have hw3 := hw2.1 c4
    refine j_iconst X (pc' := 14) (v := 1) (by decide) dX7_noType_13 rfl ?_
    refine j_loc [0] rfl ?_
    exact tb_X7_noType_14 X hMO _ _ _ hw3
  · have hw4 := hw2.2 c4
    refine j_iconst X (pc' := 10) (v := 0) (by decide) dX7_noType_9 rfl ?_
    refine j_goto X (tgt := 14) dX7_noType_10 (by decide) ?_
    refine j_loc [0] rfl ?_
    exact tb_X7_noType_14 X hMO _ _ _ hw4
/-! BitNotationModel.leastBits(I)I -/
theorem dX7_leastBits_0 : decode cX7_leastBits 0 = .ok (.aload_n 0, 1) := by decide +kernel
theorem dX7_leastBits_1 : decode cX7_leastBits 1 = .ok (.iload_n 1, 1) := by decide +kernel
theorem dX7_leastBits_2 : decode cX7_leastBits 2 = .ok (.invokevirtual 136, 3) := by decide +kernel
theorem dX7_leastBits_5 : decode cX7_leastBits 5 = .ok (.ifCond .eq 7, 3) := by decide +kernel
theorem dX7_leastBits_8 : decode cX7_leastBits 8 = .ok (.iconst 0, 1) := by decide +kernel
theorem dX7_leastBits_9 : decode cX7_leastBits 9 = .ok (.goto 9, 3) := by decide +kernel
theorem dX7_leastBits_12 : decode cX7_leastBits 12 = .ok (.aload_n 0, 1) := by decide +kernel
theorem dX7_leastBits_13 : decode cX7_leastBits 13 = .ok (.getfield 31, 3) := by decide +kernel
theorem dX7_leastBits_16 : decode cX7_leastBits 16 = .ok (.iload_n 1, 1) := by decide +kernel
theorem dX7_leastBits_17 : decode cX7_leastBits 17 = .ok (.iaload, 1) := by decide +kernel
theorem dX7_leastBits_18 : decode cX7_leastBits 18 = .ok (.ireturn, 1) := by decide +kernel
def wp_X7_leastBits (x1 : Int32) (σ : Nat → Int32) (α : Nat → Nat → Int32) (post : Int32 → (Nat → Int32) → (Nat → Nat → Int32) → Prop) : Prop := wp_X7_noType x1 σ α (fun r1 σ2 α3 => (r1 = 0 → (vp_in x1 16 ∧ post (α3 9 x1.toNatClampNeg) σ2 α3)) ∧ (¬ r1 = 0 → (post (0 : Int32) σ2 α3)))
set_option maxHeartbeats 4000000 in
set_option maxRecDepth 100000 in
theorem c_X7_leastBits (l : Launch) (G : gG) (A : Nat → Prop) {mm : Nat} {rf : Nat → Nat} (hMO : MOk mm rf) (μ0 : Mm) (x1 : Int32) (σ : Nat → Int32) (α : Nat → Nat → Int32) (post : Int32 → (Nat → Int32) → (Nat → Nat → Int32) → Prop) (h : wp_X7_leastBits x1 σ α post) : Met l yX7_leastBits (.code yX7_leastBits cX7_leastBits 2 (some .int) :: wsA) (rmL (3) 0 0) (PcG G A (mset μ0 mm rf σ α) [.ref mm, .int x1]) (QG G A (pI (pMi μ0 mm rf post))) 0 0 A := by
  refine met_J (loc := [(0, .ref mm), (1, .int x1)]) (by decide +kernel) (Nat.le_of_ble_eq_true rfl) rfl ?_
  intro p e s m args below meth c X hin
  have X : Cx p l s m args meth c cX7_leastBits 2 (some .int) RX7 G A := X
  have hw := h
  unfold wp_X7_leastBits at hw
  refine j_aload_n X (pc' := 1) (kk := 0) (i := 0) 0 rfl rfl dX7_leastBits_0 rfl ?_
  refine j_iload_n X (pc' := 2) (kk := 1) (i := 1) 1 rfl rfl dX7_leastBits_1 rfl ?_
  refine j_callVi (As := [.int x1]) (rest := []) X (pc' := 5) (cells' := 0) (slots' := 0) (c_X7_noType l G A hMO μ0 x1 σ α _ hw) (gk_X7_noType wt_4_110) hd_X7_noType (rmL_fit (k1 := 2) (k := 3) (by omega) (by decide)) mset_o rfl rfl rfl (Nat.le_of_ble_eq_true rfl) dX7_leastBits_2 rfl ⟨Nat.le_of_ble_eq_true rfl, Nat.le_of_ble_eq_true rfl⟩ rfl rfl (fun r1 μ7 hw1 => ?_)
  obtain ⟨σ2, α3, rfl, hw2⟩ := hw1
  refine j_if_eq X (pc' := 8) (tgt := 12) dX7_leastBits_5 rfl (by decide) (fun c4 => ?_) (fun c4 => ?_)
  · have hw3 := hw2.1 c4
    refine j_aload_n X (pc' := 13) (kk := 0) (i := 0) 0 rfl rfl dX7_leastBits_12 rfl ?_
    refine j_getf X (pc' := 16) mset_o 9 rfl rfl fw_TX7 (by decide) wt_3_174 dX7_leastBits_13 rfl ?_
    refine j_iload_n X (pc' := 17) (kk := 1) (i := 1) 1 rfl rfl dX7_leastBits_16 rfl ?_
    have h5 := hw3.1
    have hw4 := hw3.2
    refine j_iald X (pc' := 18) (mset_a hMO 9 (by decide)) h5 dX7_leastBits_17 rfl ?_
    exact j_iret X ⟨_, rfl, _, _, rfl, hw4⟩ (Nat.le_of_ble_eq_true rfl) (Nat.le_of_ble_eq_true rfl) dX7_leastBits_18
  · have hw5 := hw2.2 c4
    refine j_iconst X (pc' := 9) (v := 0) (by decide) dX7_leastBits_8 rfl ?_
    refine j_goto X (tgt := 18) dX7_leastBits_9 (by decide) ?_
    exact j_iret X ⟨_, rfl, _, _, rfl, hw5⟩ (Nat.le_of_ble_eq_true rfl) (Nat.le_of_ble_eq_true rfl) dX7_leastBits_18
/-! BitNotationModel.mostBits(I)I -/
theorem dX7_mostBits_0 : decode cX7_mostBits 0 = .ok (.aload_n 0, 1) := by decide +kernel
theorem dX7_mostBits_1 : decode cX7_mostBits 1 = .ok (.iload_n 1, 1) := by decide +kernel
theorem dX7_mostBits_2 : decode cX7_mostBits 2 = .ok (.invokevirtual 136, 3) := by decide +kernel
theorem dX7_mostBits_5 : decode cX7_mostBits 5 = .ok (.ifCond .eq 7, 3) := by decide +kernel
theorem dX7_mostBits_8 : decode cX7_mostBits 8 = .ok (.iconst 0, 1) := by decide +kernel
theorem dX7_mostBits_9 : decode cX7_mostBits 9 = .ok (.goto 9, 3) := by decide +kernel
theorem dX7_mostBits_12 : decode cX7_mostBits 12 = .ok (.aload_n 0, 1) := by decide +kernel
theorem dX7_mostBits_13 : decode cX7_mostBits 13 = .ok (.getfield 34, 3) := by decide +kernel
theorem dX7_mostBits_16 : decode cX7_mostBits 16 = .ok (.iload_n 1, 1) := by decide +kernel
theorem dX7_mostBits_17 : decode cX7_mostBits 17 = .ok (.iaload, 1) := by decide +kernel
theorem dX7_mostBits_18 : decode cX7_mostBits 18 = .ok (.ireturn, 1) := by decide +kernel
def wp_X7_mostBits (x1 : Int32) (σ : Nat → Int32) (α : Nat → Nat → Int32) (post : Int32 → (Nat → Int32) → (Nat → Nat → Int32) → Prop) : Prop := wp_X7_noType x1 σ α (fun r1 σ2 α3 => (r1 = 0 → (vp_in x1 16 ∧ post (α3 10 x1.toNatClampNeg) σ2 α3)) ∧ (¬ r1 = 0 → (post (0 : Int32) σ2 α3)))
set_option maxHeartbeats 4000000 in
set_option maxRecDepth 100000 in
theorem c_X7_mostBits (l : Launch) (G : gG) (A : Nat → Prop) {mm : Nat} {rf : Nat → Nat} (hMO : MOk mm rf) (μ0 : Mm) (x1 : Int32) (σ : Nat → Int32) (α : Nat → Nat → Int32) (post : Int32 → (Nat → Int32) → (Nat → Nat → Int32) → Prop) (h : wp_X7_mostBits x1 σ α post) : Met l yX7_mostBits (.code yX7_mostBits cX7_mostBits 2 (some .int) :: wsA) (rmL (3) 0 0) (PcG G A (mset μ0 mm rf σ α) [.ref mm, .int x1]) (QG G A (pI (pMi μ0 mm rf post))) 0 0 A := by
  refine met_J (loc := [(0, .ref mm), (1, .int x1)]) (by decide +kernel) (Nat.le_of_ble_eq_true rfl) rfl ?_
  intro p e s m args below meth c X hin
  have X : Cx p l s m args meth c cX7_mostBits 2 (some .int) RX7 G A := X
  have hw := h
  unfold wp_X7_mostBits at hw
  refine j_aload_n X (pc' := 1) (kk := 0) (i := 0) 0 rfl rfl dX7_mostBits_0 rfl ?_
  refine j_iload_n X (pc' := 2) (kk := 1) (i := 1) 1 rfl rfl dX7_mostBits_1 rfl ?_
  refine j_callVi (As := [.int x1]) (rest := []) X (pc' := 5) (cells' := 0) (slots' := 0) (c_X7_noType l G A hMO μ0 x1 σ α _ hw) (gk_X7_noType wt_4_110) hd_X7_noType (rmL_fit (k1 := 2) (k := 3) (by omega) (by decide)) mset_o rfl rfl rfl (Nat.le_of_ble_eq_true rfl) dX7_mostBits_2 rfl ⟨Nat.le_of_ble_eq_true rfl, Nat.le_of_ble_eq_true rfl⟩ rfl rfl (fun r1 μ7 hw1 => ?_)
  obtain ⟨σ2, α3, rfl, hw2⟩ := hw1
  refine j_if_eq X (pc' := 8) (tgt := 12) dX7_mostBits_5 rfl (by decide) (fun c4 => ?_) (fun c4 => ?_)
  · have hw3 := hw2.1 c4
    refine j_aload_n X (pc' := 13) (kk := 0) (i := 0) 0 rfl rfl dX7_mostBits_12 rfl ?_
    refine j_getf X (pc' := 16) mset_o 10 rfl rfl fw_TX7 (by decide) wt_3_175 dX7_mostBits_13 rfl ?_
    refine j_iload_n X (pc' := 17) (kk := 1) (i := 1) 1 rfl rfl dX7_mostBits_16 rfl ?_
    have h5 := hw3.1
    have hw4 := hw3.2
    refine j_iald X (pc' := 18) (mset_a hMO 10 (by decide)) h5 dX7_mostBits_17 rfl ?_
    exact j_iret X ⟨_, rfl, _, _, rfl, hw4⟩ (Nat.le_of_ble_eq_true rfl) (Nat.le_of_ble_eq_true rfl) dX7_mostBits_18
  · have hw5 := hw2.2 c4
    refine j_iconst X (pc' := 9) (v := 0) (by decide) dX7_mostBits_8 rfl ?_
    refine j_goto X (tgt := 18) dX7_mostBits_9 (by decide) ?_
    exact j_iret X ⟨_, rfl, _, _, rfl, hw5⟩ (Nat.le_of_ble_eq_true rfl) (Nat.le_of_ble_eq_true rfl) dX7_mostBits_18
/-! BitNotationModel.tell(I)I -/
theorem dX7_tell_0 : decode cX7_tell 0 = .ok (.aload_n 0, 1) := by decide +kernel
theorem dX7_tell_1 : decode cX7_tell 1 = .ok (.iload_n 1, 1) := by decide +kernel
theorem dX7_tell_2 : decode cX7_tell 2 = .ok (.sipush (-1000), 3) := by decide +kernel
theorem dX7_tell_5 : decode cX7_tell 5 = .ok (.sipush 1000, 3) := by decide +kernel
theorem dX7_tell_8 : decode cX7_tell 8 = .ok (.invokestatic 80, 3) := by decide +kernel
theorem dX7_tell_11 : decode cX7_tell 11 = .ok (.ifCond .ne 7, 3) := by decide +kernel
theorem dX7_tell_14 : decode cX7_tell 14 = .ok (.iconst 1, 1) := by decide +kernel
theorem dX7_tell_15 : decode cX7_tell 15 = .ok (.goto 18, 3) := by decide +kernel
theorem dX7_tell_18 : decode cX7_tell 18 = .ok (.aload_n 0, 1) := by decide +kernel
theorem dX7_tell_19 : decode cX7_tell 19 = .ok (.getfield 139, 3) := by decide +kernel
theorem dX7_tell_22 : decode cX7_tell 22 = .ok (.sipush 300, 3) := by decide +kernel
theorem dX7_tell_25 : decode cX7_tell 25 = .ok (.if_icmp .ne 7, 3) := by decide +kernel
theorem dX7_tell_28 : decode cX7_tell 28 = .ok (.iconst 2, 1) := by decide +kernel
theorem dX7_tell_29 : decode cX7_tell 29 = .ok (.goto 4, 3) := by decide +kernel
theorem dX7_tell_32 : decode cX7_tell 32 = .ok (.iconst 0, 1) := by decide +kernel
theorem dX7_tell_33 : decode cX7_tell 33 = .ok (.invokevirtual 109, 3) := by decide +kernel
theorem dX7_tell_36 : decode cX7_tell 36 = .ok (.ifCond .eq 5, 3) := by decide +kernel
theorem dX7_tell_39 : decode cX7_tell 39 = .ok (.iconst 0, 1) := by decide +kernel
theorem dX7_tell_40 : decode cX7_tell 40 = .ok (.ireturn, 1) := by decide +kernel
theorem dX7_tell_41 : decode cX7_tell 41 = .ok (.aload_n 0, 1) := by decide +kernel
theorem dX7_tell_42 : decode cX7_tell 42 = .ok (.getfield 43, 3) := by decide +kernel
theorem dX7_tell_45 : decode cX7_tell 45 = .ok (.aload_n 0, 1) := by decide +kernel
theorem dX7_tell_46 : decode cX7_tell 46 = .ok (.getfield 139, 3) := by decide +kernel
theorem dX7_tell_49 : decode cX7_tell 49 = .ok (.iload_n 1, 1) := by decide +kernel
theorem dX7_tell_50 : decode cX7_tell 50 = .ok (.iastore, 1) := by decide +kernel
theorem dX7_tell_51 : decode cX7_tell 51 = .ok (.aload_n 0, 1) := by decide +kernel
theorem dX7_tell_52 : decode cX7_tell 52 = .ok (.dup, 1) := by decide +kernel
theorem dX7_tell_53 : decode cX7_tell 53 = .ok (.getfield 139, 3) := by decide +kernel
theorem dX7_tell_56 : decode cX7_tell 56 = .ok (.iconst 1, 1) := by decide +kernel
theorem dX7_tell_57 : decode cX7_tell 57 = .ok (.iadd, 1) := by decide +kernel
theorem dX7_tell_58 : decode cX7_tell 58 = .ok (.putfield 139, 3) := by decide +kernel
theorem dX7_tell_61 : decode cX7_tell 61 = .ok (.aload_n 0, 1) := by decide +kernel
theorem dX7_tell_62 : decode cX7_tell 62 = .ok (.getfield 139, 3) := by decide +kernel
theorem dX7_tell_65 : decode cX7_tell 65 = .ok (.ireturn, 1) := by decide +kernel
def wb_X7_tell_33 (post : Int32 → (Nat → Int32) → (Nat → Nat → Int32) → Prop)  (v1 : Int32) (s0 : Int32) (σ : Nat → Int32) (α : Nat → Nat → Int32) : Prop := wp_X7_refused s0 σ α (fun r5 σ6 α7 => (r5 = 0 → (vp_in (σ6 14) 300 ∧ ∀ α10, α10 = upA α7 15 (upd (α7 15) (σ6 14).toNatClampNeg v1) → ∀ σ12, σ12 = upd σ6 14 ((σ6 14) + (1 : Int32)) → post (σ12 14) σ12 α10)) ∧ (¬ r5 = 0 → (post (0 : Int32) σ6 α7)))
set_option maxHeartbeats 4000000 in
set_option maxRecDepth 100000 in
theorem tb_X7_tell_33 {p : Program} {l : Launch} {e : Env} {s : State} {m : MethodId} {args : Array Value} {below : List Frame} {meth : Method} {c : Code} {G : gG} {A : Nat → Prop} {μ0 : Mm} {mm : Nat} {rf : Nat → Nat} {post : Int32 → (Nat → Int32) → (Nat → Nat → Int32) → Prop} (X : Cx p l s m args meth c cX7_tell 2 (some .int) RX7 G A) (hMO : MOk mm rf) : ∀ (v1 : Int32) (s0 : Int32) (σ : Nat → Int32) (α : Nat → Nat → Int32), wb_X7_tell_33 post v1 s0 σ α → J p l e (rmL (1) 0 0) s m args below meth c 2 G A (MQ below (QG G A (pI (pMi μ0 mm rf post))) args s 0 0 A) 0 0 33 [(0, .ref mm), (1, .int v1)] [.int s0, .ref mm] (mset μ0 mm rf σ α) := by
  intro v1 s0 σ α hw
  unfold wb_X7_tell_33 at hw
  refine j_callVi (As := [.int s0]) (rest := []) X (pc' := 36) (cells' := 0) (slots' := 0) (c_X7_refused l G A hMO μ0 s0 σ α _ hw) (gk_X7_refused wt_4_27) hd_X7_refused (rmL_fit (k1 := 0) (k := 1) (by omega) (by decide)) mset_o rfl rfl rfl (Nat.le_of_ble_eq_true rfl) dX7_tell_33 rfl ⟨Nat.le_of_ble_eq_true rfl, Nat.le_of_ble_eq_true rfl⟩ rfl rfl (fun r5 μ15 hw1 => ?_)
  obtain ⟨σ6, α7, rfl, hw2⟩ := hw1
  refine j_if_eq X (pc' := 39) (tgt := 41) dX7_tell_36 rfl (by decide) (fun c8 => ?_) (fun c8 => ?_)
  · have hw3 := hw2.1 c8
    refine j_aload_n X (pc' := 42) (kk := 0) (i := 0) 0 rfl rfl dX7_tell_41 rfl ?_
    refine j_getf X (pc' := 45) mset_o 15 rfl rfl fw_TX7 (by decide) wt_3_180 dX7_tell_42 rfl ?_
    refine j_aload_n X (pc' := 46) (kk := 0) (i := 0) 0 rfl rfl dX7_tell_45 rfl ?_
    refine j_getf X (pc' := 49) mset_o 14 rfl rfl fw_TX7 (by decide) wt_3_179 dX7_tell_46 rfl ?_
    refine j_iload_n X (pc' := 50) (kk := 1) (i := 1) 1 rfl rfl dX7_tell_49 rfl ?_
    have h9 := hw3.1
    have hw4 := hw3.2
    refine jm_iast X (pc' := 51) hMO 15 (by decide) h9 dX7_tell_50 rfl (fun α10 e11 => ?_)
    have hw5 := hw4 α10 e11
    refine j_aload_n X (pc' := 52) (kk := 0) (i := 0) 0 rfl rfl dX7_tell_51 rfl ?_
    refine j_dup X (pc' := 53) rfl dX7_tell_52 rfl ?_
    refine j_getf X (pc' := 56) mset_o 14 rfl rfl fw_TX7 (by decide) wt_3_179 dX7_tell_53 rfl ?_
    refine j_iconst X (pc' := 57) (v := 1) (by decide) dX7_tell_56 rfl ?_
    refine j_iadd X (pc' := 58) dX7_tell_57 rfl ?_
    refine jm_putf X (pc' := 61) 14 (mF_set_14 _ _ _) (by decide) rfl wt_3_179 (by decide +kernel) dX7_tell_58 rfl (fun σ12 e13 => ?_)
    have hw6 := hw5 σ12 e13
    refine j_aload_n X (pc' := 62) (kk := 0) (i := 0) 0 rfl rfl dX7_tell_61 rfl ?_
    refine j_getf X (pc' := 65) mset_o 14 rfl rfl fw_TX7 (by decide) wt_3_179 dX7_tell_62 rfl ?_
    exact j_iret X ⟨_, rfl, _, _, rfl, hw6⟩ (Nat.le_of_ble_eq_true rfl) (Nat.le_of_ble_eq_true rfl) dX7_tell_65
  · have hw7 := hw2.2 c8
    refine j_iconst X (pc' := 40) (v := 0) (by decide) dX7_tell_39 rfl ?_
    exact j_iret X ⟨_, rfl, _, _, rfl, hw7⟩ (Nat.le_of_ble_eq_true rfl) (Nat.le_of_ble_eq_true rfl) dX7_tell_40
def wp_X7_tell (x1 : Int32) (σ : Nat → Int32) (α : Nat → Nat → Int32) (post : Int32 → (Nat → Int32) → (Nat → Nat → Int32) → Prop) : Prop := wp_X7_in x1 (-1000 : Int32) (1000 : Int32) (fun r1 => (¬ r1 = 0 → ((¬ (σ 14) = (300 : Int32) → (wb_X7_tell_33 post x1 (0 : Int32) σ α)) ∧ ((σ 14) = (300 : Int32) → (wb_X7_tell_33 post x1 (2 : Int32) σ α)))) ∧ (r1 = 0 → (wb_X7_tell_33 post x1 (1 : Int32) σ α)))
set_option maxHeartbeats 4000000 in
set_option maxRecDepth 100000 in
theorem c_X7_tell (l : Launch) (G : gG) (A : Nat → Prop) {mm : Nat} {rf : Nat → Nat} (hMO : MOk mm rf) (μ0 : Mm) (x1 : Int32) (σ : Nat → Int32) (α : Nat → Nat → Int32) (post : Int32 → (Nat → Int32) → (Nat → Nat → Int32) → Prop) (h : wp_X7_tell x1 σ α post) : Met l yX7_tell (.code yX7_tell cX7_tell 2 (some .int) :: wsA) (rmL (1) 0 0) (PcG G A (mset μ0 mm rf σ α) [.ref mm, .int x1]) (QG G A (pI (pMi μ0 mm rf post))) 0 0 A := by
  refine met_J (loc := [(0, .ref mm), (1, .int x1)]) (by decide +kernel) (Nat.le_of_ble_eq_true rfl) rfl ?_
  intro p e s m args below meth c X hin
  have X : Cx p l s m args meth c cX7_tell 2 (some .int) RX7 G A := X
  have hw := h
  unfold wp_X7_tell at hw
  refine j_aload_n X (pc' := 1) (kk := 0) (i := 0) 0 rfl rfl dX7_tell_0 rfl ?_
  refine j_iload_n X (pc' := 2) (kk := 1) (i := 1) 1 rfl rfl dX7_tell_1 rfl ?_
  refine j_sipush X (pc' := 5) (v := (-1000)) (by decide) dX7_tell_2 rfl ?_
  refine j_sipush X (pc' := 8) (v := 1000) (by decide) dX7_tell_5 rfl ?_
  refine j_callSp (As := [.int x1, .int (-1000 : Int32), .int (1000 : Int32)]) (rest := [.ref mm]) X (pc' := 11) (cells' := 0) (slots' := 0) (c_X7_in l G A (mset μ0 mm rf σ α) x1 (-1000 : Int32) (1000 : Int32) _ hw) (gk_X7_in wt_4_24) hd_X7_in (rmL_fit (k1 := 0) (k := 1) (by omega) (by decide)) rfl rfl (Nat.le_of_ble_eq_true rfl) dX7_tell_8 rfl ⟨Nat.le_of_ble_eq_true rfl, Nat.le_of_ble_eq_true rfl⟩ rfl rfl (fun r1 hw1 => ?_)
  refine j_if_ne X (pc' := 14) (tgt := 18) dX7_tell_11 rfl (by decide) (fun c2 => ?_) (fun c2 => ?_)
  · have hw2 := hw1.1 c2
    refine j_aload_n X (pc' := 19) (kk := 0) (i := 0) 0 rfl rfl dX7_tell_18 rfl ?_
    refine j_getf X (pc' := 22) mset_o 14 rfl rfl fw_TX7 (by decide) wt_3_179 dX7_tell_19 rfl ?_
    refine j_sipush X (pc' := 25) (v := 300) (by decide) dX7_tell_22 rfl ?_
    refine j_icmp_ne X (pc' := 28) (tgt := 32) dX7_tell_25 rfl (by decide) (fun c3 => ?_) (fun c3 => ?_)
    · have hw3 := hw2.1 c3
      refine j_iconst X (pc' := 33) (v := 0) (by decide) dX7_tell_32 rfl ?_
      exact tb_X7_tell_33 X hMO _ _ _ _ hw3
    · have hw4 := hw2.2 c3
      refine j_iconst X (pc' := 29) (v := 2) (by decide) dX7_tell_28 rfl ?_
      refine j_goto X (tgt := 33) dX7_tell_29 (by decide) ?_
      exact tb_X7_tell_33 X hMO _ _ _ _ hw4
  · have hw5 := hw1.2 c2
    refine j_iconst X (pc' := 15) (v := 1) (by decide) dX7_tell_14 rfl ?_
    refine j_goto X (tgt := 33) dX7_tell_15 (by decide) ?_
    exact tb_X7_tell_33 X hMO _ _ _ _ hw5
/-! BitNotationModel.forget()I -/
theorem dX7_forget_0 : decode cX7_forget 0 = .ok (.aload_n 0, 1) := by decide +kernel
theorem dX7_forget_1 : decode cX7_forget 1 = .ok (.getfield 139, 3) := by decide +kernel
theorem dX7_forget_4 : decode cX7_forget 4 = .ok (.istore_n 1, 1) := by decide +kernel
theorem dX7_forget_5 : decode cX7_forget 5 = .ok (.aload_n 0, 1) := by decide +kernel
theorem dX7_forget_6 : decode cX7_forget 6 = .ok (.iconst 0, 1) := by decide +kernel
theorem dX7_forget_7 : decode cX7_forget 7 = .ok (.putfield 139, 3) := by decide +kernel
theorem dX7_forget_10 : decode cX7_forget 10 = .ok (.aload_n 0, 1) := by decide +kernel
theorem dX7_forget_11 : decode cX7_forget 11 = .ok (.iload_n 1, 1) := by decide +kernel
theorem dX7_forget_12 : decode cX7_forget 12 = .ok (.invokevirtual 133, 3) := by decide +kernel
theorem dX7_forget_15 : decode cX7_forget 15 = .ok (.ireturn, 1) := by decide +kernel
def wp_X7_forget (σ : Nat → Int32) (α : Nat → Nat → Int32) (post : Int32 → (Nat → Int32) → (Nat → Nat → Int32) → Prop) : Prop := ∀ σ1, σ1 = upd σ 14 (0 : Int32) → wp_X7_fine (σ 14) σ1 α (fun r3 σ4 α5 => post r3 σ4 α5)
set_option maxHeartbeats 4000000 in
set_option maxRecDepth 100000 in
theorem c_X7_forget (l : Launch) (G : gG) (A : Nat → Prop) {mm : Nat} {rf : Nat → Nat} (hMO : MOk mm rf) (μ0 : Mm) (σ : Nat → Int32) (α : Nat → Nat → Int32) (post : Int32 → (Nat → Int32) → (Nat → Nat → Int32) → Prop) (h : wp_X7_forget σ α post) : Met l yX7_forget (.code yX7_forget cX7_forget 2 (some .int) :: wsA) (rmL (1) 0 0) (PcG G A (mset μ0 mm rf σ α) [.ref mm]) (QG G A (pI (pMi μ0 mm rf post))) 0 0 A := by
  refine met_J (loc := [(0, .ref mm)]) (by decide +kernel) (Nat.le_of_ble_eq_true rfl) rfl ?_
  intro p e s m args below meth c X hin
  have X : Cx p l s m args meth c cX7_forget 2 (some .int) RX7 G A := X
  have hw := h
  unfold wp_X7_forget at hw
  refine j_aload_n X (pc' := 1) (kk := 0) (i := 0) 0 rfl rfl dX7_forget_0 rfl ?_
  refine j_getf X (pc' := 4) mset_o 14 rfl rfl fw_TX7 (by decide) wt_3_179 dX7_forget_1 rfl ?_
  refine j_istore_n X (pc' := 5) (kk := 1) (i := 1) (loc' := [(1, .int (σ 14)), (0, .ref mm)]) dX7_forget_4 rfl rfl (by decide) rfl ?_
  refine j_aload_n X (pc' := 6) (kk := 0) (i := 0) 1 rfl rfl dX7_forget_5 rfl ?_
  refine j_iconst X (pc' := 7) (v := 0) (by decide) dX7_forget_6 rfl ?_
  refine jm_putf X (pc' := 10) 14 (mF_set_14 _ _ _) (by decide) rfl wt_3_179 (by decide +kernel) dX7_forget_7 rfl (fun σ1 e2 => ?_)
  have hw1 := hw σ1 e2
  refine j_aload_n X (pc' := 11) (kk := 0) (i := 0) 1 rfl rfl dX7_forget_10 rfl ?_
  refine j_iload_n X (pc' := 12) (kk := 1) (i := 1) 0 rfl rfl dX7_forget_11 rfl ?_
  refine j_callVi (As := [.int (σ 14)]) (rest := []) X (pc' := 15) (cells' := 0) (slots' := 0) (c_X7_fine l G A hMO μ0 (σ 14) σ1 α _ hw1) (gk_X7_fine wt_4_102) hd_X7_fine (rmL_fit (k1 := 0) (k := 1) (by omega) (by decide)) mset_o rfl rfl rfl (Nat.le_of_ble_eq_true rfl) dX7_forget_12 rfl ⟨Nat.le_of_ble_eq_true rfl, Nat.le_of_ble_eq_true rfl⟩ rfl rfl (fun r3 μ7 hw2 => ?_)
  obtain ⟨σ4, α5, rfl, hw3⟩ := hw2
  exact j_iret X ⟨_, rfl, _, _, rfl, hw3⟩ (Nat.le_of_ble_eq_true rfl) (Nat.le_of_ble_eq_true rfl) dX7_forget_15
/-! BitNotationModel.length()I -/
theorem dX7_length_0 : decode cX7_length 0 = .ok (.aload_n 0, 1) := by decide +kernel
theorem dX7_length_1 : decode cX7_length 1 = .ok (.aload_n 0, 1) := by decide +kernel
theorem dX7_length_2 : decode cX7_length 2 = .ok (.getfield 139, 3) := by decide +kernel
theorem dX7_length_5 : decode cX7_length 5 = .ok (.invokevirtual 133, 3) := by decide +kernel
theorem dX7_length_8 : decode cX7_length 8 = .ok (.ireturn, 1) := by decide +kernel
def wp_X7_length (σ : Nat → Int32) (α : Nat → Nat → Int32) (post : Int32 → (Nat → Int32) → (Nat → Nat → Int32) → Prop) : Prop := wp_X7_fine (σ 14) σ α (fun r1 σ2 α3 => post r1 σ2 α3)
set_option maxHeartbeats 4000000 in
set_option maxRecDepth 100000 in
theorem c_X7_length (l : Launch) (G : gG) (A : Nat → Prop) {mm : Nat} {rf : Nat → Nat} (hMO : MOk mm rf) (μ0 : Mm) (σ : Nat → Int32) (α : Nat → Nat → Int32) (post : Int32 → (Nat → Int32) → (Nat → Nat → Int32) → Prop) (h : wp_X7_length σ α post) : Met l yX7_length (.code yX7_length cX7_length 1 (some .int) :: wsA) (rmL (1) 0 0) (PcG G A (mset μ0 mm rf σ α) [.ref mm]) (QG G A (pI (pMi μ0 mm rf post))) 0 0 A := by
  refine met_J (loc := [(0, .ref mm)]) (by decide +kernel) (Nat.le_of_ble_eq_true rfl) rfl ?_
  intro p e s m args below meth c X hin
  have X : Cx p l s m args meth c cX7_length 1 (some .int) RX7 G A := X
  have hw := h
  unfold wp_X7_length at hw
  refine j_aload_n X (pc' := 1) (kk := 0) (i := 0) 0 rfl rfl dX7_length_0 rfl ?_
  refine j_aload_n X (pc' := 2) (kk := 0) (i := 0) 0 rfl rfl dX7_length_1 rfl ?_
  refine j_getf X (pc' := 5) mset_o 14 rfl rfl fw_TX7 (by decide) wt_3_179 dX7_length_2 rfl ?_
  refine j_callVi (As := [.int (σ 14)]) (rest := []) X (pc' := 8) (cells' := 0) (slots' := 0) (c_X7_fine l G A hMO μ0 (σ 14) σ α _ hw) (gk_X7_fine wt_4_102) hd_X7_fine (rmL_fit (k1 := 0) (k := 1) (by omega) (by decide)) mset_o rfl rfl rfl (Nat.le_of_ble_eq_true rfl) dX7_length_5 rfl ⟨Nat.le_of_ble_eq_true rfl, Nat.le_of_ble_eq_true rfl⟩ rfl rfl (fun r1 μ5 hw1 => ?_)
  obtain ⟨σ2, α3, rfl, hw2⟩ := hw1
  exact j_iret X ⟨_, rfl, _, _, rfl, hw2⟩ (Nat.le_of_ble_eq_true rfl) (Nat.le_of_ble_eq_true rfl) dX7_length_8
