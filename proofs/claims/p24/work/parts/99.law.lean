/-! THE LAW'S OWN WALK -/
section JLoop
variable {p : Program} {l : Launch} {e : Env} {s : State} {m : MethodId} {below : List Frame} {meth : Method} {c : Code} {G : gG} {kd : Nat → Nat} {b0 L : Nat} {xs : Nat → Int32}
theorem FR : 0 + 6 + 1 ≤ room_1.frames ∧ 8 + (2 + 11) + (40 * 0 + 120) ≤ room_1.locals := ⟨by show _ ≤ 2048; omega, by show _ ≤ 84000; omega⟩
theorem j_lawret {cells slots : Nat} {loc : List (Nat × Value)} {μ : Mm} (X : Cx p l s m #[.ref b0] meth c code 7 (some .boolean) RL G (fun q => s.heap.size ≤ q)) (hc : cells ≤ 787991) (hs : slots ≤ 6737495) {pc : Nat} (hdg : decode code pc = .ok (.ireturn, 1)) : J p l e room_1 s m #[.ref b0] below meth c 7 G (fun q => s.heap.size ≤ q) (lw_Z below #[.ref b0] s) cells slots pc loc [.int 1] μ := by
  intro H locs ls hB hS hl
  exact va_forget (fun q hq => hS.2.2 q hq) (W.widen hc hs (lw_ret X.1 X.2.1 X.2.2.1 X.2.2.2.2.2.2.1 hdg))
set_option maxHeartbeats 4000000 in
set_option maxRecDepth 100000 in
theorem law_end (X : Cx p l s m #[.ref b0] meth c code 7 (some .boolean) RL G (fun q => s.heap.size ≤ q)) (hl0 : l.stackTraces = false) (hkd : G.2.2 = kd) (hkj : ∀ i j, i < 4 → j < 4 → kd i = kd j → i = j) (hX : va_X b0 L xs s s.heap) (hbl : b0 < s.heap.size) (hL : L ≤ 2048) {x1 x2 t k c0 s0 : Nat} {μ1 μ2 : Mm} {S : SS} (hc : c0 ≤ 600000) (hs : s0 ≤ 6000000) (hd0 : disM μ1 μ2) (hV : VS S) (hK1 : KS kd x1 S μ1) (hK2 : KS kd x2 S μ2) : J p l e room_1 s m #[.ref b0] below meth c 7 G (fun q => s.heap.size ≤ q) (lw_Z below #[.ref b0] s) c0 s0 209 [(0, .ref b0), (1, .ref x1), (2, .ref x2), (3, .int (nI t)), (4, .int 1), (5, .int (nI k))] [] (joinM μ1 μ2) := by
  have hbA : ¬ (fun q : Nat => s.heap.size ≤ q) b0 := Nat.not_le.mpr hbl
  refine j_iload X (pc' := 211) (i := 4) 4 rfl dL_law_209 rfl ?_
  refine j_if_eq X (pc' := 214) (tgt := 248) dL_law_211 rfl (by decide) (fun z => absurd z (by decide)) (fun _ => ?_)
  refine j_aload_n X (pc' := 215) (kk := 1) (i := 1) 1 rfl rfl dL_law_214 rfl ?_
  refine j_aload_n X (pc' := 216) (kk := 0) (i := 0) 0 rfl rfl dL_law_215 rfl ?_
  refine j_iconst X (pc' := 217) (v := nI 0) (by decide) dL_law_216 rfl ?_
  refine j_drawn X (pc' := 220) (rest := [.ref x1]) hX hbl hbA hL (i := 0) (by omega) FR (Nat.le_of_ble_eq_true rfl) dL_law_217 rfl ⟨by show _ ≤ 787991; omega, by show _ ≤ 6737495; omega⟩ (fun j hj => ?_)
  refine j_bipush X (pc' := 222) (v := nI 29) (by decide) dL_law_220 rfl ?_
  refine j_idiv X (pc' := 223) (by decide) dL_law_222 rfl ?_
  rw [pk_div hj (by omega) (by omega)]
  obtain ⟨S1, hV1, ho1⟩ := ho_ok (kd := kd) hkj hV (j := j / 29) (Nat.lt_of_le_of_lt (Nat.div_le_self _ _) hj)
  refine j_lawC X (pc' := 226) (As := [.ref x1, .int (nI (j / 29))]) (rest := []) (mc1 := 1000) (ms1 := 8000) hd0 (fun A1 => c_L_holds l G A1 hl0 kd hkd x1 (nI (j / 29)) μ1 (fun r9 μ9 => r9 = 1 ∧ KS kd x1 S1 μ9) (ho1 x1 μ1 _ hK1 (fun μ9 h9 => ⟨rfl, h9⟩))) (gk_L_holds wt_3_178) hd_L_holds ⟨by show _ ≤ 2048; omega, by show _ ≤ 84000; omega⟩ rfl rfl (Nat.le_of_ble_eq_true rfl) dL_law_223 rfl ⟨by show _ ≤ 787991; omega, by show _ ≤ 6737495; omega⟩ (fun r1 μ3 hd3 hr1 => ?_)
  obtain ⟨hr1e, hK3⟩ := hr1
  subst hr1e
  refine j_if_eq X (pc' := 229) (tgt := 248) dL_law_226 rfl (by decide) (fun z => absurd z (by decide)) (fun _ => ?_)
  refine j_aload_n X (pc' := 230) (kk := 2) (i := 2) 2 rfl rfl dL_law_229 rfl ?_
  refine j_aload_n X (pc' := 231) (kk := 0) (i := 0) 0 rfl rfl dL_law_230 rfl ?_
  refine j_iconst X (pc' := 232) (v := nI 0) (by decide) dL_law_231 rfl ?_
  refine j_drawn X (pc' := 235) (rest := [.ref x2]) hX hbl hbA hL (i := 0) (by omega) FR (Nat.le_of_ble_eq_true rfl) dL_law_232 rfl ⟨by show _ ≤ 787991; omega, by show _ ≤ 6737495; omega⟩ (fun j2 hj2 => ?_)
  refine j_bipush X (pc' := 237) (v := nI 31) (by decide) dL_law_235 rfl ?_
  refine j_idiv X (pc' := 238) (by decide) dL_law_237 rfl ?_
  rw [pk_div hj2 (by omega) (by omega)]
  obtain ⟨S2, hV2, ho2⟩ := ho_ok (kd := kd) hkj hV (j := j2 / 31) (Nat.lt_of_le_of_lt (Nat.div_le_self _ _) hj2)
  refine j_lawC2 X (pc' := 241) (As := [.ref x2, .int (nI (j2 / 31))]) (rest := []) (mc1 := 1000) (ms1 := 8000) hd3 (fun A1 => c_L_holds l G A1 hl0 kd hkd x2 (nI (j2 / 31)) μ2 (fun r9 μ9 => r9 = 1 ∧ KS kd x2 S2 μ9) (ho2 x2 μ2 _ hK2 (fun μ9 h9 => ⟨rfl, h9⟩))) (gk_L_holds wt_3_178) hd_L_holds ⟨by show _ ≤ 2048; omega, by show _ ≤ 84000; omega⟩ rfl rfl (Nat.le_of_ble_eq_true rfl) dL_law_238 rfl ⟨by show _ ≤ 787991; omega, by show _ ≤ 6737495; omega⟩ (fun r2 μ4 hd4 hr2 => ?_)
  obtain ⟨hr2e, hK4⟩ := hr2
  subst hr2e
  refine j_if_eq X (pc' := 244) (tgt := 248) dL_law_241 rfl (by decide) (fun z => absurd z (by decide)) (fun _ => ?_)
  refine j_iconst X (pc' := 245) (v := 1) (by decide) dL_law_244 rfl ?_
  refine j_goto X (tgt := 249) dL_law_245 (by decide) ?_
  exact j_lawret X (by omega) (by omega) dL_law_249
set_option maxHeartbeats 4000000 in
set_option maxRecDepth 100000 in
theorem law_loop (X : Cx p l s m #[.ref b0] meth c code 7 (some .boolean) RL G (fun q => s.heap.size ≤ q)) (hl0 : l.stackTraces = false) (hkd : G.2.2 = kd) (hkj : ∀ i j, i < 4 → j < 4 → kd i = kd j → i = j) (hX : va_X b0 L xs s s.heap) (hbl : b0 < s.heap.size) (hL : L ≤ 2048) {x1 x2 t : Nat} (ht : t ≤ 44) : ∀ (n k c0 s0 : Nat) (μ1 μ2 : Mm) (S : SS), t ≤ k + n → k ≤ 44 → c0 ≤ 100 + 10000 * k → s0 ≤ 4000 + 80000 * k → disM μ1 μ2 → VS S → KS kd x1 S μ1 → KS kd x2 S μ2 → J p l e room_1 s m #[.ref b0] below meth c 7 G (fun q => s.heap.size ≤ q) (lw_Z below #[.ref b0] s) c0 s0 34 [(0, .ref b0), (1, .ref x1), (2, .ref x2), (3, .int (nI t)), (4, .int 1), (5, .int (nI k))] [] (joinM μ1 μ2) := by
  have hbA : ¬ (fun q : Nat => s.heap.size ≤ q) b0 := Nat.not_le.mpr hbl
  intro n
  induction n with
  | zero =>
    intro k c0 s0 μ1 μ2 S hn hk hc hs hd0 hV hK1 hK2
    refine j_iload X (pc' := 36) (i := 5) 5 rfl dL_law_34 rfl ?_
    refine j_iload_n X (pc' := 37) (kk := 3) (i := 3) 3 rfl rfl dL_law_36 rfl ?_
    refine j_icmp_ge X (pc' := 40) (tgt := 209) dL_law_37 rfl (by decide) (fun _ => law_end X hl0 hkd hkj hX hbl hL (by omega) (by omega) hd0 hV hK1 hK2) (fun z => absurd (nI_le (by omega) (by omega)) z)
  | succ n ih =>
    intro k c0 s0 μ1 μ2 S hn hk hc hs hd0 hV hK1 hK2
    refine j_iload X (pc' := 36) (i := 5) 5 rfl dL_law_34 rfl ?_
    refine j_iload_n X (pc' := 37) (kk := 3) (i := 3) 3 rfl rfl dL_law_36 rfl ?_
    refine j_icmp_ge X (pc' := 40) (tgt := 209) dL_law_37 rfl (by decide) (fun _ => law_end X hl0 hkd hkj hX hbl hL (by omega) (by omega) hd0 hV hK1 hK2) (fun z => ?_)
    have hkt : k < t := Nat.lt_of_not_le (fun h => z (nI_le h (by omega)))
    have K196 : ∀ (jj c1 s1 : Nat) (μ1 μ2 : Mm) (S : SS), c1 ≤ c0 + 10000 → s1 ≤ s0 + 80000 → disM μ1 μ2 → VS S → KS kd x1 S μ1 → KS kd x2 S μ2 → J p l e room_1 s m #[.ref b0] below meth c 7 G (fun q => s.heap.size ≤ q) (lw_Z below #[.ref b0] s) c1 s1 196 [(6, .int (nI jj)), (0, .ref b0), (1, .ref x1), (2, .ref x2), (3, .int (nI t)), (4, .int 1), (5, .int (nI k))] [] (joinM μ1 μ2) := by
      intro jj c1 s1 μ1 μ2 S hc1 hs1 hd1 hV1 hK1 hK2
      refine j_iconst X (pc' := 197) (v := 1) (by decide) dL_law_196 rfl ?_
      refine j_goto X (tgt := 201) dL_law_197 (by decide) ?_
      refine j_istore X (pc' := 203) (i := 4) (loc' := [(4, .int 1), (6, .int (nI jj)), (0, .ref b0), (1, .ref x1), (2, .ref x2), (3, .int (nI t)), (5, .int (nI k))]) dL_law_201 rfl (by decide) rfl ?_
      refine j_iinc X (pc' := 206) (i := 5) (v := nI (k + 1)) (loc' := [(5, .int (nI (k + 1))), (4, .int 1), (6, .int (nI jj)), (0, .ref b0), (1, .ref x1), (2, .ref x2), (3, .int (nI t))]) 6 rfl (by rw [show Int32.ofInt 1 = nI 1 from by decide]; exact nI_add k 1) dL_law_203 rfl (by decide) rfl ?_
      refine j_goto X (tgt := 34) dL_law_206 (by decide) ?_
      refine j_loc [3, 4, 5, 6, 1, 0] rfl ?_
      exact ih (k + 1) c1 s1 μ1 μ2 S (by omega) (by omega) (Nat.le_trans hc1 (Nat.le_trans (Nat.add_le_add_right hc 10000) (Nat.le_of_eq (by rw [Nat.mul_add_one, Nat.add_assoc])))) (Nat.le_trans hs1 (Nat.le_trans (Nat.add_le_add_right hs 80000) (Nat.le_of_eq (by rw [Nat.mul_add_one, Nat.add_assoc])))) hd1 hV1 hK1 hK2
    have K113 : ∀ (jj j : Nat), j < 2 ^ 31 → J p l e room_1 s m #[.ref b0] below meth c 7 G (fun q => s.heap.size ≤ q) (lw_Z below #[.ref b0] s) c0 s0 113 [(6, .int (nI jj)), (0, .ref b0), (1, .ref x1), (2, .ref x2), (3, .int (nI t)), (4, .int 1), (5, .int (nI k))] [.int (nI j)] (joinM μ1 μ2) := by
      intro jj j hj
      refine j_istore X (pc' := 115) (i := 6) (loc' := [(6, .int (nI j)), (0, .ref b0), (1, .ref x1), (2, .ref x2), (3, .int (nI t)), (4, .int 1), (5, .int (nI k))]) dL_law_113 rfl (by decide) rfl ?_
      refine j_aload_n X (pc' := 116) (kk := 2) (i := 2) 3 rfl rfl dL_law_115 rfl ?_
      refine j_iload X (pc' := 118) (i := 6) 0 rfl dL_law_116 rfl ?_
      refine j_sipush X (pc' := 121) (v := nI 9973) (by decide) dL_law_118 rfl ?_
      refine j_irem X (pc' := 122) (by decide) dL_law_121 rfl ?_
      rw [pk_rem hj (by omega) (by omega)]
      refine j_lawC2 X (pc' := 125) (As := [.ref x2, .int (nI (j % 9973))]) (rest := []) (mc1 := 160) (ms1 := 1280) hd0 (fun A1 => c_L_refuses l G A1 hl0 kd hkd x2 (nI (j % 9973)) μ2 (fun r9 μ9 => r9 = 1 ∧ KS kd x2 S μ9) (rf_ok hkj hV hK2 (by omega) (fun μ9 h9 => ⟨rfl, h9⟩))) (gk_L_refuses wt_1_125) hd_L_refuses ⟨by show _ ≤ 2048; omega, by show _ ≤ 84000; omega⟩ rfl rfl (Nat.le_of_ble_eq_true rfl) dL_law_122 rfl ⟨by show _ ≤ 787991; omega, by show _ ≤ 6737495; omega⟩ (fun r1 μ3 hd3 hr1 => ?_)
      obtain ⟨hr1e, hK3⟩ := hr1
      subst hr1e
      refine j_if_eq X (pc' := 128) (tgt := 200) dL_law_125 rfl (by decide) (fun z => absurd z (by decide)) (fun _ => ?_)
      obtain ⟨ra, S1, hV1, ha⟩ := act_ok (kd := kd) hkj hV hj
      refine j_aload_n X (pc' := 129) (kk := 1) (i := 1) 2 rfl rfl dL_law_128 rfl ?_
      refine j_iload X (pc' := 131) (i := 6) 0 rfl dL_law_129 rfl ?_
      refine j_lawC X (pc' := 134) (As := [.ref x1, .int (nI j)]) (rest := []) (mc1 := 3000) (ms1 := 24000) hd3 (fun A1 => c_L_act l G A1 hl0 kd hkd x1 (nI j) μ1 (fun r9 μ9 => r9 = ra ∧ KS kd x1 S1 μ9) (ha x1 μ1 _ hK1 (fun μ9 h9 => ⟨rfl, h9⟩))) (gk_L_act wt_3_145) hd_L_act ⟨by show _ ≤ 2048; omega, by show _ ≤ 84000; omega⟩ rfl rfl (Nat.le_of_ble_eq_true rfl) dL_law_131 rfl ⟨by show _ ≤ 787991; omega, by show _ ≤ 6737495; omega⟩ (fun r2 μ4 hd4 hr2 => ?_)
      obtain ⟨hr2e, hK4⟩ := hr2
      subst hr2e
      refine j_aload_n X (pc' := 135) (kk := 2) (i := 2) 3 rfl rfl dL_law_134 rfl ?_
      refine j_iload X (pc' := 137) (i := 6) 0 rfl dL_law_135 rfl ?_
      refine j_lawC2 X (pc' := 140) (As := [.ref x2, .int (nI j)]) (rest := [.int r2]) (mc1 := 3000) (ms1 := 24000) hd4 (fun A1 => c_L_act l G A1 hl0 kd hkd x2 (nI j) μ3 (fun r9 μ9 => r9 = r2 ∧ KS kd x2 S1 μ9) (ha x2 μ3 _ hK3 (fun μ9 h9 => ⟨rfl, h9⟩))) (gk_L_act wt_3_145) hd_L_act ⟨by show _ ≤ 2048; omega, by show _ ≤ 84000; omega⟩ rfl rfl (Nat.le_of_ble_eq_true rfl) dL_law_137 rfl ⟨by show _ ≤ 787991; omega, by show _ ≤ 6737495; omega⟩ (fun r3 μ5 hd5 hr3 => ?_)
      obtain ⟨hr3e, hK5⟩ := hr3
      subst hr3e
      refine j_icmp_ne X (pc' := 143) (tgt := 200) dL_law_140 rfl (by decide) (fun z => absurd rfl z) (fun _ => ?_)
      refine j_aload_n X (pc' := 144) (kk := 2) (i := 2) 3 rfl rfl dL_law_143 rfl ?_
      refine j_iload X (pc' := 146) (i := 6) 0 rfl dL_law_144 rfl ?_
      refine j_sipush X (pc' := 149) (v := nI 499) (by decide) dL_law_146 rfl ?_
      refine j_irem X (pc' := 150) (by decide) dL_law_149 rfl ?_
      rw [pk_rem hj (by omega) (by omega)]
      refine j_lawC2 X (pc' := 153) (As := [.ref x2, .int (nI (j % 499))]) (rest := []) (mc1 := 160) (ms1 := 1280) hd5 (fun A1 => c_L_refuses l G A1 hl0 kd hkd x2 (nI (j % 499)) μ5 (fun r9 μ9 => r9 = 1 ∧ KS kd x2 S1 μ9) (rf_ok hkj hV1 hK5 (by omega) (fun μ9 h9 => ⟨rfl, h9⟩))) (gk_L_refuses wt_1_125) hd_L_refuses ⟨by show _ ≤ 2048; omega, by show _ ≤ 84000; omega⟩ rfl rfl (Nat.le_of_ble_eq_true rfl) dL_law_150 rfl ⟨by show _ ≤ 787991; omega, by show _ ≤ 6737495; omega⟩ (fun r4 μ6 hd6 hr4 => ?_)
      obtain ⟨hr4e, hK6⟩ := hr4
      subst hr4e
      refine j_if_eq X (pc' := 156) (tgt := 200) dL_law_153 rfl (by decide) (fun z => absurd z (by decide)) (fun _ => ?_)
      refine j_aload_n X (pc' := 157) (kk := 1) (i := 1) 2 rfl rfl dL_law_156 rfl ?_
      refine j_aload_n X (pc' := 158) (kk := 2) (i := 2) 3 rfl rfl dL_law_157 rfl ?_
      refine j_callSi X (pc' := 161) (cells' := c0 + 160 + 3000 + 3000 + 160 + 1500) (slots' := s0 + 1280 + 24000 + 24000 + 1280 + 12000) (As := [.ref x1, .ref x2]) (rest := []) (c_L_alike l G _ hl0 kd hkd x1 x2 μ4 μ6 (fun r9 a9 b9 => r9 = 1 ∧ KS kd x1 S1 a9 ∧ KS kd x2 S1 b9) hd6 (al_ok hkj hV1 hK4 hK6 (fun a9 b9 h1 h2 => ⟨rfl, h1, h2⟩))) (gk_L_alike wt_3_175) hd_L_alike ⟨by show _ ≤ 2048; omega, by show _ ≤ 84000; omega⟩ rfl rfl (Nat.le_of_ble_eq_true rfl) dL_law_158 rfl ⟨by show _ ≤ 787991; omega, by show _ ≤ 6737495; omega⟩ rfl rfl (fun r5 μ7 h5 => ?_)
      obtain ⟨μ8, μ9, h5e, hd8, h5r, hK8, hK9⟩ := h5
      subst h5e; subst h5r
      refine j_if_eq X (pc' := 164) (tgt := 200) dL_law_161 rfl (by decide) (fun z => absurd z (by decide)) (fun _ => ?_)
      refine j_iload X (pc' := 166) (i := 5) 6 rfl dL_law_164 rfl ?_
      refine j_iconst X (pc' := 167) (v := nI 5) (by decide) dL_law_166 rfl ?_
      refine j_irem X (pc' := 168) (by decide) dL_law_167 rfl ?_
      refine j_iconst X (pc' := 169) (v := nI 4) (by decide) dL_law_168 rfl ?_
      refine j_icmp_lt X (pc' := 172) (tgt := 196) dL_law_169 rfl (by decide) (fun _ => K196 j _ _ μ8 μ9 S1 (by omega) (by omega) hd8 hV1 hK8 hK9) (fun _ => ?_)
      obtain ⟨S2, hV2, ho2⟩ := ho_ok (kd := kd) hkj hV1 (j := j / 7) (Nat.lt_of_le_of_lt (Nat.div_le_self _ _) hj)
      refine j_aload_n X (pc' := 173) (kk := 1) (i := 1) 2 rfl rfl dL_law_172 rfl ?_
      refine j_iload X (pc' := 175) (i := 6) 0 rfl dL_law_173 rfl ?_
      refine j_bipush X (pc' := 177) (v := nI 7) (by decide) dL_law_175 rfl ?_
      refine j_idiv X (pc' := 178) (by decide) dL_law_177 rfl ?_
      rw [pk_div hj (by omega) (by omega)]
      refine j_lawC X (pc' := 181) (As := [.ref x1, .int (nI (j / 7))]) (rest := []) (mc1 := 1000) (ms1 := 8000) hd8 (fun A1 => c_L_holds l G A1 hl0 kd hkd x1 (nI (j / 7)) μ8 (fun r9 μ9 => r9 = 1 ∧ KS kd x1 S2 μ9) (ho2 x1 μ8 _ hK8 (fun μ9 h9 => ⟨rfl, h9⟩))) (gk_L_holds wt_3_178) hd_L_holds ⟨by show _ ≤ 2048; omega, by show _ ≤ 84000; omega⟩ rfl rfl (Nat.le_of_ble_eq_true rfl) dL_law_178 rfl ⟨by show _ ≤ 787991; omega, by show _ ≤ 6737495; omega⟩ (fun r6 μa hda hr6 => ?_)
      obtain ⟨hr6e, hKa⟩ := hr6
      subst hr6e
      refine j_if_eq X (pc' := 184) (tgt := 200) dL_law_181 rfl (by decide) (fun z => absurd z (by decide)) (fun _ => ?_)
      refine j_aload_n X (pc' := 185) (kk := 2) (i := 2) 3 rfl rfl dL_law_184 rfl ?_
      refine j_iload X (pc' := 187) (i := 6) 0 rfl dL_law_185 rfl ?_
      refine j_bipush X (pc' := 189) (v := nI 7) (by decide) dL_law_187 rfl ?_
      refine j_idiv X (pc' := 190) (by decide) dL_law_189 rfl ?_
      rw [pk_div hj (by omega) (by omega)]
      refine j_lawC2 X (pc' := 193) (As := [.ref x2, .int (nI (j / 7))]) (rest := []) (mc1 := 1000) (ms1 := 8000) hda (fun A1 => c_L_holds l G A1 hl0 kd hkd x2 (nI (j / 7)) μ9 (fun r9 μ9 => r9 = 1 ∧ KS kd x2 S2 μ9) (ho2 x2 μ9 _ hK9 (fun μ9 h9 => ⟨rfl, h9⟩))) (gk_L_holds wt_3_178) hd_L_holds ⟨by show _ ≤ 2048; omega, by show _ ≤ 84000; omega⟩ rfl rfl (Nat.le_of_ble_eq_true rfl) dL_law_190 rfl ⟨by show _ ≤ 787991; omega, by show _ ≤ 6737495; omega⟩ (fun r7 μb hdb hr7 => ?_)
      obtain ⟨hr7e, hKb⟩ := hr7
      subst hr7e
      refine j_if_eq X (pc' := 196) (tgt := 200) dL_law_193 rfl (by decide) (fun z => absurd z (by decide)) (fun _ => ?_)
      exact K196 j _ _ μa μb S2 (by omega) (by omega) hdb hV2 hKa hKb
    refine j_iload X (pc' := 42) (i := 4) 4 rfl dL_law_40 rfl ?_
    refine j_if_eq X (pc' := 45) (tgt := 209) dL_law_42 rfl (by decide) (fun z => absurd z (by decide)) (fun _ => ?_)
    refine j_aload_n X (pc' := 46) (kk := 0) (i := 0) 0 rfl rfl dL_law_45 rfl ?_
    refine j_iconst X (pc' := 47) (v := nI 1) (by decide) dL_law_46 rfl ?_
    refine j_iload X (pc' := 49) (i := 5) 5 rfl dL_law_47 rfl ?_
    refine j_iadd X (pc' := 50) dL_law_49 rfl ?_
    rw [nI_add 1 k]
    refine j_drawn X (pc' := 53) (rest := []) hX hbl hbA hL (i := 1 + k) (by omega) FR (Nat.le_of_ble_eq_true rfl) dL_law_50 rfl ⟨by show _ ≤ 787991; omega, by show _ ≤ 6737495; omega⟩ (fun jj hjj => ?_)
    refine j_istore X (pc' := 55) (i := 6) (loc' := [(6, .int (nI jj)), (0, .ref b0), (1, .ref x1), (2, .ref x2), (3, .int (nI t)), (4, .int 1), (5, .int (nI k))]) dL_law_53 rfl (by decide) rfl ?_
    refine j_iload X (pc' := 57) (i := 5) 6 rfl dL_law_55 rfl ?_
    refine j_iconst X (pc' := 58) (v := nI 2) (by decide) dL_law_57 rfl ?_
    refine j_icmp_ge X (pc' := 61) (tgt := 72) dL_law_58 rfl (by decide) (fun _ => ?_) (fun _ => ?_)
    · refine j_iload X (pc' := 74) (i := 5) 6 rfl dL_law_72 rfl ?_
      refine j_iconst X (pc' := 75) (v := nI 4) (by decide) dL_law_74 rfl ?_
      refine j_icmp_ge X (pc' := 78) (tgt := 91) dL_law_75 rfl (by decide) (fun _ => ?_) (fun _ => ?_)
      · refine j_iload X (pc' := 93) (i := 5) 6 rfl dL_law_91 rfl ?_
        refine j_iconst X (pc' := 94) (v := nI 5) (by decide) dL_law_93 rfl ?_
        refine j_icmp_ge X (pc' := 97) (tgt := 111) dL_law_94 rfl (by decide) (fun _ => ?_) (fun _ => ?_)
        · refine j_iload X (pc' := 113) (i := 6) 0 rfl dL_law_111 rfl ?_
          exact K113 jj jj hjj
        · refine j_iload X (pc' := 99) (i := 6) 0 rfl dL_law_97 rfl ?_
          refine j_bipush X (pc' := 101) (v := nI 32) (by decide) dL_law_99 rfl ?_
          refine j_idiv X (pc' := 102) (by decide) dL_law_101 rfl ?_
          rw [pk_div hjj (by omega) (by omega)]
          refine j_bipush X (pc' := 104) (v := nI 32) (by decide) dL_law_102 rfl ?_
          refine j_imul X (pc' := 105) dL_law_104 rfl ?_
          rw [nI_mul32]
          refine j_bipush X (pc' := 107) (v := nI 10) (by decide) dL_law_105 rfl ?_
          refine j_iadd X (pc' := 108) dL_law_107 rfl ?_
          rw [nI_add (jj / 32 * 32) 10]
          refine j_goto X (tgt := 113) dL_law_108 (by decide) ?_
          exact K113 jj (jj / 32 * 32 + 10) (by omega)
      · refine j_iload X (pc' := 80) (i := 6) 0 rfl dL_law_78 rfl ?_
        refine j_bipush X (pc' := 82) (v := nI 32) (by decide) dL_law_80 rfl ?_
        refine j_idiv X (pc' := 83) (by decide) dL_law_82 rfl ?_
        rw [pk_div hjj (by omega) (by omega)]
        refine j_bipush X (pc' := 85) (v := nI 32) (by decide) dL_law_83 rfl ?_
        refine j_imul X (pc' := 86) dL_law_85 rfl ?_
        rw [nI_mul32]
        refine j_iconst X (pc' := 87) (v := nI 5) (by decide) dL_law_86 rfl ?_
        refine j_iadd X (pc' := 88) dL_law_87 rfl ?_
        rw [nI_add (jj / 32 * 32) 5]
        refine j_goto X (tgt := 113) dL_law_88 (by decide) ?_
        exact K113 jj (jj / 32 * 32 + 5) (by omega)
    · refine j_iload X (pc' := 63) (i := 6) 0 rfl dL_law_61 rfl ?_
      refine j_bipush X (pc' := 65) (v := nI 32) (by decide) dL_law_63 rfl ?_
      refine j_idiv X (pc' := 66) (by decide) dL_law_65 rfl ?_
      rw [pk_div hjj (by omega) (by omega)]
      refine j_bipush X (pc' := 68) (v := nI 32) (by decide) dL_law_66 rfl ?_
      refine j_imul X (pc' := 69) dL_law_68 rfl ?_
      rw [nI_mul32]
      refine j_goto X (tgt := 113) dL_law_69 (by decide) ?_
      exact K113 jj (jj / 32 * 32) (by omega)
end JLoop
set_option maxHeartbeats 4000000 in
set_option maxRecDepth 100000 in
/-- THE LAW, from its entry -/
theorem whole_start {p : Program} {e : Env} {s : State} {m : MethodId} {below : List Frame} {meth : Method} {c : Code} (l : Launch) (hflags : l.flags = flags0) {b L : Nat} {xs : Nat → Int32} (hL : L ≤ 260) (C0 : lw_At p s m meth c b L xs) : W p l e room_1 s m #[Value.ref b] below meth c s.heap [] 0 0 (lw_Z below #[Value.ref b] s) (entryFrame m ([Value.ref b] : List Value).toArray 7) := by
  obtain ⟨hx, hb, hr, hml, hown, hts, hX, hbl, hlocks, hgv⟩ := C0
  obtain ⟨G, hSK, hkinj⟩ := SK_start hts hgv
  have hl0 : l.stackTraces = false := by
    have : l.stackTraces = Launch.stackTraces l := rfl
    first | (rw [Launch.stackTraces, hflags]; decide +kernel) | (simp [Launch.stackTraces, hflags, flags0]; done) | (unfold Launch.stackTraces; rw [hflags]; rfl)
  have X : Cx p l s m #[.ref b] meth c code 7 (some .boolean) RL G (fun q => s.heap.size ≤ q) := ⟨hx, hb, hr, hml, hown, fun w hw => hts w (wsA_tbl w hw), hlocks, hSK, fun q h => h⟩
  have hL : L ≤ 2048 := by omega
  have hbA : ¬ (fun q : Nat => s.heap.size ≤ q) b := Nat.not_le.mpr hbl
  have hl := lv_entry ([.ref b]) (n := 7) (Nat.le_of_ble_eq_true rfl)
  rw [lg_entry_eq]
  have hl : lv_has ((lg_sl [Value.ref b]) ++ List.replicate (7 - (lg_sl [Value.ref b]).length) Slot.unset).toArray 7 [(0, .ref b)] := hl
  have KJ : J p l e room_1 s m #[.ref b] below meth c 7 G (fun q => s.heap.size ≤ q) (lw_Z below #[.ref b] s) 0 0 0 [(0, .ref b)] [] mN := by
    refine jp_new X (pc' := 3) (cells' := 1) (slots' := 7) (ci := 5) (fs := [.null, .null, .null, .null, .null, .null, .int 0]) rfl fw_TX6 tyX6_ok wt_1_16 wt_1_17 wt_1_1 df_X6 (Nat.le_of_ble_eq_true rfl) (Nat.le_of_ble_eq_true rfl) rfl rfl dL_law_0 rfl (fun x1 hq1 μ1 e1 => ?_)
    have hw1 : wp_X6_init x1 μ1 (fun μ2 => KS G.2.2 x1 S0 μ2) := by rw [e1]; exact i_class (fun μ2 ad C hR hB => KS_0 hR hB)
    refine j_dup X (pc' := 4) rfl dL_law_3 rfl ?_
    refine j_callIv (As := []) (rest := [.ref x1]) X (pc' := 7) (cells' := 15) (slots' := 1068) (c_X6_init l G _ x1 μ1 _ hw1) wt_1_18 wt_1_19 wt_1_1 wt_1_20 rfl hd_X6_init ⟨by show _ ≤ 2048; omega, by show _ ≤ 84000; omega⟩ rfl rfl (Nat.le_of_ble_eq_true rfl) dL_law_4 rfl ⟨Nat.le_of_ble_eq_true rfl, Nat.le_of_ble_eq_true rfl⟩ rfl rfl (fun μ2 hK1 => ?_)
    refine j_astore_n X (pc' := 8) (kk := 1) (i := 1) (loc' := [(1, .ref x1), (0, .ref b)]) dL_law_7 rfl rfl (by decide) rfl ?_
    refine jp_new X (pc' := 11) (cells' := 16) (slots' := 1075) (ci := 5) (fs := [.null, .null, .null, .null, .null, .null, .int 0]) rfl fw_TX6 tyX6_ok wt_1_16 wt_1_17 wt_1_1 df_X6 (Nat.le_of_ble_eq_true rfl) (Nat.le_of_ble_eq_true rfl) rfl rfl dL_law_8 rfl (fun x2 hq2 μ3 e3 => ?_)
    obtain ⟨e4, hd0⟩ := join_0 (e1 := E0) hq2
    rw [e3, show ups μ2 x2 (.inl (5, [.null, .null, .null, .null, .null, .null, .int 0])) = joinM μ2 (ups mN x2 E0) from e4]
    refine j_dup X (pc' := 12) rfl dL_law_11 rfl ?_
    refine j_lawI2 (As := []) (rest := [.ref x2]) X (pc' := 15) hd0 (fun A1 => c_X6_init l G A1 x2 (ups mN x2 E0) (fun μ9 => KS G.2.2 x2 S0 μ9) (i_class (fun μ9 ad C hR hB => KS_0 hR hB))) wt_1_18 wt_1_19 wt_1_1 wt_1_20 rfl hd_X6_init ⟨by show _ ≤ 2048; omega, by show _ ≤ 84000; omega⟩ rfl rfl (Nat.le_of_ble_eq_true rfl) dL_law_12 rfl ⟨Nat.le_of_ble_eq_true rfl, Nat.le_of_ble_eq_true rfl⟩ (fun μ4 hd4 hK2 => ?_)
    refine j_astore_n X (pc' := 16) (kk := 2) (i := 2) (loc' := [(2, .ref x2), (1, .ref x1), (0, .ref b)]) dL_law_15 rfl rfl (by decide) rfl ?_
    refine j_bipush X (pc' := 18) (v := nI 16) (by decide) dL_law_16 rfl ?_
    refine j_aload_n X (pc' := 19) (kk := 0) (i := 0) 2 rfl rfl dL_law_18 rfl ?_
    refine j_iconst X (pc' := 20) (v := nI 0) (by decide) dL_law_19 rfl ?_
    refine j_drawn X (pc' := 23) (rest := [.int (nI 16)]) hX hbl hbA hL (i := 0) (by omega) FR (Nat.le_of_ble_eq_true rfl) dL_law_20 rfl ⟨by show _ ≤ 787991; omega, by show _ ≤ 6737495; omega⟩ (fun j hj => ?_)
    refine j_bipush X (pc' := 25) (v := nI 29) (by decide) dL_law_23 rfl ?_
    refine j_irem X (pc' := 26) (by decide) dL_law_25 rfl ?_
    rw [pk_rem hj (by omega) (by omega)]
    refine j_iadd X (pc' := 27) dL_law_26 rfl ?_
    rw [nI_add 16 (j % 29)]
    refine j_istore_n X (pc' := 28) (kk := 3) (i := 3) (loc' := [(3, .int (nI (16 + j % 29))), (2, .ref x2), (1, .ref x1), (0, .ref b)]) dL_law_27 rfl rfl (by decide) rfl ?_
    refine j_iconst X (pc' := 29) (v := 1) (by decide) dL_law_28 rfl ?_
    refine j_istore X (pc' := 31) (i := 4) (loc' := [(4, .int 1), (3, .int (nI (16 + j % 29))), (2, .ref x2), (1, .ref x1), (0, .ref b)]) dL_law_29 rfl (by decide) rfl ?_
    refine j_iconst X (pc' := 32) (v := nI 0) (by decide) dL_law_31 rfl ?_
    refine j_istore X (pc' := 34) (i := 5) (loc' := [(5, .int (nI 0)), (4, .int 1), (3, .int (nI (16 + j % 29))), (2, .ref x2), (1, .ref x1), (0, .ref b)]) dL_law_32 rfl (by decide) rfl ?_
    refine j_loc [5, 4, 3, 2, 1, 0] rfl ?_
    exact law_loop X hl0 rfl hkinj hX hbl (by omega) (by omega) 44 0 _ _ μ2 μ4 S0 (by omega) (by omega) (by omega) (by omega) hd4 VS_0 hK1 hK2
  exact KJ s.heap [] _ (fun a e0 h => by cases h) va_S.rf hl
