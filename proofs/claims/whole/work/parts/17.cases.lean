set_option maxHeartbeats 4000000 in
set_option maxRecDepth 100000 in
theorem law_case_0 {p : Program} {l : Launch} {e : Env} {s : State} {m : MethodId} {args : Array Value} {below : List Frame} {meth : Method} {c : Code} {G : gG} {A : Nat → Prop} {Q : State → Prop} {kd : Nat → Nat} {b0 L : Nat} {xs : Nat → Int32} {x mm out : Nat} {rf : Nat → Nat} {I : Mm → (Nat → Int32) → (Nat → Nat → Int32) → Prop} {μc : Mm} {σ : Nat → Int32} {α : Nat → Nat → Int32} {c0 s0 : Nat} {v4 y0 y1 y2 y3 : Int32} (X : Cx p l s m args meth c code 7 (some .boolean) RL G A) (hl0 : l.stackTraces = false) (hkd : G.2.2 = kd) (hMO : MOk mm rf) (hX : va_X b0 L xs s s.heap) (hbl : b0 < s.heap.size) (hbA : ¬ A b0) (hy1 : vp_in (v4 + 1) L ∧ xs (v4 + 1).toNatClampNeg = y1) (hy2 : vp_in (v4 + 2) L ∧ xs (v4 + 2).toNatClampNeg = y2) (hy3 : vp_in (v4 + 3) L ∧ xs (v4 + 3).toNatClampNeg = y3) (hop0 : op_0 kd x out I) (hdis : disM μc (mset mN mm rf σ α)) (hI : I μc σ α) (hc0 : c0 ≤ 400000) (hs0 : s0 ≤ 4000000)
    (k : ∀ (μ' : Mm) (σ' : Nat → Int32) (α' : Nat → Nat → Int32) (c1 s1 : Nat), disM μ' (mset mN mm rf σ' α') → I μ' σ' α' → c1 ≤ c0 + 20 → s1 ≤ s0 + 100 → J p l e room_1 s m args below meth c 7 G A Q c1 s1 1216 [(0, .ref b0), (1, .ref x), (2, .ref mm), (3, .ref out), (4, .int v4)] [] (joinM μ' (mset mN mm rf σ' α'))) :
    J p l e room_1 s m args below meth c 7 G A Q c0 s0 136 [(0, .ref b0), (1, .ref x), (2, .ref mm), (3, .ref out), (4, .int v4)] [] (joinM μc (mset mN mm rf σ α)) := by
  have hop := hop0 μc σ α
  refine j_aload_n X (pc' := 137) (kk := 1) (i := 1) 1 rfl rfl dL_law_136 rfl ?_
  refine j_aload_n X (pc' := 138) (kk := 0) (i := 0) 0 rfl rfl dL_law_137 rfl ?_
  refine j_iload X (pc' := 140) (i := 4) 4 rfl dL_law_138 rfl ?_
  refine j_iconst X (pc' := 141) (v := 1) (by decide) dL_law_140 rfl ?_
  refine j_iadd X (pc' := 142) dL_law_141 rfl ?_
  refine j_sld X (pc' := 143) hX hbl hbA (hy1).1 dL_law_142 rfl ?_
  rw [(hy1).2]
  refine j_aload_n X (pc' := 144) (kk := 0) (i := 0) 0 rfl rfl dL_law_143 rfl ?_
  refine j_iload X (pc' := 146) (i := 4) 4 rfl dL_law_144 rfl ?_
  refine j_iconst X (pc' := 147) (v := 2) (by decide) dL_law_146 rfl ?_
  refine j_iadd X (pc' := 148) dL_law_147 rfl ?_
  refine j_sld X (pc' := 149) hX hbl hbA (hy2).1 dL_law_148 rfl ?_
  rw [(hy2).2]
  refine j_aload_n X (pc' := 150) (kk := 3) (i := 3) 3 rfl rfl dL_law_149 rfl ?_
  have hw0 := hop y1 y2 hI
  refine j_lawS X (pc' := 153) (As := [.ref x, .int y1, .int y2, .ref out]) (rest := []) (mc1 := 6) (ms1 := 23) hdis (fun A1 => c_L_addNumber l G A1 hl0 kd hkd x y1 y2 out μc _ hw0) (gk_L_addNumber wt_1_149) hd_L_addNumber ⟨by show _ ≤ 2048; omega, by show _ ≤ 84000; omega⟩ rfl rfl (Nat.le_of_ble_eq_true rfl) dL_law_150 rfl ⟨by show _ ≤ 709538; omega, by show _ ≤ 6967491; omega⟩ (fun r1 μ2 hd3 hw1 => ?_)
  refine j_istore X (pc' := 155) (i := 5) (loc' := [(5, .int r1), (0, .ref b0), (1, .ref x), (2, .ref mm), (3, .ref out), (4, .int v4)]) dL_law_153 rfl (by decide) rfl ?_
  refine j_aload_n X (pc' := 156) (kk := 2) (i := 2) 3 rfl rfl dL_law_155 rfl ?_
  refine j_aload_n X (pc' := 157) (kk := 0) (i := 0) 1 rfl rfl dL_law_156 rfl ?_
  refine j_iload X (pc' := 159) (i := 4) 5 rfl dL_law_157 rfl ?_
  refine j_iconst X (pc' := 160) (v := 1) (by decide) dL_law_159 rfl ?_
  refine j_iadd X (pc' := 161) dL_law_160 rfl ?_
  refine j_sld X (pc' := 162) hX hbl hbA (hy1).1 dL_law_161 rfl ?_
  rw [(hy1).2]
  refine j_aload_n X (pc' := 163) (kk := 0) (i := 0) 1 rfl rfl dL_law_162 rfl ?_
  refine j_iload X (pc' := 165) (i := 4) 5 rfl dL_law_163 rfl ?_
  refine j_iconst X (pc' := 166) (v := 2) (by decide) dL_law_165 rfl ?_
  refine j_iadd X (pc' := 167) dL_law_166 rfl ?_
  refine j_sld X (pc' := 168) hX hbl hbA (hy2).1 dL_law_167 rfl ?_
  rw [(hy2).2]
  refine j_lawV2 X (pc' := 171) (b := mm) (As := [.int y1, .int y2]) (rest := []) (mc1 := 0) (ms1 := 0) hd3 (fun A1 => c_X7_addNumber l G A1 hMO mN y1 y2 σ α _ hw1) (gk_X7_addNumber wt_4_20) hd_X7_addNumber ⟨by show _ ≤ 2048; omega, by show _ ≤ 84000; omega⟩ mset_o rfl rfl rfl (Nat.le_of_ble_eq_true rfl) dL_law_168 rfl ⟨by show _ ≤ 709538; omega, by show _ ≤ 6967491; omega⟩ (fun r4 μ5 hd6 hx9 => ?_)
  obtain ⟨σ7, α8, rfl, hx9⟩ := hx9
  refine j_istore X (pc' := 173) (i := 6) (loc' := [(6, .int r4), (5, .int r1), (0, .ref b0), (1, .ref x), (2, .ref mm), (3, .ref out), (4, .int v4)]) dL_law_171 rfl (by decide) rfl ?_
  refine j_aload_n X (pc' := 174) (kk := 2) (i := 2) 4 rfl rfl dL_law_173 rfl ?_
  refine j_lawV2 X (pc' := 177) (b := mm) (As := []) (rest := []) (mc1 := 0) (ms1 := 0) hd6 (fun A1 => c_X7_thrown l G A1 hMO mN  σ7 α8 _ hx9) (gk_X7_thrown wt_4_16) hd_X7_thrown ⟨by show _ ≤ 2048; omega, by show _ ≤ 84000; omega⟩ mset_o rfl rfl rfl (Nat.le_of_ble_eq_true rfl) dL_law_174 rfl ⟨by show _ ≤ 709538; omega, by show _ ≤ 6967491; omega⟩ (fun r10 μ11 hd12 hx15 => ?_)
  obtain ⟨σ13, α14, rfl, hx15⟩ := hx15
  obtain ⟨ht, hz, hI2⟩ := hx15
  refine j_iload X (pc' := 179) (i := 5) 1 rfl dL_law_177 rfl ?_
  refine j_icmp_eq X (pc' := 182) (tgt := 184) dL_law_179 rfl (by decide) (fun _ => ?_) (fun c0 => absurd ht c0)
  refine j_iload X (pc' := 186) (i := 5) 1 rfl dL_law_184 rfl ?_
  refine j_if_ne X (pc' := 189) (tgt := 201) dL_law_186 rfl (by decide) (fun c1 => ?_) (fun c1 => ?_)
  · refine j_goto X (tgt := 1216) dL_law_201 (by decide) ?_
    refine j_loc [2, 3, 4, 5, 6] rfl ?_
    exact k _ _ _ _ _ hd12 hI2 (by omega) (by omega)
  · obtain ⟨n9, f9, hm9, hi9, he9⟩ := hz c1
    refine j_aload_n X (pc' := 190) (kk := 3) (i := 3) 5 rfl rfl dL_law_189 rfl ?_
    refine j_iconst X (pc' := 191) (v := 0) (by decide) dL_law_190 rfl ?_
    refine j_lald X (pc' := 192) (join_1 hm9) hi9 dL_law_191 rfl ?_
    refine j_iload X (pc' := 194) (i := 6) 0 rfl dL_law_192 rfl ?_
    refine j_i2l X (pc' := 195) dL_law_194 rfl ?_
    refine j_lcmpEq X (pc' := 196) he9 dL_law_195 rfl ?_
    refine j_if_eq X (pc' := 199) (tgt := 201) dL_law_196 rfl (by decide) (fun _ => ?_) (fun c0 => absurd rfl c0)
    refine j_goto X (tgt := 1216) dL_law_201 (by decide) ?_
    refine j_loc [2, 3, 4, 5, 6] rfl ?_
    exact k _ _ _ _ _ hd12 hI2 (by omega) (by omega)
set_option maxHeartbeats 4000000 in
set_option maxRecDepth 100000 in
theorem law_case_1 {p : Program} {l : Launch} {e : Env} {s : State} {m : MethodId} {args : Array Value} {below : List Frame} {meth : Method} {c : Code} {G : gG} {A : Nat → Prop} {Q : State → Prop} {kd : Nat → Nat} {b0 L : Nat} {xs : Nat → Int32} {x mm out : Nat} {rf : Nat → Nat} {I : Mm → (Nat → Int32) → (Nat → Nat → Int32) → Prop} {μc : Mm} {σ : Nat → Int32} {α : Nat → Nat → Int32} {c0 s0 : Nat} {v4 y0 y1 y2 y3 : Int32} (X : Cx p l s m args meth c code 7 (some .boolean) RL G A) (hl0 : l.stackTraces = false) (hkd : G.2.2 = kd) (hMO : MOk mm rf) (hX : va_X b0 L xs s s.heap) (hbl : b0 < s.heap.size) (hbA : ¬ A b0) (hy1 : vp_in (v4 + 1) L ∧ xs (v4 + 1).toNatClampNeg = y1) (hy2 : vp_in (v4 + 2) L ∧ xs (v4 + 2).toNatClampNeg = y2) (hy3 : vp_in (v4 + 3) L ∧ xs (v4 + 3).toNatClampNeg = y3) (hop0 : op_1 kd x out I) (hdis : disM μc (mset mN mm rf σ α)) (hI : I μc σ α) (hc0 : c0 ≤ 400000) (hs0 : s0 ≤ 4000000)
    (k : ∀ (μ' : Mm) (σ' : Nat → Int32) (α' : Nat → Nat → Int32) (c1 s1 : Nat), disM μ' (mset mN mm rf σ' α') → I μ' σ' α' → c1 ≤ c0 + 20 → s1 ≤ s0 + 100 → J p l e room_1 s m args below meth c 7 G A Q c1 s1 1216 [(0, .ref b0), (1, .ref x), (2, .ref mm), (3, .ref out), (4, .int v4)] [] (joinM μ' (mset mN mm rf σ' α'))) :
    J p l e room_1 s m args below meth c 7 G A Q c0 s0 204 [(0, .ref b0), (1, .ref x), (2, .ref mm), (3, .ref out), (4, .int v4)] [] (joinM μc (mset mN mm rf σ α)) := by
  have hop := hop0 μc σ α
  refine j_aload_n X (pc' := 205) (kk := 1) (i := 1) 1 rfl rfl dL_law_204 rfl ?_
  refine j_aload_n X (pc' := 206) (kk := 0) (i := 0) 0 rfl rfl dL_law_205 rfl ?_
  refine j_iload X (pc' := 208) (i := 4) 4 rfl dL_law_206 rfl ?_
  refine j_iconst X (pc' := 209) (v := 1) (by decide) dL_law_208 rfl ?_
  refine j_iadd X (pc' := 210) dL_law_209 rfl ?_
  refine j_sld X (pc' := 211) hX hbl hbA (hy1).1 dL_law_210 rfl ?_
  rw [(hy1).2]
  refine j_aload_n X (pc' := 212) (kk := 0) (i := 0) 0 rfl rfl dL_law_211 rfl ?_
  refine j_iload X (pc' := 214) (i := 4) 4 rfl dL_law_212 rfl ?_
  refine j_iconst X (pc' := 215) (v := 2) (by decide) dL_law_214 rfl ?_
  refine j_iadd X (pc' := 216) dL_law_215 rfl ?_
  refine j_sld X (pc' := 217) hX hbl hbA (hy2).1 dL_law_216 rfl ?_
  rw [(hy2).2]
  refine j_aload_n X (pc' := 218) (kk := 0) (i := 0) 0 rfl rfl dL_law_217 rfl ?_
  refine j_iload X (pc' := 220) (i := 4) 4 rfl dL_law_218 rfl ?_
  refine j_iconst X (pc' := 221) (v := 3) (by decide) dL_law_220 rfl ?_
  refine j_iadd X (pc' := 222) dL_law_221 rfl ?_
  refine j_sld X (pc' := 223) hX hbl hbA (hy3).1 dL_law_222 rfl ?_
  rw [(hy3).2]
  refine j_aload_n X (pc' := 224) (kk := 3) (i := 3) 3 rfl rfl dL_law_223 rfl ?_
  have hw0 := hop y1 y2 y3 hI
  refine j_lawS X (pc' := 227) (As := [.ref x, .int y1, .int y2, .int y3, .ref out]) (rest := []) (mc1 := 7) (ms1 := 30) hdis (fun A1 => c_L_addList l G A1 hl0 kd hkd x y1 y2 y3 out μc _ hw0) (gk_L_addList wt_2_116) hd_L_addList ⟨by show _ ≤ 2048; omega, by show _ ≤ 84000; omega⟩ rfl rfl (Nat.le_of_ble_eq_true rfl) dL_law_224 rfl ⟨by show _ ≤ 709538; omega, by show _ ≤ 6967491; omega⟩ (fun r1 μ2 hd3 hw1 => ?_)
  refine j_istore X (pc' := 229) (i := 5) (loc' := [(5, .int r1), (0, .ref b0), (1, .ref x), (2, .ref mm), (3, .ref out), (4, .int v4)]) dL_law_227 rfl (by decide) rfl ?_
  refine j_aload_n X (pc' := 230) (kk := 2) (i := 2) 3 rfl rfl dL_law_229 rfl ?_
  refine j_aload_n X (pc' := 231) (kk := 0) (i := 0) 1 rfl rfl dL_law_230 rfl ?_
  refine j_iload X (pc' := 233) (i := 4) 5 rfl dL_law_231 rfl ?_
  refine j_iconst X (pc' := 234) (v := 1) (by decide) dL_law_233 rfl ?_
  refine j_iadd X (pc' := 235) dL_law_234 rfl ?_
  refine j_sld X (pc' := 236) hX hbl hbA (hy1).1 dL_law_235 rfl ?_
  rw [(hy1).2]
  refine j_aload_n X (pc' := 237) (kk := 0) (i := 0) 1 rfl rfl dL_law_236 rfl ?_
  refine j_iload X (pc' := 239) (i := 4) 5 rfl dL_law_237 rfl ?_
  refine j_iconst X (pc' := 240) (v := 2) (by decide) dL_law_239 rfl ?_
  refine j_iadd X (pc' := 241) dL_law_240 rfl ?_
  refine j_sld X (pc' := 242) hX hbl hbA (hy2).1 dL_law_241 rfl ?_
  rw [(hy2).2]
  refine j_aload_n X (pc' := 243) (kk := 0) (i := 0) 1 rfl rfl dL_law_242 rfl ?_
  refine j_iload X (pc' := 245) (i := 4) 5 rfl dL_law_243 rfl ?_
  refine j_iconst X (pc' := 246) (v := 3) (by decide) dL_law_245 rfl ?_
  refine j_iadd X (pc' := 247) dL_law_246 rfl ?_
  refine j_sld X (pc' := 248) hX hbl hbA (hy3).1 dL_law_247 rfl ?_
  rw [(hy3).2]
  refine j_lawV2 X (pc' := 251) (b := mm) (As := [.int y1, .int y2, .int y3]) (rest := []) (mc1 := 0) (ms1 := 0) hd3 (fun A1 => c_X7_addList l G A1 hMO mN y1 y2 y3 σ α _ hw1) (gk_X7_addList wt_4_66) hd_X7_addList ⟨by show _ ≤ 2048; omega, by show _ ≤ 84000; omega⟩ mset_o rfl rfl rfl (Nat.le_of_ble_eq_true rfl) dL_law_248 rfl ⟨by show _ ≤ 709538; omega, by show _ ≤ 6967491; omega⟩ (fun r4 μ5 hd6 hx9 => ?_)
  obtain ⟨σ7, α8, rfl, hx9⟩ := hx9
  refine j_istore X (pc' := 253) (i := 6) (loc' := [(6, .int r4), (5, .int r1), (0, .ref b0), (1, .ref x), (2, .ref mm), (3, .ref out), (4, .int v4)]) dL_law_251 rfl (by decide) rfl ?_
  refine j_aload_n X (pc' := 254) (kk := 2) (i := 2) 4 rfl rfl dL_law_253 rfl ?_
  refine j_lawV2 X (pc' := 257) (b := mm) (As := []) (rest := []) (mc1 := 0) (ms1 := 0) hd6 (fun A1 => c_X7_thrown l G A1 hMO mN  σ7 α8 _ hx9) (gk_X7_thrown wt_4_16) hd_X7_thrown ⟨by show _ ≤ 2048; omega, by show _ ≤ 84000; omega⟩ mset_o rfl rfl rfl (Nat.le_of_ble_eq_true rfl) dL_law_254 rfl ⟨by show _ ≤ 709538; omega, by show _ ≤ 6967491; omega⟩ (fun r10 μ11 hd12 hx15 => ?_)
  obtain ⟨σ13, α14, rfl, hx15⟩ := hx15
  obtain ⟨ht, hz, hI2⟩ := hx15
  refine j_iload X (pc' := 259) (i := 5) 1 rfl dL_law_257 rfl ?_
  refine j_icmp_eq X (pc' := 262) (tgt := 264) dL_law_259 rfl (by decide) (fun _ => ?_) (fun c0 => absurd ht c0)
  refine j_iload X (pc' := 266) (i := 5) 1 rfl dL_law_264 rfl ?_
  refine j_if_ne X (pc' := 269) (tgt := 281) dL_law_266 rfl (by decide) (fun c1 => ?_) (fun c1 => ?_)
  · refine j_goto X (tgt := 1216) dL_law_281 (by decide) ?_
    refine j_loc [2, 3, 4, 5, 6] rfl ?_
    exact k _ _ _ _ _ hd12 hI2 (by omega) (by omega)
  · obtain ⟨n9, f9, hm9, hi9, he9⟩ := hz c1
    refine j_aload_n X (pc' := 270) (kk := 3) (i := 3) 5 rfl rfl dL_law_269 rfl ?_
    refine j_iconst X (pc' := 271) (v := 0) (by decide) dL_law_270 rfl ?_
    refine j_lald X (pc' := 272) (join_1 hm9) hi9 dL_law_271 rfl ?_
    refine j_iload X (pc' := 274) (i := 6) 0 rfl dL_law_272 rfl ?_
    refine j_i2l X (pc' := 275) dL_law_274 rfl ?_
    refine j_lcmpEq X (pc' := 276) he9 dL_law_275 rfl ?_
    refine j_if_eq X (pc' := 279) (tgt := 281) dL_law_276 rfl (by decide) (fun _ => ?_) (fun c0 => absurd rfl c0)
    refine j_goto X (tgt := 1216) dL_law_281 (by decide) ?_
    refine j_loc [2, 3, 4, 5, 6] rfl ?_
    exact k _ _ _ _ _ hd12 hI2 (by omega) (by omega)
set_option maxHeartbeats 4000000 in
set_option maxRecDepth 100000 in
theorem law_case_2 {p : Program} {l : Launch} {e : Env} {s : State} {m : MethodId} {args : Array Value} {below : List Frame} {meth : Method} {c : Code} {G : gG} {A : Nat → Prop} {Q : State → Prop} {kd : Nat → Nat} {b0 L : Nat} {xs : Nat → Int32} {x mm out : Nat} {rf : Nat → Nat} {I : Mm → (Nat → Int32) → (Nat → Nat → Int32) → Prop} {μc : Mm} {σ : Nat → Int32} {α : Nat → Nat → Int32} {c0 s0 : Nat} {v4 y0 y1 y2 y3 : Int32} (X : Cx p l s m args meth c code 7 (some .boolean) RL G A) (hl0 : l.stackTraces = false) (hkd : G.2.2 = kd) (hMO : MOk mm rf) (hX : va_X b0 L xs s s.heap) (hbl : b0 < s.heap.size) (hbA : ¬ A b0) (hy1 : vp_in (v4 + 1) L ∧ xs (v4 + 1).toNatClampNeg = y1) (hy2 : vp_in (v4 + 2) L ∧ xs (v4 + 2).toNatClampNeg = y2) (hy3 : vp_in (v4 + 3) L ∧ xs (v4 + 3).toNatClampNeg = y3) (hop0 : op_2 kd x out I) (hdis : disM μc (mset mN mm rf σ α)) (hI : I μc σ α) (hc0 : c0 ≤ 400000) (hs0 : s0 ≤ 4000000)
    (k : ∀ (μ' : Mm) (σ' : Nat → Int32) (α' : Nat → Nat → Int32) (c1 s1 : Nat), disM μ' (mset mN mm rf σ' α') → I μ' σ' α' → c1 ≤ c0 + 20 → s1 ≤ s0 + 100 → J p l e room_1 s m args below meth c 7 G A Q c1 s1 1216 [(0, .ref b0), (1, .ref x), (2, .ref mm), (3, .ref out), (4, .int v4)] [] (joinM μ' (mset mN mm rf σ' α'))) :
    J p l e room_1 s m args below meth c 7 G A Q c0 s0 284 [(0, .ref b0), (1, .ref x), (2, .ref mm), (3, .ref out), (4, .int v4)] [] (joinM μc (mset mN mm rf σ α)) := by
  have hop := hop0 μc σ α
  refine j_aload_n X (pc' := 285) (kk := 1) (i := 1) 1 rfl rfl dL_law_284 rfl ?_
  refine j_aload_n X (pc' := 286) (kk := 0) (i := 0) 0 rfl rfl dL_law_285 rfl ?_
  refine j_iload X (pc' := 288) (i := 4) 4 rfl dL_law_286 rfl ?_
  refine j_iconst X (pc' := 289) (v := 1) (by decide) dL_law_288 rfl ?_
  refine j_iadd X (pc' := 290) dL_law_289 rfl ?_
  refine j_sld X (pc' := 291) hX hbl hbA (hy1).1 dL_law_290 rfl ?_
  rw [(hy1).2]
  refine j_aload_n X (pc' := 292) (kk := 0) (i := 0) 0 rfl rfl dL_law_291 rfl ?_
  refine j_iload X (pc' := 294) (i := 4) 4 rfl dL_law_292 rfl ?_
  refine j_iconst X (pc' := 295) (v := 2) (by decide) dL_law_294 rfl ?_
  refine j_iadd X (pc' := 296) dL_law_295 rfl ?_
  refine j_sld X (pc' := 297) hX hbl hbA (hy2).1 dL_law_296 rfl ?_
  rw [(hy2).2]
  refine j_if_eq X (pc' := 300) (tgt := 304) dL_law_297 rfl (by decide) (fun c1 => ?_) (fun c1 => ?_)
  · refine j_iconst X (pc' := 305) (v := 0) (by decide) dL_law_304 rfl ?_
    refine j_aload_n X (pc' := 306) (kk := 3) (i := 3) 3 rfl rfl dL_law_305 rfl ?_
    have hw0 := hop y1 (0 : Int32) (by first | exact Or.inl rfl | exact Or.inr rfl) hI
    refine j_lawS X (pc' := 309) (As := [.ref x, .int y1, .int ((0 : Int32)), .ref out]) (rest := []) (mc1 := 2) (ms1 := 12) hdis (fun A1 => c_L_part l G A1 hl0 x y1 (0 : Int32) out μc _ hw0) (gk_L_part wt_2_147) hd_L_part ⟨by show _ ≤ 2048; omega, by show _ ≤ 84000; omega⟩ rfl rfl (Nat.le_of_ble_eq_true rfl) dL_law_306 rfl ⟨by show _ ≤ 709538; omega, by show _ ≤ 6967491; omega⟩ (fun r2 μ3 hd4 hw1 => ?_)
    refine j_istore X (pc' := 311) (i := 5) (loc' := [(5, .int r2), (0, .ref b0), (1, .ref x), (2, .ref mm), (3, .ref out), (4, .int v4)]) dL_law_309 rfl (by decide) rfl ?_
    refine j_aload_n X (pc' := 312) (kk := 2) (i := 2) 3 rfl rfl dL_law_311 rfl ?_
    refine j_aload_n X (pc' := 313) (kk := 0) (i := 0) 1 rfl rfl dL_law_312 rfl ?_
    refine j_iload X (pc' := 315) (i := 4) 5 rfl dL_law_313 rfl ?_
    refine j_iconst X (pc' := 316) (v := 1) (by decide) dL_law_315 rfl ?_
    refine j_iadd X (pc' := 317) dL_law_316 rfl ?_
    refine j_sld X (pc' := 318) hX hbl hbA (hy1).1 dL_law_317 rfl ?_
    rw [(hy1).2]
    refine j_aload_n X (pc' := 319) (kk := 0) (i := 0) 1 rfl rfl dL_law_318 rfl ?_
    refine j_iload X (pc' := 321) (i := 4) 5 rfl dL_law_319 rfl ?_
    refine j_iconst X (pc' := 322) (v := 2) (by decide) dL_law_321 rfl ?_
    refine j_iadd X (pc' := 323) dL_law_322 rfl ?_
    refine j_sld X (pc' := 324) hX hbl hbA (hy2).1 dL_law_323 rfl ?_
    rw [(hy2).2]
    refine j_if_eq X (pc' := 327) (tgt := 331) dL_law_324 rfl (by decide) (fun _ => ?_) (fun c5 => absurd c1 c5)
    refine j_iconst X (pc' := 332) (v := 0) (by decide) dL_law_331 rfl ?_
    refine j_lawV2 X (pc' := 335) (b := mm) (As := [.int y1, .int ((0 : Int32))]) (rest := []) (mc1 := 0) (ms1 := 0) hd4 (fun A1 => c_X7_part l G A1 hMO mN y1 (0 : Int32) σ α _ hw1) (gk_X7_part wt_4_74) hd_X7_part ⟨by show _ ≤ 2048; omega, by show _ ≤ 84000; omega⟩ mset_o rfl rfl rfl (Nat.le_of_ble_eq_true rfl) dL_law_332 rfl ⟨by show _ ≤ 709538; omega, by show _ ≤ 6967491; omega⟩ (fun r6 μ7 hd8 hx11 => ?_)
    obtain ⟨σ9, α10, rfl, hx11⟩ := hx11
    refine j_istore X (pc' := 337) (i := 6) (loc' := [(6, .int r6), (5, .int r2), (0, .ref b0), (1, .ref x), (2, .ref mm), (3, .ref out), (4, .int v4)]) dL_law_335 rfl (by decide) rfl ?_
    refine j_aload_n X (pc' := 338) (kk := 2) (i := 2) 4 rfl rfl dL_law_337 rfl ?_
    refine j_lawV2 X (pc' := 341) (b := mm) (As := []) (rest := []) (mc1 := 0) (ms1 := 0) hd8 (fun A1 => c_X7_thrown l G A1 hMO mN  σ9 α10 _ hx11) (gk_X7_thrown wt_4_16) hd_X7_thrown ⟨by show _ ≤ 2048; omega, by show _ ≤ 84000; omega⟩ mset_o rfl rfl rfl (Nat.le_of_ble_eq_true rfl) dL_law_338 rfl ⟨by show _ ≤ 709538; omega, by show _ ≤ 6967491; omega⟩ (fun r12 μ13 hd14 hx17 => ?_)
    obtain ⟨σ15, α16, rfl, hx17⟩ := hx17
    obtain ⟨ht, hz, hI2⟩ := hx17
    refine j_iload X (pc' := 343) (i := 5) 1 rfl dL_law_341 rfl ?_
    refine j_icmp_eq X (pc' := 346) (tgt := 348) dL_law_343 rfl (by decide) (fun _ => ?_) (fun c0 => absurd ht c0)
    refine j_iload X (pc' := 350) (i := 5) 1 rfl dL_law_348 rfl ?_
    refine j_if_ne X (pc' := 353) (tgt := 365) dL_law_350 rfl (by decide) (fun c1 => ?_) (fun c1 => ?_)
    · refine j_goto X (tgt := 1216) dL_law_365 (by decide) ?_
      refine j_loc [2, 3, 4, 5, 6] rfl ?_
      exact k _ _ _ _ _ hd14 hI2 (by omega) (by omega)
    · obtain ⟨n9, f9, hm9, hi9, he9⟩ := hz c1
      refine j_aload_n X (pc' := 354) (kk := 3) (i := 3) 5 rfl rfl dL_law_353 rfl ?_
      refine j_iconst X (pc' := 355) (v := 0) (by decide) dL_law_354 rfl ?_
      refine j_lald X (pc' := 356) (join_1 hm9) hi9 dL_law_355 rfl ?_
      refine j_iload X (pc' := 358) (i := 6) 0 rfl dL_law_356 rfl ?_
      refine j_i2l X (pc' := 359) dL_law_358 rfl ?_
      refine j_lcmpEq X (pc' := 360) he9 dL_law_359 rfl ?_
      refine j_if_eq X (pc' := 363) (tgt := 365) dL_law_360 rfl (by decide) (fun _ => ?_) (fun c0 => absurd rfl c0)
      refine j_goto X (tgt := 1216) dL_law_365 (by decide) ?_
      refine j_loc [2, 3, 4, 5, 6] rfl ?_
      exact k _ _ _ _ _ hd14 hI2 (by omega) (by omega)
  · refine j_iconst X (pc' := 301) (v := 1) (by decide) dL_law_300 rfl ?_
    refine j_goto X (tgt := 305) dL_law_301 (by decide) ?_
    refine j_aload_n X (pc' := 306) (kk := 3) (i := 3) 3 rfl rfl dL_law_305 rfl ?_
    have hw0 := hop y1 (1 : Int32) (by first | exact Or.inl rfl | exact Or.inr rfl) hI
    refine j_lawS X (pc' := 309) (As := [.ref x, .int y1, .int ((1 : Int32)), .ref out]) (rest := []) (mc1 := 2) (ms1 := 12) hdis (fun A1 => c_L_part l G A1 hl0 x y1 (1 : Int32) out μc _ hw0) (gk_L_part wt_2_147) hd_L_part ⟨by show _ ≤ 2048; omega, by show _ ≤ 84000; omega⟩ rfl rfl (Nat.le_of_ble_eq_true rfl) dL_law_306 rfl ⟨by show _ ≤ 709538; omega, by show _ ≤ 6967491; omega⟩ (fun r18 μ19 hd20 hw1 => ?_)
    refine j_istore X (pc' := 311) (i := 5) (loc' := [(5, .int r18), (0, .ref b0), (1, .ref x), (2, .ref mm), (3, .ref out), (4, .int v4)]) dL_law_309 rfl (by decide) rfl ?_
    refine j_aload_n X (pc' := 312) (kk := 2) (i := 2) 3 rfl rfl dL_law_311 rfl ?_
    refine j_aload_n X (pc' := 313) (kk := 0) (i := 0) 1 rfl rfl dL_law_312 rfl ?_
    refine j_iload X (pc' := 315) (i := 4) 5 rfl dL_law_313 rfl ?_
    refine j_iconst X (pc' := 316) (v := 1) (by decide) dL_law_315 rfl ?_
    refine j_iadd X (pc' := 317) dL_law_316 rfl ?_
    refine j_sld X (pc' := 318) hX hbl hbA (hy1).1 dL_law_317 rfl ?_
    rw [(hy1).2]
    refine j_aload_n X (pc' := 319) (kk := 0) (i := 0) 1 rfl rfl dL_law_318 rfl ?_
    refine j_iload X (pc' := 321) (i := 4) 5 rfl dL_law_319 rfl ?_
    refine j_iconst X (pc' := 322) (v := 2) (by decide) dL_law_321 rfl ?_
    refine j_iadd X (pc' := 323) dL_law_322 rfl ?_
    refine j_sld X (pc' := 324) hX hbl hbA (hy2).1 dL_law_323 rfl ?_
    rw [(hy2).2]
    refine j_if_eq X (pc' := 327) (tgt := 331) dL_law_324 rfl (by decide) (fun c21 => absurd c21 c1) (fun _ => ?_)
    refine j_iconst X (pc' := 328) (v := 1) (by decide) dL_law_327 rfl ?_
    refine j_goto X (tgt := 332) dL_law_328 (by decide) ?_
    refine j_lawV2 X (pc' := 335) (b := mm) (As := [.int y1, .int ((1 : Int32))]) (rest := []) (mc1 := 0) (ms1 := 0) hd20 (fun A1 => c_X7_part l G A1 hMO mN y1 (1 : Int32) σ α _ hw1) (gk_X7_part wt_4_74) hd_X7_part ⟨by show _ ≤ 2048; omega, by show _ ≤ 84000; omega⟩ mset_o rfl rfl rfl (Nat.le_of_ble_eq_true rfl) dL_law_332 rfl ⟨by show _ ≤ 709538; omega, by show _ ≤ 6967491; omega⟩ (fun r22 μ23 hd24 hx27 => ?_)
    obtain ⟨σ25, α26, rfl, hx27⟩ := hx27
    refine j_istore X (pc' := 337) (i := 6) (loc' := [(6, .int r22), (5, .int r18), (0, .ref b0), (1, .ref x), (2, .ref mm), (3, .ref out), (4, .int v4)]) dL_law_335 rfl (by decide) rfl ?_
    refine j_aload_n X (pc' := 338) (kk := 2) (i := 2) 4 rfl rfl dL_law_337 rfl ?_
    refine j_lawV2 X (pc' := 341) (b := mm) (As := []) (rest := []) (mc1 := 0) (ms1 := 0) hd24 (fun A1 => c_X7_thrown l G A1 hMO mN  σ25 α26 _ hx27) (gk_X7_thrown wt_4_16) hd_X7_thrown ⟨by show _ ≤ 2048; omega, by show _ ≤ 84000; omega⟩ mset_o rfl rfl rfl (Nat.le_of_ble_eq_true rfl) dL_law_338 rfl ⟨by show _ ≤ 709538; omega, by show _ ≤ 6967491; omega⟩ (fun r28 μ29 hd30 hx33 => ?_)
    obtain ⟨σ31, α32, rfl, hx33⟩ := hx33
    obtain ⟨ht, hz, hI2⟩ := hx33
    refine j_iload X (pc' := 343) (i := 5) 1 rfl dL_law_341 rfl ?_
    refine j_icmp_eq X (pc' := 346) (tgt := 348) dL_law_343 rfl (by decide) (fun _ => ?_) (fun c0 => absurd ht c0)
    refine j_iload X (pc' := 350) (i := 5) 1 rfl dL_law_348 rfl ?_
    refine j_if_ne X (pc' := 353) (tgt := 365) dL_law_350 rfl (by decide) (fun c1 => ?_) (fun c1 => ?_)
    · refine j_goto X (tgt := 1216) dL_law_365 (by decide) ?_
      refine j_loc [2, 3, 4, 5, 6] rfl ?_
      exact k _ _ _ _ _ hd30 hI2 (by omega) (by omega)
    · obtain ⟨n9, f9, hm9, hi9, he9⟩ := hz c1
      refine j_aload_n X (pc' := 354) (kk := 3) (i := 3) 5 rfl rfl dL_law_353 rfl ?_
      refine j_iconst X (pc' := 355) (v := 0) (by decide) dL_law_354 rfl ?_
      refine j_lald X (pc' := 356) (join_1 hm9) hi9 dL_law_355 rfl ?_
      refine j_iload X (pc' := 358) (i := 6) 0 rfl dL_law_356 rfl ?_
      refine j_i2l X (pc' := 359) dL_law_358 rfl ?_
      refine j_lcmpEq X (pc' := 360) he9 dL_law_359 rfl ?_
      refine j_if_eq X (pc' := 363) (tgt := 365) dL_law_360 rfl (by decide) (fun _ => ?_) (fun c0 => absurd rfl c0)
      refine j_goto X (tgt := 1216) dL_law_365 (by decide) ?_
      refine j_loc [2, 3, 4, 5, 6] rfl ?_
      exact k _ _ _ _ _ hd30 hI2 (by omega) (by omega)
set_option maxHeartbeats 4000000 in
set_option maxRecDepth 100000 in
theorem law_case_3 {p : Program} {l : Launch} {e : Env} {s : State} {m : MethodId} {args : Array Value} {below : List Frame} {meth : Method} {c : Code} {G : gG} {A : Nat → Prop} {Q : State → Prop} {kd : Nat → Nat} {b0 L : Nat} {xs : Nat → Int32} {x mm out : Nat} {rf : Nat → Nat} {I : Mm → (Nat → Int32) → (Nat → Nat → Int32) → Prop} {μc : Mm} {σ : Nat → Int32} {α : Nat → Nat → Int32} {c0 s0 : Nat} {v4 y0 y1 y2 y3 : Int32} (X : Cx p l s m args meth c code 7 (some .boolean) RL G A) (hl0 : l.stackTraces = false) (hkd : G.2.2 = kd) (hMO : MOk mm rf) (hX : va_X b0 L xs s s.heap) (hbl : b0 < s.heap.size) (hbA : ¬ A b0) (hy1 : vp_in (v4 + 1) L ∧ xs (v4 + 1).toNatClampNeg = y1) (hy2 : vp_in (v4 + 2) L ∧ xs (v4 + 2).toNatClampNeg = y2) (hy3 : vp_in (v4 + 3) L ∧ xs (v4 + 3).toNatClampNeg = y3) (hop0 : op_3 kd x out I) (hdis : disM μc (mset mN mm rf σ α)) (hI : I μc σ α) (hc0 : c0 ≤ 400000) (hs0 : s0 ≤ 4000000)
    (k : ∀ (μ' : Mm) (σ' : Nat → Int32) (α' : Nat → Nat → Int32) (c1 s1 : Nat), disM μ' (mset mN mm rf σ' α') → I μ' σ' α' → c1 ≤ c0 + 20 → s1 ≤ s0 + 100 → J p l e room_1 s m args below meth c 7 G A Q c1 s1 1216 [(0, .ref b0), (1, .ref x), (2, .ref mm), (3, .ref out), (4, .int v4)] [] (joinM μ' (mset mN mm rf σ' α'))) :
    J p l e room_1 s m args below meth c 7 G A Q c0 s0 368 [(0, .ref b0), (1, .ref x), (2, .ref mm), (3, .ref out), (4, .int v4)] [] (joinM μc (mset mN mm rf σ α)) := by
  have hop := hop0 μc σ α
  refine j_aload_n X (pc' := 369) (kk := 1) (i := 1) 1 rfl rfl dL_law_368 rfl ?_
  refine j_aload_n X (pc' := 370) (kk := 3) (i := 3) 3 rfl rfl dL_law_369 rfl ?_
  have hw0 := hop  hI
  refine j_lawS X (pc' := 373) (As := [.ref x, .ref out]) (rest := []) (mc1 := 6) (ms1 := 29) hdis (fun A1 => c_L_addSequence l G A1 hl0 kd hkd x out μc _ hw0) (gk_L_addSequence wt_2_155) hd_L_addSequence ⟨by show _ ≤ 2048; omega, by show _ ≤ 84000; omega⟩ rfl rfl (Nat.le_of_ble_eq_true rfl) dL_law_370 rfl ⟨by show _ ≤ 709538; omega, by show _ ≤ 6967491; omega⟩ (fun r1 μ2 hd3 hw1 => ?_)
  refine j_istore X (pc' := 375) (i := 5) (loc' := [(5, .int r1), (0, .ref b0), (1, .ref x), (2, .ref mm), (3, .ref out), (4, .int v4)]) dL_law_373 rfl (by decide) rfl ?_
  refine j_aload_n X (pc' := 376) (kk := 2) (i := 2) 3 rfl rfl dL_law_375 rfl ?_
  refine j_lawV2 X (pc' := 379) (b := mm) (As := []) (rest := []) (mc1 := 0) (ms1 := 0) hd3 (fun A1 => c_X7_addSequence l G A1 hMO mN  σ α _ hw1) (gk_X7_addSequence wt_4_78) hd_X7_addSequence ⟨by show _ ≤ 2048; omega, by show _ ≤ 84000; omega⟩ mset_o rfl rfl rfl (Nat.le_of_ble_eq_true rfl) dL_law_376 rfl ⟨by show _ ≤ 709538; omega, by show _ ≤ 6967491; omega⟩ (fun r4 μ5 hd6 hx9 => ?_)
  obtain ⟨σ7, α8, rfl, hx9⟩ := hx9
  refine j_istore X (pc' := 381) (i := 6) (loc' := [(6, .int r4), (5, .int r1), (0, .ref b0), (1, .ref x), (2, .ref mm), (3, .ref out), (4, .int v4)]) dL_law_379 rfl (by decide) rfl ?_
  refine j_aload_n X (pc' := 382) (kk := 2) (i := 2) 4 rfl rfl dL_law_381 rfl ?_
  refine j_lawV2 X (pc' := 385) (b := mm) (As := []) (rest := []) (mc1 := 0) (ms1 := 0) hd6 (fun A1 => c_X7_thrown l G A1 hMO mN  σ7 α8 _ hx9) (gk_X7_thrown wt_4_16) hd_X7_thrown ⟨by show _ ≤ 2048; omega, by show _ ≤ 84000; omega⟩ mset_o rfl rfl rfl (Nat.le_of_ble_eq_true rfl) dL_law_382 rfl ⟨by show _ ≤ 709538; omega, by show _ ≤ 6967491; omega⟩ (fun r10 μ11 hd12 hx15 => ?_)
  obtain ⟨σ13, α14, rfl, hx15⟩ := hx15
  obtain ⟨ht, hz, hI2⟩ := hx15
  refine j_iload X (pc' := 387) (i := 5) 1 rfl dL_law_385 rfl ?_
  refine j_icmp_eq X (pc' := 390) (tgt := 392) dL_law_387 rfl (by decide) (fun _ => ?_) (fun c0 => absurd ht c0)
  refine j_iload X (pc' := 394) (i := 5) 1 rfl dL_law_392 rfl ?_
  refine j_if_ne X (pc' := 397) (tgt := 409) dL_law_394 rfl (by decide) (fun c1 => ?_) (fun c1 => ?_)
  · refine j_goto X (tgt := 1216) dL_law_409 (by decide) ?_
    refine j_loc [2, 3, 4, 5, 6] rfl ?_
    exact k _ _ _ _ _ hd12 hI2 (by omega) (by omega)
  · obtain ⟨n9, f9, hm9, hi9, he9⟩ := hz c1
    refine j_aload_n X (pc' := 398) (kk := 3) (i := 3) 5 rfl rfl dL_law_397 rfl ?_
    refine j_iconst X (pc' := 399) (v := 0) (by decide) dL_law_398 rfl ?_
    refine j_lald X (pc' := 400) (join_1 hm9) hi9 dL_law_399 rfl ?_
    refine j_iload X (pc' := 402) (i := 6) 0 rfl dL_law_400 rfl ?_
    refine j_i2l X (pc' := 403) dL_law_402 rfl ?_
    refine j_lcmpEq X (pc' := 404) he9 dL_law_403 rfl ?_
    refine j_if_eq X (pc' := 407) (tgt := 409) dL_law_404 rfl (by decide) (fun _ => ?_) (fun c0 => absurd rfl c0)
    refine j_goto X (tgt := 1216) dL_law_409 (by decide) ?_
    refine j_loc [2, 3, 4, 5, 6] rfl ?_
    exact k _ _ _ _ _ hd12 hI2 (by omega) (by omega)
set_option maxHeartbeats 4000000 in
set_option maxRecDepth 100000 in
theorem law_case_4 {p : Program} {l : Launch} {e : Env} {s : State} {m : MethodId} {args : Array Value} {below : List Frame} {meth : Method} {c : Code} {G : gG} {A : Nat → Prop} {Q : State → Prop} {kd : Nat → Nat} {b0 L : Nat} {xs : Nat → Int32} {x mm out : Nat} {rf : Nat → Nat} {I : Mm → (Nat → Int32) → (Nat → Nat → Int32) → Prop} {μc : Mm} {σ : Nat → Int32} {α : Nat → Nat → Int32} {c0 s0 : Nat} {v4 y0 y1 y2 y3 : Int32} (X : Cx p l s m args meth c code 7 (some .boolean) RL G A) (hl0 : l.stackTraces = false) (hkd : G.2.2 = kd) (hMO : MOk mm rf) (hX : va_X b0 L xs s s.heap) (hbl : b0 < s.heap.size) (hbA : ¬ A b0) (hy1 : vp_in (v4 + 1) L ∧ xs (v4 + 1).toNatClampNeg = y1) (hy2 : vp_in (v4 + 2) L ∧ xs (v4 + 2).toNatClampNeg = y2) (hy3 : vp_in (v4 + 3) L ∧ xs (v4 + 3).toNatClampNeg = y3) (hop0 : op_4 kd x out I) (hdis : disM μc (mset mN mm rf σ α)) (hI : I μc σ α) (hc0 : c0 ≤ 400000) (hs0 : s0 ≤ 4000000)
    (k : ∀ (μ' : Mm) (σ' : Nat → Int32) (α' : Nat → Nat → Int32) (c1 s1 : Nat), disM μ' (mset mN mm rf σ' α') → I μ' σ' α' → c1 ≤ c0 + 20 → s1 ≤ s0 + 100 → J p l e room_1 s m args below meth c 7 G A Q c1 s1 1216 [(0, .ref b0), (1, .ref x), (2, .ref mm), (3, .ref out), (4, .int v4)] [] (joinM μ' (mset mN mm rf σ' α'))) :
    J p l e room_1 s m args below meth c 7 G A Q c0 s0 412 [(0, .ref b0), (1, .ref x), (2, .ref mm), (3, .ref out), (4, .int v4)] [] (joinM μc (mset mN mm rf σ α)) := by
  have hop := hop0 μc σ α
  refine j_aload_n X (pc' := 413) (kk := 1) (i := 1) 1 rfl rfl dL_law_412 rfl ?_
  refine j_aload_n X (pc' := 414) (kk := 3) (i := 3) 3 rfl rfl dL_law_413 rfl ?_
  have hw0 := hop  hI
  refine j_lawS X (pc' := 417) (As := [.ref x, .ref out]) (rest := []) (mc1 := 6) (ms1 := 29) hdis (fun A1 => c_L_addChoice l G A1 hl0 kd hkd x out μc _ hw0) (gk_L_addChoice wt_2_168) hd_L_addChoice ⟨by show _ ≤ 2048; omega, by show _ ≤ 84000; omega⟩ rfl rfl (Nat.le_of_ble_eq_true rfl) dL_law_414 rfl ⟨by show _ ≤ 709538; omega, by show _ ≤ 6967491; omega⟩ (fun r1 μ2 hd3 hw1 => ?_)
  refine j_istore X (pc' := 419) (i := 5) (loc' := [(5, .int r1), (0, .ref b0), (1, .ref x), (2, .ref mm), (3, .ref out), (4, .int v4)]) dL_law_417 rfl (by decide) rfl ?_
  refine j_aload_n X (pc' := 420) (kk := 2) (i := 2) 3 rfl rfl dL_law_419 rfl ?_
  refine j_lawV2 X (pc' := 423) (b := mm) (As := []) (rest := []) (mc1 := 0) (ms1 := 0) hd3 (fun A1 => c_X7_addChoice l G A1 hMO mN  σ α _ hw1) (gk_X7_addChoice wt_4_86) hd_X7_addChoice ⟨by show _ ≤ 2048; omega, by show _ ≤ 84000; omega⟩ mset_o rfl rfl rfl (Nat.le_of_ble_eq_true rfl) dL_law_420 rfl ⟨by show _ ≤ 709538; omega, by show _ ≤ 6967491; omega⟩ (fun r4 μ5 hd6 hx9 => ?_)
  obtain ⟨σ7, α8, rfl, hx9⟩ := hx9
  refine j_istore X (pc' := 425) (i := 6) (loc' := [(6, .int r4), (5, .int r1), (0, .ref b0), (1, .ref x), (2, .ref mm), (3, .ref out), (4, .int v4)]) dL_law_423 rfl (by decide) rfl ?_
  refine j_aload_n X (pc' := 426) (kk := 2) (i := 2) 4 rfl rfl dL_law_425 rfl ?_
  refine j_lawV2 X (pc' := 429) (b := mm) (As := []) (rest := []) (mc1 := 0) (ms1 := 0) hd6 (fun A1 => c_X7_thrown l G A1 hMO mN  σ7 α8 _ hx9) (gk_X7_thrown wt_4_16) hd_X7_thrown ⟨by show _ ≤ 2048; omega, by show _ ≤ 84000; omega⟩ mset_o rfl rfl rfl (Nat.le_of_ble_eq_true rfl) dL_law_426 rfl ⟨by show _ ≤ 709538; omega, by show _ ≤ 6967491; omega⟩ (fun r10 μ11 hd12 hx15 => ?_)
  obtain ⟨σ13, α14, rfl, hx15⟩ := hx15
  obtain ⟨ht, hz, hI2⟩ := hx15
  refine j_iload X (pc' := 431) (i := 5) 1 rfl dL_law_429 rfl ?_
  refine j_icmp_eq X (pc' := 434) (tgt := 436) dL_law_431 rfl (by decide) (fun _ => ?_) (fun c0 => absurd ht c0)
  refine j_iload X (pc' := 438) (i := 5) 1 rfl dL_law_436 rfl ?_
  refine j_if_ne X (pc' := 441) (tgt := 453) dL_law_438 rfl (by decide) (fun c1 => ?_) (fun c1 => ?_)
  · refine j_goto X (tgt := 1216) dL_law_453 (by decide) ?_
    refine j_loc [2, 3, 4, 5, 6] rfl ?_
    exact k _ _ _ _ _ hd12 hI2 (by omega) (by omega)
  · obtain ⟨n9, f9, hm9, hi9, he9⟩ := hz c1
    refine j_aload_n X (pc' := 442) (kk := 3) (i := 3) 5 rfl rfl dL_law_441 rfl ?_
    refine j_iconst X (pc' := 443) (v := 0) (by decide) dL_law_442 rfl ?_
    refine j_lald X (pc' := 444) (join_1 hm9) hi9 dL_law_443 rfl ?_
    refine j_iload X (pc' := 446) (i := 6) 0 rfl dL_law_444 rfl ?_
    refine j_i2l X (pc' := 447) dL_law_446 rfl ?_
    refine j_lcmpEq X (pc' := 448) he9 dL_law_447 rfl ?_
    refine j_if_eq X (pc' := 451) (tgt := 453) dL_law_448 rfl (by decide) (fun _ => ?_) (fun c0 => absurd rfl c0)
    refine j_goto X (tgt := 1216) dL_law_453 (by decide) ?_
    refine j_loc [2, 3, 4, 5, 6] rfl ?_
    exact k _ _ _ _ _ hd12 hI2 (by omega) (by omega)
set_option maxHeartbeats 4000000 in
set_option maxRecDepth 100000 in
theorem law_case_5 {p : Program} {l : Launch} {e : Env} {s : State} {m : MethodId} {args : Array Value} {below : List Frame} {meth : Method} {c : Code} {G : gG} {A : Nat → Prop} {Q : State → Prop} {kd : Nat → Nat} {b0 L : Nat} {xs : Nat → Int32} {x mm out : Nat} {rf : Nat → Nat} {I : Mm → (Nat → Int32) → (Nat → Nat → Int32) → Prop} {μc : Mm} {σ : Nat → Int32} {α : Nat → Nat → Int32} {c0 s0 : Nat} {v4 y0 y1 y2 y3 : Int32} (X : Cx p l s m args meth c code 7 (some .boolean) RL G A) (hl0 : l.stackTraces = false) (hkd : G.2.2 = kd) (hMO : MOk mm rf) (hX : va_X b0 L xs s s.heap) (hbl : b0 < s.heap.size) (hbA : ¬ A b0) (hy1 : vp_in (v4 + 1) L ∧ xs (v4 + 1).toNatClampNeg = y1) (hy2 : vp_in (v4 + 2) L ∧ xs (v4 + 2).toNatClampNeg = y2) (hy3 : vp_in (v4 + 3) L ∧ xs (v4 + 3).toNatClampNeg = y3) (hop0 : op_5 kd x out I) (hdis : disM μc (mset mN mm rf σ α)) (hI : I μc σ α) (hc0 : c0 ≤ 400000) (hs0 : s0 ≤ 4000000)
    (k : ∀ (μ' : Mm) (σ' : Nat → Int32) (α' : Nat → Nat → Int32) (c1 s1 : Nat), disM μ' (mset mN mm rf σ' α') → I μ' σ' α' → c1 ≤ c0 + 20 → s1 ≤ s0 + 100 → J p l e room_1 s m args below meth c 7 G A Q c1 s1 1216 [(0, .ref b0), (1, .ref x), (2, .ref mm), (3, .ref out), (4, .int v4)] [] (joinM μ' (mset mN mm rf σ' α'))) :
    J p l e room_1 s m args below meth c 7 G A Q c0 s0 456 [(0, .ref b0), (1, .ref x), (2, .ref mm), (3, .ref out), (4, .int v4)] [] (joinM μc (mset mN mm rf σ α)) := by
  have hop := hop0 μc σ α
  refine j_aload_n X (pc' := 457) (kk := 1) (i := 1) 1 rfl rfl dL_law_456 rfl ?_
  refine j_aload_n X (pc' := 458) (kk := 0) (i := 0) 0 rfl rfl dL_law_457 rfl ?_
  refine j_iload X (pc' := 460) (i := 4) 4 rfl dL_law_458 rfl ?_
  refine j_iconst X (pc' := 461) (v := 1) (by decide) dL_law_460 rfl ?_
  refine j_iadd X (pc' := 462) dL_law_461 rfl ?_
  refine j_sld X (pc' := 463) hX hbl hbA (hy1).1 dL_law_462 rfl ?_
  rw [(hy1).2]
  refine j_aload_n X (pc' := 464) (kk := 0) (i := 0) 0 rfl rfl dL_law_463 rfl ?_
  refine j_iload X (pc' := 466) (i := 4) 4 rfl dL_law_464 rfl ?_
  refine j_iconst X (pc' := 467) (v := 2) (by decide) dL_law_466 rfl ?_
  refine j_iadd X (pc' := 468) dL_law_467 rfl ?_
  refine j_sld X (pc' := 469) hX hbl hbA (hy2).1 dL_law_468 rfl ?_
  rw [(hy2).2]
  refine j_aload_n X (pc' := 470) (kk := 3) (i := 3) 3 rfl rfl dL_law_469 rfl ?_
  have hw0 := hop y1 y2 hI
  refine j_lawS X (pc' := 473) (As := [.ref x, .int y1, .int y2, .ref out]) (rest := []) (mc1 := 3) (ms1 := 18) hdis (fun A1 => c_L_extend l G A1 hl0 kd hkd x y1 y2 out μc _ hw0) (gk_L_extend wt_2_176) hd_L_extend ⟨by show _ ≤ 2048; omega, by show _ ≤ 84000; omega⟩ rfl rfl (Nat.le_of_ble_eq_true rfl) dL_law_470 rfl ⟨by show _ ≤ 709538; omega, by show _ ≤ 6967491; omega⟩ (fun r1 μ2 hd3 hw1 => ?_)
  refine j_istore X (pc' := 475) (i := 5) (loc' := [(5, .int r1), (0, .ref b0), (1, .ref x), (2, .ref mm), (3, .ref out), (4, .int v4)]) dL_law_473 rfl (by decide) rfl ?_
  refine j_aload_n X (pc' := 476) (kk := 2) (i := 2) 3 rfl rfl dL_law_475 rfl ?_
  refine j_aload_n X (pc' := 477) (kk := 0) (i := 0) 1 rfl rfl dL_law_476 rfl ?_
  refine j_iload X (pc' := 479) (i := 4) 5 rfl dL_law_477 rfl ?_
  refine j_iconst X (pc' := 480) (v := 1) (by decide) dL_law_479 rfl ?_
  refine j_iadd X (pc' := 481) dL_law_480 rfl ?_
  refine j_sld X (pc' := 482) hX hbl hbA (hy1).1 dL_law_481 rfl ?_
  rw [(hy1).2]
  refine j_aload_n X (pc' := 483) (kk := 0) (i := 0) 1 rfl rfl dL_law_482 rfl ?_
  refine j_iload X (pc' := 485) (i := 4) 5 rfl dL_law_483 rfl ?_
  refine j_iconst X (pc' := 486) (v := 2) (by decide) dL_law_485 rfl ?_
  refine j_iadd X (pc' := 487) dL_law_486 rfl ?_
  refine j_sld X (pc' := 488) hX hbl hbA (hy2).1 dL_law_487 rfl ?_
  rw [(hy2).2]
  refine j_lawV2 X (pc' := 491) (b := mm) (As := [.int y1, .int y2]) (rest := []) (mc1 := 0) (ms1 := 0) hd3 (fun A1 => c_X7_extend l G A1 hMO mN y1 y2 σ α _ hw1) (gk_X7_extend wt_4_90) hd_X7_extend ⟨by show _ ≤ 2048; omega, by show _ ≤ 84000; omega⟩ mset_o rfl rfl rfl (Nat.le_of_ble_eq_true rfl) dL_law_488 rfl ⟨by show _ ≤ 709538; omega, by show _ ≤ 6967491; omega⟩ (fun r4 μ5 hd6 hx9 => ?_)
  obtain ⟨σ7, α8, rfl, hx9⟩ := hx9
  refine j_istore X (pc' := 493) (i := 6) (loc' := [(6, .int r4), (5, .int r1), (0, .ref b0), (1, .ref x), (2, .ref mm), (3, .ref out), (4, .int v4)]) dL_law_491 rfl (by decide) rfl ?_
  refine j_aload_n X (pc' := 494) (kk := 2) (i := 2) 4 rfl rfl dL_law_493 rfl ?_
  refine j_lawV2 X (pc' := 497) (b := mm) (As := []) (rest := []) (mc1 := 0) (ms1 := 0) hd6 (fun A1 => c_X7_thrown l G A1 hMO mN  σ7 α8 _ hx9) (gk_X7_thrown wt_4_16) hd_X7_thrown ⟨by show _ ≤ 2048; omega, by show _ ≤ 84000; omega⟩ mset_o rfl rfl rfl (Nat.le_of_ble_eq_true rfl) dL_law_494 rfl ⟨by show _ ≤ 709538; omega, by show _ ≤ 6967491; omega⟩ (fun r10 μ11 hd12 hx15 => ?_)
  obtain ⟨σ13, α14, rfl, hx15⟩ := hx15
  obtain ⟨ht, hz, hI2⟩ := hx15
  refine j_iload X (pc' := 499) (i := 5) 1 rfl dL_law_497 rfl ?_
  refine j_icmp_eq X (pc' := 502) (tgt := 504) dL_law_499 rfl (by decide) (fun _ => ?_) (fun c0 => absurd ht c0)
  refine j_iload X (pc' := 506) (i := 5) 1 rfl dL_law_504 rfl ?_
  refine j_if_ne X (pc' := 509) (tgt := 521) dL_law_506 rfl (by decide) (fun c1 => ?_) (fun c1 => ?_)
  · refine j_goto X (tgt := 1216) dL_law_521 (by decide) ?_
    refine j_loc [2, 3, 4, 5, 6] rfl ?_
    exact k _ _ _ _ _ hd12 hI2 (by omega) (by omega)
  · obtain ⟨n9, f9, hm9, hi9, he9⟩ := hz c1
    refine j_aload_n X (pc' := 510) (kk := 3) (i := 3) 5 rfl rfl dL_law_509 rfl ?_
    refine j_iconst X (pc' := 511) (v := 0) (by decide) dL_law_510 rfl ?_
    refine j_lald X (pc' := 512) (join_1 hm9) hi9 dL_law_511 rfl ?_
    refine j_iload X (pc' := 514) (i := 6) 0 rfl dL_law_512 rfl ?_
    refine j_i2l X (pc' := 515) dL_law_514 rfl ?_
    refine j_lcmpEq X (pc' := 516) he9 dL_law_515 rfl ?_
    refine j_if_eq X (pc' := 519) (tgt := 521) dL_law_516 rfl (by decide) (fun _ => ?_) (fun c0 => absurd rfl c0)
    refine j_goto X (tgt := 1216) dL_law_521 (by decide) ?_
    refine j_loc [2, 3, 4, 5, 6] rfl ?_
    exact k _ _ _ _ _ hd12 hI2 (by omega) (by omega)
set_option maxHeartbeats 4000000 in
set_option maxRecDepth 100000 in
theorem law_case_6 {p : Program} {l : Launch} {e : Env} {s : State} {m : MethodId} {args : Array Value} {below : List Frame} {meth : Method} {c : Code} {G : gG} {A : Nat → Prop} {Q : State → Prop} {kd : Nat → Nat} {b0 L : Nat} {xs : Nat → Int32} {x mm out : Nat} {rf : Nat → Nat} {I : Mm → (Nat → Int32) → (Nat → Nat → Int32) → Prop} {μc : Mm} {σ : Nat → Int32} {α : Nat → Nat → Int32} {c0 s0 : Nat} {v4 y0 y1 y2 y3 : Int32} (X : Cx p l s m args meth c code 7 (some .boolean) RL G A) (hl0 : l.stackTraces = false) (hkd : G.2.2 = kd) (hMO : MOk mm rf) (hX : va_X b0 L xs s s.heap) (hbl : b0 < s.heap.size) (hbA : ¬ A b0) (hy1 : vp_in (v4 + 1) L ∧ xs (v4 + 1).toNatClampNeg = y1) (hy2 : vp_in (v4 + 2) L ∧ xs (v4 + 2).toNatClampNeg = y2) (hy3 : vp_in (v4 + 3) L ∧ xs (v4 + 3).toNatClampNeg = y3) (hop0 : op_6 kd x out I) (hdis : disM μc (mset mN mm rf σ α)) (hI : I μc σ α) (hc0 : c0 ≤ 400000) (hs0 : s0 ≤ 4000000)
    (k : ∀ (μ' : Mm) (σ' : Nat → Int32) (α' : Nat → Nat → Int32) (c1 s1 : Nat), disM μ' (mset mN mm rf σ' α') → I μ' σ' α' → c1 ≤ c0 + 20 → s1 ≤ s0 + 100 → J p l e room_1 s m args below meth c 7 G A Q c1 s1 1216 [(0, .ref b0), (1, .ref x), (2, .ref mm), (3, .ref out), (4, .int v4)] [] (joinM μ' (mset mN mm rf σ' α'))) :
    J p l e room_1 s m args below meth c 7 G A Q c0 s0 524 [(0, .ref b0), (1, .ref x), (2, .ref mm), (3, .ref out), (4, .int v4)] [] (joinM μc (mset mN mm rf σ α)) := by
  have hop := hop0 μc σ α
  refine j_aload_n X (pc' := 525) (kk := 1) (i := 1) 1 rfl rfl dL_law_524 rfl ?_
  obtain ⟨⟨f8, hm8⟩, hw0⟩ := hop hI
  refine j_lawV X (pc' := 528) (b := x) (As := []) (rest := []) (mc1 := 0) (ms1 := 0) hdis (fun A1 => c_X6_types l G A1 x μc _ hw0) (gk_X6_types wt_1_121) hd_X6_types ⟨by show _ ≤ 2048; omega, by show _ ≤ 84000; omega⟩ hm8 rfl rfl rfl (Nat.le_of_ble_eq_true rfl) dL_law_525 rfl ⟨by show _ ≤ 709538; omega, by show _ ≤ 6967491; omega⟩ (fun r1 μ2 hd3 hw1 => ?_)
  refine j_aload_n X (pc' := 529) (kk := 2) (i := 2) 2 rfl rfl dL_law_528 rfl ?_
  refine j_lawV2 X (pc' := 532) (b := mm) (As := []) (rest := [.int r1]) (mc1 := 0) (ms1 := 0) hd3 (fun A1 => c_X7_types l G A1 hMO mN  σ α _ hw1) (gk_X7_types wt_4_98) hd_X7_types ⟨by show _ ≤ 2048; omega, by show _ ≤ 84000; omega⟩ mset_o rfl rfl rfl (Nat.le_of_ble_eq_true rfl) dL_law_529 rfl ⟨by show _ ≤ 709538; omega, by show _ ≤ 6967491; omega⟩ (fun r4 μ5 hd6 hx9 => ?_)
  obtain ⟨σ7, α8, rfl, hx9⟩ := hx9
  obtain ⟨ht, hI2⟩ := hx9
  refine j_icmp_eq X (pc' := 535) (tgt := 1216) dL_law_532 rfl (by decide) (fun _ => ?_) (fun c0 => absurd ht c0)
  refine j_loc [0, 1, 2, 3, 4] rfl ?_
  exact k _ _ _ _ _ hd6 hI2 (by omega) (by omega)
set_option maxHeartbeats 4000000 in
set_option maxRecDepth 100000 in
theorem law_case_7 {p : Program} {l : Launch} {e : Env} {s : State} {m : MethodId} {args : Array Value} {below : List Frame} {meth : Method} {c : Code} {G : gG} {A : Nat → Prop} {Q : State → Prop} {kd : Nat → Nat} {b0 L : Nat} {xs : Nat → Int32} {x mm out : Nat} {rf : Nat → Nat} {I : Mm → (Nat → Int32) → (Nat → Nat → Int32) → Prop} {μc : Mm} {σ : Nat → Int32} {α : Nat → Nat → Int32} {c0 s0 : Nat} {v4 y0 y1 y2 y3 : Int32} (X : Cx p l s m args meth c code 7 (some .boolean) RL G A) (hl0 : l.stackTraces = false) (hkd : G.2.2 = kd) (hMO : MOk mm rf) (hX : va_X b0 L xs s s.heap) (hbl : b0 < s.heap.size) (hbA : ¬ A b0) (hy1 : vp_in (v4 + 1) L ∧ xs (v4 + 1).toNatClampNeg = y1) (hy2 : vp_in (v4 + 2) L ∧ xs (v4 + 2).toNatClampNeg = y2) (hy3 : vp_in (v4 + 3) L ∧ xs (v4 + 3).toNatClampNeg = y3) (hop0 : op_7 kd x out I) (hdis : disM μc (mset mN mm rf σ α)) (hI : I μc σ α) (hc0 : c0 ≤ 400000) (hs0 : s0 ≤ 4000000)
    (k : ∀ (μ' : Mm) (σ' : Nat → Int32) (α' : Nat → Nat → Int32) (c1 s1 : Nat), disM μ' (mset mN mm rf σ' α') → I μ' σ' α' → c1 ≤ c0 + 20 → s1 ≤ s0 + 100 → J p l e room_1 s m args below meth c 7 G A Q c1 s1 1216 [(0, .ref b0), (1, .ref x), (2, .ref mm), (3, .ref out), (4, .int v4)] [] (joinM μ' (mset mN mm rf σ' α'))) :
    J p l e room_1 s m args below meth c 7 G A Q c0 s0 537 [(0, .ref b0), (1, .ref x), (2, .ref mm), (3, .ref out), (4, .int v4)] [] (joinM μc (mset mN mm rf σ α)) := by
  have hop := hop0 μc σ α
  refine j_aload_n X (pc' := 538) (kk := 1) (i := 1) 1 rfl rfl dL_law_537 rfl ?_
  refine j_aload_n X (pc' := 539) (kk := 0) (i := 0) 0 rfl rfl dL_law_538 rfl ?_
  refine j_iload X (pc' := 541) (i := 4) 4 rfl dL_law_539 rfl ?_
  refine j_iconst X (pc' := 542) (v := 1) (by decide) dL_law_541 rfl ?_
  refine j_iadd X (pc' := 543) dL_law_542 rfl ?_
  refine j_sld X (pc' := 544) hX hbl hbA (hy1).1 dL_law_543 rfl ?_
  rw [(hy1).2]
  refine j_aload_n X (pc' := 545) (kk := 3) (i := 3) 3 rfl rfl dL_law_544 rfl ?_
  have hw0 := hop y1 hI
  refine j_lawS X (pc' := 548) (As := [.ref x, .int y1, .ref out]) (rest := []) (mc1 := 1) (ms1 := 6) hdis (fun A1 => c_L_leastBits l G A1 hl0 x y1 out μc _ hw0) (gk_L_leastBits wt_2_196) hd_L_leastBits ⟨by show _ ≤ 2048; omega, by show _ ≤ 84000; omega⟩ rfl rfl (Nat.le_of_ble_eq_true rfl) dL_law_545 rfl ⟨by show _ ≤ 709538; omega, by show _ ≤ 6967491; omega⟩ (fun r1 μ2 hd3 hw1 => ?_)
  refine j_istore X (pc' := 550) (i := 5) (loc' := [(5, .int r1), (0, .ref b0), (1, .ref x), (2, .ref mm), (3, .ref out), (4, .int v4)]) dL_law_548 rfl (by decide) rfl ?_
  refine j_aload_n X (pc' := 551) (kk := 2) (i := 2) 3 rfl rfl dL_law_550 rfl ?_
  refine j_aload_n X (pc' := 552) (kk := 0) (i := 0) 1 rfl rfl dL_law_551 rfl ?_
  refine j_iload X (pc' := 554) (i := 4) 5 rfl dL_law_552 rfl ?_
  refine j_iconst X (pc' := 555) (v := 1) (by decide) dL_law_554 rfl ?_
  refine j_iadd X (pc' := 556) dL_law_555 rfl ?_
  refine j_sld X (pc' := 557) hX hbl hbA (hy1).1 dL_law_556 rfl ?_
  rw [(hy1).2]
  refine j_lawV2 X (pc' := 560) (b := mm) (As := [.int y1]) (rest := []) (mc1 := 0) (ms1 := 0) hd3 (fun A1 => c_X7_leastBits l G A1 hMO mN y1 σ α _ hw1) (gk_X7_leastBits wt_4_106) hd_X7_leastBits ⟨by show _ ≤ 2048; omega, by show _ ≤ 84000; omega⟩ mset_o rfl rfl rfl (Nat.le_of_ble_eq_true rfl) dL_law_557 rfl ⟨by show _ ≤ 709538; omega, by show _ ≤ 6967491; omega⟩ (fun r4 μ5 hd6 hx9 => ?_)
  obtain ⟨σ7, α8, rfl, hx9⟩ := hx9
  refine j_istore X (pc' := 562) (i := 6) (loc' := [(6, .int r4), (5, .int r1), (0, .ref b0), (1, .ref x), (2, .ref mm), (3, .ref out), (4, .int v4)]) dL_law_560 rfl (by decide) rfl ?_
  refine j_aload_n X (pc' := 563) (kk := 2) (i := 2) 4 rfl rfl dL_law_562 rfl ?_
  refine j_lawV2 X (pc' := 566) (b := mm) (As := []) (rest := []) (mc1 := 0) (ms1 := 0) hd6 (fun A1 => c_X7_thrown l G A1 hMO mN  σ7 α8 _ hx9) (gk_X7_thrown wt_4_16) hd_X7_thrown ⟨by show _ ≤ 2048; omega, by show _ ≤ 84000; omega⟩ mset_o rfl rfl rfl (Nat.le_of_ble_eq_true rfl) dL_law_563 rfl ⟨by show _ ≤ 709538; omega, by show _ ≤ 6967491; omega⟩ (fun r10 μ11 hd12 hx15 => ?_)
  obtain ⟨σ13, α14, rfl, hx15⟩ := hx15
  obtain ⟨ht, hz, hI2⟩ := hx15
  refine j_iload X (pc' := 568) (i := 5) 1 rfl dL_law_566 rfl ?_
  refine j_icmp_eq X (pc' := 571) (tgt := 573) dL_law_568 rfl (by decide) (fun _ => ?_) (fun c0 => absurd ht c0)
  refine j_iload X (pc' := 575) (i := 5) 1 rfl dL_law_573 rfl ?_
  refine j_if_ne X (pc' := 578) (tgt := 590) dL_law_575 rfl (by decide) (fun c1 => ?_) (fun c1 => ?_)
  · refine j_goto X (tgt := 1216) dL_law_590 (by decide) ?_
    refine j_loc [2, 3, 4, 5, 6] rfl ?_
    exact k _ _ _ _ _ hd12 hI2 (by omega) (by omega)
  · obtain ⟨n9, f9, hm9, hi9, he9⟩ := hz c1
    refine j_aload_n X (pc' := 579) (kk := 3) (i := 3) 5 rfl rfl dL_law_578 rfl ?_
    refine j_iconst X (pc' := 580) (v := 0) (by decide) dL_law_579 rfl ?_
    refine j_lald X (pc' := 581) (join_1 hm9) hi9 dL_law_580 rfl ?_
    refine j_iload X (pc' := 583) (i := 6) 0 rfl dL_law_581 rfl ?_
    refine j_i2l X (pc' := 584) dL_law_583 rfl ?_
    refine j_lcmpEq X (pc' := 585) he9 dL_law_584 rfl ?_
    refine j_if_eq X (pc' := 588) (tgt := 590) dL_law_585 rfl (by decide) (fun _ => ?_) (fun c0 => absurd rfl c0)
    refine j_goto X (tgt := 1216) dL_law_590 (by decide) ?_
    refine j_loc [2, 3, 4, 5, 6] rfl ?_
    exact k _ _ _ _ _ hd12 hI2 (by omega) (by omega)
set_option maxHeartbeats 4000000 in
set_option maxRecDepth 100000 in
theorem law_case_8 {p : Program} {l : Launch} {e : Env} {s : State} {m : MethodId} {args : Array Value} {below : List Frame} {meth : Method} {c : Code} {G : gG} {A : Nat → Prop} {Q : State → Prop} {kd : Nat → Nat} {b0 L : Nat} {xs : Nat → Int32} {x mm out : Nat} {rf : Nat → Nat} {I : Mm → (Nat → Int32) → (Nat → Nat → Int32) → Prop} {μc : Mm} {σ : Nat → Int32} {α : Nat → Nat → Int32} {c0 s0 : Nat} {v4 y0 y1 y2 y3 : Int32} (X : Cx p l s m args meth c code 7 (some .boolean) RL G A) (hl0 : l.stackTraces = false) (hkd : G.2.2 = kd) (hMO : MOk mm rf) (hX : va_X b0 L xs s s.heap) (hbl : b0 < s.heap.size) (hbA : ¬ A b0) (hy1 : vp_in (v4 + 1) L ∧ xs (v4 + 1).toNatClampNeg = y1) (hy2 : vp_in (v4 + 2) L ∧ xs (v4 + 2).toNatClampNeg = y2) (hy3 : vp_in (v4 + 3) L ∧ xs (v4 + 3).toNatClampNeg = y3) (hop0 : op_8 kd x out I) (hdis : disM μc (mset mN mm rf σ α)) (hI : I μc σ α) (hc0 : c0 ≤ 400000) (hs0 : s0 ≤ 4000000)
    (k : ∀ (μ' : Mm) (σ' : Nat → Int32) (α' : Nat → Nat → Int32) (c1 s1 : Nat), disM μ' (mset mN mm rf σ' α') → I μ' σ' α' → c1 ≤ c0 + 20 → s1 ≤ s0 + 100 → J p l e room_1 s m args below meth c 7 G A Q c1 s1 1216 [(0, .ref b0), (1, .ref x), (2, .ref mm), (3, .ref out), (4, .int v4)] [] (joinM μ' (mset mN mm rf σ' α'))) :
    J p l e room_1 s m args below meth c 7 G A Q c0 s0 593 [(0, .ref b0), (1, .ref x), (2, .ref mm), (3, .ref out), (4, .int v4)] [] (joinM μc (mset mN mm rf σ α)) := by
  have hop := hop0 μc σ α
  refine j_aload_n X (pc' := 594) (kk := 1) (i := 1) 1 rfl rfl dL_law_593 rfl ?_
  refine j_aload_n X (pc' := 595) (kk := 0) (i := 0) 0 rfl rfl dL_law_594 rfl ?_
  refine j_iload X (pc' := 597) (i := 4) 4 rfl dL_law_595 rfl ?_
  refine j_iconst X (pc' := 598) (v := 1) (by decide) dL_law_597 rfl ?_
  refine j_iadd X (pc' := 599) dL_law_598 rfl ?_
  refine j_sld X (pc' := 600) hX hbl hbA (hy1).1 dL_law_599 rfl ?_
  rw [(hy1).2]
  refine j_aload_n X (pc' := 601) (kk := 3) (i := 3) 3 rfl rfl dL_law_600 rfl ?_
  have hw0 := hop y1 hI
  refine j_lawS X (pc' := 604) (As := [.ref x, .int y1, .ref out]) (rest := []) (mc1 := 1) (ms1 := 6) hdis (fun A1 => c_L_mostBits l G A1 hl0 x y1 out μc _ hw0) (gk_L_mostBits wt_2_203) hd_L_mostBits ⟨by show _ ≤ 2048; omega, by show _ ≤ 84000; omega⟩ rfl rfl (Nat.le_of_ble_eq_true rfl) dL_law_601 rfl ⟨by show _ ≤ 709538; omega, by show _ ≤ 6967491; omega⟩ (fun r1 μ2 hd3 hw1 => ?_)
  refine j_istore X (pc' := 606) (i := 5) (loc' := [(5, .int r1), (0, .ref b0), (1, .ref x), (2, .ref mm), (3, .ref out), (4, .int v4)]) dL_law_604 rfl (by decide) rfl ?_
  refine j_aload_n X (pc' := 607) (kk := 2) (i := 2) 3 rfl rfl dL_law_606 rfl ?_
  refine j_aload_n X (pc' := 608) (kk := 0) (i := 0) 1 rfl rfl dL_law_607 rfl ?_
  refine j_iload X (pc' := 610) (i := 4) 5 rfl dL_law_608 rfl ?_
  refine j_iconst X (pc' := 611) (v := 1) (by decide) dL_law_610 rfl ?_
  refine j_iadd X (pc' := 612) dL_law_611 rfl ?_
  refine j_sld X (pc' := 613) hX hbl hbA (hy1).1 dL_law_612 rfl ?_
  rw [(hy1).2]
  refine j_lawV2 X (pc' := 616) (b := mm) (As := [.int y1]) (rest := []) (mc1 := 0) (ms1 := 0) hd3 (fun A1 => c_X7_mostBits l G A1 hMO mN y1 σ α _ hw1) (gk_X7_mostBits wt_4_114) hd_X7_mostBits ⟨by show _ ≤ 2048; omega, by show _ ≤ 84000; omega⟩ mset_o rfl rfl rfl (Nat.le_of_ble_eq_true rfl) dL_law_613 rfl ⟨by show _ ≤ 709538; omega, by show _ ≤ 6967491; omega⟩ (fun r4 μ5 hd6 hx9 => ?_)
  obtain ⟨σ7, α8, rfl, hx9⟩ := hx9
  refine j_istore X (pc' := 618) (i := 6) (loc' := [(6, .int r4), (5, .int r1), (0, .ref b0), (1, .ref x), (2, .ref mm), (3, .ref out), (4, .int v4)]) dL_law_616 rfl (by decide) rfl ?_
  refine j_aload_n X (pc' := 619) (kk := 2) (i := 2) 4 rfl rfl dL_law_618 rfl ?_
  refine j_lawV2 X (pc' := 622) (b := mm) (As := []) (rest := []) (mc1 := 0) (ms1 := 0) hd6 (fun A1 => c_X7_thrown l G A1 hMO mN  σ7 α8 _ hx9) (gk_X7_thrown wt_4_16) hd_X7_thrown ⟨by show _ ≤ 2048; omega, by show _ ≤ 84000; omega⟩ mset_o rfl rfl rfl (Nat.le_of_ble_eq_true rfl) dL_law_619 rfl ⟨by show _ ≤ 709538; omega, by show _ ≤ 6967491; omega⟩ (fun r10 μ11 hd12 hx15 => ?_)
  obtain ⟨σ13, α14, rfl, hx15⟩ := hx15
  obtain ⟨ht, hz, hI2⟩ := hx15
  refine j_iload X (pc' := 624) (i := 5) 1 rfl dL_law_622 rfl ?_
  refine j_icmp_eq X (pc' := 627) (tgt := 629) dL_law_624 rfl (by decide) (fun _ => ?_) (fun c0 => absurd ht c0)
  refine j_iload X (pc' := 631) (i := 5) 1 rfl dL_law_629 rfl ?_
  refine j_if_ne X (pc' := 634) (tgt := 646) dL_law_631 rfl (by decide) (fun c1 => ?_) (fun c1 => ?_)
  · refine j_goto X (tgt := 1216) dL_law_646 (by decide) ?_
    refine j_loc [2, 3, 4, 5, 6] rfl ?_
    exact k _ _ _ _ _ hd12 hI2 (by omega) (by omega)
  · obtain ⟨n9, f9, hm9, hi9, he9⟩ := hz c1
    refine j_aload_n X (pc' := 635) (kk := 3) (i := 3) 5 rfl rfl dL_law_634 rfl ?_
    refine j_iconst X (pc' := 636) (v := 0) (by decide) dL_law_635 rfl ?_
    refine j_lald X (pc' := 637) (join_1 hm9) hi9 dL_law_636 rfl ?_
    refine j_iload X (pc' := 639) (i := 6) 0 rfl dL_law_637 rfl ?_
    refine j_i2l X (pc' := 640) dL_law_639 rfl ?_
    refine j_lcmpEq X (pc' := 641) he9 dL_law_640 rfl ?_
    refine j_if_eq X (pc' := 644) (tgt := 646) dL_law_641 rfl (by decide) (fun _ => ?_) (fun c0 => absurd rfl c0)
    refine j_goto X (tgt := 1216) dL_law_646 (by decide) ?_
    refine j_loc [2, 3, 4, 5, 6] rfl ?_
    exact k _ _ _ _ _ hd12 hI2 (by omega) (by omega)
set_option maxHeartbeats 4000000 in
set_option maxRecDepth 100000 in
theorem law_case_9 {p : Program} {l : Launch} {e : Env} {s : State} {m : MethodId} {args : Array Value} {below : List Frame} {meth : Method} {c : Code} {G : gG} {A : Nat → Prop} {Q : State → Prop} {kd : Nat → Nat} {b0 L : Nat} {xs : Nat → Int32} {x mm out : Nat} {rf : Nat → Nat} {I : Mm → (Nat → Int32) → (Nat → Nat → Int32) → Prop} {μc : Mm} {σ : Nat → Int32} {α : Nat → Nat → Int32} {c0 s0 : Nat} {v4 y0 y1 y2 y3 : Int32} (X : Cx p l s m args meth c code 7 (some .boolean) RL G A) (hl0 : l.stackTraces = false) (hkd : G.2.2 = kd) (hMO : MOk mm rf) (hX : va_X b0 L xs s s.heap) (hbl : b0 < s.heap.size) (hbA : ¬ A b0) (hy1 : vp_in (v4 + 1) L ∧ xs (v4 + 1).toNatClampNeg = y1) (hy2 : vp_in (v4 + 2) L ∧ xs (v4 + 2).toNatClampNeg = y2) (hy3 : vp_in (v4 + 3) L ∧ xs (v4 + 3).toNatClampNeg = y3) (hop0 : op_9 kd x out I) (hdis : disM μc (mset mN mm rf σ α)) (hI : I μc σ α) (hc0 : c0 ≤ 400000) (hs0 : s0 ≤ 4000000)
    (k : ∀ (μ' : Mm) (σ' : Nat → Int32) (α' : Nat → Nat → Int32) (c1 s1 : Nat), disM μ' (mset mN mm rf σ' α') → I μ' σ' α' → c1 ≤ c0 + 20 → s1 ≤ s0 + 100 → J p l e room_1 s m args below meth c 7 G A Q c1 s1 1216 [(0, .ref b0), (1, .ref x), (2, .ref mm), (3, .ref out), (4, .int v4)] [] (joinM μ' (mset mN mm rf σ' α'))) :
    J p l e room_1 s m args below meth c 7 G A Q c0 s0 649 [(0, .ref b0), (1, .ref x), (2, .ref mm), (3, .ref out), (4, .int v4)] [] (joinM μc (mset mN mm rf σ α)) := by
  have hop := hop0 μc σ α
  refine j_aload_n X (pc' := 650) (kk := 1) (i := 1) 1 rfl rfl dL_law_649 rfl ?_
  refine j_aload_n X (pc' := 651) (kk := 0) (i := 0) 0 rfl rfl dL_law_650 rfl ?_
  refine j_iload X (pc' := 653) (i := 4) 4 rfl dL_law_651 rfl ?_
  refine j_iconst X (pc' := 654) (v := 1) (by decide) dL_law_653 rfl ?_
  refine j_iadd X (pc' := 655) dL_law_654 rfl ?_
  refine j_sld X (pc' := 656) hX hbl hbA (hy1).1 dL_law_655 rfl ?_
  rw [(hy1).2]
  refine j_aload_n X (pc' := 657) (kk := 3) (i := 3) 3 rfl rfl dL_law_656 rfl ?_
  have hw0 := hop y1 hI
  refine j_lawS X (pc' := 660) (As := [.ref x, .int y1, .ref out]) (rest := []) (mc1 := 1) (ms1 := 6) hdis (fun A1 => c_L_tell l G A1 hl0 x y1 out μc _ hw0) (gk_L_tell wt_2_210) hd_L_tell ⟨by show _ ≤ 2048; omega, by show _ ≤ 84000; omega⟩ rfl rfl (Nat.le_of_ble_eq_true rfl) dL_law_657 rfl ⟨by show _ ≤ 709538; omega, by show _ ≤ 6967491; omega⟩ (fun r1 μ2 hd3 hw1 => ?_)
  refine j_istore X (pc' := 662) (i := 5) (loc' := [(5, .int r1), (0, .ref b0), (1, .ref x), (2, .ref mm), (3, .ref out), (4, .int v4)]) dL_law_660 rfl (by decide) rfl ?_
  refine j_aload_n X (pc' := 663) (kk := 2) (i := 2) 3 rfl rfl dL_law_662 rfl ?_
  refine j_aload_n X (pc' := 664) (kk := 0) (i := 0) 1 rfl rfl dL_law_663 rfl ?_
  refine j_iload X (pc' := 666) (i := 4) 5 rfl dL_law_664 rfl ?_
  refine j_iconst X (pc' := 667) (v := 1) (by decide) dL_law_666 rfl ?_
  refine j_iadd X (pc' := 668) dL_law_667 rfl ?_
  refine j_sld X (pc' := 669) hX hbl hbA (hy1).1 dL_law_668 rfl ?_
  rw [(hy1).2]
  refine j_lawV2 X (pc' := 672) (b := mm) (As := [.int y1]) (rest := []) (mc1 := 0) (ms1 := 0) hd3 (fun A1 => c_X7_tell l G A1 hMO mN y1 σ α _ hw1) (gk_X7_tell wt_4_118) hd_X7_tell ⟨by show _ ≤ 2048; omega, by show _ ≤ 84000; omega⟩ mset_o rfl rfl rfl (Nat.le_of_ble_eq_true rfl) dL_law_669 rfl ⟨by show _ ≤ 709538; omega, by show _ ≤ 6967491; omega⟩ (fun r4 μ5 hd6 hx9 => ?_)
  obtain ⟨σ7, α8, rfl, hx9⟩ := hx9
  refine j_istore X (pc' := 674) (i := 6) (loc' := [(6, .int r4), (5, .int r1), (0, .ref b0), (1, .ref x), (2, .ref mm), (3, .ref out), (4, .int v4)]) dL_law_672 rfl (by decide) rfl ?_
  refine j_aload_n X (pc' := 675) (kk := 2) (i := 2) 4 rfl rfl dL_law_674 rfl ?_
  refine j_lawV2 X (pc' := 678) (b := mm) (As := []) (rest := []) (mc1 := 0) (ms1 := 0) hd6 (fun A1 => c_X7_thrown l G A1 hMO mN  σ7 α8 _ hx9) (gk_X7_thrown wt_4_16) hd_X7_thrown ⟨by show _ ≤ 2048; omega, by show _ ≤ 84000; omega⟩ mset_o rfl rfl rfl (Nat.le_of_ble_eq_true rfl) dL_law_675 rfl ⟨by show _ ≤ 709538; omega, by show _ ≤ 6967491; omega⟩ (fun r10 μ11 hd12 hx15 => ?_)
  obtain ⟨σ13, α14, rfl, hx15⟩ := hx15
  obtain ⟨ht, hz, hI2⟩ := hx15
  refine j_iload X (pc' := 680) (i := 5) 1 rfl dL_law_678 rfl ?_
  refine j_icmp_eq X (pc' := 683) (tgt := 685) dL_law_680 rfl (by decide) (fun _ => ?_) (fun c0 => absurd ht c0)
  refine j_iload X (pc' := 687) (i := 5) 1 rfl dL_law_685 rfl ?_
  refine j_if_ne X (pc' := 690) (tgt := 702) dL_law_687 rfl (by decide) (fun c1 => ?_) (fun c1 => ?_)
  · refine j_goto X (tgt := 1216) dL_law_702 (by decide) ?_
    refine j_loc [2, 3, 4, 5, 6] rfl ?_
    exact k _ _ _ _ _ hd12 hI2 (by omega) (by omega)
  · obtain ⟨n9, f9, hm9, hi9, he9⟩ := hz c1
    refine j_aload_n X (pc' := 691) (kk := 3) (i := 3) 5 rfl rfl dL_law_690 rfl ?_
    refine j_iconst X (pc' := 692) (v := 0) (by decide) dL_law_691 rfl ?_
    refine j_lald X (pc' := 693) (join_1 hm9) hi9 dL_law_692 rfl ?_
    refine j_iload X (pc' := 695) (i := 6) 0 rfl dL_law_693 rfl ?_
    refine j_i2l X (pc' := 696) dL_law_695 rfl ?_
    refine j_lcmpEq X (pc' := 697) he9 dL_law_696 rfl ?_
    refine j_if_eq X (pc' := 700) (tgt := 702) dL_law_697 rfl (by decide) (fun _ => ?_) (fun c0 => absurd rfl c0)
    refine j_goto X (tgt := 1216) dL_law_702 (by decide) ?_
    refine j_loc [2, 3, 4, 5, 6] rfl ?_
    exact k _ _ _ _ _ hd12 hI2 (by omega) (by omega)
set_option maxHeartbeats 4000000 in
set_option maxRecDepth 100000 in
theorem law_case_10 {p : Program} {l : Launch} {e : Env} {s : State} {m : MethodId} {args : Array Value} {below : List Frame} {meth : Method} {c : Code} {G : gG} {A : Nat → Prop} {Q : State → Prop} {kd : Nat → Nat} {b0 L : Nat} {xs : Nat → Int32} {x mm out : Nat} {rf : Nat → Nat} {I : Mm → (Nat → Int32) → (Nat → Nat → Int32) → Prop} {μc : Mm} {σ : Nat → Int32} {α : Nat → Nat → Int32} {c0 s0 : Nat} {v4 y0 y1 y2 y3 : Int32} (X : Cx p l s m args meth c code 7 (some .boolean) RL G A) (hl0 : l.stackTraces = false) (hkd : G.2.2 = kd) (hMO : MOk mm rf) (hX : va_X b0 L xs s s.heap) (hbl : b0 < s.heap.size) (hbA : ¬ A b0) (hy1 : vp_in (v4 + 1) L ∧ xs (v4 + 1).toNatClampNeg = y1) (hy2 : vp_in (v4 + 2) L ∧ xs (v4 + 2).toNatClampNeg = y2) (hy3 : vp_in (v4 + 3) L ∧ xs (v4 + 3).toNatClampNeg = y3) (hop0 : op_10 kd x out I) (hdis : disM μc (mset mN mm rf σ α)) (hI : I μc σ α) (hc0 : c0 ≤ 400000) (hs0 : s0 ≤ 4000000)
    (k : ∀ (μ' : Mm) (σ' : Nat → Int32) (α' : Nat → Nat → Int32) (c1 s1 : Nat), disM μ' (mset mN mm rf σ' α') → I μ' σ' α' → c1 ≤ c0 + 20 → s1 ≤ s0 + 100 → J p l e room_1 s m args below meth c 7 G A Q c1 s1 1216 [(0, .ref b0), (1, .ref x), (2, .ref mm), (3, .ref out), (4, .int v4)] [] (joinM μ' (mset mN mm rf σ' α'))) :
    J p l e room_1 s m args below meth c 7 G A Q c0 s0 705 [(0, .ref b0), (1, .ref x), (2, .ref mm), (3, .ref out), (4, .int v4)] [] (joinM μc (mset mN mm rf σ α)) := by
  have hop := hop0 μc σ α
  refine j_aload_n X (pc' := 706) (kk := 1) (i := 1) 1 rfl rfl dL_law_705 rfl ?_
  obtain ⟨⟨f8, hm8⟩, hw0⟩ := hop hI
  refine j_lawV X (pc' := 709) (b := x) (As := []) (rest := []) (mc1 := 0) (ms1 := 0) hdis (fun A1 => c_X6_forget l G A1 x μc _ hw0) (gk_X6_forget wt_1_129) hd_X6_forget ⟨by show _ ≤ 2048; omega, by show _ ≤ 84000; omega⟩ hm8 rfl rfl rfl (Nat.le_of_ble_eq_true rfl) dL_law_706 rfl ⟨by show _ ≤ 709538; omega, by show _ ≤ 6967491; omega⟩ (fun r1 μ2 hd3 hw1 => ?_)
  refine j_aload_n X (pc' := 710) (kk := 2) (i := 2) 2 rfl rfl dL_law_709 rfl ?_
  refine j_lawV2 X (pc' := 713) (b := mm) (As := []) (rest := [.int r1]) (mc1 := 0) (ms1 := 0) hd3 (fun A1 => c_X7_forget l G A1 hMO mN  σ α _ hw1) (gk_X7_forget wt_4_122) hd_X7_forget ⟨by show _ ≤ 2048; omega, by show _ ≤ 84000; omega⟩ mset_o rfl rfl rfl (Nat.le_of_ble_eq_true rfl) dL_law_710 rfl ⟨by show _ ≤ 709538; omega, by show _ ≤ 6967491; omega⟩ (fun r4 μ5 hd6 hx9 => ?_)
  obtain ⟨σ7, α8, rfl, hx9⟩ := hx9
  obtain ⟨ht, hI2⟩ := hx9
  refine j_icmp_eq X (pc' := 716) (tgt := 1216) dL_law_713 rfl (by decide) (fun _ => ?_) (fun c0 => absurd ht c0)
  refine j_loc [0, 1, 2, 3, 4] rfl ?_
  exact k _ _ _ _ _ hd6 hI2 (by omega) (by omega)
set_option maxHeartbeats 4000000 in
set_option maxRecDepth 100000 in
theorem law_case_11 {p : Program} {l : Launch} {e : Env} {s : State} {m : MethodId} {args : Array Value} {below : List Frame} {meth : Method} {c : Code} {G : gG} {A : Nat → Prop} {Q : State → Prop} {kd : Nat → Nat} {b0 L : Nat} {xs : Nat → Int32} {x mm out : Nat} {rf : Nat → Nat} {I : Mm → (Nat → Int32) → (Nat → Nat → Int32) → Prop} {μc : Mm} {σ : Nat → Int32} {α : Nat → Nat → Int32} {c0 s0 : Nat} {v4 y0 y1 y2 y3 : Int32} (X : Cx p l s m args meth c code 7 (some .boolean) RL G A) (hl0 : l.stackTraces = false) (hkd : G.2.2 = kd) (hMO : MOk mm rf) (hX : va_X b0 L xs s s.heap) (hbl : b0 < s.heap.size) (hbA : ¬ A b0) (hy1 : vp_in (v4 + 1) L ∧ xs (v4 + 1).toNatClampNeg = y1) (hy2 : vp_in (v4 + 2) L ∧ xs (v4 + 2).toNatClampNeg = y2) (hy3 : vp_in (v4 + 3) L ∧ xs (v4 + 3).toNatClampNeg = y3) (hop0 : op_11 kd x out I) (hdis : disM μc (mset mN mm rf σ α)) (hI : I μc σ α) (hc0 : c0 ≤ 400000) (hs0 : s0 ≤ 4000000)
    (k : ∀ (μ' : Mm) (σ' : Nat → Int32) (α' : Nat → Nat → Int32) (c1 s1 : Nat), disM μ' (mset mN mm rf σ' α') → I μ' σ' α' → c1 ≤ c0 + 20 → s1 ≤ s0 + 100 → J p l e room_1 s m args below meth c 7 G A Q c1 s1 1216 [(0, .ref b0), (1, .ref x), (2, .ref mm), (3, .ref out), (4, .int v4)] [] (joinM μ' (mset mN mm rf σ' α'))) :
    J p l e room_1 s m args below meth c 7 G A Q c0 s0 718 [(0, .ref b0), (1, .ref x), (2, .ref mm), (3, .ref out), (4, .int v4)] [] (joinM μc (mset mN mm rf σ α)) := by
  have hop := hop0 μc σ α
  refine j_aload_n X (pc' := 719) (kk := 1) (i := 1) 1 rfl rfl dL_law_718 rfl ?_
  obtain ⟨⟨f8, hm8⟩, hw0⟩ := hop hI
  refine j_lawV X (pc' := 722) (b := x) (As := []) (rest := []) (mc1 := 0) (ms1 := 0) hdis (fun A1 => c_X6_length l G A1 x μc _ hw0) (gk_X6_length wt_1_141) hd_X6_length ⟨by show _ ≤ 2048; omega, by show _ ≤ 84000; omega⟩ hm8 rfl rfl rfl (Nat.le_of_ble_eq_true rfl) dL_law_719 rfl ⟨by show _ ≤ 709538; omega, by show _ ≤ 6967491; omega⟩ (fun r1 μ2 hd3 hw1 => ?_)
  refine j_aload_n X (pc' := 723) (kk := 2) (i := 2) 2 rfl rfl dL_law_722 rfl ?_
  refine j_lawV2 X (pc' := 726) (b := mm) (As := []) (rest := [.int r1]) (mc1 := 0) (ms1 := 0) hd3 (fun A1 => c_X7_length l G A1 hMO mN  σ α _ hw1) (gk_X7_length wt_4_126) hd_X7_length ⟨by show _ ≤ 2048; omega, by show _ ≤ 84000; omega⟩ mset_o rfl rfl rfl (Nat.le_of_ble_eq_true rfl) dL_law_723 rfl ⟨by show _ ≤ 709538; omega, by show _ ≤ 6967491; omega⟩ (fun r4 μ5 hd6 hx9 => ?_)
  obtain ⟨σ7, α8, rfl, hx9⟩ := hx9
  obtain ⟨ht, hI2⟩ := hx9
  refine j_icmp_eq X (pc' := 729) (tgt := 1216) dL_law_726 rfl (by decide) (fun _ => ?_) (fun c0 => absurd ht c0)
  refine j_loc [0, 1, 2, 3, 4] rfl ?_
  exact k _ _ _ _ _ hd6 hI2 (by omega) (by omega)
set_option maxHeartbeats 4000000 in
set_option maxRecDepth 100000 in
theorem law_case_12 {p : Program} {l : Launch} {e : Env} {s : State} {m : MethodId} {args : Array Value} {below : List Frame} {meth : Method} {c : Code} {G : gG} {A : Nat → Prop} {Q : State → Prop} {kd : Nat → Nat} {b0 L : Nat} {xs : Nat → Int32} {x mm out : Nat} {rf : Nat → Nat} {I : Mm → (Nat → Int32) → (Nat → Nat → Int32) → Prop} {μc : Mm} {σ : Nat → Int32} {α : Nat → Nat → Int32} {c0 s0 : Nat} {v4 y0 y1 y2 y3 : Int32} (X : Cx p l s m args meth c code 7 (some .boolean) RL G A) (hl0 : l.stackTraces = false) (hkd : G.2.2 = kd) (hMO : MOk mm rf) (hX : va_X b0 L xs s s.heap) (hbl : b0 < s.heap.size) (hbA : ¬ A b0) (hy1 : vp_in (v4 + 1) L ∧ xs (v4 + 1).toNatClampNeg = y1) (hy2 : vp_in (v4 + 2) L ∧ xs (v4 + 2).toNatClampNeg = y2) (hy3 : vp_in (v4 + 3) L ∧ xs (v4 + 3).toNatClampNeg = y3) (hop0 : op_12 kd x out I) (hdis : disM μc (mset mN mm rf σ α)) (hI : I μc σ α) (hc0 : c0 ≤ 400000) (hs0 : s0 ≤ 4000000)
    (k : ∀ (μ' : Mm) (σ' : Nat → Int32) (α' : Nat → Nat → Int32) (c1 s1 : Nat), disM μ' (mset mN mm rf σ' α') → I μ' σ' α' → c1 ≤ c0 + 20 → s1 ≤ s0 + 100 → J p l e room_1 s m args below meth c 7 G A Q c1 s1 1216 [(0, .ref b0), (1, .ref x), (2, .ref mm), (3, .ref out), (4, .int v4)] [] (joinM μ' (mset mN mm rf σ' α'))) :
    J p l e room_1 s m args below meth c 7 G A Q c0 s0 731 [(0, .ref b0), (1, .ref x), (2, .ref mm), (3, .ref out), (4, .int v4)] [] (joinM μc (mset mN mm rf σ α)) := by
  have hop := hop0 μc σ α
  refine j_aload_n X (pc' := 732) (kk := 1) (i := 1) 1 rfl rfl dL_law_731 rfl ?_
  refine j_aload_n X (pc' := 733) (kk := 0) (i := 0) 0 rfl rfl dL_law_732 rfl ?_
  refine j_iload X (pc' := 735) (i := 4) 4 rfl dL_law_733 rfl ?_
  refine j_iconst X (pc' := 736) (v := 1) (by decide) dL_law_735 rfl ?_
  refine j_iadd X (pc' := 737) dL_law_736 rfl ?_
  refine j_sld X (pc' := 738) hX hbl hbA (hy1).1 dL_law_737 rfl ?_
  rw [(hy1).2]
  refine j_aload_n X (pc' := 739) (kk := 3) (i := 3) 3 rfl rfl dL_law_738 rfl ?_
  have hw0 := hop y1 hI
  refine j_lawS X (pc' := 742) (As := [.ref x, .int y1, .ref out]) (rest := []) (mc1 := 1) (ms1 := 6) hdis (fun A1 => c_L_told l G A1 hl0 x y1 out μc _ hw0) (gk_L_told wt_2_227) hd_L_told ⟨by show _ ≤ 2048; omega, by show _ ≤ 84000; omega⟩ rfl rfl (Nat.le_of_ble_eq_true rfl) dL_law_739 rfl ⟨by show _ ≤ 709538; omega, by show _ ≤ 6967491; omega⟩ (fun r1 μ2 hd3 hw1 => ?_)
  refine j_istore X (pc' := 744) (i := 5) (loc' := [(5, .int r1), (0, .ref b0), (1, .ref x), (2, .ref mm), (3, .ref out), (4, .int v4)]) dL_law_742 rfl (by decide) rfl ?_
  refine j_aload_n X (pc' := 745) (kk := 2) (i := 2) 3 rfl rfl dL_law_744 rfl ?_
  refine j_aload_n X (pc' := 746) (kk := 0) (i := 0) 1 rfl rfl dL_law_745 rfl ?_
  refine j_iload X (pc' := 748) (i := 4) 5 rfl dL_law_746 rfl ?_
  refine j_iconst X (pc' := 749) (v := 1) (by decide) dL_law_748 rfl ?_
  refine j_iadd X (pc' := 750) dL_law_749 rfl ?_
  refine j_sld X (pc' := 751) hX hbl hbA (hy1).1 dL_law_750 rfl ?_
  rw [(hy1).2]
  refine j_lawV2 X (pc' := 754) (b := mm) (As := [.int y1]) (rest := []) (mc1 := 0) (ms1 := 0) hd3 (fun A1 => c_X7_told l G A1 hMO mN y1 σ α _ hw1) (gk_X7_told wt_4_130) hd_X7_told ⟨by show _ ≤ 2048; omega, by show _ ≤ 84000; omega⟩ mset_o rfl rfl rfl (Nat.le_of_ble_eq_true rfl) dL_law_751 rfl ⟨by show _ ≤ 709538; omega, by show _ ≤ 6967491; omega⟩ (fun r4 μ5 hd6 hx9 => ?_)
  obtain ⟨σ7, α8, rfl, hx9⟩ := hx9
  refine j_istore X (pc' := 756) (i := 6) (loc' := [(6, .int r4), (5, .int r1), (0, .ref b0), (1, .ref x), (2, .ref mm), (3, .ref out), (4, .int v4)]) dL_law_754 rfl (by decide) rfl ?_
  refine j_aload_n X (pc' := 757) (kk := 2) (i := 2) 4 rfl rfl dL_law_756 rfl ?_
  refine j_lawV2 X (pc' := 760) (b := mm) (As := []) (rest := []) (mc1 := 0) (ms1 := 0) hd6 (fun A1 => c_X7_thrown l G A1 hMO mN  σ7 α8 _ hx9) (gk_X7_thrown wt_4_16) hd_X7_thrown ⟨by show _ ≤ 2048; omega, by show _ ≤ 84000; omega⟩ mset_o rfl rfl rfl (Nat.le_of_ble_eq_true rfl) dL_law_757 rfl ⟨by show _ ≤ 709538; omega, by show _ ≤ 6967491; omega⟩ (fun r10 μ11 hd12 hx15 => ?_)
  obtain ⟨σ13, α14, rfl, hx15⟩ := hx15
  obtain ⟨ht, hz, hI2⟩ := hx15
  refine j_iload X (pc' := 762) (i := 5) 1 rfl dL_law_760 rfl ?_
  refine j_icmp_eq X (pc' := 765) (tgt := 767) dL_law_762 rfl (by decide) (fun _ => ?_) (fun c0 => absurd ht c0)
  refine j_iload X (pc' := 769) (i := 5) 1 rfl dL_law_767 rfl ?_
  refine j_if_ne X (pc' := 772) (tgt := 784) dL_law_769 rfl (by decide) (fun c1 => ?_) (fun c1 => ?_)
  · refine j_goto X (tgt := 1216) dL_law_784 (by decide) ?_
    refine j_loc [2, 3, 4, 5, 6] rfl ?_
    exact k _ _ _ _ _ hd12 hI2 (by omega) (by omega)
  · obtain ⟨n9, f9, hm9, hi9, he9⟩ := hz c1
    refine j_aload_n X (pc' := 773) (kk := 3) (i := 3) 5 rfl rfl dL_law_772 rfl ?_
    refine j_iconst X (pc' := 774) (v := 0) (by decide) dL_law_773 rfl ?_
    refine j_lald X (pc' := 775) (join_1 hm9) hi9 dL_law_774 rfl ?_
    refine j_iload X (pc' := 777) (i := 6) 0 rfl dL_law_775 rfl ?_
    refine j_i2l X (pc' := 778) dL_law_777 rfl ?_
    refine j_lcmpEq X (pc' := 779) he9 dL_law_778 rfl ?_
    refine j_if_eq X (pc' := 782) (tgt := 784) dL_law_779 rfl (by decide) (fun _ => ?_) (fun c0 => absurd rfl c0)
    refine j_goto X (tgt := 1216) dL_law_784 (by decide) ?_
    refine j_loc [2, 3, 4, 5, 6] rfl ?_
    exact k _ _ _ _ _ hd12 hI2 (by omega) (by omega)
set_option maxHeartbeats 4000000 in
set_option maxRecDepth 100000 in
theorem law_case_13 {p : Program} {l : Launch} {e : Env} {s : State} {m : MethodId} {args : Array Value} {below : List Frame} {meth : Method} {c : Code} {G : gG} {A : Nat → Prop} {Q : State → Prop} {kd : Nat → Nat} {b0 L : Nat} {xs : Nat → Int32} {x mm out : Nat} {rf : Nat → Nat} {I : Mm → (Nat → Int32) → (Nat → Nat → Int32) → Prop} {μc : Mm} {σ : Nat → Int32} {α : Nat → Nat → Int32} {c0 s0 : Nat} {v4 y0 y1 y2 y3 : Int32} (X : Cx p l s m args meth c code 7 (some .boolean) RL G A) (hl0 : l.stackTraces = false) (hkd : G.2.2 = kd) (hMO : MOk mm rf) (hX : va_X b0 L xs s s.heap) (hbl : b0 < s.heap.size) (hbA : ¬ A b0) (hy1 : vp_in (v4 + 1) L ∧ xs (v4 + 1).toNatClampNeg = y1) (hy2 : vp_in (v4 + 2) L ∧ xs (v4 + 2).toNatClampNeg = y2) (hy3 : vp_in (v4 + 3) L ∧ xs (v4 + 3).toNatClampNeg = y3) (hop0 : op_13 kd x out I) (hdis : disM μc (mset mN mm rf σ α)) (hI : I μc σ α) (hc0 : c0 ≤ 400000) (hs0 : s0 ≤ 4000000)
    (k : ∀ (μ' : Mm) (σ' : Nat → Int32) (α' : Nat → Nat → Int32) (c1 s1 : Nat), disM μ' (mset mN mm rf σ' α') → I μ' σ' α' → c1 ≤ c0 + 20 → s1 ≤ s0 + 100 → J p l e room_1 s m args below meth c 7 G A Q c1 s1 1216 [(0, .ref b0), (1, .ref x), (2, .ref mm), (3, .ref out), (4, .int v4)] [] (joinM μ' (mset mN mm rf σ' α'))) :
    J p l e room_1 s m args below meth c 7 G A Q c0 s0 787 [(0, .ref b0), (1, .ref x), (2, .ref mm), (3, .ref out), (4, .int v4)] [] (joinM μc (mset mN mm rf σ α)) := by
  have hop := hop0 μc σ α
  refine j_aload_n X (pc' := 788) (kk := 1) (i := 1) 1 rfl rfl dL_law_787 rfl ?_
  refine j_aload_n X (pc' := 789) (kk := 0) (i := 0) 0 rfl rfl dL_law_788 rfl ?_
  refine j_iload X (pc' := 791) (i := 4) 4 rfl dL_law_789 rfl ?_
  refine j_iconst X (pc' := 792) (v := 1) (by decide) dL_law_791 rfl ?_
  refine j_iadd X (pc' := 793) dL_law_792 rfl ?_
  refine j_sld X (pc' := 794) hX hbl hbA (hy1).1 dL_law_793 rfl ?_
  rw [(hy1).2]
  refine j_aload_n X (pc' := 795) (kk := 3) (i := 3) 3 rfl rfl dL_law_794 rfl ?_
  have hw0 := hop y1 hI
  refine j_lawS X (pc' := 798) (As := [.ref x, .int y1, .ref out]) (rest := []) (mc1 := 1) (ms1 := 6) hdis (fun A1 => c_L_wrongAt l G A1 hl0 kd hkd x y1 out μc _ hw0) (gk_L_wrongAt wt_3_3) hd_L_wrongAt ⟨by show _ ≤ 2048; omega, by show _ ≤ 84000; omega⟩ rfl rfl (Nat.le_of_ble_eq_true rfl) dL_law_795 rfl ⟨by show _ ≤ 709538; omega, by show _ ≤ 6967491; omega⟩ (fun r1 μ2 hd3 hw1 => ?_)
  refine j_istore X (pc' := 800) (i := 5) (loc' := [(5, .int r1), (0, .ref b0), (1, .ref x), (2, .ref mm), (3, .ref out), (4, .int v4)]) dL_law_798 rfl (by decide) rfl ?_
  refine j_aload_n X (pc' := 801) (kk := 2) (i := 2) 3 rfl rfl dL_law_800 rfl ?_
  refine j_aload_n X (pc' := 802) (kk := 0) (i := 0) 1 rfl rfl dL_law_801 rfl ?_
  refine j_iload X (pc' := 804) (i := 4) 5 rfl dL_law_802 rfl ?_
  refine j_iconst X (pc' := 805) (v := 1) (by decide) dL_law_804 rfl ?_
  refine j_iadd X (pc' := 806) dL_law_805 rfl ?_
  refine j_sld X (pc' := 807) hX hbl hbA (hy1).1 dL_law_806 rfl ?_
  rw [(hy1).2]
  refine j_lawV2 X (pc' := 810) (b := mm) (As := [.int y1]) (rest := []) (mc1 := 0) (ms1 := 0) hd3 (fun A1 => c_X7_wrongAt l G A1 hMO mN y1 σ α _ hw1) (gk_X7_wrongAt wt_4_134) hd_X7_wrongAt ⟨by show _ ≤ 2048; omega, by show _ ≤ 84000; omega⟩ mset_o rfl rfl rfl (Nat.le_of_ble_eq_true rfl) dL_law_807 rfl ⟨by show _ ≤ 709538; omega, by show _ ≤ 6967491; omega⟩ (fun r4 μ5 hd6 hx9 => ?_)
  obtain ⟨σ7, α8, rfl, hx9⟩ := hx9
  refine j_istore X (pc' := 812) (i := 6) (loc' := [(6, .int r4), (5, .int r1), (0, .ref b0), (1, .ref x), (2, .ref mm), (3, .ref out), (4, .int v4)]) dL_law_810 rfl (by decide) rfl ?_
  refine j_aload_n X (pc' := 813) (kk := 2) (i := 2) 4 rfl rfl dL_law_812 rfl ?_
  refine j_lawV2 X (pc' := 816) (b := mm) (As := []) (rest := []) (mc1 := 0) (ms1 := 0) hd6 (fun A1 => c_X7_thrown l G A1 hMO mN  σ7 α8 _ hx9) (gk_X7_thrown wt_4_16) hd_X7_thrown ⟨by show _ ≤ 2048; omega, by show _ ≤ 84000; omega⟩ mset_o rfl rfl rfl (Nat.le_of_ble_eq_true rfl) dL_law_813 rfl ⟨by show _ ≤ 709538; omega, by show _ ≤ 6967491; omega⟩ (fun r10 μ11 hd12 hx15 => ?_)
  obtain ⟨σ13, α14, rfl, hx15⟩ := hx15
  obtain ⟨ht, hz, hI2⟩ := hx15
  refine j_iload X (pc' := 818) (i := 5) 1 rfl dL_law_816 rfl ?_
  refine j_icmp_eq X (pc' := 821) (tgt := 823) dL_law_818 rfl (by decide) (fun _ => ?_) (fun c0 => absurd ht c0)
  refine j_iload X (pc' := 825) (i := 5) 1 rfl dL_law_823 rfl ?_
  refine j_if_ne X (pc' := 828) (tgt := 840) dL_law_825 rfl (by decide) (fun c1 => ?_) (fun c1 => ?_)
  · refine j_goto X (tgt := 1216) dL_law_840 (by decide) ?_
    refine j_loc [2, 3, 4, 5, 6] rfl ?_
    exact k _ _ _ _ _ hd12 hI2 (by omega) (by omega)
  · obtain ⟨n9, f9, hm9, hi9, he9⟩ := hz c1
    refine j_aload_n X (pc' := 829) (kk := 3) (i := 3) 5 rfl rfl dL_law_828 rfl ?_
    refine j_iconst X (pc' := 830) (v := 0) (by decide) dL_law_829 rfl ?_
    refine j_lald X (pc' := 831) (join_1 hm9) hi9 dL_law_830 rfl ?_
    refine j_iload X (pc' := 833) (i := 6) 0 rfl dL_law_831 rfl ?_
    refine j_i2l X (pc' := 834) dL_law_833 rfl ?_
    refine j_lcmpEq X (pc' := 835) he9 dL_law_834 rfl ?_
    refine j_if_eq X (pc' := 838) (tgt := 840) dL_law_835 rfl (by decide) (fun _ => ?_) (fun c0 => absurd rfl c0)
    refine j_goto X (tgt := 1216) dL_law_840 (by decide) ?_
    refine j_loc [2, 3, 4, 5, 6] rfl ?_
    exact k _ _ _ _ _ hd12 hI2 (by omega) (by omega)
set_option maxHeartbeats 4000000 in
set_option maxRecDepth 100000 in
theorem law_case_14 {p : Program} {l : Launch} {e : Env} {s : State} {m : MethodId} {args : Array Value} {below : List Frame} {meth : Method} {c : Code} {G : gG} {A : Nat → Prop} {Q : State → Prop} {kd : Nat → Nat} {b0 L : Nat} {xs : Nat → Int32} {x mm out : Nat} {rf : Nat → Nat} {I : Mm → (Nat → Int32) → (Nat → Nat → Int32) → Prop} {μc : Mm} {σ : Nat → Int32} {α : Nat → Nat → Int32} {c0 s0 : Nat} {v4 y0 y1 y2 y3 : Int32} (X : Cx p l s m args meth c code 7 (some .boolean) RL G A) (hl0 : l.stackTraces = false) (hkd : G.2.2 = kd) (hMO : MOk mm rf) (hX : va_X b0 L xs s s.heap) (hbl : b0 < s.heap.size) (hbA : ¬ A b0) (hy1 : vp_in (v4 + 1) L ∧ xs (v4 + 1).toNatClampNeg = y1) (hy2 : vp_in (v4 + 2) L ∧ xs (v4 + 2).toNatClampNeg = y2) (hy3 : vp_in (v4 + 3) L ∧ xs (v4 + 3).toNatClampNeg = y3) (hop0 : op_14 kd x out I) (hdis : disM μc (mset mN mm rf σ α)) (hI : I μc σ α) (hc0 : c0 ≤ 400000) (hs0 : s0 ≤ 4000000)
    (k : ∀ (μ' : Mm) (σ' : Nat → Int32) (α' : Nat → Nat → Int32) (c1 s1 : Nat), disM μ' (mset mN mm rf σ' α') → I μ' σ' α' → c1 ≤ c0 + 20 → s1 ≤ s0 + 100 → J p l e room_1 s m args below meth c 7 G A Q c1 s1 1216 [(0, .ref b0), (1, .ref x), (2, .ref mm), (3, .ref out), (4, .int v4)] [] (joinM μ' (mset mN mm rf σ' α'))) :
    J p l e room_1 s m args below meth c 7 G A Q c0 s0 843 [(0, .ref b0), (1, .ref x), (2, .ref mm), (3, .ref out), (4, .int v4)] [] (joinM μc (mset mN mm rf σ α)) := by
  have hop := hop0 μc σ α
  refine j_aload_n X (pc' := 844) (kk := 1) (i := 1) 1 rfl rfl dL_law_843 rfl ?_
  refine j_aload_n X (pc' := 845) (kk := 0) (i := 0) 0 rfl rfl dL_law_844 rfl ?_
  refine j_iload X (pc' := 847) (i := 4) 4 rfl dL_law_845 rfl ?_
  refine j_iconst X (pc' := 848) (v := 1) (by decide) dL_law_847 rfl ?_
  refine j_iadd X (pc' := 849) dL_law_848 rfl ?_
  refine j_sld X (pc' := 850) hX hbl hbA (hy1).1 dL_law_849 rfl ?_
  rw [(hy1).2]
  refine j_aload_n X (pc' := 851) (kk := 3) (i := 3) 3 rfl rfl dL_law_850 rfl ?_
  have hw0 := hop y1 hI
  refine j_lawS X (pc' := 854) (As := [.ref x, .int y1, .ref out]) (rest := []) (mc1 := 2) (ms1 := 12) hdis (fun A1 => c_L_write l G A1 hl0 kd hkd x y1 out μc _ hw0) (gk_L_write wt_3_55) hd_L_write ⟨by show _ ≤ 2048; omega, by show _ ≤ 84000; omega⟩ rfl rfl (Nat.le_of_ble_eq_true rfl) dL_law_851 rfl ⟨by show _ ≤ 709538; omega, by show _ ≤ 6967491; omega⟩ (fun r1 μ2 hd3 hw1 => ?_)
  refine j_istore X (pc' := 856) (i := 5) (loc' := [(5, .int r1), (0, .ref b0), (1, .ref x), (2, .ref mm), (3, .ref out), (4, .int v4)]) dL_law_854 rfl (by decide) rfl ?_
  refine j_aload_n X (pc' := 857) (kk := 2) (i := 2) 3 rfl rfl dL_law_856 rfl ?_
  refine j_aload_n X (pc' := 858) (kk := 0) (i := 0) 1 rfl rfl dL_law_857 rfl ?_
  refine j_iload X (pc' := 860) (i := 4) 5 rfl dL_law_858 rfl ?_
  refine j_iconst X (pc' := 861) (v := 1) (by decide) dL_law_860 rfl ?_
  refine j_iadd X (pc' := 862) dL_law_861 rfl ?_
  refine j_sld X (pc' := 863) hX hbl hbA (hy1).1 dL_law_862 rfl ?_
  rw [(hy1).2]
  refine j_lawV2 X (pc' := 866) (b := mm) (As := [.int y1]) (rest := []) (mc1 := 0) (ms1 := 0) hd3 (fun A1 => c_X7_write l G A1 hMO mN y1 σ α _ hw1) (gk_X7_write wt_4_166) hd_X7_write ⟨by show _ ≤ 2048; omega, by show _ ≤ 84000; omega⟩ mset_o rfl rfl rfl (Nat.le_of_ble_eq_true rfl) dL_law_863 rfl ⟨by show _ ≤ 709538; omega, by show _ ≤ 6967491; omega⟩ (fun r4 μ5 hd6 hx9 => ?_)
  obtain ⟨σ7, α8, rfl, hx9⟩ := hx9
  refine j_istore X (pc' := 868) (i := 6) (loc' := [(6, .int r4), (5, .int r1), (0, .ref b0), (1, .ref x), (2, .ref mm), (3, .ref out), (4, .int v4)]) dL_law_866 rfl (by decide) rfl ?_
  refine j_aload_n X (pc' := 869) (kk := 2) (i := 2) 4 rfl rfl dL_law_868 rfl ?_
  refine j_lawV2 X (pc' := 872) (b := mm) (As := []) (rest := []) (mc1 := 0) (ms1 := 0) hd6 (fun A1 => c_X7_thrown l G A1 hMO mN  σ7 α8 _ hx9) (gk_X7_thrown wt_4_16) hd_X7_thrown ⟨by show _ ≤ 2048; omega, by show _ ≤ 84000; omega⟩ mset_o rfl rfl rfl (Nat.le_of_ble_eq_true rfl) dL_law_869 rfl ⟨by show _ ≤ 709538; omega, by show _ ≤ 6967491; omega⟩ (fun r10 μ11 hd12 hx15 => ?_)
  obtain ⟨σ13, α14, rfl, hx15⟩ := hx15
  obtain ⟨ht, hz, hI2⟩ := hx15
  refine j_iload X (pc' := 874) (i := 5) 1 rfl dL_law_872 rfl ?_
  refine j_icmp_eq X (pc' := 877) (tgt := 879) dL_law_874 rfl (by decide) (fun _ => ?_) (fun c0 => absurd ht c0)
  refine j_iload X (pc' := 881) (i := 5) 1 rfl dL_law_879 rfl ?_
  refine j_if_ne X (pc' := 884) (tgt := 896) dL_law_881 rfl (by decide) (fun c1 => ?_) (fun c1 => ?_)
  · refine j_goto X (tgt := 1216) dL_law_896 (by decide) ?_
    refine j_loc [2, 3, 4, 5, 6] rfl ?_
    exact k _ _ _ _ _ hd12 hI2 (by omega) (by omega)
  · obtain ⟨n9, f9, hm9, hi9, he9⟩ := hz c1
    refine j_aload_n X (pc' := 885) (kk := 3) (i := 3) 5 rfl rfl dL_law_884 rfl ?_
    refine j_iconst X (pc' := 886) (v := 0) (by decide) dL_law_885 rfl ?_
    refine j_lald X (pc' := 887) (join_1 hm9) hi9 dL_law_886 rfl ?_
    refine j_iload X (pc' := 889) (i := 6) 0 rfl dL_law_887 rfl ?_
    refine j_i2l X (pc' := 890) dL_law_889 rfl ?_
    refine j_lcmpEq X (pc' := 891) he9 dL_law_890 rfl ?_
    refine j_if_eq X (pc' := 894) (tgt := 896) dL_law_891 rfl (by decide) (fun _ => ?_) (fun c0 => absurd rfl c0)
    refine j_goto X (tgt := 1216) dL_law_896 (by decide) ?_
    refine j_loc [2, 3, 4, 5, 6] rfl ?_
    exact k _ _ _ _ _ hd12 hI2 (by omega) (by omega)
set_option maxHeartbeats 4000000 in
set_option maxRecDepth 100000 in
theorem law_case_15 {p : Program} {l : Launch} {e : Env} {s : State} {m : MethodId} {args : Array Value} {below : List Frame} {meth : Method} {c : Code} {G : gG} {A : Nat → Prop} {Q : State → Prop} {kd : Nat → Nat} {b0 L : Nat} {xs : Nat → Int32} {x mm out : Nat} {rf : Nat → Nat} {I : Mm → (Nat → Int32) → (Nat → Nat → Int32) → Prop} {μc : Mm} {σ : Nat → Int32} {α : Nat → Nat → Int32} {c0 s0 : Nat} {v4 y0 y1 y2 y3 : Int32} (X : Cx p l s m args meth c code 7 (some .boolean) RL G A) (hl0 : l.stackTraces = false) (hkd : G.2.2 = kd) (hMO : MOk mm rf) (hX : va_X b0 L xs s s.heap) (hbl : b0 < s.heap.size) (hbA : ¬ A b0) (hy1 : vp_in (v4 + 1) L ∧ xs (v4 + 1).toNatClampNeg = y1) (hy2 : vp_in (v4 + 2) L ∧ xs (v4 + 2).toNatClampNeg = y2) (hy3 : vp_in (v4 + 3) L ∧ xs (v4 + 3).toNatClampNeg = y3) (hop0 : op_15 kd x out I) (hdis : disM μc (mset mN mm rf σ α)) (hI : I μc σ α) (hc0 : c0 ≤ 400000) (hs0 : s0 ≤ 4000000)
    (k : ∀ (μ' : Mm) (σ' : Nat → Int32) (α' : Nat → Nat → Int32) (c1 s1 : Nat), disM μ' (mset mN mm rf σ' α') → I μ' σ' α' → c1 ≤ c0 + 20 → s1 ≤ s0 + 100 → J p l e room_1 s m args below meth c 7 G A Q c1 s1 1216 [(0, .ref b0), (1, .ref x), (2, .ref mm), (3, .ref out), (4, .int v4)] [] (joinM μ' (mset mN mm rf σ' α'))) :
    J p l e room_1 s m args below meth c 7 G A Q c0 s0 899 [(0, .ref b0), (1, .ref x), (2, .ref mm), (3, .ref out), (4, .int v4)] [] (joinM μc (mset mN mm rf σ α)) := by
  have hop := hop0 μc σ α
  refine j_aload_n X (pc' := 900) (kk := 1) (i := 1) 1 rfl rfl dL_law_899 rfl ?_
  obtain ⟨⟨f8, hm8⟩, hw0⟩ := hop hI
  refine j_lawV X (pc' := 903) (b := x) (As := []) (rest := []) (mc1 := 0) (ms1 := 0) hdis (fun A1 => c_X6_bits l G A1 x μc _ hw0) (gk_X6_bits wt_1_145) hd_X6_bits ⟨by show _ ≤ 2048; omega, by show _ ≤ 84000; omega⟩ hm8 rfl rfl rfl (Nat.le_of_ble_eq_true rfl) dL_law_900 rfl ⟨by show _ ≤ 709538; omega, by show _ ≤ 6967491; omega⟩ (fun r1 μ2 hd3 hw1 => ?_)
  refine j_aload_n X (pc' := 904) (kk := 2) (i := 2) 2 rfl rfl dL_law_903 rfl ?_
  refine j_lawV2 X (pc' := 907) (b := mm) (As := []) (rest := [.int r1]) (mc1 := 0) (ms1 := 0) hd3 (fun A1 => c_X7_bits l G A1 hMO mN  σ α _ hw1) (gk_X7_bits wt_4_170) hd_X7_bits ⟨by show _ ≤ 2048; omega, by show _ ≤ 84000; omega⟩ mset_o rfl rfl rfl (Nat.le_of_ble_eq_true rfl) dL_law_904 rfl ⟨by show _ ≤ 709538; omega, by show _ ≤ 6967491; omega⟩ (fun r4 μ5 hd6 hx9 => ?_)
  obtain ⟨σ7, α8, rfl, hx9⟩ := hx9
  obtain ⟨ht, hI2⟩ := hx9
  refine j_icmp_eq X (pc' := 910) (tgt := 1216) dL_law_907 rfl (by decide) (fun _ => ?_) (fun c0 => absurd ht c0)
  refine j_loc [0, 1, 2, 3, 4] rfl ?_
  exact k _ _ _ _ _ hd6 hI2 (by omega) (by omega)
set_option maxHeartbeats 4000000 in
set_option maxRecDepth 100000 in
theorem law_case_16 {p : Program} {l : Launch} {e : Env} {s : State} {m : MethodId} {args : Array Value} {below : List Frame} {meth : Method} {c : Code} {G : gG} {A : Nat → Prop} {Q : State → Prop} {kd : Nat → Nat} {b0 L : Nat} {xs : Nat → Int32} {x mm out : Nat} {rf : Nat → Nat} {I : Mm → (Nat → Int32) → (Nat → Nat → Int32) → Prop} {μc : Mm} {σ : Nat → Int32} {α : Nat → Nat → Int32} {c0 s0 : Nat} {v4 y0 y1 y2 y3 : Int32} (X : Cx p l s m args meth c code 7 (some .boolean) RL G A) (hl0 : l.stackTraces = false) (hkd : G.2.2 = kd) (hMO : MOk mm rf) (hX : va_X b0 L xs s s.heap) (hbl : b0 < s.heap.size) (hbA : ¬ A b0) (hy1 : vp_in (v4 + 1) L ∧ xs (v4 + 1).toNatClampNeg = y1) (hy2 : vp_in (v4 + 2) L ∧ xs (v4 + 2).toNatClampNeg = y2) (hy3 : vp_in (v4 + 3) L ∧ xs (v4 + 3).toNatClampNeg = y3) (hop0 : op_16 kd x out I) (hdis : disM μc (mset mN mm rf σ α)) (hI : I μc σ α) (hc0 : c0 ≤ 400000) (hs0 : s0 ≤ 4000000)
    (k : ∀ (μ' : Mm) (σ' : Nat → Int32) (α' : Nat → Nat → Int32) (c1 s1 : Nat), disM μ' (mset mN mm rf σ' α') → I μ' σ' α' → c1 ≤ c0 + 20 → s1 ≤ s0 + 100 → J p l e room_1 s m args below meth c 7 G A Q c1 s1 1216 [(0, .ref b0), (1, .ref x), (2, .ref mm), (3, .ref out), (4, .int v4)] [] (joinM μ' (mset mN mm rf σ' α'))) :
    J p l e room_1 s m args below meth c 7 G A Q c0 s0 912 [(0, .ref b0), (1, .ref x), (2, .ref mm), (3, .ref out), (4, .int v4)] [] (joinM μc (mset mN mm rf σ α)) := by
  have hop := hop0 μc σ α
  refine j_aload_n X (pc' := 913) (kk := 1) (i := 1) 1 rfl rfl dL_law_912 rfl ?_
  refine j_aload_n X (pc' := 914) (kk := 0) (i := 0) 0 rfl rfl dL_law_913 rfl ?_
  refine j_iload X (pc' := 916) (i := 4) 4 rfl dL_law_914 rfl ?_
  refine j_iconst X (pc' := 917) (v := 1) (by decide) dL_law_916 rfl ?_
  refine j_iadd X (pc' := 918) dL_law_917 rfl ?_
  refine j_sld X (pc' := 919) hX hbl hbA (hy1).1 dL_law_918 rfl ?_
  rw [(hy1).2]
  refine j_aload_n X (pc' := 920) (kk := 3) (i := 3) 3 rfl rfl dL_law_919 rfl ?_
  have hw0 := hop y1 hI
  refine j_lawS X (pc' := 923) (As := [.ref x, .int y1, .ref out]) (rest := []) (mc1 := 1) (ms1 := 6) hdis (fun A1 => c_L_bit l G A1 hl0 x y1 out μc _ hw0) (gk_L_bit wt_3_71) hd_L_bit ⟨by show _ ≤ 2048; omega, by show _ ≤ 84000; omega⟩ rfl rfl (Nat.le_of_ble_eq_true rfl) dL_law_920 rfl ⟨by show _ ≤ 709538; omega, by show _ ≤ 6967491; omega⟩ (fun r1 μ2 hd3 hw1 => ?_)
  refine j_istore X (pc' := 925) (i := 5) (loc' := [(5, .int r1), (0, .ref b0), (1, .ref x), (2, .ref mm), (3, .ref out), (4, .int v4)]) dL_law_923 rfl (by decide) rfl ?_
  refine j_aload_n X (pc' := 926) (kk := 2) (i := 2) 3 rfl rfl dL_law_925 rfl ?_
  refine j_aload_n X (pc' := 927) (kk := 0) (i := 0) 1 rfl rfl dL_law_926 rfl ?_
  refine j_iload X (pc' := 929) (i := 4) 5 rfl dL_law_927 rfl ?_
  refine j_iconst X (pc' := 930) (v := 1) (by decide) dL_law_929 rfl ?_
  refine j_iadd X (pc' := 931) dL_law_930 rfl ?_
  refine j_sld X (pc' := 932) hX hbl hbA (hy1).1 dL_law_931 rfl ?_
  rw [(hy1).2]
  refine j_lawV2 X (pc' := 935) (b := mm) (As := [.int y1]) (rest := []) (mc1 := 0) (ms1 := 0) hd3 (fun A1 => c_X7_bit l G A1 hMO mN y1 σ α _ hw1) (gk_X7_bit wt_4_174) hd_X7_bit ⟨by show _ ≤ 2048; omega, by show _ ≤ 84000; omega⟩ mset_o rfl rfl rfl (Nat.le_of_ble_eq_true rfl) dL_law_932 rfl ⟨by show _ ≤ 709538; omega, by show _ ≤ 6967491; omega⟩ (fun r4 μ5 hd6 hx9 => ?_)
  obtain ⟨σ7, α8, rfl, hx9⟩ := hx9
  refine j_istore X (pc' := 937) (i := 6) (loc' := [(6, .int r4), (5, .int r1), (0, .ref b0), (1, .ref x), (2, .ref mm), (3, .ref out), (4, .int v4)]) dL_law_935 rfl (by decide) rfl ?_
  refine j_aload_n X (pc' := 938) (kk := 2) (i := 2) 4 rfl rfl dL_law_937 rfl ?_
  refine j_lawV2 X (pc' := 941) (b := mm) (As := []) (rest := []) (mc1 := 0) (ms1 := 0) hd6 (fun A1 => c_X7_thrown l G A1 hMO mN  σ7 α8 _ hx9) (gk_X7_thrown wt_4_16) hd_X7_thrown ⟨by show _ ≤ 2048; omega, by show _ ≤ 84000; omega⟩ mset_o rfl rfl rfl (Nat.le_of_ble_eq_true rfl) dL_law_938 rfl ⟨by show _ ≤ 709538; omega, by show _ ≤ 6967491; omega⟩ (fun r10 μ11 hd12 hx15 => ?_)
  obtain ⟨σ13, α14, rfl, hx15⟩ := hx15
  obtain ⟨ht, hz, hI2⟩ := hx15
  refine j_iload X (pc' := 943) (i := 5) 1 rfl dL_law_941 rfl ?_
  refine j_icmp_eq X (pc' := 946) (tgt := 948) dL_law_943 rfl (by decide) (fun _ => ?_) (fun c0 => absurd ht c0)
  refine j_iload X (pc' := 950) (i := 5) 1 rfl dL_law_948 rfl ?_
  refine j_if_ne X (pc' := 953) (tgt := 965) dL_law_950 rfl (by decide) (fun c1 => ?_) (fun c1 => ?_)
  · refine j_goto X (tgt := 1216) dL_law_965 (by decide) ?_
    refine j_loc [2, 3, 4, 5, 6] rfl ?_
    exact k _ _ _ _ _ hd12 hI2 (by omega) (by omega)
  · obtain ⟨n9, f9, hm9, hi9, he9⟩ := hz c1
    refine j_aload_n X (pc' := 954) (kk := 3) (i := 3) 5 rfl rfl dL_law_953 rfl ?_
    refine j_iconst X (pc' := 955) (v := 0) (by decide) dL_law_954 rfl ?_
    refine j_lald X (pc' := 956) (join_1 hm9) hi9 dL_law_955 rfl ?_
    refine j_iload X (pc' := 958) (i := 6) 0 rfl dL_law_956 rfl ?_
    refine j_i2l X (pc' := 959) dL_law_958 rfl ?_
    refine j_lcmpEq X (pc' := 960) he9 dL_law_959 rfl ?_
    refine j_if_eq X (pc' := 963) (tgt := 965) dL_law_960 rfl (by decide) (fun _ => ?_) (fun c0 => absurd rfl c0)
    refine j_goto X (tgt := 1216) dL_law_965 (by decide) ?_
    refine j_loc [2, 3, 4, 5, 6] rfl ?_
    exact k _ _ _ _ _ hd12 hI2 (by omega) (by omega)
set_option maxHeartbeats 4000000 in
set_option maxRecDepth 100000 in
theorem law_case_17 {p : Program} {l : Launch} {e : Env} {s : State} {m : MethodId} {args : Array Value} {below : List Frame} {meth : Method} {c : Code} {G : gG} {A : Nat → Prop} {Q : State → Prop} {kd : Nat → Nat} {b0 L : Nat} {xs : Nat → Int32} {x mm out : Nat} {rf : Nat → Nat} {I : Mm → (Nat → Int32) → (Nat → Nat → Int32) → Prop} {μc : Mm} {σ : Nat → Int32} {α : Nat → Nat → Int32} {c0 s0 : Nat} {v4 y0 y1 y2 y3 : Int32} (X : Cx p l s m args meth c code 7 (some .boolean) RL G A) (hl0 : l.stackTraces = false) (hkd : G.2.2 = kd) (hMO : MOk mm rf) (hX : va_X b0 L xs s s.heap) (hbl : b0 < s.heap.size) (hbA : ¬ A b0) (hy1 : vp_in (v4 + 1) L ∧ xs (v4 + 1).toNatClampNeg = y1) (hy2 : vp_in (v4 + 2) L ∧ xs (v4 + 2).toNatClampNeg = y2) (hy3 : vp_in (v4 + 3) L ∧ xs (v4 + 3).toNatClampNeg = y3) (hop0 : op_17 kd x out I) (hdis : disM μc (mset mN mm rf σ α)) (hI : I μc σ α) (hc0 : c0 ≤ 400000) (hs0 : s0 ≤ 4000000)
    (k : ∀ (μ' : Mm) (σ' : Nat → Int32) (α' : Nat → Nat → Int32) (c1 s1 : Nat), disM μ' (mset mN mm rf σ' α') → I μ' σ' α' → c1 ≤ c0 + 20 → s1 ≤ s0 + 100 → J p l e room_1 s m args below meth c 7 G A Q c1 s1 1216 [(0, .ref b0), (1, .ref x), (2, .ref mm), (3, .ref out), (4, .int v4)] [] (joinM μ' (mset mN mm rf σ' α'))) :
    J p l e room_1 s m args below meth c 7 G A Q c0 s0 968 [(0, .ref b0), (1, .ref x), (2, .ref mm), (3, .ref out), (4, .int v4)] [] (joinM μc (mset mN mm rf σ α)) := by
  have hop := hop0 μc σ α
  refine j_aload_n X (pc' := 969) (kk := 1) (i := 1) 1 rfl rfl dL_law_968 rfl ?_
  refine j_aload_n X (pc' := 970) (kk := 0) (i := 0) 0 rfl rfl dL_law_969 rfl ?_
  refine j_iload X (pc' := 972) (i := 4) 4 rfl dL_law_970 rfl ?_
  refine j_iconst X (pc' := 973) (v := 1) (by decide) dL_law_972 rfl ?_
  refine j_iadd X (pc' := 974) dL_law_973 rfl ?_
  refine j_sld X (pc' := 975) hX hbl hbA (hy1).1 dL_law_974 rfl ?_
  rw [(hy1).2]
  refine j_aload_n X (pc' := 976) (kk := 3) (i := 3) 3 rfl rfl dL_law_975 rfl ?_
  have hw0 := hop y1 hI
  refine j_lawS X (pc' := 979) (As := [.ref x, .int y1, .ref out]) (rest := []) (mc1 := 1) (ms1 := 6) hdis (fun A1 => c_L_flip l G A1 hl0 x y1 out μc _ hw0) (gk_L_flip wt_3_79) hd_L_flip ⟨by show _ ≤ 2048; omega, by show _ ≤ 84000; omega⟩ rfl rfl (Nat.le_of_ble_eq_true rfl) dL_law_976 rfl ⟨by show _ ≤ 709538; omega, by show _ ≤ 6967491; omega⟩ (fun r1 μ2 hd3 hw1 => ?_)
  refine j_istore X (pc' := 981) (i := 5) (loc' := [(5, .int r1), (0, .ref b0), (1, .ref x), (2, .ref mm), (3, .ref out), (4, .int v4)]) dL_law_979 rfl (by decide) rfl ?_
  refine j_aload_n X (pc' := 982) (kk := 2) (i := 2) 3 rfl rfl dL_law_981 rfl ?_
  refine j_aload_n X (pc' := 983) (kk := 0) (i := 0) 1 rfl rfl dL_law_982 rfl ?_
  refine j_iload X (pc' := 985) (i := 4) 5 rfl dL_law_983 rfl ?_
  refine j_iconst X (pc' := 986) (v := 1) (by decide) dL_law_985 rfl ?_
  refine j_iadd X (pc' := 987) dL_law_986 rfl ?_
  refine j_sld X (pc' := 988) hX hbl hbA (hy1).1 dL_law_987 rfl ?_
  rw [(hy1).2]
  refine j_lawV2 X (pc' := 991) (b := mm) (As := [.int y1]) (rest := []) (mc1 := 0) (ms1 := 0) hd3 (fun A1 => c_X7_flip l G A1 hMO mN y1 σ α _ hw1) (gk_X7_flip wt_4_182) hd_X7_flip ⟨by show _ ≤ 2048; omega, by show _ ≤ 84000; omega⟩ mset_o rfl rfl rfl (Nat.le_of_ble_eq_true rfl) dL_law_988 rfl ⟨by show _ ≤ 709538; omega, by show _ ≤ 6967491; omega⟩ (fun r4 μ5 hd6 hx9 => ?_)
  obtain ⟨σ7, α8, rfl, hx9⟩ := hx9
  refine j_istore X (pc' := 993) (i := 6) (loc' := [(6, .int r4), (5, .int r1), (0, .ref b0), (1, .ref x), (2, .ref mm), (3, .ref out), (4, .int v4)]) dL_law_991 rfl (by decide) rfl ?_
  refine j_aload_n X (pc' := 994) (kk := 2) (i := 2) 4 rfl rfl dL_law_993 rfl ?_
  refine j_lawV2 X (pc' := 997) (b := mm) (As := []) (rest := []) (mc1 := 0) (ms1 := 0) hd6 (fun A1 => c_X7_thrown l G A1 hMO mN  σ7 α8 _ hx9) (gk_X7_thrown wt_4_16) hd_X7_thrown ⟨by show _ ≤ 2048; omega, by show _ ≤ 84000; omega⟩ mset_o rfl rfl rfl (Nat.le_of_ble_eq_true rfl) dL_law_994 rfl ⟨by show _ ≤ 709538; omega, by show _ ≤ 6967491; omega⟩ (fun r10 μ11 hd12 hx15 => ?_)
  obtain ⟨σ13, α14, rfl, hx15⟩ := hx15
  obtain ⟨ht, hz, hI2⟩ := hx15
  refine j_iload X (pc' := 999) (i := 5) 1 rfl dL_law_997 rfl ?_
  refine j_icmp_eq X (pc' := 1002) (tgt := 1004) dL_law_999 rfl (by decide) (fun _ => ?_) (fun c0 => absurd ht c0)
  refine j_iload X (pc' := 1006) (i := 5) 1 rfl dL_law_1004 rfl ?_
  refine j_if_ne X (pc' := 1009) (tgt := 1021) dL_law_1006 rfl (by decide) (fun c1 => ?_) (fun c1 => ?_)
  · refine j_goto X (tgt := 1216) dL_law_1021 (by decide) ?_
    refine j_loc [2, 3, 4, 5, 6] rfl ?_
    exact k _ _ _ _ _ hd12 hI2 (by omega) (by omega)
  · obtain ⟨n9, f9, hm9, hi9, he9⟩ := hz c1
    refine j_aload_n X (pc' := 1010) (kk := 3) (i := 3) 5 rfl rfl dL_law_1009 rfl ?_
    refine j_iconst X (pc' := 1011) (v := 0) (by decide) dL_law_1010 rfl ?_
    refine j_lald X (pc' := 1012) (join_1 hm9) hi9 dL_law_1011 rfl ?_
    refine j_iload X (pc' := 1014) (i := 6) 0 rfl dL_law_1012 rfl ?_
    refine j_i2l X (pc' := 1015) dL_law_1014 rfl ?_
    refine j_lcmpEq X (pc' := 1016) he9 dL_law_1015 rfl ?_
    refine j_if_eq X (pc' := 1019) (tgt := 1021) dL_law_1016 rfl (by decide) (fun _ => ?_) (fun c0 => absurd rfl c0)
    refine j_goto X (tgt := 1216) dL_law_1021 (by decide) ?_
    refine j_loc [2, 3, 4, 5, 6] rfl ?_
    exact k _ _ _ _ _ hd12 hI2 (by omega) (by omega)
set_option maxHeartbeats 4000000 in
set_option maxRecDepth 100000 in
theorem law_case_18 {p : Program} {l : Launch} {e : Env} {s : State} {m : MethodId} {args : Array Value} {below : List Frame} {meth : Method} {c : Code} {G : gG} {A : Nat → Prop} {Q : State → Prop} {kd : Nat → Nat} {b0 L : Nat} {xs : Nat → Int32} {x mm out : Nat} {rf : Nat → Nat} {I : Mm → (Nat → Int32) → (Nat → Nat → Int32) → Prop} {μc : Mm} {σ : Nat → Int32} {α : Nat → Nat → Int32} {c0 s0 : Nat} {v4 y0 y1 y2 y3 : Int32} (X : Cx p l s m args meth c code 7 (some .boolean) RL G A) (hl0 : l.stackTraces = false) (hkd : G.2.2 = kd) (hMO : MOk mm rf) (hX : va_X b0 L xs s s.heap) (hbl : b0 < s.heap.size) (hbA : ¬ A b0) (hy1 : vp_in (v4 + 1) L ∧ xs (v4 + 1).toNatClampNeg = y1) (hy2 : vp_in (v4 + 2) L ∧ xs (v4 + 2).toNatClampNeg = y2) (hy3 : vp_in (v4 + 3) L ∧ xs (v4 + 3).toNatClampNeg = y3) (hop0 : op_18 kd x out I) (hdis : disM μc (mset mN mm rf σ α)) (hI : I μc σ α) (hc0 : c0 ≤ 400000) (hs0 : s0 ≤ 4000000)
    (k : ∀ (μ' : Mm) (σ' : Nat → Int32) (α' : Nat → Nat → Int32) (c1 s1 : Nat), disM μ' (mset mN mm rf σ' α') → I μ' σ' α' → c1 ≤ c0 + 20 → s1 ≤ s0 + 100 → J p l e room_1 s m args below meth c 7 G A Q c1 s1 1216 [(0, .ref b0), (1, .ref x), (2, .ref mm), (3, .ref out), (4, .int v4)] [] (joinM μ' (mset mN mm rf σ' α'))) :
    J p l e room_1 s m args below meth c 7 G A Q c0 s0 1024 [(0, .ref b0), (1, .ref x), (2, .ref mm), (3, .ref out), (4, .int v4)] [] (joinM μc (mset mN mm rf σ α)) := by
  have hop := hop0 μc σ α
  refine j_aload_n X (pc' := 1025) (kk := 1) (i := 1) 1 rfl rfl dL_law_1024 rfl ?_
  refine j_aload_n X (pc' := 1026) (kk := 0) (i := 0) 0 rfl rfl dL_law_1025 rfl ?_
  refine j_iload X (pc' := 1028) (i := 4) 4 rfl dL_law_1026 rfl ?_
  refine j_iconst X (pc' := 1029) (v := 1) (by decide) dL_law_1028 rfl ?_
  refine j_iadd X (pc' := 1030) dL_law_1029 rfl ?_
  refine j_sld X (pc' := 1031) hX hbl hbA (hy1).1 dL_law_1030 rfl ?_
  rw [(hy1).2]
  refine j_aload_n X (pc' := 1032) (kk := 3) (i := 3) 3 rfl rfl dL_law_1031 rfl ?_
  have hw0 := hop y1 hI
  refine j_lawS X (pc' := 1035) (As := [.ref x, .int y1, .ref out]) (rest := []) (mc1 := 1) (ms1 := 6) hdis (fun A1 => c_L_cut l G A1 hl0 x y1 out μc _ hw0) (gk_L_cut wt_3_87) hd_L_cut ⟨by show _ ≤ 2048; omega, by show _ ≤ 84000; omega⟩ rfl rfl (Nat.le_of_ble_eq_true rfl) dL_law_1032 rfl ⟨by show _ ≤ 709538; omega, by show _ ≤ 6967491; omega⟩ (fun r1 μ2 hd3 hw1 => ?_)
  refine j_istore X (pc' := 1037) (i := 5) (loc' := [(5, .int r1), (0, .ref b0), (1, .ref x), (2, .ref mm), (3, .ref out), (4, .int v4)]) dL_law_1035 rfl (by decide) rfl ?_
  refine j_aload_n X (pc' := 1038) (kk := 2) (i := 2) 3 rfl rfl dL_law_1037 rfl ?_
  refine j_aload_n X (pc' := 1039) (kk := 0) (i := 0) 1 rfl rfl dL_law_1038 rfl ?_
  refine j_iload X (pc' := 1041) (i := 4) 5 rfl dL_law_1039 rfl ?_
  refine j_iconst X (pc' := 1042) (v := 1) (by decide) dL_law_1041 rfl ?_
  refine j_iadd X (pc' := 1043) dL_law_1042 rfl ?_
  refine j_sld X (pc' := 1044) hX hbl hbA (hy1).1 dL_law_1043 rfl ?_
  rw [(hy1).2]
  refine j_lawV2 X (pc' := 1047) (b := mm) (As := [.int y1]) (rest := []) (mc1 := 0) (ms1 := 0) hd3 (fun A1 => c_X7_cut l G A1 hMO mN y1 σ α _ hw1) (gk_X7_cut wt_4_186) hd_X7_cut ⟨by show _ ≤ 2048; omega, by show _ ≤ 84000; omega⟩ mset_o rfl rfl rfl (Nat.le_of_ble_eq_true rfl) dL_law_1044 rfl ⟨by show _ ≤ 709538; omega, by show _ ≤ 6967491; omega⟩ (fun r4 μ5 hd6 hx9 => ?_)
  obtain ⟨σ7, α8, rfl, hx9⟩ := hx9
  refine j_istore X (pc' := 1049) (i := 6) (loc' := [(6, .int r4), (5, .int r1), (0, .ref b0), (1, .ref x), (2, .ref mm), (3, .ref out), (4, .int v4)]) dL_law_1047 rfl (by decide) rfl ?_
  refine j_aload_n X (pc' := 1050) (kk := 2) (i := 2) 4 rfl rfl dL_law_1049 rfl ?_
  refine j_lawV2 X (pc' := 1053) (b := mm) (As := []) (rest := []) (mc1 := 0) (ms1 := 0) hd6 (fun A1 => c_X7_thrown l G A1 hMO mN  σ7 α8 _ hx9) (gk_X7_thrown wt_4_16) hd_X7_thrown ⟨by show _ ≤ 2048; omega, by show _ ≤ 84000; omega⟩ mset_o rfl rfl rfl (Nat.le_of_ble_eq_true rfl) dL_law_1050 rfl ⟨by show _ ≤ 709538; omega, by show _ ≤ 6967491; omega⟩ (fun r10 μ11 hd12 hx15 => ?_)
  obtain ⟨σ13, α14, rfl, hx15⟩ := hx15
  obtain ⟨ht, hz, hI2⟩ := hx15
  refine j_iload X (pc' := 1055) (i := 5) 1 rfl dL_law_1053 rfl ?_
  refine j_icmp_eq X (pc' := 1058) (tgt := 1060) dL_law_1055 rfl (by decide) (fun _ => ?_) (fun c0 => absurd ht c0)
  refine j_iload X (pc' := 1062) (i := 5) 1 rfl dL_law_1060 rfl ?_
  refine j_if_ne X (pc' := 1065) (tgt := 1077) dL_law_1062 rfl (by decide) (fun c1 => ?_) (fun c1 => ?_)
  · refine j_goto X (tgt := 1216) dL_law_1077 (by decide) ?_
    refine j_loc [2, 3, 4, 5, 6] rfl ?_
    exact k _ _ _ _ _ hd12 hI2 (by omega) (by omega)
  · obtain ⟨n9, f9, hm9, hi9, he9⟩ := hz c1
    refine j_aload_n X (pc' := 1066) (kk := 3) (i := 3) 5 rfl rfl dL_law_1065 rfl ?_
    refine j_iconst X (pc' := 1067) (v := 0) (by decide) dL_law_1066 rfl ?_
    refine j_lald X (pc' := 1068) (join_1 hm9) hi9 dL_law_1067 rfl ?_
    refine j_iload X (pc' := 1070) (i := 6) 0 rfl dL_law_1068 rfl ?_
    refine j_i2l X (pc' := 1071) dL_law_1070 rfl ?_
    refine j_lcmpEq X (pc' := 1072) he9 dL_law_1071 rfl ?_
    refine j_if_eq X (pc' := 1075) (tgt := 1077) dL_law_1072 rfl (by decide) (fun _ => ?_) (fun c0 => absurd rfl c0)
    refine j_goto X (tgt := 1216) dL_law_1077 (by decide) ?_
    refine j_loc [2, 3, 4, 5, 6] rfl ?_
    exact k _ _ _ _ _ hd12 hI2 (by omega) (by omega)
set_option maxHeartbeats 4000000 in
set_option maxRecDepth 100000 in
theorem law_case_19 {p : Program} {l : Launch} {e : Env} {s : State} {m : MethodId} {args : Array Value} {below : List Frame} {meth : Method} {c : Code} {G : gG} {A : Nat → Prop} {Q : State → Prop} {kd : Nat → Nat} {b0 L : Nat} {xs : Nat → Int32} {x mm out : Nat} {rf : Nat → Nat} {I : Mm → (Nat → Int32) → (Nat → Nat → Int32) → Prop} {μc : Mm} {σ : Nat → Int32} {α : Nat → Nat → Int32} {c0 s0 : Nat} {v4 y0 y1 y2 y3 : Int32} (X : Cx p l s m args meth c code 7 (some .boolean) RL G A) (hl0 : l.stackTraces = false) (hkd : G.2.2 = kd) (hMO : MOk mm rf) (hX : va_X b0 L xs s s.heap) (hbl : b0 < s.heap.size) (hbA : ¬ A b0) (hy1 : vp_in (v4 + 1) L ∧ xs (v4 + 1).toNatClampNeg = y1) (hy2 : vp_in (v4 + 2) L ∧ xs (v4 + 2).toNatClampNeg = y2) (hy3 : vp_in (v4 + 3) L ∧ xs (v4 + 3).toNatClampNeg = y3) (hop0 : op_19 kd x out I) (hdis : disM μc (mset mN mm rf σ α)) (hI : I μc σ α) (hc0 : c0 ≤ 400000) (hs0 : s0 ≤ 4000000)
    (k : ∀ (μ' : Mm) (σ' : Nat → Int32) (α' : Nat → Nat → Int32) (c1 s1 : Nat), disM μ' (mset mN mm rf σ' α') → I μ' σ' α' → c1 ≤ c0 + 20 → s1 ≤ s0 + 100 → J p l e room_1 s m args below meth c 7 G A Q c1 s1 1216 [(0, .ref b0), (1, .ref x), (2, .ref mm), (3, .ref out), (4, .int v4)] [] (joinM μ' (mset mN mm rf σ' α'))) :
    J p l e room_1 s m args below meth c 7 G A Q c0 s0 1080 [(0, .ref b0), (1, .ref x), (2, .ref mm), (3, .ref out), (4, .int v4)] [] (joinM μc (mset mN mm rf σ α)) := by
  have hop := hop0 μc σ α
  refine j_aload_n X (pc' := 1081) (kk := 1) (i := 1) 1 rfl rfl dL_law_1080 rfl ?_
  refine j_aload_n X (pc' := 1082) (kk := 0) (i := 0) 0 rfl rfl dL_law_1081 rfl ?_
  refine j_iload X (pc' := 1084) (i := 4) 4 rfl dL_law_1082 rfl ?_
  refine j_iconst X (pc' := 1085) (v := 1) (by decide) dL_law_1084 rfl ?_
  refine j_iadd X (pc' := 1086) dL_law_1085 rfl ?_
  refine j_sld X (pc' := 1087) hX hbl hbA (hy1).1 dL_law_1086 rfl ?_
  rw [(hy1).2]
  refine j_aload_n X (pc' := 1088) (kk := 0) (i := 0) 0 rfl rfl dL_law_1087 rfl ?_
  refine j_iload X (pc' := 1090) (i := 4) 4 rfl dL_law_1088 rfl ?_
  refine j_iconst X (pc' := 1091) (v := 2) (by decide) dL_law_1090 rfl ?_
  refine j_iadd X (pc' := 1092) dL_law_1091 rfl ?_
  refine j_sld X (pc' := 1093) hX hbl hbA (hy2).1 dL_law_1092 rfl ?_
  rw [(hy2).2]
  refine j_aload_n X (pc' := 1094) (kk := 3) (i := 3) 3 rfl rfl dL_law_1093 rfl ?_
  have hw0 := hop y1 y2 hI
  refine j_lawS X (pc' := 1097) (As := [.ref x, .int y1, .int y2, .ref out]) (rest := []) (mc1 := 3) (ms1 := 18) hdis (fun A1 => c_L_read l G A1 hl0 kd hkd x y1 y2 out μc _ hw0) (gk_L_read wt_3_95) hd_L_read ⟨by show _ ≤ 2048; omega, by show _ ≤ 84000; omega⟩ rfl rfl (Nat.le_of_ble_eq_true rfl) dL_law_1094 rfl ⟨by show _ ≤ 709538; omega, by show _ ≤ 6967491; omega⟩ (fun r1 μ2 hd3 hw1 => ?_)
  refine j_istore X (pc' := 1099) (i := 5) (loc' := [(5, .int r1), (0, .ref b0), (1, .ref x), (2, .ref mm), (3, .ref out), (4, .int v4)]) dL_law_1097 rfl (by decide) rfl ?_
  refine j_aload_n X (pc' := 1100) (kk := 2) (i := 2) 3 rfl rfl dL_law_1099 rfl ?_
  refine j_aload_n X (pc' := 1101) (kk := 0) (i := 0) 1 rfl rfl dL_law_1100 rfl ?_
  refine j_iload X (pc' := 1103) (i := 4) 5 rfl dL_law_1101 rfl ?_
  refine j_iconst X (pc' := 1104) (v := 1) (by decide) dL_law_1103 rfl ?_
  refine j_iadd X (pc' := 1105) dL_law_1104 rfl ?_
  refine j_sld X (pc' := 1106) hX hbl hbA (hy1).1 dL_law_1105 rfl ?_
  rw [(hy1).2]
  refine j_aload_n X (pc' := 1107) (kk := 0) (i := 0) 1 rfl rfl dL_law_1106 rfl ?_
  refine j_iload X (pc' := 1109) (i := 4) 5 rfl dL_law_1107 rfl ?_
  refine j_iconst X (pc' := 1110) (v := 2) (by decide) dL_law_1109 rfl ?_
  refine j_iadd X (pc' := 1111) dL_law_1110 rfl ?_
  refine j_sld X (pc' := 1112) hX hbl hbA (hy2).1 dL_law_1111 rfl ?_
  rw [(hy2).2]
  refine j_lawV2 X (pc' := 1115) (b := mm) (As := [.int y1, .int y2]) (rest := []) (mc1 := 0) (ms1 := 0) hd3 (fun A1 => c_X7_read l G A1 hMO mN y1 y2 σ α _ hw1) (gk_X7_read wt_4_190) hd_X7_read ⟨by show _ ≤ 2048; omega, by show _ ≤ 84000; omega⟩ mset_o rfl rfl rfl (Nat.le_of_ble_eq_true rfl) dL_law_1112 rfl ⟨by show _ ≤ 709538; omega, by show _ ≤ 6967491; omega⟩ (fun r4 μ5 hd6 hx9 => ?_)
  obtain ⟨σ7, α8, rfl, hx9⟩ := hx9
  refine j_istore X (pc' := 1117) (i := 6) (loc' := [(6, .int r4), (5, .int r1), (0, .ref b0), (1, .ref x), (2, .ref mm), (3, .ref out), (4, .int v4)]) dL_law_1115 rfl (by decide) rfl ?_
  refine j_aload_n X (pc' := 1118) (kk := 2) (i := 2) 4 rfl rfl dL_law_1117 rfl ?_
  refine j_lawV2 X (pc' := 1121) (b := mm) (As := []) (rest := []) (mc1 := 0) (ms1 := 0) hd6 (fun A1 => c_X7_thrown l G A1 hMO mN  σ7 α8 _ hx9) (gk_X7_thrown wt_4_16) hd_X7_thrown ⟨by show _ ≤ 2048; omega, by show _ ≤ 84000; omega⟩ mset_o rfl rfl rfl (Nat.le_of_ble_eq_true rfl) dL_law_1118 rfl ⟨by show _ ≤ 709538; omega, by show _ ≤ 6967491; omega⟩ (fun r10 μ11 hd12 hx15 => ?_)
  obtain ⟨σ13, α14, rfl, hx15⟩ := hx15
  obtain ⟨ht, hz, hI2⟩ := hx15
  refine j_iload X (pc' := 1123) (i := 5) 1 rfl dL_law_1121 rfl ?_
  refine j_icmp_eq X (pc' := 1126) (tgt := 1128) dL_law_1123 rfl (by decide) (fun _ => ?_) (fun c0 => absurd ht c0)
  refine j_iload X (pc' := 1130) (i := 5) 1 rfl dL_law_1128 rfl ?_
  refine j_if_ne X (pc' := 1133) (tgt := 1145) dL_law_1130 rfl (by decide) (fun c1 => ?_) (fun c1 => ?_)
  · refine j_goto X (tgt := 1216) dL_law_1145 (by decide) ?_
    refine j_loc [2, 3, 4, 5, 6] rfl ?_
    exact k _ _ _ _ _ hd12 hI2 (by omega) (by omega)
  · obtain ⟨n9, f9, hm9, hi9, he9⟩ := hz c1
    refine j_aload_n X (pc' := 1134) (kk := 3) (i := 3) 5 rfl rfl dL_law_1133 rfl ?_
    refine j_iconst X (pc' := 1135) (v := 0) (by decide) dL_law_1134 rfl ?_
    refine j_lald X (pc' := 1136) (join_1 hm9) hi9 dL_law_1135 rfl ?_
    refine j_iload X (pc' := 1138) (i := 6) 0 rfl dL_law_1136 rfl ?_
    refine j_i2l X (pc' := 1139) dL_law_1138 rfl ?_
    refine j_lcmpEq X (pc' := 1140) he9 dL_law_1139 rfl ?_
    refine j_if_eq X (pc' := 1143) (tgt := 1145) dL_law_1140 rfl (by decide) (fun _ => ?_) (fun c0 => absurd rfl c0)
    refine j_goto X (tgt := 1216) dL_law_1145 (by decide) ?_
    refine j_loc [2, 3, 4, 5, 6] rfl ?_
    exact k _ _ _ _ _ hd12 hI2 (by omega) (by omega)
set_option maxHeartbeats 4000000 in
set_option maxRecDepth 100000 in
theorem law_case_20 {p : Program} {l : Launch} {e : Env} {s : State} {m : MethodId} {args : Array Value} {below : List Frame} {meth : Method} {c : Code} {G : gG} {A : Nat → Prop} {Q : State → Prop} {kd : Nat → Nat} {b0 L : Nat} {xs : Nat → Int32} {x mm out : Nat} {rf : Nat → Nat} {I : Mm → (Nat → Int32) → (Nat → Nat → Int32) → Prop} {μc : Mm} {σ : Nat → Int32} {α : Nat → Nat → Int32} {c0 s0 : Nat} {v4 y0 y1 y2 y3 : Int32} (X : Cx p l s m args meth c code 7 (some .boolean) RL G A) (hl0 : l.stackTraces = false) (hkd : G.2.2 = kd) (hMO : MOk mm rf) (hX : va_X b0 L xs s s.heap) (hbl : b0 < s.heap.size) (hbA : ¬ A b0) (hy1 : vp_in (v4 + 1) L ∧ xs (v4 + 1).toNatClampNeg = y1) (hy2 : vp_in (v4 + 2) L ∧ xs (v4 + 2).toNatClampNeg = y2) (hy3 : vp_in (v4 + 3) L ∧ xs (v4 + 3).toNatClampNeg = y3) (hop0 : op_20 kd x out I) (hdis : disM μc (mset mN mm rf σ α)) (hI : I μc σ α) (hc0 : c0 ≤ 400000) (hs0 : s0 ≤ 4000000)
    (k : ∀ (μ' : Mm) (σ' : Nat → Int32) (α' : Nat → Nat → Int32) (c1 s1 : Nat), disM μ' (mset mN mm rf σ' α') → I μ' σ' α' → c1 ≤ c0 + 20 → s1 ≤ s0 + 100 → J p l e room_1 s m args below meth c 7 G A Q c1 s1 1216 [(0, .ref b0), (1, .ref x), (2, .ref mm), (3, .ref out), (4, .int v4)] [] (joinM μ' (mset mN mm rf σ' α'))) :
    J p l e room_1 s m args below meth c 7 G A Q c0 s0 1148 [(0, .ref b0), (1, .ref x), (2, .ref mm), (3, .ref out), (4, .int v4)] [] (joinM μc (mset mN mm rf σ α)) := by
  have hop := hop0 μc σ α
  refine j_aload_n X (pc' := 1149) (kk := 1) (i := 1) 1 rfl rfl dL_law_1148 rfl ?_
  refine j_aload_n X (pc' := 1150) (kk := 0) (i := 0) 0 rfl rfl dL_law_1149 rfl ?_
  refine j_iload X (pc' := 1152) (i := 4) 4 rfl dL_law_1150 rfl ?_
  refine j_iconst X (pc' := 1153) (v := 1) (by decide) dL_law_1152 rfl ?_
  refine j_iadd X (pc' := 1154) dL_law_1153 rfl ?_
  refine j_sld X (pc' := 1155) hX hbl hbA (hy1).1 dL_law_1154 rfl ?_
  rw [(hy1).2]
  refine j_aload_n X (pc' := 1156) (kk := 0) (i := 0) 0 rfl rfl dL_law_1155 rfl ?_
  refine j_iload X (pc' := 1158) (i := 4) 4 rfl dL_law_1156 rfl ?_
  refine j_iconst X (pc' := 1159) (v := 2) (by decide) dL_law_1158 rfl ?_
  refine j_iadd X (pc' := 1160) dL_law_1159 rfl ?_
  refine j_sld X (pc' := 1161) hX hbl hbA (hy2).1 dL_law_1160 rfl ?_
  rw [(hy2).2]
  refine j_aload_n X (pc' := 1162) (kk := 3) (i := 3) 3 rfl rfl dL_law_1161 rfl ?_
  have hw0 := hop y1 y2 hI
  refine j_lawS X (pc' := 1165) (As := [.ref x, .int y1, .int y2, .ref out]) (rest := []) (mc1 := 2) (ms1 := 12) hdis (fun A1 => c_L_faultAt l G A1 hl0 kd hkd x y1 y2 out μc _ hw0) (gk_L_faultAt wt_3_152) hd_L_faultAt ⟨by show _ ≤ 2048; omega, by show _ ≤ 84000; omega⟩ rfl rfl (Nat.le_of_ble_eq_true rfl) dL_law_1162 rfl ⟨by show _ ≤ 709538; omega, by show _ ≤ 6967491; omega⟩ (fun r1 μ2 hd3 hw1 => ?_)
  refine j_istore X (pc' := 1167) (i := 5) (loc' := [(5, .int r1), (0, .ref b0), (1, .ref x), (2, .ref mm), (3, .ref out), (4, .int v4)]) dL_law_1165 rfl (by decide) rfl ?_
  refine j_aload_n X (pc' := 1168) (kk := 2) (i := 2) 3 rfl rfl dL_law_1167 rfl ?_
  refine j_aload_n X (pc' := 1169) (kk := 0) (i := 0) 1 rfl rfl dL_law_1168 rfl ?_
  refine j_iload X (pc' := 1171) (i := 4) 5 rfl dL_law_1169 rfl ?_
  refine j_iconst X (pc' := 1172) (v := 1) (by decide) dL_law_1171 rfl ?_
  refine j_iadd X (pc' := 1173) dL_law_1172 rfl ?_
  refine j_sld X (pc' := 1174) hX hbl hbA (hy1).1 dL_law_1173 rfl ?_
  rw [(hy1).2]
  refine j_aload_n X (pc' := 1175) (kk := 0) (i := 0) 1 rfl rfl dL_law_1174 rfl ?_
  refine j_iload X (pc' := 1177) (i := 4) 5 rfl dL_law_1175 rfl ?_
  refine j_iconst X (pc' := 1178) (v := 2) (by decide) dL_law_1177 rfl ?_
  refine j_iadd X (pc' := 1179) dL_law_1178 rfl ?_
  refine j_sld X (pc' := 1180) hX hbl hbA (hy2).1 dL_law_1179 rfl ?_
  rw [(hy2).2]
  refine j_lawV2 X (pc' := 1183) (b := mm) (As := [.int y1, .int y2]) (rest := []) (mc1 := 0) (ms1 := 0) hd3 (fun A1 => c_X7_faultAt l G A1 hMO mN y1 y2 σ α _ hw1) (gk_X7_faultAt wt_4_226) hd_X7_faultAt ⟨by show _ ≤ 2048; omega, by show _ ≤ 84000; omega⟩ mset_o rfl rfl rfl (Nat.le_of_ble_eq_true rfl) dL_law_1180 rfl ⟨by show _ ≤ 709538; omega, by show _ ≤ 6967491; omega⟩ (fun r4 μ5 hd6 hx9 => ?_)
  obtain ⟨σ7, α8, rfl, hx9⟩ := hx9
  refine j_istore X (pc' := 1185) (i := 6) (loc' := [(6, .int r4), (5, .int r1), (0, .ref b0), (1, .ref x), (2, .ref mm), (3, .ref out), (4, .int v4)]) dL_law_1183 rfl (by decide) rfl ?_
  refine j_aload_n X (pc' := 1186) (kk := 2) (i := 2) 4 rfl rfl dL_law_1185 rfl ?_
  refine j_lawV2 X (pc' := 1189) (b := mm) (As := []) (rest := []) (mc1 := 0) (ms1 := 0) hd6 (fun A1 => c_X7_thrown l G A1 hMO mN  σ7 α8 _ hx9) (gk_X7_thrown wt_4_16) hd_X7_thrown ⟨by show _ ≤ 2048; omega, by show _ ≤ 84000; omega⟩ mset_o rfl rfl rfl (Nat.le_of_ble_eq_true rfl) dL_law_1186 rfl ⟨by show _ ≤ 709538; omega, by show _ ≤ 6967491; omega⟩ (fun r10 μ11 hd12 hx15 => ?_)
  obtain ⟨σ13, α14, rfl, hx15⟩ := hx15
  obtain ⟨ht, hz, hI2⟩ := hx15
  refine j_iload X (pc' := 1191) (i := 5) 1 rfl dL_law_1189 rfl ?_
  refine j_icmp_eq X (pc' := 1194) (tgt := 1196) dL_law_1191 rfl (by decide) (fun _ => ?_) (fun c0 => absurd ht c0)
  refine j_iload X (pc' := 1198) (i := 5) 1 rfl dL_law_1196 rfl ?_
  refine j_if_ne X (pc' := 1201) (tgt := 1213) dL_law_1198 rfl (by decide) (fun c1 => ?_) (fun c1 => ?_)
  · refine j_goto X (tgt := 1216) dL_law_1213 (by decide) ?_
    refine j_loc [2, 3, 4, 5, 6] rfl ?_
    exact k _ _ _ _ _ hd12 hI2 (by omega) (by omega)
  · obtain ⟨n9, f9, hm9, hi9, he9⟩ := hz c1
    refine j_aload_n X (pc' := 1202) (kk := 3) (i := 3) 5 rfl rfl dL_law_1201 rfl ?_
    refine j_iconst X (pc' := 1203) (v := 0) (by decide) dL_law_1202 rfl ?_
    refine j_lald X (pc' := 1204) (join_1 hm9) hi9 dL_law_1203 rfl ?_
    refine j_iload X (pc' := 1206) (i := 6) 0 rfl dL_law_1204 rfl ?_
    refine j_i2l X (pc' := 1207) dL_law_1206 rfl ?_
    refine j_lcmpEq X (pc' := 1208) he9 dL_law_1207 rfl ?_
    refine j_if_eq X (pc' := 1211) (tgt := 1213) dL_law_1208 rfl (by decide) (fun _ => ?_) (fun c0 => absurd rfl c0)
    refine j_goto X (tgt := 1216) dL_law_1213 (by decide) ?_
    refine j_loc [2, 3, 4, 5, 6] rfl ?_
    exact k _ _ _ _ _ hd12 hI2 (by omega) (by omega)
