theorem dL_drawn_0 : decode cL_drawn 0 = .ok (.iload_n 1, 1) := by decide +kernel
theorem dL_drawn_1 : decode cL_drawn 1 = .ok (.aload_n 0, 1) := by decide +kernel
theorem dL_drawn_2 : decode cL_drawn 2 = .ok (.arraylength, 1) := by decide +kernel
theorem dL_drawn_3 : decode cL_drawn 3 = .ok (.if_icmp .ge 9, 3) := by decide +kernel
theorem dL_drawn_6 : decode cL_drawn 6 = .ok (.aload_n 0, 1) := by decide +kernel
theorem dL_drawn_7 : decode cL_drawn 7 = .ok (.iload_n 1, 1) := by decide +kernel
theorem dL_drawn_8 : decode cL_drawn 8 = .ok (.iaload, 1) := by decide +kernel
theorem dL_drawn_9 : decode cL_drawn 9 = .ok (.goto 13, 3) := by decide +kernel
theorem dL_drawn_12 : decode cL_drawn 12 = .ok (.ldc 74, 2) := by decide +kernel
theorem dL_drawn_14 : decode cL_drawn 14 = .ok (.iload_n 1, 1) := by decide +kernel
theorem dL_drawn_15 : decode cL_drawn 15 = .ok (.iconst 3, 1) := by decide +kernel
theorem dL_drawn_16 : decode cL_drawn 16 = .ok (.iadd, 1) := by decide +kernel
theorem dL_drawn_17 : decode cL_drawn 17 = .ok (.imul, 1) := by decide +kernel
theorem dL_drawn_18 : decode cL_drawn 18 = .ok (.sipush 13829, 3) := by decide +kernel
theorem dL_drawn_21 : decode cL_drawn 21 = .ok (.iadd, 1) := by decide +kernel
theorem dL_drawn_22 : decode cL_drawn 22 = .ok (.ldc 75, 2) := by decide +kernel
theorem dL_drawn_24 : decode cL_drawn 24 = .ok (.iand, 1) := by decide +kernel
theorem dL_drawn_25 : decode cL_drawn 25 = .ok (.ireturn, 1) := by decide +kernel
theorem dL_law_0 : decode code 0 = .ok (.new 8, 3) := by decide +kernel
theorem dL_law_3 : decode code 3 = .ok (.dup, 1) := by decide +kernel
theorem dL_law_4 : decode code 4 = .ok (.invokespecial 146, 3) := by decide +kernel
theorem dL_law_7 : decode code 7 = .ok (.astore_n 1, 1) := by decide +kernel
theorem dL_law_8 : decode code 8 = .ok (.new 8, 3) := by decide +kernel
theorem dL_law_11 : decode code 11 = .ok (.dup, 1) := by decide +kernel
theorem dL_law_12 : decode code 12 = .ok (.invokespecial 146, 3) := by decide +kernel
theorem dL_law_15 : decode code 15 = .ok (.astore_n 2, 1) := by decide +kernel
theorem dL_law_16 : decode code 16 = .ok (.bipush 16, 2) := by decide +kernel
theorem dL_law_18 : decode code 18 = .ok (.aload_n 0, 1) := by decide +kernel
theorem dL_law_19 : decode code 19 = .ok (.iconst 0, 1) := by decide +kernel
theorem dL_law_20 : decode code 20 = .ok (.invokestatic 147, 3) := by decide +kernel
theorem dL_law_23 : decode code 23 = .ok (.bipush 29, 2) := by decide +kernel
theorem dL_law_25 : decode code 25 = .ok (.irem, 1) := by decide +kernel
theorem dL_law_26 : decode code 26 = .ok (.iadd, 1) := by decide +kernel
theorem dL_law_27 : decode code 27 = .ok (.istore_n 3, 1) := by decide +kernel
theorem dL_law_28 : decode code 28 = .ok (.iconst 1, 1) := by decide +kernel
theorem dL_law_29 : decode code 29 = .ok (.istore 4, 2) := by decide +kernel
theorem dL_law_31 : decode code 31 = .ok (.iconst 0, 1) := by decide +kernel
theorem dL_law_32 : decode code 32 = .ok (.istore 5, 2) := by decide +kernel
theorem dL_law_34 : decode code 34 = .ok (.iload 5, 2) := by decide +kernel
theorem dL_law_36 : decode code 36 = .ok (.iload_n 3, 1) := by decide +kernel
theorem dL_law_37 : decode code 37 = .ok (.if_icmp .ge 172, 3) := by decide +kernel
theorem dL_law_40 : decode code 40 = .ok (.iload 4, 2) := by decide +kernel
theorem dL_law_42 : decode code 42 = .ok (.ifCond .eq 167, 3) := by decide +kernel
theorem dL_law_45 : decode code 45 = .ok (.aload_n 0, 1) := by decide +kernel
theorem dL_law_46 : decode code 46 = .ok (.iconst 1, 1) := by decide +kernel
theorem dL_law_47 : decode code 47 = .ok (.iload 5, 2) := by decide +kernel
theorem dL_law_49 : decode code 49 = .ok (.iadd, 1) := by decide +kernel
theorem dL_law_50 : decode code 50 = .ok (.invokestatic 147, 3) := by decide +kernel
theorem dL_law_53 : decode code 53 = .ok (.istore 6, 2) := by decide +kernel
theorem dL_law_55 : decode code 55 = .ok (.iload 5, 2) := by decide +kernel
theorem dL_law_57 : decode code 57 = .ok (.iconst 2, 1) := by decide +kernel
theorem dL_law_58 : decode code 58 = .ok (.if_icmp .ge 14, 3) := by decide +kernel
theorem dL_law_61 : decode code 61 = .ok (.iload 6, 2) := by decide +kernel
theorem dL_law_63 : decode code 63 = .ok (.bipush 32, 2) := by decide +kernel
theorem dL_law_65 : decode code 65 = .ok (.idiv, 1) := by decide +kernel
theorem dL_law_66 : decode code 66 = .ok (.bipush 32, 2) := by decide +kernel
theorem dL_law_68 : decode code 68 = .ok (.imul, 1) := by decide +kernel
theorem dL_law_69 : decode code 69 = .ok (.goto 44, 3) := by decide +kernel
theorem dL_law_72 : decode code 72 = .ok (.iload 5, 2) := by decide +kernel
theorem dL_law_74 : decode code 74 = .ok (.iconst 4, 1) := by decide +kernel
theorem dL_law_75 : decode code 75 = .ok (.if_icmp .ge 16, 3) := by decide +kernel
theorem dL_law_78 : decode code 78 = .ok (.iload 6, 2) := by decide +kernel
theorem dL_law_80 : decode code 80 = .ok (.bipush 32, 2) := by decide +kernel
theorem dL_law_82 : decode code 82 = .ok (.idiv, 1) := by decide +kernel
theorem dL_law_83 : decode code 83 = .ok (.bipush 32, 2) := by decide +kernel
theorem dL_law_85 : decode code 85 = .ok (.imul, 1) := by decide +kernel
theorem dL_law_86 : decode code 86 = .ok (.iconst 5, 1) := by decide +kernel
theorem dL_law_87 : decode code 87 = .ok (.iadd, 1) := by decide +kernel
theorem dL_law_88 : decode code 88 = .ok (.goto 25, 3) := by decide +kernel
theorem dL_law_91 : decode code 91 = .ok (.iload 5, 2) := by decide +kernel
theorem dL_law_93 : decode code 93 = .ok (.iconst 5, 1) := by decide +kernel
theorem dL_law_94 : decode code 94 = .ok (.if_icmp .ge 17, 3) := by decide +kernel
theorem dL_law_97 : decode code 97 = .ok (.iload 6, 2) := by decide +kernel
theorem dL_law_99 : decode code 99 = .ok (.bipush 32, 2) := by decide +kernel
theorem dL_law_101 : decode code 101 = .ok (.idiv, 1) := by decide +kernel
theorem dL_law_102 : decode code 102 = .ok (.bipush 32, 2) := by decide +kernel
theorem dL_law_104 : decode code 104 = .ok (.imul, 1) := by decide +kernel
theorem dL_law_105 : decode code 105 = .ok (.bipush 10, 2) := by decide +kernel
theorem dL_law_107 : decode code 107 = .ok (.iadd, 1) := by decide +kernel
theorem dL_law_108 : decode code 108 = .ok (.goto 5, 3) := by decide +kernel
theorem dL_law_111 : decode code 111 = .ok (.iload 6, 2) := by decide +kernel
theorem dL_law_113 : decode code 113 = .ok (.istore 6, 2) := by decide +kernel
theorem dL_law_115 : decode code 115 = .ok (.aload_n 2, 1) := by decide +kernel
theorem dL_law_116 : decode code 116 = .ok (.iload 6, 2) := by decide +kernel
theorem dL_law_118 : decode code 118 = .ok (.sipush 9973, 3) := by decide +kernel
theorem dL_law_121 : decode code 121 = .ok (.irem, 1) := by decide +kernel
theorem dL_law_122 : decode code 122 = .ok (.invokestatic 151, 3) := by decide +kernel
theorem dL_law_125 : decode code 125 = .ok (.ifCond .eq 75, 3) := by decide +kernel
theorem dL_law_128 : decode code 128 = .ok (.aload_n 1, 1) := by decide +kernel
theorem dL_law_129 : decode code 129 = .ok (.iload 6, 2) := by decide +kernel
theorem dL_law_131 : decode code 131 = .ok (.invokestatic 155, 3) := by decide +kernel
theorem dL_law_134 : decode code 134 = .ok (.aload_n 2, 1) := by decide +kernel
theorem dL_law_135 : decode code 135 = .ok (.iload 6, 2) := by decide +kernel
theorem dL_law_137 : decode code 137 = .ok (.invokestatic 155, 3) := by decide +kernel
theorem dL_law_140 : decode code 140 = .ok (.if_icmp .ne 60, 3) := by decide +kernel
theorem dL_law_143 : decode code 143 = .ok (.aload_n 2, 1) := by decide +kernel
theorem dL_law_144 : decode code 144 = .ok (.iload 6, 2) := by decide +kernel
theorem dL_law_146 : decode code 146 = .ok (.sipush 499, 3) := by decide +kernel
theorem dL_law_149 : decode code 149 = .ok (.irem, 1) := by decide +kernel
theorem dL_law_150 : decode code 150 = .ok (.invokestatic 151, 3) := by decide +kernel
theorem dL_law_153 : decode code 153 = .ok (.ifCond .eq 47, 3) := by decide +kernel
theorem dL_law_156 : decode code 156 = .ok (.aload_n 1, 1) := by decide +kernel
theorem dL_law_157 : decode code 157 = .ok (.aload_n 2, 1) := by decide +kernel
theorem dL_law_158 : decode code 158 = .ok (.invokestatic 158, 3) := by decide +kernel
theorem dL_law_161 : decode code 161 = .ok (.ifCond .eq 39, 3) := by decide +kernel
theorem dL_law_164 : decode code 164 = .ok (.iload 5, 2) := by decide +kernel
theorem dL_law_166 : decode code 166 = .ok (.iconst 5, 1) := by decide +kernel
theorem dL_law_167 : decode code 167 = .ok (.irem, 1) := by decide +kernel
theorem dL_law_168 : decode code 168 = .ok (.iconst 4, 1) := by decide +kernel
theorem dL_law_169 : decode code 169 = .ok (.if_icmp .lt 27, 3) := by decide +kernel
theorem dL_law_172 : decode code 172 = .ok (.aload_n 1, 1) := by decide +kernel
theorem dL_law_173 : decode code 173 = .ok (.iload 6, 2) := by decide +kernel
theorem dL_law_175 : decode code 175 = .ok (.bipush 7, 2) := by decide +kernel
theorem dL_law_177 : decode code 177 = .ok (.idiv, 1) := by decide +kernel
theorem dL_law_178 : decode code 178 = .ok (.invokestatic 162, 3) := by decide +kernel
theorem dL_law_181 : decode code 181 = .ok (.ifCond .eq 19, 3) := by decide +kernel
theorem dL_law_184 : decode code 184 = .ok (.aload_n 2, 1) := by decide +kernel
theorem dL_law_185 : decode code 185 = .ok (.iload 6, 2) := by decide +kernel
theorem dL_law_187 : decode code 187 = .ok (.bipush 7, 2) := by decide +kernel
theorem dL_law_189 : decode code 189 = .ok (.idiv, 1) := by decide +kernel
theorem dL_law_190 : decode code 190 = .ok (.invokestatic 162, 3) := by decide +kernel
theorem dL_law_193 : decode code 193 = .ok (.ifCond .eq 7, 3) := by decide +kernel
theorem dL_law_196 : decode code 196 = .ok (.iconst 1, 1) := by decide +kernel
theorem dL_law_197 : decode code 197 = .ok (.goto 4, 3) := by decide +kernel
theorem dL_law_200 : decode code 200 = .ok (.iconst 0, 1) := by decide +kernel
theorem dL_law_201 : decode code 201 = .ok (.istore 4, 2) := by decide +kernel
theorem dL_law_203 : decode code 203 = .ok (.iinc 5 1, 3) := by decide +kernel
theorem dL_law_206 : decode code 206 = .ok (.goto (-172), 3) := by decide +kernel
theorem dL_law_209 : decode code 209 = .ok (.iload 4, 2) := by decide +kernel
theorem dL_law_211 : decode code 211 = .ok (.ifCond .eq 37, 3) := by decide +kernel
theorem dL_law_214 : decode code 214 = .ok (.aload_n 1, 1) := by decide +kernel
theorem dL_law_215 : decode code 215 = .ok (.aload_n 0, 1) := by decide +kernel
theorem dL_law_216 : decode code 216 = .ok (.iconst 0, 1) := by decide +kernel
theorem dL_law_217 : decode code 217 = .ok (.invokestatic 147, 3) := by decide +kernel
theorem dL_law_220 : decode code 220 = .ok (.bipush 29, 2) := by decide +kernel
theorem dL_law_222 : decode code 222 = .ok (.idiv, 1) := by decide +kernel
theorem dL_law_223 : decode code 223 = .ok (.invokestatic 162, 3) := by decide +kernel
theorem dL_law_226 : decode code 226 = .ok (.ifCond .eq 22, 3) := by decide +kernel
theorem dL_law_229 : decode code 229 = .ok (.aload_n 2, 1) := by decide +kernel
theorem dL_law_230 : decode code 230 = .ok (.aload_n 0, 1) := by decide +kernel
theorem dL_law_231 : decode code 231 = .ok (.iconst 0, 1) := by decide +kernel
theorem dL_law_232 : decode code 232 = .ok (.invokestatic 147, 3) := by decide +kernel
theorem dL_law_235 : decode code 235 = .ok (.bipush 31, 2) := by decide +kernel
theorem dL_law_237 : decode code 237 = .ok (.idiv, 1) := by decide +kernel
theorem dL_law_238 : decode code 238 = .ok (.invokestatic 162, 3) := by decide +kernel
theorem dL_law_241 : decode code 241 = .ok (.ifCond .eq 7, 3) := by decide +kernel
theorem dL_law_244 : decode code 244 = .ok (.iconst 1, 1) := by decide +kernel
theorem dL_law_245 : decode code 245 = .ok (.goto 4, 3) := by decide +kernel
theorem dL_law_248 : decode code 248 = .ok (.iconst 0, 1) := by decide +kernel
theorem dL_law_249 : decode code 249 = .ok (.ireturn, 1) := by decide +kernel
/-! A NEW CODEC, THE LAW'S DRAWN NUMBERS, AN init BESIDE A FRAME -/
def S0 : SS := ((fun _ _ _ => 0, fun _ => 0, fun _ => 0), (0, 0, 0, 0), fun _ => 0, fun _ => 0, fun _ => 0, fun _ => 0)
theorem VS_0 : VS S0 := ⟨Nat.zero_le _, fun t ht => absurd ht (Nat.not_lt_zero t), fun t ht => absurd ht (Nat.not_lt_zero t), fun t ht => absurd ht (Nat.not_lt_zero t), fun t ht => absurd ht (Nat.not_lt_zero t), Nat.zero_le _, Nat.zero_le _, fun i => Nat.zero_le 1, Nat.zero_le _, fun k hk => absurd hk (Nat.not_lt_zero k)⟩
theorem KS_0 {kd : Nat → Nat} {x : Nat} {μ : Mm} {ad : Nat → Nat} {C : Mm} (hR : Rp μ ad C) (hB : BI x ad C) : KS kd x S0 μ := by
  obtain ⟨c0, d0, d1, d2, d3, d4, d5, d6, d7, d8, d9, d10, d11, d12, d13, d14, d15⟩ := hB
  refine ⟨ad 15, ad, C, 0, hR, c0, rfl, ⟨0, d15 15 (Nat.le_refl _)⟩, ?_⟩
  exact ⟨d0, ⟨d1, _, d2, fun s hs => absurd hs (Nat.not_lt_zero _)⟩, ⟨d3, d4⟩, ⟨d5, _, d6, fun i hi => absurd hi (Nat.not_lt_zero _)⟩, ⟨0, -1, 0, _, by omega, d7, d8, d9⟩, ⟨0, 0, -1, 0, _, by omega, d10, d11, d12⟩, ⟨d13, _, d14, fun k hk => absurd hk (Nat.not_lt_zero _)⟩, (show ∀ k, k < 6 → msk 0 k = nI (if k < 0 then 0 else 0) by decide), fun s hs => absurd hs (Nat.not_lt_zero _), fun r hr => d15 r (Nat.le_trans (by show 15 ≤ 20 + 5 * 0; omega) hr)⟩
def PcX (G : gG) (A : Nat → Prop) (μ : Mm) (b0 L : Nat) (xs : Nat → Int32) (av : List Value) : Array Value → State → Prop := va_Pc av (fun U => (SK G A U U.heap ∧ BM G A μ U.heap ∧ ∀ q, U.heap.size ≤ q → A q) ∧ va_X b0 L xs U U.heap ∧ b0 < U.heap.size)
theorem PcX.blind {G : gG} {A : Nat → Prop} {μ : Mm} {b0 L : Nat} {xs : Nat → Int32} {av : List Value} : FrameBlind (PcX G A μ b0 L xs av) := by
  intro a U g mk h
  obtain ⟨h1, ⟨h2, h3, h4⟩, h5, h6⟩ := h
  exact ⟨h1, ⟨SK.next h2 (va_S.rf (A := A)) rfl (State.WarmedH.refl U), h3, h4⟩, va_X.moved (u := U) (State.WarmedH.refl U).alike h5, h6⟩
theorem hd_L_drawn : yL_drawn.cls ≠ "java/lang/invoke/MethodHandle" ∧ yL_drawn.cls ≠ "java/lang/invoke/VarHandle" ∧ (parseMethodDescriptor yL_drawn.desc).map (fun d => d.parameters.length) = some 2 := ⟨by decide +kernel, by decide +kernel, by decide +kernel⟩
set_option maxHeartbeats 4000000 in
set_option maxRecDepth 100000 in
theorem c_drawn (l : Launch) (G : gG) (A : Nat → Prop) (μ : Mm) {b0 L i : Nat} {xs : Nat → Int32} (hL : L ≤ 2048) (hi : i ≤ 100) (hbA : ¬ A b0) : Met l yL_drawn (.code yL_drawn cL_drawn 2 (some .int) :: wsA) (rmL 0 0 0) (PcX G A μ b0 L xs [.ref b0, .int (nI i)]) (QG G A (pI (fun r μ9 => (∃ j, j < 2 ^ 31 ∧ r = nI j) ∧ μ9 = μ))) 0 0 A := by
  refine Met.ofW (cc := cL_drawn) (maxL := 2) (ret := some .int) (by decide +kernel) rfl ?_
  intro p e s m args below meth c s₁ B hml hv
  obtain ⟨rfl, ⟨hSK, hB, hA⟩, hX, hbl⟩ := hv
  have hts := atoms_spec (ws := .code yL_drawn cL_drawn 2 (some .int) :: wsA) B.pre
  have hl := lv_entry ([.ref b0, .int (nI i)] : List Value) (n := 2) (Nat.le_of_ble_eq_true rfl)
  rw [show lv_args 0 ([.ref b0, .int (nI i)] : List Value) = [(0, .ref b0), (1, .int (nI i))] from rfl] at hl
  have X : Cx p l s m ([.ref b0, .int (nI i)] : List Value).toArray meth c cL_drawn 2 (some .int) RL G A := ⟨B.exec, B.bytes, B.returns, hml, findClass_of_methodNamed B.named, fun w hw => hts w (List.mem_cons_of_mem _ hw), B.notSynchronized, hSK, hA⟩
  have fin : ∀ v : Int32, J p l e (rmL 0 0 0) s m ([.ref b0, .int (nI i)] : List Value).toArray below meth c 2 G A (MQ below (QG G A (pI (fun r μ9 => (∃ j, j < 2 ^ 31 ∧ r = nI j) ∧ μ9 = μ))) ([.ref b0, .int (nI i)] : List Value).toArray s 0 0 A) 0 0 22 [(0, .ref b0), (1, .int (nI i))] [.int v] μ := fun v => by
    refine j_ldc X (pc' := 24) (v := 2147483647) wt_1_124 dL_drawn_22 rfl ?_
    refine j_iand X (pc' := 25) dL_drawn_24 rfl ?_
    exact j_iret X ⟨_, rfl, pk_andE v (m := 2147483647) 31 (by decide), rfl⟩ (Nat.le_refl _) (Nat.le_refl _) dL_drawn_25
  have KJ : J p l e (rmL 0 0 0) s m ([.ref b0, .int (nI i)] : List Value).toArray below meth c 2 G A (MQ below (QG G A (pI (fun r μ9 => (∃ j, j < 2 ^ 31 ∧ r = nI j) ∧ μ9 = μ))) ([.ref b0, .int (nI i)] : List Value).toArray s 0 0 A) 0 0 0 [(0, .ref b0), (1, .int (nI i))] [] μ := by
    refine j_iload_n X (pc' := 1) (kk := 1) (i := 1) 1 rfl rfl dL_drawn_0 rfl ?_
    refine j_aload_n X (pc' := 2) (kk := 0) (i := 0) 0 rfl rfl dL_drawn_1 rfl ?_
    refine j_slen X (pc' := 3) hX hbl hbA dL_drawn_2 rfl ?_
    refine j_icmp_ge X (pc' := 6) (tgt := 12) dL_drawn_3 rfl (by decide) (fun _ => ?_) (fun c1 => ?_)
    · refine j_ldc X (pc' := 14) (v := 15525031) wt_1_123 dL_drawn_12 rfl ?_
      refine j_iload_n X (pc' := 15) (kk := 1) (i := 1) 1 rfl rfl dL_drawn_14 rfl ?_
      refine j_iconst X (pc' := 16) (v := 3) (by decide) dL_drawn_15 rfl ?_
      refine j_iadd X (pc' := 17) dL_drawn_16 rfl ?_
      refine j_imul X (pc' := 18) dL_drawn_17 rfl ?_
      refine j_sipush X (pc' := 21) (v := 13829) (by decide) dL_drawn_18 rfl ?_
      refine j_iadd X (pc' := 22) dL_drawn_21 rfl ?_
      exact fin _
    · have hiL : i < L := Nat.lt_of_not_le (fun h => c1 (nI_le h (by omega)))
      refine j_aload_n X (pc' := 7) (kk := 0) (i := 0) 0 rfl rfl dL_drawn_6 rfl ?_
      refine j_iload_n X (pc' := 8) (kk := 1) (i := 1) 1 rfl rfl dL_drawn_7 rfl ?_
      refine j_sld X (pc' := 9) hX hbl hbA (vp_in_nI hiL (by omega)) dL_drawn_8 rfl ?_
      refine j_goto X (tgt := 22) dL_drawn_9 (by decide) ?_
      exact fin _
  rw [lg_entry_eq]
  exact KJ s.heap [] _ hB va_S.rf hl
section JD
variable {p : Program} {l : Launch} {e : Env} {R : Room} {s : State} {m : MethodId} {args : Array Value} {below : List Frame} {meth : Method} {c : Code} {nL : Nat} {G : gG} {A : Nat → Prop} {Q : State → Prop} {cells slots pc pc' : Nat} {loc : List (Nat × Value)} {rest st : List Value} {μ μ1 μ2 : Mm} {cc : ByteArray} {ret : Option FieldType} {own : String}
variable {y : MethodName} {bytes : ByteArray} {maxL k1 mc1 ms1 n index b cells' slots' : Nat} {As : List Value} {b0 L : Nat} {xs : Nat → Int32}
theorem j_drawn (X : Cx p l s m args meth c cc nL ret RL G A) (hX : va_X b0 L xs s s.heap) (hbl : b0 < s.heap.size) (hbA : ¬ A b0) (hL : L ≤ 2048) {i : Nat} (hi : i ≤ 100) (hR : 0 + 6 + 1 ≤ R.frames ∧ 8 + (2 + 11) + (40 * 0 + 120) ≤ R.locals) (hW : (rest.map fun v => v.category).sum ≤ 8) (hdg : decode cc pc = .ok (.invokestatic 147, 3)) (hpc : pc + 3 = pc') (hf : cells + 0 ≤ R.cells ∧ slots + 0 ≤ R.slots)
    (k : ∀ j, j < 2 ^ 31 → J p l e R s m args below meth c nL G A Q cells slots pc' loc (.int (nI j) :: rest) μ) : J p l e R s m args below meth c nL G A Q cells slots pc loc (.int (nI i) :: .ref b0 :: rest) μ := by
  subst hpc
  intro H locs ls hB hS hl
  obtain ⟨hx, hb, hr, hml, hown, hts, hlk, hSK, hA⟩ := X
  refine run_go (va_runS (As := [.ref b0, .int (nI i)]) (rest := rest) ⟨hx, hb, hml, hown, hts⟩ (c_drawn l G A μ hL hi hbA) (va_cwS 2 hts (gd_S wt_1_120 wt_1_121 wt_1_0 wt_1_122) rfl rfl rfl hd_L_drawn hR) ⟨PcX.blind, fun U hU hW => ⟨rfl, (pre_V (av := [.ref b0, .int (nI i)]) hSK hA hB hS U hU hW).2, by rw [hU]; exact (hX.kept (hS.2.1 b0 hbl hbA)).moved hW.alike, by rw [hU]; exact Nat.lt_of_lt_of_le hbl hS.1⟩⟩ rfl rfl hl.1 rfl (lv_room hW) hdg hf) hS (fun v μ' H1 locs1 hp hB1 hS1 => ?_)
  obtain ⟨r9, rfl, ⟨j, hj, rfl⟩, rfl⟩ := hp
  exact k j hj H1 locs1 ls hB1 hS1 hl
theorem j_lawI {post1 : Mm → Prop} (X : Cx p l s m args meth c cc nL ret own G A) (hd0 : disM μ1 μ2) (hM : ∀ A1, Met l y (.code y bytes maxL none :: wsA) (rmL k1 mc1 ms1) (PcG G A1 μ1 (.ref b :: As)) (QG G A1 (pV post1)) mc1 ms1 A1) (h1 : Cond.methodLink own index y ∈ wsA) (h2 : Cond.instanceMethod y ∈ wsA) (hi2 : Cond.initialized y.cls ∈ wsA) (hcd : Cond.code y bytes maxL none ∈ wsA) (hy1 : y.name = "<init>")
    (hd : y.cls ≠ "java/lang/invoke/MethodHandle" ∧ y.cls ≠ "java/lang/invoke/VarHandle" ∧ (parseMethodDescriptor y.desc).map (fun d => d.parameters.length) = some n) (hR : k1 + 6 + 1 ≤ R.frames ∧ 8 + (maxL + 11) + (40 * k1 + 120) ≤ R.locals)
    (hn : As.length = n) (hst : st = As.reverse ++ .ref b :: rest) (hW : (rest.map fun v => v.category).sum ≤ 8) (hdg : decode cc pc = .ok (.invokespecial index, 3)) (hpc : pc + 3 = pc') (hf : cells + mc1 ≤ R.cells ∧ slots + ms1 ≤ R.slots)
    (k : ∀ μ', disM μ' μ2 → post1 μ' → J p l e R s m args below meth c nL G A Q (cells + mc1) (slots + ms1) pc' loc rest (joinM μ' μ2)) : J p l e R s m args below meth c nL G A Q cells slots pc loc st (joinM μ1 μ2) := by
  subst hst; subst hpc
  intro H locs ls hB hS hl
  obtain ⟨hx, hb, hr, hml, hown, hts, hlk, hSK, hA⟩ := X
  refine frame_go hd0 hB hA hS (va_runI (As := As) (rest := rest) ⟨hx, hb, hml, hown, hts⟩ (hM _) (cwI n hts (gd_ws hcd) rfl rfl rfl (hts _ hi2) (hts _ h1) (hts _ h2) hy1 hd hR) ⟨PcG.blind, pre_F hB hSK hA hS⟩ rfl hn hl.1 rfl (lv_room hW) hdg hf) (fun v μ' H1 locs1 hdi hp hB1 hS1 => ?_)
  obtain ⟨rfl, hp⟩ := hp
  exact k μ' hdi hp H1 locs1 ls hB1 hS1 hl
theorem j_lawI2 {post1 : Mm → Prop} (X : Cx p l s m args meth c cc nL ret own G A) (hd0 : disM μ1 μ2) (hM : ∀ A1, Met l y (.code y bytes maxL none :: wsA) (rmL k1 mc1 ms1) (PcG G A1 μ2 (.ref b :: As)) (QG G A1 (pV post1)) mc1 ms1 A1) (h1 : Cond.methodLink own index y ∈ wsA) (h2 : Cond.instanceMethod y ∈ wsA) (hi2 : Cond.initialized y.cls ∈ wsA) (hcd : Cond.code y bytes maxL none ∈ wsA) (hy1 : y.name = "<init>")
    (hd : y.cls ≠ "java/lang/invoke/MethodHandle" ∧ y.cls ≠ "java/lang/invoke/VarHandle" ∧ (parseMethodDescriptor y.desc).map (fun d => d.parameters.length) = some n) (hR : k1 + 6 + 1 ≤ R.frames ∧ 8 + (maxL + 11) + (40 * k1 + 120) ≤ R.locals)
    (hn : As.length = n) (hst : st = As.reverse ++ .ref b :: rest) (hW : (rest.map fun v => v.category).sum ≤ 8) (hdg : decode cc pc = .ok (.invokespecial index, 3)) (hpc : pc + 3 = pc') (hf : cells + mc1 ≤ R.cells ∧ slots + ms1 ≤ R.slots)
    (k : ∀ μ', disM μ1 μ' → post1 μ' → J p l e R s m args below meth c nL G A Q (cells + mc1) (slots + ms1) pc' loc rest (joinM μ1 μ')) : J p l e R s m args below meth c nL G A Q cells slots pc loc st (joinM μ1 μ2) := by
  rw [join_c hd0]
  refine j_lawI X hd0.symm hM h1 h2 hi2 hcd hy1 hd hR hn hst hW hdg hpc hf (fun μ' hdi hp => ?_)
  rw [← join_c hdi.symm]
  exact k μ' hdi.symm hp
theorem join_0 {x : Nat} {e1 : En} (h : μ1 x = none) : ups μ1 x e1 = joinM μ1 (ups mN x e1) ∧ disM μ1 (ups mN x e1) := by
  refine ⟨funext fun a => ?_, fun a ha => ?_⟩
  · by_cases c : a = x
    · subst c; rw [ups_s]; unfold joinM; rw [h, ups_s]
    · rw [ups_n c]; unfold joinM; rw [ups_n c]; cases μ1 a <;> rfl
  · have c : a ≠ x := fun z => ha (by rw [z]; exact h)
    rw [ups_n c]; rfl
theorem nI_mul32 (a : Nat) : nI a * nI 32 = nI (a * 32) := (Int32.ofNat_mul a 32).symm
end JD
