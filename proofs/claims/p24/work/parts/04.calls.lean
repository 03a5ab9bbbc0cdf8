/-! the ends of a method, its calls and its throws, over the memory -/
section JC
variable {p : Program} {l : Launch} {e : Env} {R : Room} {s : State} {m : MethodId} {args : Array Value} {below : List Frame} {meth : Method} {c : Code} {nL : Nat} {G : gG} {A : Nat → Prop} {Q : State → Prop} {cells slots pc pc' : Nat} {loc loc' : List (Nat × Value)} {rest st : List Value} {μ : Mm} {cc : ByteArray} {ret : Option FieldType} {own : String}
theorem gd_in {Ts ws : List Cond} (h : ∀ w ∈ ws, w ∈ Ts ∧ ((w.onTables && w.keeps) = true ∨ ∃ ty, w = .arrayClass ty)) : GoodIn Ts ws := h
theorem gd_ws {cd : Cond} (hc : cd ∈ wsA) : GoodIn wsA (cd :: wsA) := fun w h => (List.mem_cons.mp h).elim (fun e => by rw [e]; exact ⟨hc, wsA_good hc⟩) (fun h => ⟨h, wsA_good h⟩)
theorem gd_V {C : String} {idx : Nat} {y : MethodName} {cd : Cond} (h1 : Cond.methodLink own idx y ∈ wsA) (h2 : Cond.instanceMethod y ∈ wsA) (h3 : Cond.selects C y y ∈ wsA) (h4 : Cond.initialized C ∈ wsA) (h5 : cd ∈ wsA) : GoodIn wsA (wsV own idx C y (cd :: wsA)) := by
  intro w h
  unfold wsV at h
  rcases List.mem_append.mp h with h | h
  · simp only [List.mem_cons, List.not_mem_nil, or_false] at h
    rcases h with h | h | h | h <;> subst h
    · exact ⟨h1, wsA_good h1⟩
    · exact ⟨h2, wsA_good h2⟩
    · exact ⟨h3, wsA_good h3⟩
    · exact ⟨h4, wsA_good h4⟩
  · exact gd_ws h5 w h
theorem gd_S {idx : Nat} {y : MethodName} {cd : Cond} (h1 : Cond.methodLink own idx y ∈ wsA) (h2 : Cond.static y ∈ wsA) (h4 : Cond.initialized y.cls ∈ wsA) (h5 : cd ∈ wsA) : GoodIn wsA (va_wsS own idx y (cd :: wsA)) := by
  intro w h
  unfold va_wsS at h
  rcases List.mem_append.mp h with h | h
  · simp only [List.mem_cons, List.not_mem_nil, or_false] at h
    rcases h with h | h | h <;> subst h
    · exact ⟨h1, wsA_good h1⟩
    · exact ⟨h2, wsA_good h2⟩
    · exact ⟨h4, wsA_good h4⟩
  · exact gd_ws h5 w h
variable {post : Option Value → Mm → Prop} {px : String → Mm → Prop} {mc ms : Nat}
theorem j_iret (X : Cx p l s m args meth c cc nL (some .int) own G A) {v : Int32} (h : post (some (.int v)) μ) (hc : cells ≤ mc) (hs : slots ≤ ms) (hdg : decode cc pc = .ok (.ireturn, 1)) : J p l e R s m args below meth c nL G A (MQ below (QG G A post) args s mc ms A) cells slots pc loc [.int v] μ := by
  intro H locs ls hB hS hl
  obtain ⟨hx, hb, hr, hml, hown, hts, hlk, hSK, hA⟩ := X
  exact W.widen hc hs (W.iret (v := v) hx hb hr (fun t ht hW => ⟨⟨_, μ, rfl, h, by rw [ht]; exact hB⟩, hS.F ht⟩) hS.2.2 hdg hlk)
theorem j_zret (X : Cx p l s m args meth c cc nL (some .boolean) own G A) {v : Int32} (hv : v = 0 ∨ v = 1) (h : post (some (.int v)) μ) (hc : cells ≤ mc) (hs : slots ≤ ms) (hdg : decode cc pc = .ok (.ireturn, 1)) : J p l e R s m args below meth c nL G A (MQ below (QG G A post) args s mc ms A) cells slots pc loc [.int v] μ := by
  intro H locs ls hB hS hl
  obtain ⟨hx, hb, hr, hml, hown, hts, hlk, hSK, hA⟩ := X
  exact W.widen hc hs (W.zret (v := v) hx hb hr (by rcases hv with rfl | rfl <;> rfl) (fun t ht hW => ⟨⟨_, μ, rfl, h, by rw [ht]; exact hB⟩, hS.F ht⟩) hS.2.2 hdg hlk)
theorem j_vret (X : Cx p l s m args meth c cc nL none own G A) (h : post none μ) (hc : cells ≤ mc) (hs : slots ≤ ms) (hdg : decode cc pc = .ok (.return_, 1)) : J p l e R s m args below meth c nL G A (MQ below (QG G A post) args s mc ms A) cells slots pc loc [] μ := by
  intro H locs ls hB hS hl
  obtain ⟨hx, hb, hr, hml, hown, hts, hlk, hSK, hA⟩ := X
  exact W.widen hc hs (W.vret hx hb hr (fun t ht hW => ⟨⟨_, μ, rfl, h, by rw [ht]; exact hB⟩, hS.F ht⟩) hS.2.2 hdg hlk)
theorem j_aret {C : String} (X : Cx p l s m args meth c cc nL (some (.object C)) own G A) {r : Option Nat} (h : post (some (va_rf r)) μ) (hc : cells ≤ mc) (hs : slots ≤ ms) (hdg : decode cc pc = .ok (.areturn, 1)) : J p l e R s m args below meth c nL G A (MQ below (QG G A post) args s mc ms A) cells slots pc loc [va_rf r] μ := by
  intro H locs ls hB hS hl
  obtain ⟨hx, hb, hr, hml, hown, hts, hlk, hSK, hA⟩ := X
  exact W.widen hc hs (W.aret (v := va_rf r) hx hb hr (Or.inl ⟨_, rfl⟩) (va_rf_or r) (fun t ht hW => ⟨⟨_, μ, rfl, h, by rw [ht]; exact hB⟩, hS.F ht⟩) hS.2.2 hdg hlk)
/-- an end without a throw is an end of a body that may throw -/
theorem j_x (k : J p l e R s m args below meth c nL G A (MQ below (QG G A post) args s mc ms A) cells slots pc loc st μ) : J p l e R s m args below meth c nL G A (vx_MQ below (QG G A post) (XG G A px) args s mc ms A) cells slots pc loc st μ := fun H locs ls hB hS hl => vx_ret (k H locs ls hB hS hl)
theorem run_go {mc1 ms1 : Nat} {H : Heap} {locs : List Loc} {ls : Array Slot} {st0 : List Value} {a : Array Value} (hr : va_Run p l e R s m args below meth c H locs cells slots mc1 ms1 (F0 m pc ls st0) rest (QG G A post a) A) (hS : va_S A s.heap H locs)
    (kk : ∀ (v : Option Value) (μ' : Mm) (H1 : Heap) (locs1 : List Loc), post v μ' → BM G A μ' H1 → va_S A s.heap H1 locs1 → W p l e R s m args below meth c H1 locs1 (cells + mc1) (slots + ms1) Q (F0 m (pc + 3) ls (v.toList ++ rest))) : W p l e R s m args below meth c H locs cells slots Q (F0 m pc ls st0) := by
  intro T hT X
  obtain ⟨v, st₀, t, T', L, h0, X', hL, e1, e2, ⟨⟨v', μ', hv, hp, hb⟩, hF⟩, st⟩ := hr T hT X
  cases hv
  obtain ⟨k1, k2, k3⟩ := vx_keep h0 e1 hS (fun q _ h => h) (fun q h => h) hL hF
  obtain ⟨t2, a1, b1⟩ := kk _ μ' T'.heap (locs ++ L) hp (by rw [e1]; exact hb) k3 T' rfl X'
  exact ⟨t2, st t2 a1, b1⟩
theorem run_gox {mc1 ms1 : Nat} {H : Heap} {locs : List Loc} {ls : Array Slot} {st0 : List Value} {a : Array Value} (hr : vx_Run p l e R s m args below meth c H locs cells slots mc1 ms1 (F0 m pc ls st0) rest (QG G A post a) (XG G A px) A) (hS : va_S A s.heap H locs)
    (kx : ∀ (E : String) (ce : Cell) (q9 : Addr) (μ' : Mm) (H1 : Heap) (locs1 : List Loc), px E μ' → BM G A μ' H1 → va_S A s.heap H1 locs1 → H1[q9]? = some ce → ce.vm = .none → s.vm.findClass E = some ce.cls → vx_W p l e R s m args below meth c H1 locs1 (cells + mc1) (slots + ms1) Q (F0 m pc ls rest) q9)
    (kk : ∀ (v : Option Value) (μ' : Mm) (H1 : Heap) (locs1 : List Loc), post v μ' → BM G A μ' H1 → va_S A s.heap H1 locs1 → W p l e R s m args below meth c H1 locs1 (cells + mc1) (slots + ms1) Q (F0 m (pc + 3) ls (v.toList ++ rest))) : W p l e R s m args below meth c H locs cells slots Q (F0 m pc ls st0) := by
  intro T hT X
  rcases hr T hT X with ⟨v, st₀, t, T', L, h0, X', hL, e1, e2, ⟨⟨v', μ', hv, hp, hb⟩, hF⟩, st⟩ | ⟨q, st₀, t, T', L, E, ce, h0, X', hL, e1, e2, ⟨⟨μ', hp, hb⟩, hF⟩, hce, hcv, hcl, st⟩
  · cases hv
    obtain ⟨k1, k2, k3⟩ := vx_keep h0 e1 hS (fun q _ h => h) (fun q h => h) hL hF
    obtain ⟨t2, a1, b1⟩ := kk _ μ' T'.heap (locs ++ L) hp (by rw [e1]; exact hb) k3 T' rfl X'
    exact ⟨t2, st t2 a1, b1⟩
  · obtain ⟨k1, k2, k3⟩ := vx_keep h0 e1 hS (fun q _ h => h) (fun q h => h) hL hF
    obtain ⟨t2, a1, b1⟩ := kx E ce q μ' T'.heap (locs ++ L) hp (by rw [e1]; exact hb) k3 (by rw [e1]; exact hce) hcv hcl T' rfl X'
    exact ⟨t2, st.trans a1, b1⟩
variable {y : MethodName} {bytes : ByteArray} {maxL k1 mc1 ms1 n index ci b cells' slots' : Nat} {ret1 : Option FieldType} {As : List Value} {post1 : Option Value → Mm → Prop} {px1 : String → Mm → Prop} {C : String} {T : u_T} {N : Nat} {fs : List Value}
theorem pre_V {H : Heap} {locs : List Loc} (hSK : SK G A s s.heap) (hA : ∀ q, s.heap.size ≤ q → A q) (hB : BM G A μ H) (hS : va_S A s.heap H locs) {av : List Value} : ∀ U : State, U.heap = H → s.WarmedH U.vm → PcG G A μ av av.toArray U := fun U hU hW => ⟨rfl, SK.next hSK hS hU hW, by rw [hU]; exact hB, fun q hq => hA q (Nat.le_trans hS.1 (by rw [← hU]; exact hq))⟩
theorem j_callV (X : Cx p l s m args meth c cc nL ret own G A) (hM : Met l y (.code y bytes maxL ret1 :: wsA) (rmL k1 mc1 ms1) (PcG G A μ (.ref b :: As)) (QG G A post1) mc1 ms1 A) (hT : GoodIn wsA (wsV own index C y (.code y bytes maxL ret1 :: wsA)))
    (hd : y.cls = C ∧ y.cls ≠ "java/lang/invoke/MethodHandle" ∧ y.cls ≠ "java/lang/invoke/VarHandle" ∧ (parseMethodDescriptor y.desc).map (fun d => d.parameters.length) = some n) (hR : k1 + 6 + 1 ≤ R.frames ∧ 8 + (maxL + 11) + (40 * k1 + 120) ≤ R.locals) (hm : μ b = some (.inl (ci, fs))) (hc : vwCl[ci]? = some (C, T, N))
    (hn : As.length = n) (hst : st = As.reverse ++ .ref b :: rest) (hW : (rest.map fun v => v.category).sum ≤ 8) (hdg : decode cc pc = .ok (.invokevirtual index, 3)) (hpc : pc + 3 = pc') (hf : cells + mc1 ≤ R.cells ∧ slots + ms1 ≤ R.slots) (hce : cells + mc1 = cells') (hse : slots + ms1 = slots')
    (k : ∀ v μ', post1 v μ' → J p l e R s m args below meth c nL G A Q cells' slots' pc' loc (v.toList ++ rest) μ') : J p l e R s m args below meth c nL G A Q cells slots pc loc st μ := by
  subst hst; subst hpc; subst hce; subst hse
  intro H locs ls hB hS hl
  obtain ⟨hx, hb, hr, hml, hown, hts, hlk, hSK, hA⟩ := X
  exact run_go (va_runV (As := As) (rest := rest) ⟨hx, hb, hml, hown, hts⟩ hM (cwV n hts hT rfl rfl rfl hd hR) ⟨PcG.blind, va_recv (q0 := 0) (fs := fs) hSK.1 (hB.one hm) hc rfl, pre_V hSK hA hB hS⟩ rfl hn hl.1 rfl (lv_room hW) hdg hf) hS (fun v μ' H1 locs1 hp hB1 hS1 => k v μ' hp H1 locs1 ls hB1 hS1 hl)
theorem j_callS (X : Cx p l s m args meth c cc nL ret own G A) (hM : Met l y (.code y bytes maxL ret1 :: wsA) (rmL k1 mc1 ms1) (PcG G A μ As) (QG G A post1) mc1 ms1 A) (hT : GoodIn wsA (va_wsS own index y (.code y bytes maxL ret1 :: wsA)))
    (hd : y.cls ≠ "java/lang/invoke/MethodHandle" ∧ y.cls ≠ "java/lang/invoke/VarHandle" ∧ (parseMethodDescriptor y.desc).map (fun d => d.parameters.length) = some n) (hR : k1 + 6 + 1 ≤ R.frames ∧ 8 + (maxL + 11) + (40 * k1 + 120) ≤ R.locals)
    (hn : As.length = n) (hst : st = As.reverse ++ rest) (hW : (rest.map fun v => v.category).sum ≤ 8) (hdg : decode cc pc = .ok (.invokestatic index, 3)) (hpc : pc + 3 = pc') (hf : cells + mc1 ≤ R.cells ∧ slots + ms1 ≤ R.slots) (hce : cells + mc1 = cells') (hse : slots + ms1 = slots')
    (k : ∀ v μ', post1 v μ' → J p l e R s m args below meth c nL G A Q cells' slots' pc' loc (v.toList ++ rest) μ') : J p l e R s m args below meth c nL G A Q cells slots pc loc st μ := by
  subst hst; subst hpc; subst hce; subst hse
  intro H locs ls hB hS hl
  obtain ⟨hx, hb, hr, hml, hown, hts, hlk, hSK, hA⟩ := X
  exact run_go (va_runS (As := As) (rest := rest) ⟨hx, hb, hml, hown, hts⟩ hM (va_cwS n hts hT rfl rfl rfl hd hR) ⟨PcG.blind, pre_V hSK hA hB hS⟩ rfl hn hl.1 rfl (lv_room hW) hdg hf) hS (fun v μ' H1 locs1 hp hB1 hS1 => k v μ' hp H1 locs1 ls hB1 hS1 hl)
theorem j_callSN (X : Cx p l s m args meth c cc nL ret own G A) (hM : Met l y (.code y bytes maxL ret1 :: wsA) (rmL k1 mc1 ms1) (PcG G A μ As) (QG G A post1) mc1 ms1 A) (hnm : (own, index, y) ∈ nsM) (hs2 : Cond.static y ∈ wsA) (hi2 : Cond.initialized y.cls ∈ wsA) (hcd : Cond.code y bytes maxL ret1 ∈ wsA)
    (hd : y.cls ≠ "java/lang/invoke/MethodHandle" ∧ y.cls ≠ "java/lang/invoke/VarHandle" ∧ (parseMethodDescriptor y.desc).map (fun d => d.parameters.length) = some n) (hR : k1 + 6 + 1 ≤ R.frames ∧ 8 + (maxL + 11) + (40 * k1 + 120) ≤ R.locals)
    (hn : As.length = n) (hst : st = As.reverse ++ rest) (hW : (rest.map fun v => v.category).sum ≤ 8) (hdg : decode cc pc = .ok (.invokestatic index, 3)) (hpc : pc + 3 = pc') (hf : cells + mc1 ≤ R.cells ∧ slots + ms1 ≤ R.slots) (hce : cells + mc1 = cells') (hse : slots + ms1 = slots')
    (k : ∀ v μ', post1 v μ' → J p l e R s m args below meth c nL G A Q cells' slots' pc' loc (v.toList ++ rest) μ') : J p l e R s m args below meth c nL G A Q cells slots pc loc st μ := by
  subst hst; subst hpc; subst hce; subst hse
  intro H locs ls hB hS hl
  obtain ⟨hx, hb, hr, hml, hown, hts, hlk, hSK, hA⟩ := X
  exact run_go (va_runSN (host := "BitNotation") (As := As) (rest := rest) ⟨hx, hb, hml, hown, hts⟩ hM ⟨va_cnB n hts (gd_ws hcd) rfl rfl rfl (hSK.2.2.2.2.2.2.2.2.2.1 _ hnm) (hts _ hi2) hd hR, hts _ hs2, trivial⟩ ⟨PcG.blind, pre_V hSK hA hB hS⟩ rfl hn hl.1 rfl (lv_room hW) hdg hf) hS (fun v μ' H1 locs1 hp hB1 hS1 => k v μ' hp H1 locs1 ls hB1 hS1 hl)
theorem j_callI (X : Cx p l s m args meth c cc nL ret own G A) (hM : Met l y (.code y bytes maxL none :: wsA) (rmL k1 mc1 ms1) (PcG G A μ (.ref b :: As)) (QG G A post1) mc1 ms1 A) (h1 : Cond.methodLink own index y ∈ wsA) (h2 : Cond.instanceMethod y ∈ wsA) (hi2 : Cond.initialized y.cls ∈ wsA) (hcd : Cond.code y bytes maxL none ∈ wsA) (hy1 : y.name = "<init>")
    (hd : y.cls ≠ "java/lang/invoke/MethodHandle" ∧ y.cls ≠ "java/lang/invoke/VarHandle" ∧ (parseMethodDescriptor y.desc).map (fun d => d.parameters.length) = some n) (hR : k1 + 6 + 1 ≤ R.frames ∧ 8 + (maxL + 11) + (40 * k1 + 120) ≤ R.locals)
    (hn : As.length = n) (hst : st = As.reverse ++ .ref b :: rest) (hW : (rest.map fun v => v.category).sum ≤ 8) (hdg : decode cc pc = .ok (.invokespecial index, 3)) (hpc : pc + 3 = pc') (hf : cells + mc1 ≤ R.cells ∧ slots + ms1 ≤ R.slots) (hce : cells + mc1 = cells') (hse : slots + ms1 = slots')
    (k : ∀ v μ', post1 v μ' → J p l e R s m args below meth c nL G A Q cells' slots' pc' loc (v.toList ++ rest) μ') : J p l e R s m args below meth c nL G A Q cells slots pc loc st μ := by
  subst hst; subst hpc; subst hce; subst hse
  intro H locs ls hB hS hl
  obtain ⟨hx, hb, hr, hml, hown, hts, hlk, hSK, hA⟩ := X
  exact run_go (va_runI (As := As) (rest := rest) ⟨hx, hb, hml, hown, hts⟩ hM (cwI n hts (gd_ws hcd) rfl rfl rfl (hts _ hi2) (hts _ h1) (hts _ h2) hy1 hd hR) ⟨PcG.blind, pre_V hSK hA hB hS⟩ rfl hn hl.1 rfl (lv_room hW) hdg hf) hS (fun v μ' H1 locs1 hp hB1 hS1 => k v μ' hp H1 locs1 ls hB1 hS1 hl)
theorem j_callIN (X : Cx p l s m args meth c cc nL ret own G A) (hM : Met l y (.code y bytes maxL none :: wsA) (rmL k1 mc1 ms1) (PcG G A μ (.ref b :: As)) (QG G A post1) mc1 ms1 A) (hnm : (own, index, y) ∈ nsM) (h2 : Cond.instanceMethod y ∈ wsA) (hi2 : Cond.initialized y.cls ∈ wsA) (hcd : Cond.code y bytes maxL none ∈ wsA) (hy1 : y.name = "<init>")
    (hd : y.cls ≠ "java/lang/invoke/MethodHandle" ∧ y.cls ≠ "java/lang/invoke/VarHandle" ∧ (parseMethodDescriptor y.desc).map (fun d => d.parameters.length) = some n) (hR : k1 + 6 + 1 ≤ R.frames ∧ 8 + (maxL + 11) + (40 * k1 + 120) ≤ R.locals)
    (hn : As.length = n) (hst : st = As.reverse ++ .ref b :: rest) (hW : (rest.map fun v => v.category).sum ≤ 8) (hdg : decode cc pc = .ok (.invokespecial index, 3)) (hpc : pc + 3 = pc') (hf : cells + mc1 ≤ R.cells ∧ slots + ms1 ≤ R.slots) (hce : cells + mc1 = cells') (hse : slots + ms1 = slots')
    (k : ∀ v μ', post1 v μ' → J p l e R s m args below meth c nL G A Q cells' slots' pc' loc (v.toList ++ rest) μ') : J p l e R s m args below meth c nL G A Q cells slots pc loc st μ := by
  subst hst; subst hpc; subst hce; subst hse
  intro H locs ls hB hS hl
  obtain ⟨hx, hb, hr, hml, hown, hts, hlk, hSK, hA⟩ := X
  exact run_go (va_runIN (host := "BitNotation") (As := As) (rest := rest) ⟨hx, hb, hml, hown, hts⟩ hM ⟨va_cnB n hts (gd_ws hcd) rfl rfl rfl (hSK.2.2.2.2.2.2.2.2.2.1 _ hnm) (hts _ hi2) hd hR, hy1, hts _ h2⟩ ⟨PcG.blind, pre_V hSK hA hB hS⟩ rfl hn hl.1 rfl (lv_room hW) hdg hf) hS (fun v μ' H1 locs1 hp hB1 hS1 => k v μ' hp H1 locs1 ls hB1 hS1 hl)
/-- a call of a method that may throw; what is thrown goes on to the caller -/
theorem jx_callV (X : Cx p l s m args meth c cc nL ret own G A) (hout : ∀ x ∈ c.exceptionTable.toList, False) (hM : vx_Met l y (.code y bytes maxL ret1 :: wsA) (rmL k1 mc1 ms1) (PcG G A μ (.ref b :: As)) (QG G A post1) (XG G A px) mc1 ms1 A) (hT : GoodIn wsA (wsV own index C y (.code y bytes maxL ret1 :: wsA)))
    (hd : y.cls = C ∧ y.cls ≠ "java/lang/invoke/MethodHandle" ∧ y.cls ≠ "java/lang/invoke/VarHandle" ∧ (parseMethodDescriptor y.desc).map (fun d => d.parameters.length) = some n) (hR : k1 + 6 + 1 ≤ R.frames ∧ 8 + (maxL + 11) + (40 * k1 + 120) ≤ R.locals) (hm : μ b = some (.inl (ci, fs))) (hc : vwCl[ci]? = some (C, T, N))
    (hn : As.length = n) (hst : st = As.reverse ++ .ref b :: rest) (hW : (rest.map fun v => v.category).sum ≤ 8) (hdg : decode cc pc = .ok (.invokevirtual index, 3)) (hpc : pc + 3 = pc') (hf : cells + mc1 ≤ R.cells ∧ slots + ms1 ≤ R.slots) (hce : cells + mc1 = cells') (hse : slots + ms1 = slots') (hcm : cells' ≤ mc) (hsm : slots' ≤ ms)
    (k : ∀ v μ', post1 v μ' → J p l e R s m args below meth c nL G A (vx_MQ below (QG G A post) (XG G A px) args s mc ms A) cells' slots' pc' loc (v.toList ++ rest) μ') : J p l e R s m args below meth c nL G A (vx_MQ below (QG G A post) (XG G A px) args s mc ms A) cells slots pc loc st μ := by
  subst hst; subst hpc; subst hce; subst hse
  intro H locs ls hB hS hl
  obtain ⟨hx, hb, hr, hml, hown, hts, hlk, hSK, hA⟩ := X
  refine run_gox (vx_runV (As := As) (rest := rest) ⟨hx, hb, hml, hown, hts⟩ hM (cwV n hts hT rfl rfl rfl hd hR) ⟨PcG.blind, va_recv (q0 := 0) (fs := fs) hSK.1 (hB.one hm) hc rfl, pre_V hSK hA hB hS⟩ rfl hn hl.1 rfl (lv_room hW) hdg hf) hS (fun E ce q9 μ' H1 locs1 hp hB1 hS1 g1 g2 g3 => ?_) (fun v μ' H1 locs1 hp hB1 hS1 => k v μ' hp H1 locs1 ls hB1 hS1 hl)
  exact vx_out (fun x hx => (hout x hx).elim) hlk g1 g2 g3 (fun t ht _ => ⟨⟨μ', hp, by rw [ht]; exact hB1⟩, hS1.F ht⟩) hS1.2.2 hcm hsm
/-- 'throw new X(text)', X one of exN -/
theorem jx_throw (X : Cx p l s m args meth c cc nL ret RX6 G A) (hout : ∀ x ∈ c.exceptionTable.toList, False) (hl0 : l.stackTraces = false) {cls text : String} {ik is ic : Nat} (hX : cls ∈ exN) (hst : (is, text) ∈ stN) (hk : Cond.classLink RX6 ik cls ∈ wsA) (hini : Cond.initialized cls ∈ wsA)
    (hgd : ∀ w ∈ (vx_atS RX6 ic cls ["java/lang/RuntimeException", "java/lang/Exception"]).filter goodWord, w ∈ lw_tbl) (hng : ∀ w ∈ (vx_atS RX6 ic cls ["java/lang/RuntimeException", "java/lang/Exception"]).filter (fun w => !goodWord w), w ∈ Cond.castable cls cls :: dcN.map Cond.declares) (hcls : Bundle.fit cls = true)
    (hgood : ∀ w ∈ Cond.classLink RX6 ik cls :: Cond.initialized cls :: vx_atS RX6 ic cls ["java/lang/RuntimeException", "java/lang/Exception"], vx_ot w = true)
    (d0 : decode cc pc = .ok (.new ik, 3)) (d3 : decode cc (pc + 3) = .ok (.dup, 1)) (d4 : decode cc (pc + 4) = .ok (.ldc is, 2)) (d6 : decode cc (pc + 6) = .ok (.invokespecial ic, 3)) (d9 : decode cc (pc + 9) = .ok (.athrow, 1))
    (hRf : 5 < R.frames) (hRl : (rest.map fun v => v.category).sum + 82 ≤ R.locals) (hRc : cells + 1 ≤ R.cells) (hRs : slots + 6 ≤ R.slots) (hc : cells + 1 ≤ mc) (hs : slots + 6 ≤ ms) (h : px cls μ) :
    J p l e R s m args below meth c nL G A (vx_MQ below (QG G A post) (XG G A px) args s mc ms A) cells slots pc loc rest μ := by
  intro H locs ls hB hS hl
  obtain ⟨hx, hb, hr, hml, hown, hts, hlk, hSK, hA⟩ := X
  obtain ⟨sa, hsa⟩ := hSK.2.2.2.2.2.2.1 _ hst
  refine vx_throwS (sa := sa) hx hb hl0 hown hcls (by decide +kernel) (hts _ hk) (hts _ hini) hsa (vx_hat (fun w hw => hts w (List.mem_filter.mpr ⟨hgd w hw, (List.mem_filter.mp hw).2⟩)) hng (vx_c (va_Nw.use rfl (hSK.2.2.2.2.1 _ hX)) (fun w hw => by obtain ⟨y, hy, rfl⟩ := List.mem_map.mp hw; exact va_Nw.use rfl (hSK.2.2.2.2.2.2.2.2.2.2 y hy)))) hgood hSK.2.2.1 hSK.2.2.2.1 hS (by rw [hml]; exact hl.1) d0 d3 d4 d6 d9 (fun x hx => (hout x hx).elim) hRf hRl hRc hRs hlk (fun t _ hz hq => ⟨⟨μ, h, fun a e0 he => ⟨(hB a e0 he).1.kept (hq a (hB.lt he)), (hB a e0 he).2⟩⟩, Nat.le_trans hS.1 hz, fun q h1 h2 => by rw [hq q (Nat.lt_of_lt_of_le h1 hS.1)]; exact hS.2.1 q h1 h2⟩) hS.2.2 hc hs
theorem j_max (X : Cx p l s m args meth c cc nL ret own G A) {x z : Int32} (h1 : Cond.methodLink own index Lib.Math.max.name ∈ wsA) (h2 : Cond.static Lib.Math.max.name ∈ wsA) (h3 : Cond.initialized "java/lang/Math" ∈ wsA) (h4 : Cond.code Lib.Math.max.name Lib.Math.max.code 2 (some .int) ∈ wsA) (hf : 1 ≤ R.frames) (ho : (rest.map fun v => v.category).sum + 13 ≤ R.locals) (hc : cells ≤ R.cells) (hs : slots ≤ R.slots) (hdg : decode cc pc = .ok (.invokestatic index, 3)) (hpc : pc + 3 = pc')
    (k : J p l e R s m args below meth c nL G A Q cells slots pc' loc (.int (if x < z then z else x) :: rest) μ) : J p l e R s m args below meth c nL G A Q cells slots pc loc (.int z :: .int x :: rest) μ := by
  subst hpc
  intro H locs ls hB hS hl
  obtain ⟨hx, hb, hr, hml, hown, hts, hlk, hSK, hA⟩ := X
  exact va_mmax hx hb (hml.trans hl.1.symm) hown (hts _ h1) (hts _ h2) (hts _ h3) (hts _ h4) hf ho hc hs hdg (k H locs ls hB hS hl)
theorem j_min (X : Cx p l s m args meth c cc nL ret own G A) {x z : Int32} (h1 : Cond.methodLink own index Lib.Math.min.name ∈ wsA) (h2 : Cond.static Lib.Math.min.name ∈ wsA) (h3 : Cond.initialized "java/lang/Math" ∈ wsA) (h4 : Cond.code Lib.Math.min.name Lib.Math.min.code 2 (some .int) ∈ wsA) (hf : 1 ≤ R.frames) (ho : (rest.map fun v => v.category).sum + 13 ≤ R.locals) (hc : cells ≤ R.cells) (hs : slots ≤ R.slots) (hdg : decode cc pc = .ok (.invokestatic index, 3)) (hpc : pc + 3 = pc')
    (k : J p l e R s m args below meth c nL G A Q cells slots pc' loc (.int (if z < x then z else x) :: rest) μ) : J p l e R s m args below meth c nL G A Q cells slots pc loc (.int z :: .int x :: rest) μ := by
  subst hpc
  intro H locs ls hB hS hl
  obtain ⟨hx, hb, hr, hml, hown, hts, hlk, hSK, hA⟩ := X
  exact va_mmin hx hb (hml.trans hl.1.symm) hown (hts _ h1) (hts _ h2) (hts _ h3) (hts _ h4) hf ho hc hs hdg (k H locs ls hB hS hl)
/-- a contract out of a walk over the memory -/
theorem met_J {k0 : Nat} {av : List Value} (hy : plainName y.cls = true) (hlen : (lg_sl av).length ≤ maxL) (hloc : lv_args 0 av = loc)
    (body : ∀ (p : Program) (e : Env) (s : State) (m : MethodId) (args : Array Value) (below : List Frame) (meth : Method) (c : Code), Cx p l s m args meth c bytes maxL ret1 y.cls G A → meth.name = y.name → J p l e (rmL k0 mc ms) s m args below meth c maxL G A (MQ below (QG G A post) args s mc ms A) 0 0 0 loc [] μ) :
    Met l y (.code y bytes maxL ret1 :: wsA) (rmL k0 mc ms) (PcG G A μ av) (QG G A post) mc ms A := by
  refine Met.ofW (cc := bytes) (maxL := maxL) (ret := ret1) hy rfl ?_
  intro p e s m args below meth c s₁ B hml hv
  obtain ⟨rfl, hSK, hB, hA⟩ := hv
  have hts := atoms_spec (ws := .code y bytes maxL ret1 :: wsA) B.pre
  have hl := lv_entry av (n := maxL) hlen
  rw [hloc] at hl
  have hJ := body p e s m av.toArray below meth c ⟨B.exec, B.bytes, B.returns, hml, findClass_of_methodNamed B.named, fun w hw => hts w (List.mem_cons_of_mem _ hw), B.notSynchronized, hSK, hA⟩ (name_of_methodNamed B.named B.method).1
  rw [lg_entry_eq]
  exact hJ s.heap [] _ hB va_S.rf hl
theorem metx_J {k0 : Nat} {av : List Value} (hy : plainName y.cls = true) (hlen : (lg_sl av).length ≤ maxL) (hloc : lv_args 0 av = loc)
    (body : ∀ (p : Program) (e : Env) (s : State) (m : MethodId) (args : Array Value) (below : List Frame) (meth : Method) (c : Code), Cx p l s m args meth c bytes maxL ret1 y.cls G A → (∀ x ∈ c.exceptionTable.toList, False) → J p l e (rmL k0 mc ms) s m args below meth c maxL G A (vx_MQ below (QG G A post) (XG G A px) args s mc ms A) 0 0 0 loc [] μ) :
    vx_Met l y (.code y bytes maxL ret1 :: wsA) (rmL k0 mc ms) (PcG G A μ av) (QG G A post) (XG G A px) mc ms A := by
  refine vx_ofW (cc := bytes) (maxL := maxL) (ret := ret1) hy rfl ?_
  intro p e s m args below meth c s₁ B hml hout hv
  obtain ⟨rfl, hSK, hB, hA⟩ := hv
  have hts := atoms_spec (ws := .code y bytes maxL ret1 :: wsA) B.pre
  have hl := lv_entry av (n := maxL) hlen
  rw [hloc] at hl
  have hJ := body p e s m av.toArray below meth c ⟨B.exec, B.bytes, B.returns, hml, findClass_of_methodNamed B.named, fun w hw => hts w (List.mem_cons_of_mem _ hw), B.notSynchronized, hSK, hA⟩ hout
  rw [lg_entry_eq]
  exact hJ s.heap [] _ hB va_S.rf hl
end JC
