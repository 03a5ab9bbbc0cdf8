/-! the law's own rows: wrappers with handlers, calls on a part of the memory, the script, the law's end -/
section JW
variable {p : Program} {l : Launch} {e : Env} {R : Room} {s : State} {m : MethodId} {args : Array Value} {below : List Frame} {meth : Method} {c : Code} {nL : Nat} {G : gG} {A : Nat → Prop} {Q : State → Prop} {cells slots pc pc' : Nat} {loc loc' : List (Nat × Value)} {rest st : List Value} {μ : Mm} {cc : ByteArray} {ret : Option FieldType} {own : String}
variable {post : Option Value → Mm → Prop} {px : String → Mm → Prop} {mc ms : Nat}
variable {y : MethodName} {bytes : ByteArray} {maxL k1 mc1 ms1 n index ci b cells' slots' : Nat} {ret1 : Option FieldType} {As : List Value} {C : String} {T : u_T} {N : Nat} {fs : List Value} {hh : List (Nat × Nat × Nat × Nat)}
theorem met_JW {k0 : Nat} {av : List Value} (hy : plainName y.cls = true) (hlen : (lg_sl av).length ≤ maxL) (hloc : lv_args 0 av = loc)
    (body : ∀ (p : Program) (e : Env) (s : State) (m : MethodId) (args : Array Value) (below : List Frame) (meth : Method) (c : Code), Cx p l s m args meth c bytes maxL ret1 y.cls G A → c.exceptionTable.toList = tableOf hh → J p l e (rmL k0 mc ms) s m args below meth c maxL G A (MQ below (QG G A post) args s mc ms A) 0 0 0 loc [] μ) :
    Met l y (.codeWith y bytes maxL ret1 hh :: wsA) (rmL k0 mc ms) (PcG G A μ av) (QG G A post) mc ms A := by
  refine MetFree.of_bodyS (code := bytes) (maxLocals := maxL) (ret := ret1) hy ?_ ?_
  · intro args s m h hn
    obtain ⟨m9, meth, c, hn9, h1, h2, h3, h4, -, h5, h6, -⟩ := Cond.codeWith_spec (atoms_spec (ws := .codeWith y bytes maxL ret1 hh :: wsA) h _ List.mem_cons_self)
    cases hn.symm.trans hn9
    exact ⟨meth, c, h1, h2, h3, h4, h5, h6⟩
  · intro p e s m args below meth c s₁ B hml hP _
    have hh0 : s₁.heap = s.heap := by rw [B.state]; rfl
    obtain ⟨rfl, hSK, hB, hA⟩ := hP
    have hts := atoms_spec (ws := .codeWith y bytes maxL ret1 hh :: wsA) B.pre
    have hl := lv_entry av (n := maxL) hlen
    rw [hloc] at hl
    have hJ := body p e s m av.toArray below meth c ⟨B.exec, B.bytes, B.returns, hml, findClass_of_methodNamed B.named, fun w hw => hts w (List.mem_cons_of_mem _ hw), B.notSynchronized, hSK, hA⟩ (vx_table (x := y) B (hts _ List.mem_cons_self))
    have K : W p l e (headSpec (.codeWith y bytes maxL ret1 hh :: wsA) (rmL k0 mc ms)).room s m av.toArray below meth c s.heap [] 0 0 (MQ below (QG G A post) av.toArray s mc ms A) (entryFrame m av.toArray maxL) := by
      rw [lg_entry_eq]
      exact hJ s.heap [] _ hB va_S.rf hl
    obtain ⟨t, a1, o, b1, b2, b3⟩ := K s₁ hh0 (Stand.of_body B)
    exact ⟨t, o, a1, b1, b2, ⟨b3.1, b3.2⟩⟩
theorem j_tryVi {post1 : Int32 → Mm → Prop} (X : Cx p l s m args meth c cc nL ret RL G A) (htab : c.exceptionTable.toList = tableOf hh) (hM : vx_Met l y (.code y bytes maxL ret1 :: wsA) (rmL k1 mc1 ms1) (PcG G A μ (.ref b :: As)) (QG G A (pI post1)) (XG G A px) mc1 ms1 A) (hT : GoodIn wsA (wsV RL index C y (.code y bytes maxL ret1 :: wsA)))
    (hd : y.cls = C ∧ y.cls ≠ "java/lang/invoke/MethodHandle" ∧ y.cls ≠ "java/lang/invoke/VarHandle" ∧ (parseMethodDescriptor y.desc).map (fun d => d.parameters.length) = some n) (hR : k1 + 6 + 1 ≤ R.frames ∧ 8 + (maxL + 11) + (40 * k1 + 120) ≤ R.locals) (hm : μ b = some (.inl (ci, fs))) (hc : vwCl[ci]? = some (C, T, N))
    (hn : As.length = n) (hst : st = As.reverse ++ .ref b :: rest) (hW : (rest.map fun v => v.category).sum ≤ 8) (hdg : decode cc pc = .ok (.invokevirtual index, 3)) (hpc : pc + 3 = pc') (hf : cells + mc1 ≤ R.cells ∧ slots + ms1 ≤ R.slots) (hce : cells + mc1 = cells') (hse : slots + ms1 = slots')
    (kx : ∀ E μ', px E μ' → E ∈ exN ∧ ∃ (pre : List ExceptionTableEntry) (x : ExceptionTableEntry) (suf : List ExceptionTableEntry), tableOf hh = pre ++ x :: suf ∧ (∀ z ∈ pre, z.catchType ≠ 0 ∧ ∃ nm ∈ exN, E ≠ nm ∧ Cond.classLink RL z.catchType nm ∈ wsA) ∧ covers x pc = true ∧ x.catchType ≠ 0 ∧ Cond.classLink RL x.catchType E ∈ wsA ∧ ∀ q : Nat, J p l e R s m args below meth c nL G A Q cells' slots' x.handlerPc loc [.ref q] μ')
    (k : ∀ r μ', post1 r μ' → J p l e R s m args below meth c nL G A Q cells' slots' pc' loc (.int r :: rest) μ') : J p l e R s m args below meth c nL G A Q cells slots pc loc st μ := by
  subst hst; subst hpc; subst hce; subst hse
  intro H locs ls hB hS hl
  obtain ⟨hx, hb, hr, hml, hown, hts, hlk, hSK, hA⟩ := X
  refine run_gox (vx_runV (As := As) (rest := rest) ⟨hx, hb, hml, hown, hts⟩ hM (cwV n hts hT rfl rfl rfl hd hR) ⟨PcG.blind, va_recv (q0 := 0) (fs := fs) hSK.1 (hB.one hm) hc rfl, pre_V hSK hA hB hS⟩ rfl hn hl.1 rfl (lv_room hW) hdg hf) hS (fun E ce q9 μ' H1 locs1 hp hB1 hS1 g1 g2 g3 => ?_) (fun v μ' H1 locs1 hp hB1 hS1 => ?_)
  · obtain ⟨hE, pre, x, suf, e1, hpass, hcov, h0, hlk2, kk⟩ := kx E μ' hp
    exact vx_catch hown pre x suf (htab.trans e1) (fun z hz => by obtain ⟨a1, nm, a2, a3, a4⟩ := hpass z hz; exact Or.inr ⟨a1, nm, hts _ a4, hSK.2.2.2.2.2.1 E hE nm a2 a3⟩) hcov h0 (hts _ hlk2) (va_Nw.use rfl (hSK.2.2.2.2.1 E hE)) g1 g2 g3 (kk q9 H1 locs1 ls hB1 hS1 hl)
  · obtain ⟨r9, rfl, hp⟩ := hp
    exact k r9 μ' hp H1 locs1 ls hB1 hS1 hl
/-! two memories side by side -/
def joinM (μ1 μ2 : Mm) : Mm := fun a => match μ1 a with
  | some e => some e
  | none => μ2 a
def disM (μ1 μ2 : Mm) : Prop := ∀ a, μ1 a ≠ none → μ2 a = none
theorem join_1 {μ1 μ2 : Mm} {a : Nat} {e : En} (h : μ1 a = some e) : joinM μ1 μ2 a = some e := by simp [joinM, h]
theorem join_2 {μ1 μ2 : Mm} (hd : disM μ1 μ2) {a : Nat} {e : En} (h : μ2 a = some e) : joinM μ1 μ2 a = some e := by
  cases h1 : μ1 a with
  | none => simp [joinM, h1, h]
  | some e1 => have := hd a (by rw [h1]; simp); rw [h] at this; cases this
theorem join_c {μ1 μ2 : Mm} (hd : disM μ1 μ2) : joinM μ1 μ2 = joinM μ2 μ1 := by
  funext a
  cases h1 : μ1 a with
  | none =>
    cases h2 : μ2 a with
    | none => simp [joinM, h1, h2]
    | some e2 => simp [joinM, h1, h2]
  | some e1 => have h2 := hd a (by rw [h1]; simp); simp [joinM, h1, h2]
theorem disM.symm {μ1 μ2 : Mm} (hd : disM μ1 μ2) : disM μ2 μ1 := fun a h => by
  cases h1 : μ1 a with
  | none => rfl
  | some e => exact absurd (hd a (by rw [h1]; simp)) h
theorem SK.narrow {A B : Nat → Prop} {U : State} {H : Heap} (h : SK G A U H) (hAB : ∀ q, B q → A q) : SK G B U H := by
  obtain ⟨h1, h2, h3, h4, h5⟩ := h
  exact ⟨h1, fun k hk => (h2 k hk).narrow hAB, h3.narrow hAB, h4.narrow hAB, h5⟩
def aOf (μ1 : Mm) (H : Heap) : Nat → Prop := fun q => μ1 q ≠ none ∨ H.size ≤ q
theorem frame_go {μ1 μ2 : Mm} {H : Heap} {locs : List Loc} {ls : Array Slot} {st0 : List Value} {a : Array Value} {post1 : Option Value → Mm → Prop} (hd : disM μ1 μ2) (hB : BM G A (joinM μ1 μ2) H) (hA : ∀ q, s.heap.size ≤ q → A q) (hS : va_S A s.heap H locs)
    (hr : va_Run p l e R s m args below meth c H locs cells slots mc1 ms1 (F0 m pc ls st0) rest (QG G (aOf μ1 H) post1 a) (aOf μ1 H))
    (kk : ∀ (v : Option Value) (μ' : Mm) (H1 : Heap) (locs1 : List Loc), disM μ' μ2 → post1 v μ' → BM G A (joinM μ' μ2) H1 → va_S A s.heap H1 locs1 → W p l e R s m args below meth c H1 locs1 (cells + mc1) (slots + ms1) Q (F0 m (pc + 3) ls (v.toList ++ rest))) : W p l e R s m args below meth c H locs cells slots Q (F0 m pc ls st0) := by
  have hA1 : ∀ q, aOf μ1 H q → A q := fun q h => by
    rcases h with h | h
    · cases h1 : μ1 q with
      | none => exact absurd h1 h
      | some e1 => exact (hB q e1 (join_1 h1)).2
    · exact hA q (Nat.le_trans hS.1 h)
  intro T hT X
  obtain ⟨v, st₀, t, T', L, h0, X', hL, e1, e2, ⟨⟨v', μ', hv, hp, hb⟩, hF⟩, st⟩ := hr T hT X
  cases hv
  obtain ⟨k1, k2, k3⟩ := vx_keep h0 e1 hS (fun q _ h => hA1 q h) (fun q h => hA1 q h) hL hF
  have hdis : disM μ' μ2 := fun q hq => by
    cases h1 : μ' q with
    | none => exact absurd h1 hq
    | some e1 =>
      rcases (hb q e1 h1).2 with h | h
      · exact hd q h
      · cases h2 : μ2 q with
        | none => rfl
        | some e3 => exact absurd (hB.lt (join_2 hd h2)) (by omega)
  have hB1 : BM G A (joinM μ' μ2) T'.heap := fun q e1' hq => by
    cases h1 : μ' q with
    | some e3 =>
      rw [join_1 h1] at hq
      cases hq
      rw [e1]
      exact ⟨(hb q _ h1).1, hA1 q (hb q _ h1).2⟩
    | none =>
      have h2 : μ2 q = some e1' := by simpa [joinM, h1] using hq
      have h3 := hB q e1' (join_2 hd h2)
      have hlt := hB.lt (join_2 hd h2)
      refine ⟨h3.1.kept (k2 q hlt (fun z => ?_)), h3.2⟩
      rcases z with z | z
      · rw [hd q z] at h2; cases h2
      · omega
  obtain ⟨t2, a1, b1⟩ := kk _ μ' T'.heap (locs ++ L) hdis hp hB1 k3 T' rfl X'
  exact ⟨t2, st t2 a1, b1⟩
theorem pre_F {μ1 μ2 : Mm} {H : Heap} {locs : List Loc} (hB : BM G A (joinM μ1 μ2) H) (hSK : SK G A s s.heap) (hA : ∀ q, s.heap.size ≤ q → A q) (hS : va_S A s.heap H locs) {av : List Value} : ∀ U : State, U.heap = H → s.WarmedH U.vm → PcG G (aOf μ1 H) μ1 av av.toArray U := fun U hU hW => by
  have hA1 : ∀ q, aOf μ1 H q → A q := fun q h => by
    rcases h with h | h
    · cases h1 : μ1 q with
      | none => exact absurd h1 h
      | some e1 => exact (hB q e1 (join_1 h1)).2
    · exact hA q (Nat.le_trans hS.1 h)
  exact ⟨rfl, (SK.next hSK hS hU hW).narrow hA1, fun a e1 ha => ⟨by rw [hU]; exact (hB a e1 (join_1 ha)).1, Or.inl (by rw [ha]; simp)⟩, fun q hq => Or.inr (by rw [← hU]; exact hq)⟩
theorem j_lawS {μ1 μ2 : Mm} {post1 : Int32 → Mm → Prop} (X : Cx p l s m args meth c cc nL ret own G A) (hd0 : disM μ1 μ2) (hM : ∀ A1, Met l y (.codeWith y bytes maxL ret1 hh :: wsA) (rmL k1 mc1 ms1) (PcG G A1 μ1 As) (QG G A1 (pI post1)) mc1 ms1 A1) (hT : GoodIn wsA (va_wsS own index y (.codeWith y bytes maxL ret1 hh :: wsA)))
    (hd : y.cls ≠ "java/lang/invoke/MethodHandle" ∧ y.cls ≠ "java/lang/invoke/VarHandle" ∧ (parseMethodDescriptor y.desc).map (fun d => d.parameters.length) = some n) (hR : k1 + 6 + 1 ≤ R.frames ∧ 8 + (maxL + 11) + (40 * k1 + 120) ≤ R.locals)
    (hn : As.length = n) (hst : st = As.reverse ++ rest) (hW : (rest.map fun v => v.category).sum ≤ 8) (hdg : decode cc pc = .ok (.invokestatic index, 3)) (hpc : pc + 3 = pc') (hf : cells + mc1 ≤ R.cells ∧ slots + ms1 ≤ R.slots)
    (k : ∀ r μ', disM μ' μ2 → post1 r μ' → J p l e R s m args below meth c nL G A Q (cells + mc1) (slots + ms1) pc' loc (.int r :: rest) (joinM μ' μ2)) : J p l e R s m args below meth c nL G A Q cells slots pc loc st (joinM μ1 μ2) := by
  subst hst; subst hpc
  intro H locs ls hB hS hl
  obtain ⟨hx, hb, hr, hml, hown, hts, hlk, hSK, hA⟩ := X
  refine frame_go hd0 hB hA hS (vx_runSW (As := As) (rest := rest) ⟨hx, hb, hml, hown, hts⟩ (hM _) (vx_cwSW n hts hT rfl rfl rfl hd hR) ⟨PcG.blind, pre_F hB hSK hA hS⟩ rfl hn hl.1 rfl (lv_room hW) hdg hf) (fun v μ' H1 locs1 hdi hp hB1 hS1 => ?_)
  obtain ⟨r9, rfl, hp⟩ := hp
  exact k r9 μ' hdi hp H1 locs1 ls hB1 hS1 hl
theorem j_lawV {μ1 μ2 : Mm} {post1 : Int32 → Mm → Prop} (X : Cx p l s m args meth c cc nL ret own G A) (hd0 : disM μ1 μ2) (hM : ∀ A1, Met l y (.code y bytes maxL ret1 :: wsA) (rmL k1 mc1 ms1) (PcG G A1 μ1 (.ref b :: As)) (QG G A1 (pI post1)) mc1 ms1 A1) (hT : GoodIn wsA (wsV own index C y (.code y bytes maxL ret1 :: wsA)))
    (hd : y.cls = C ∧ y.cls ≠ "java/lang/invoke/MethodHandle" ∧ y.cls ≠ "java/lang/invoke/VarHandle" ∧ (parseMethodDescriptor y.desc).map (fun d => d.parameters.length) = some n) (hR : k1 + 6 + 1 ≤ R.frames ∧ 8 + (maxL + 11) + (40 * k1 + 120) ≤ R.locals) (hm : μ1 b = some (.inl (ci, fs))) (hc : vwCl[ci]? = some (C, T, N))
    (hn : As.length = n) (hst : st = As.reverse ++ .ref b :: rest) (hW : (rest.map fun v => v.category).sum ≤ 8) (hdg : decode cc pc = .ok (.invokevirtual index, 3)) (hpc : pc + 3 = pc') (hf : cells + mc1 ≤ R.cells ∧ slots + ms1 ≤ R.slots)
    (k : ∀ r μ', disM μ' μ2 → post1 r μ' → J p l e R s m args below meth c nL G A Q (cells + mc1) (slots + ms1) pc' loc (.int r :: rest) (joinM μ' μ2)) : J p l e R s m args below meth c nL G A Q cells slots pc loc st (joinM μ1 μ2) := by
  subst hst; subst hpc
  intro H locs ls hB hS hl
  obtain ⟨hx, hb, hr, hml, hown, hts, hlk, hSK, hA⟩ := X
  have hB1 : BM G (aOf μ1 H) μ1 H := fun a e1 ha => ⟨(hB a e1 (join_1 ha)).1, Or.inl (by rw [ha]; simp)⟩
  refine frame_go hd0 hB hA hS (va_runV (As := As) (rest := rest) ⟨hx, hb, hml, hown, hts⟩ (hM _) (cwV n hts hT rfl rfl rfl hd hR) ⟨PcG.blind, va_recv (q0 := 0) (fs := fs) hSK.1 (hB1.one hm) hc rfl, pre_F hB hSK hA hS⟩ rfl hn hl.1 rfl (lv_room hW) hdg hf) (fun v μ' H1 locs1 hdi hp hB1 hS1 => ?_)
  obtain ⟨r9, rfl, hp⟩ := hp
  exact k r9 μ' hdi hp H1 locs1 ls hB1 hS1 hl
/-- .. on the second part -/
theorem j_lawV2 {μ1 μ2 : Mm} {post1 : Int32 → Mm → Prop} (X : Cx p l s m args meth c cc nL ret own G A) (hd0 : disM μ1 μ2) (hM : ∀ A1, Met l y (.code y bytes maxL ret1 :: wsA) (rmL k1 mc1 ms1) (PcG G A1 μ2 (.ref b :: As)) (QG G A1 (pI post1)) mc1 ms1 A1) (hT : GoodIn wsA (wsV own index C y (.code y bytes maxL ret1 :: wsA)))
    (hd : y.cls = C ∧ y.cls ≠ "java/lang/invoke/MethodHandle" ∧ y.cls ≠ "java/lang/invoke/VarHandle" ∧ (parseMethodDescriptor y.desc).map (fun d => d.parameters.length) = some n) (hR : k1 + 6 + 1 ≤ R.frames ∧ 8 + (maxL + 11) + (40 * k1 + 120) ≤ R.locals) (hm : μ2 b = some (.inl (ci, fs))) (hc : vwCl[ci]? = some (C, T, N))
    (hn : As.length = n) (hst : st = As.reverse ++ .ref b :: rest) (hW : (rest.map fun v => v.category).sum ≤ 8) (hdg : decode cc pc = .ok (.invokevirtual index, 3)) (hpc : pc + 3 = pc') (hf : cells + mc1 ≤ R.cells ∧ slots + ms1 ≤ R.slots)
    (k : ∀ r μ', disM μ1 μ' → post1 r μ' → J p l e R s m args below meth c nL G A Q (cells + mc1) (slots + ms1) pc' loc (.int r :: rest) (joinM μ1 μ')) : J p l e R s m args below meth c nL G A Q cells slots pc loc st (joinM μ1 μ2) := by
  rw [join_c hd0]
  refine j_lawV X hd0.symm hM hT hd hR hm hc hn hst hW hdg hpc hf (fun r μ' hdi hp => ?_)
  rw [← join_c hdi.symm]
  exact k r μ' hdi.symm hp
variable {b0 L : Nat} {xs : Nat → Int32}
theorem j_sld (X : Cx p l s m args meth c cc nL ret own G A) (hX : va_X b0 L xs s s.heap) (hbl : b0 < s.heap.size) (hbA : ¬ A b0) {i : Int32} (hi : vp_in i L) (hdg : decode cc pc = .ok (.iaload, 1)) (hn : pc + 1 = pc') (k : J p l e R s m args below meth c nL G A Q cells slots pc' loc (.int (xs i.toNatClampNeg) :: rest) μ) : J p l e R s m args below meth c nL G A Q cells slots pc loc (.int i :: .ref b0 :: rest) μ := by
  subst hn
  intro H locs ls hB hS hl
  exact va_sld X.1 X.2.1 hX hbl hbA hS hi hdg (k H locs ls hB hS hl)
theorem j_slen (X : Cx p l s m args meth c cc nL ret own G A) (hX : va_X b0 L xs s s.heap) (hbl : b0 < s.heap.size) (hbA : ¬ A b0) (hdg : decode cc pc = .ok (.arraylength, 1)) (hn : pc + 1 = pc') (k : J p l e R s m args below meth c nL G A Q cells slots pc' loc (.int (nI L) :: rest) μ) : J p l e R s m args below meth c nL G A Q cells slots pc loc (.ref b0 :: rest) μ := by
  subst hn
  intro H locs ls hB hS hl
  exact va_slen X.1 X.2.1 hX hbl hbA hS hdg (k H locs ls hB hS hl)
theorem j_tswOut (X : Cx p l s m args meth c cc nL ret own G A) {dflt lo hi : Int} {offs : Array Int} {len : Nat} {x : Int32} {tgt : Nat} (hdg : decode cc pc = .ok (.tableswitch dflt lo hi offs, len)) (h : x.toInt < lo ∨ hi < x.toInt) (ht : (pc : Int) + dflt = (tgt : Int)) (k : J p l e R s m args below meth c nL G A Q cells slots tgt loc rest μ) : J p l e R s m args below meth c nL G A Q cells slots pc loc (.int x :: rest) μ := fun H locs ls hB hS hl => lv_tableOut X.1 X.2.1 hdg h ht (k H locs ls hB hS hl)
theorem j_tswIn (X : Cx p l s m args meth c cc nL ret own G A) {dflt lo hi : Int} {offs : Array Int} {len : Nat} {x : Int32} {off : Int} {tgt : Nat} (hdg : decode cc pc = .ok (.tableswitch dflt lo hi offs, len)) (h1 : ¬ x.toInt < lo) (h2 : ¬ hi < x.toInt) (ho : offs[(x.toInt - lo).toNat]? = some off) (ht : (pc : Int) + off = (tgt : Int)) (k : J p l e R s m args below meth c nL G A Q cells slots tgt loc rest μ) : J p l e R s m args below meth c nL G A Q cells slots pc loc (.int x :: rest) μ := fun H locs ls hB hS hl => lv_tableIn X.1 X.2.1 hdg h1 h2 ho ht (k H locs ls hB hS hl)
theorem j_lcmpEq (X : Cx p l s m args meth c cc nL ret own G A) {x z : Int64} (h : x = z) (hdg : decode cc pc = .ok (.lcmp, 1)) (hn : pc + 1 = pc') (k : J p l e R s m args below meth c nL G A Q cells slots pc' loc (.int 0 :: rest) μ) : J p l e R s m args below meth c nL G A Q cells slots pc loc (.long z :: .long x :: rest) μ := by
  subst hn; subst h
  intro H locs ls hB hS hl
  exact W.lcmp X.1 X.2.1 hdg (by
    have e0 : lg_cmp x x = 0 := by
      have h1 : ¬ x < x := by rw [Int64.lt_iff_toInt_lt]; omega
      simp [lg_cmp, h1]
    rw [e0]; exact k H locs ls hB hS hl)
theorem j_ldc (X : Cx p l s m args meth c cc nL ret own G A) {v : Int32} (hc : Cond.constant own index v ∈ wsA) (hdg : decode cc pc = .ok (.ldc index, 2)) (hn : pc + 2 = pc') (k : J p l e R s m args below meth c nL G A Q cells slots pc' loc (.int v :: rest) μ) : J p l e R s m args below meth c nL G A Q cells slots pc loc rest μ := by
  subst hn
  intro H locs ls hB hS hl
  obtain ⟨hx, hb, hr, hml, hown, hts, hlk, hSK, hA⟩ := X
  exact lv_ldc hx hb hown (hts _ hc) hdg (k H locs ls hB hS hl)
theorem j_idiv (X : Cx p l s m args meth c cc nL ret own G A) {x y : Int32} (h0 : ¬ y = 0) (hdg : decode cc pc = .ok (.idiv, 1)) (hn : pc + 1 = pc') (k : J p l e R s m args below meth c nL G A Q cells slots pc' loc (.int (x / y) :: rest) μ) : J p l e R s m args below meth c nL G A Q cells slots pc loc (.int y :: .int x :: rest) μ := by
  subst hn
  intro H locs ls hB hS hl
  exact lv_idiv X.1 X.2.1 hdg h0 (k H locs ls hB hS hl)
theorem j_callSWi {post1 : Int32 → Mm → Prop} (X : Cx p l s m args meth c cc nL ret own G A) (hM : Met l y (.codeWith y bytes maxL ret1 hh :: wsA) (rmL k1 mc1 ms1) (PcG G A μ As) (QG G A (pI post1)) mc1 ms1 A) (hT : GoodIn wsA (va_wsS own index y (.codeWith y bytes maxL ret1 hh :: wsA)))
    (hd : y.cls ≠ "java/lang/invoke/MethodHandle" ∧ y.cls ≠ "java/lang/invoke/VarHandle" ∧ (parseMethodDescriptor y.desc).map (fun d => d.parameters.length) = some n) (hR : k1 + 6 + 1 ≤ R.frames ∧ 8 + (maxL + 11) + (40 * k1 + 120) ≤ R.locals)
    (hn : As.length = n) (hst : st = As.reverse ++ rest) (hW : (rest.map fun v => v.category).sum ≤ 8) (hdg : decode cc pc = .ok (.invokestatic index, 3)) (hpc : pc + 3 = pc') (hf : cells + mc1 ≤ R.cells ∧ slots + ms1 ≤ R.slots) (hce : cells + mc1 = cells') (hse : slots + ms1 = slots')
    (k : ∀ r μ', post1 r μ' → J p l e R s m args below meth c nL G A Q cells' slots' pc' loc (.int r :: rest) μ') : J p l e R s m args below meth c nL G A Q cells slots pc loc st μ := by
  subst hst; subst hpc; subst hce; subst hse
  intro H locs ls hB hS hl
  obtain ⟨hx, hb, hr, hml, hown, hts, hlk, hSK, hA⟩ := X
  refine run_go (vx_runSW (As := As) (rest := rest) ⟨hx, hb, hml, hown, hts⟩ hM (vx_cwSW n hts hT rfl rfl rfl hd hR) ⟨PcG.blind, pre_V hSK hA hB hS⟩ rfl hn hl.1 rfl (lv_room hW) hdg hf) hS (fun v μ' H1 locs1 hp hB1 hS1 => ?_)
  obtain ⟨r9, rfl, hp⟩ := hp
  exact k r9 μ' hp H1 locs1 ls hB1 hS1 hl
theorem j_callSi {post1 : Int32 → Mm → Prop} (X : Cx p l s m args meth c cc nL ret own G A) (hM : Met l y (.code y bytes maxL ret1 :: wsA) (rmL k1 mc1 ms1) (PcG G A μ As) (QG G A (pI post1)) mc1 ms1 A) (hT : GoodIn wsA (va_wsS own index y (.code y bytes maxL ret1 :: wsA)))
    (hd : y.cls ≠ "java/lang/invoke/MethodHandle" ∧ y.cls ≠ "java/lang/invoke/VarHandle" ∧ (parseMethodDescriptor y.desc).map (fun d => d.parameters.length) = some n) (hR : k1 + 6 + 1 ≤ R.frames ∧ 8 + (maxL + 11) + (40 * k1 + 120) ≤ R.locals)
    (hn : As.length = n) (hst : st = As.reverse ++ rest) (hW : (rest.map fun v => v.category).sum ≤ 8) (hdg : decode cc pc = .ok (.invokestatic index, 3)) (hpc : pc + 3 = pc') (hf : cells + mc1 ≤ R.cells ∧ slots + ms1 ≤ R.slots) (hce : cells + mc1 = cells') (hse : slots + ms1 = slots')
    (k : ∀ r μ', post1 r μ' → J p l e R s m args below meth c nL G A Q cells' slots' pc' loc (.int r :: rest) μ') : J p l e R s m args below meth c nL G A Q cells slots pc loc st μ :=
  j_callS X hM hT hd hR hn hst hW hdg hpc hf hce hse (fun v μ9 hv => by obtain ⟨r9, rfl, hv⟩ := hv; exact k r9 μ9 hv)
/-- static calls of plain methods of the law on a part of the memory -/
theorem j_lawC {μ1 μ2 : Mm} {post1 : Int32 → Mm → Prop} (X : Cx p l s m args meth c cc nL ret own G A) (hd0 : disM μ1 μ2) (hM : ∀ A1, Met l y (.code y bytes maxL ret1 :: wsA) (rmL k1 mc1 ms1) (PcG G A1 μ1 As) (QG G A1 (pI post1)) mc1 ms1 A1) (hT : GoodIn wsA (va_wsS own index y (.code y bytes maxL ret1 :: wsA)))
    (hd : y.cls ≠ "java/lang/invoke/MethodHandle" ∧ y.cls ≠ "java/lang/invoke/VarHandle" ∧ (parseMethodDescriptor y.desc).map (fun d => d.parameters.length) = some n) (hR : k1 + 6 + 1 ≤ R.frames ∧ 8 + (maxL + 11) + (40 * k1 + 120) ≤ R.locals)
    (hn : As.length = n) (hst : st = As.reverse ++ rest) (hW : (rest.map fun v => v.category).sum ≤ 8) (hdg : decode cc pc = .ok (.invokestatic index, 3)) (hpc : pc + 3 = pc') (hf : cells + mc1 ≤ R.cells ∧ slots + ms1 ≤ R.slots)
    (k : ∀ r μ', disM μ' μ2 → post1 r μ' → J p l e R s m args below meth c nL G A Q (cells + mc1) (slots + ms1) pc' loc (.int r :: rest) (joinM μ' μ2)) : J p l e R s m args below meth c nL G A Q cells slots pc loc st (joinM μ1 μ2) := by
  subst hst; subst hpc
  intro H locs ls hB hS hl
  obtain ⟨hx, hb, hr, hml, hown, hts, hlk, hSK, hA⟩ := X
  refine frame_go hd0 hB hA hS (va_runS (As := As) (rest := rest) ⟨hx, hb, hml, hown, hts⟩ (hM _) (va_cwS n hts hT rfl rfl rfl hd hR) ⟨PcG.blind, pre_F hB hSK hA hS⟩ rfl hn hl.1 rfl (lv_room hW) hdg hf) (fun v μ' H1 locs1 hdi hp hB1 hS1 => ?_)
  obtain ⟨r9, rfl, hp⟩ := hp
  exact k r9 μ' hdi hp H1 locs1 ls hB1 hS1 hl
theorem j_lawC2 {μ1 μ2 : Mm} {post1 : Int32 → Mm → Prop} (X : Cx p l s m args meth c cc nL ret own G A) (hd0 : disM μ1 μ2) (hM : ∀ A1, Met l y (.code y bytes maxL ret1 :: wsA) (rmL k1 mc1 ms1) (PcG G A1 μ2 As) (QG G A1 (pI post1)) mc1 ms1 A1) (hT : GoodIn wsA (va_wsS own index y (.code y bytes maxL ret1 :: wsA)))
    (hd : y.cls ≠ "java/lang/invoke/MethodHandle" ∧ y.cls ≠ "java/lang/invoke/VarHandle" ∧ (parseMethodDescriptor y.desc).map (fun d => d.parameters.length) = some n) (hR : k1 + 6 + 1 ≤ R.frames ∧ 8 + (maxL + 11) + (40 * k1 + 120) ≤ R.locals)
    (hn : As.length = n) (hst : st = As.reverse ++ rest) (hW : (rest.map fun v => v.category).sum ≤ 8) (hdg : decode cc pc = .ok (.invokestatic index, 3)) (hpc : pc + 3 = pc') (hf : cells + mc1 ≤ R.cells ∧ slots + ms1 ≤ R.slots)
    (k : ∀ r μ', disM μ1 μ' → post1 r μ' → J p l e R s m args below meth c nL G A Q (cells + mc1) (slots + ms1) pc' loc (.int r :: rest) (joinM μ1 μ')) : J p l e R s m args below meth c nL G A Q cells slots pc loc st (joinM μ1 μ2) := by
  rw [join_c hd0]
  refine j_lawC X hd0.symm hM hT hd hR hn hst hW hdg hpc hf (fun r μ' hdi hp => ?_)
  rw [← join_c hdi.symm]
  exact k r μ' hdi.symm hp
theorem j_lawS2 {μ1 μ2 : Mm} {post1 : Int32 → Mm → Prop} (X : Cx p l s m args meth c cc nL ret own G A) (hd0 : disM μ1 μ2) (hM : ∀ A1, Met l y (.codeWith y bytes maxL ret1 hh :: wsA) (rmL k1 mc1 ms1) (PcG G A1 μ2 As) (QG G A1 (pI post1)) mc1 ms1 A1) (hT : GoodIn wsA (va_wsS own index y (.codeWith y bytes maxL ret1 hh :: wsA)))
    (hd : y.cls ≠ "java/lang/invoke/MethodHandle" ∧ y.cls ≠ "java/lang/invoke/VarHandle" ∧ (parseMethodDescriptor y.desc).map (fun d => d.parameters.length) = some n) (hR : k1 + 6 + 1 ≤ R.frames ∧ 8 + (maxL + 11) + (40 * k1 + 120) ≤ R.locals)
    (hn : As.length = n) (hst : st = As.reverse ++ rest) (hW : (rest.map fun v => v.category).sum ≤ 8) (hdg : decode cc pc = .ok (.invokestatic index, 3)) (hpc : pc + 3 = pc') (hf : cells + mc1 ≤ R.cells ∧ slots + ms1 ≤ R.slots)
    (k : ∀ r μ', disM μ1 μ' → post1 r μ' → J p l e R s m args below meth c nL G A Q (cells + mc1) (slots + ms1) pc' loc (.int r :: rest) (joinM μ1 μ')) : J p l e R s m args below meth c nL G A Q cells slots pc loc st (joinM μ1 μ2) := by
  rw [join_c hd0]
  refine j_lawS X hd0.symm hM hT hd hR hn hst hW hdg hpc hf (fun r μ' hdi hp => ?_)
  rw [← join_c hdi.symm]
  exact k r μ' hdi.symm hp
/-- less is known of the memory -/
theorem j_less {μ1 : Mm} (h : ∀ a e, μ1 a = some e → μ a = some e) (k : J p l e R s m args below meth c nL G A Q cells slots pc loc st μ1) : J p l e R s m args below meth c nL G A Q cells slots pc loc st μ :=
  fun H locs ls hB hS hl => k H locs ls (fun a e he => hB a e (h a e he)) hS hl
theorem join_put2 {μ1 μ2 : Mm} (hd : disM μ1 μ2) {a : Nat} {e0 e1 : En} (h : μ2 a = some e0) : ups (joinM μ1 μ2) a e1 = joinM μ1 (ups μ2 a e1) ∧ disM μ1 (ups μ2 a e1) := by
  have h1 : μ1 a = none := by
    cases h1 : μ1 a with
    | none => rfl
    | some e => have := hd a (by rw [h1]; simp); rw [h] at this; cases this
  refine ⟨funext fun b => ?_, fun b hb => ?_⟩
  · by_cases hab : b = a
    · subst hab; simp [ups, joinM, h1]
    · simp [ups, joinM, hab]
  · have hab : b ≠ a := fun z => by rw [z, h1] at hb; exact hb rfl
    rw [ups_n hab]; exact hd b hb
theorem join_new2 {μ1 μ2 : Mm} (hd : disM μ1 μ2) {a : Nat} {e1 : En} (h : joinM μ1 μ2 a = none) : ups (joinM μ1 μ2) a e1 = joinM μ1 (ups μ2 a e1) ∧ disM μ1 (ups μ2 a e1) := by
  have h1 : μ1 a = none := by
    cases h1 : μ1 a with
    | none => rfl
    | some e => simp [joinM, h1] at h
  refine ⟨funext fun b => ?_, fun b hb => ?_⟩
  · by_cases hab : b = a
    · subst hab; simp [ups, joinM, h1]
    · simp [ups, joinM, hab]
  · have hab : b ≠ a := fun z => by rw [z, h1] at hb; exact hb rfl
    rw [ups_n hab]; exact hd b hb
theorem sw24 {x : Int32} (h1 : ¬ x.toInt < 0) (h2 : ¬ 23 < x.toInt) : ∃ j, j < 24 ∧ x = nI j := by
  refine ⟨x.toInt.toNat, by omega, Int32.toInt_inj.mp ?_⟩
  rw [nI_toInt (by omega)]; omega
end JW
