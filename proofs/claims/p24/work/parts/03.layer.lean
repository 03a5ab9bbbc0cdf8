/-! MEMORY: what is known of the heap, by a function from addresses to cells; a judgement J of a frame over a memory; a row an instruction -/
abbrev En : Type := (Nat × List Value) ⊕ (Nat × ((Nat → Int32) ⊕ ((Nat → Int64) ⊕ (Nat → Option Nat))))
abbrev Mm : Type := Nat → Option En
abbrev gG : Type := va_G × (ClassId × ClassId × ClassId) × (Nat → Nat)
def toE (G : gG) : En → va_E
  | .inl o => .inr o
  | .inr (n, .inl f) => .inl (G.2.1.1, n, .inl f)
  | .inr (n, .inr (.inl f)) => .inl (G.2.1.2.1, n, .inr (.inl f))
  | .inr (n, .inr (.inr f)) => .inl (G.2.1.2.2, n, .inr (.inr (.inr (.inr f))))
abbrev eO (ci : Nat) (fs : List Value) : En := .inl (ci, fs)
abbrev eI (n : Nat) (f : Nat → Int32) : En := .inr (n, .inl f)
abbrev eL (n : Nat) (f : Nat → Int64) : En := .inr (n, .inr (.inl f))
abbrev eT (n : Nat) (f : Nat → Option Nat) : En := .inr (n, .inr (.inr f))
def ups (μ : Mm) (a : Nat) (e : En) : Mm := fun b => if b = a then some e else μ b
theorem ups_s {μ : Mm} {a : Nat} {e : En} : ups μ a e a = some e := by simp [ups]
theorem ups_n {μ : Mm} {a b : Nat} {e : En} (h : b ≠ a) : ups μ a e b = μ b := by simp [ups, h]
def tysG (G : gG) : List (ClassId × FieldType) := [(G.2.1.1, .int), (G.2.1.1, .int), (G.2.1.2.2, .object "BitNotation$Type")]
def BM (G : gG) (A : Nat → Prop) (μ : Mm) (H : Heap) : Prop := ∀ (a : Nat) (e : En), μ a = some e → va_at G.1 vwCl (a, toE G e) H ∧ A a
theorem BM.one {G : gG} {A : Nat → Prop} {μ : Mm} {H : Heap} (h : BM G A μ H) {a : Nat} {e : En} (ha : μ a = some e) : va_P G.1 vwCl [(a, toE G e)] H := by
  intro k q hk
  cases k with
  | zero => cases hk; exact (h a e ha).1
  | succ k => simp at hk
theorem BM.lt {G : gG} {A : Nat → Prop} {μ : Mm} {H : Heap} (h : BM G A μ H) {a : Nat} {e : En} (ha : μ a = some e) : a < H.size := (h a e ha).1.lt
theorem BM.fresh {G : gG} {A : Nat → Prop} {μ : Mm} {H : Heap} (h : BM G A μ H) {q : Nat} (hq : H.size ≤ q) : μ q = none := by
  cases hm : μ q with
  | none => rfl
  | some e => exact absurd (h.lt hm) (by omega)
theorem BM.put {G : gG} {A : Nat → Prop} {μ : Mm} {H H1 : Heap} (h : BM G A μ H) {a : Nat} {e : En} (hA : A a) (he : va_at G.1 vwCl (a, toE G e) H1) (oq : ∀ q : Nat, q ≠ a → H1[q]? = H[q]?) : BM G A (ups μ a e) H1 := by
  intro b e' hb
  by_cases hab : b = a
  · subst hab
    rw [ups_s] at hb
    cases hb
    exact ⟨he, hA⟩
  · rw [ups_n hab] at hb
    exact ⟨(h b e' hb).1.kept (oq b hab), (h b e' hb).2⟩
theorem BM.add {G : gG} {A : Nat → Prop} {μ : Mm} {H H1 : Heap} (h : BM G A μ H) {a : Nat} {e : En} (hA : A a) (he : va_at G.1 vwCl (a, toE G e) H1) (oq : ∀ q : Nat, q < H.size → H1[q]? = H[q]?) : BM G A (ups μ a e) H1 := by
  intro b e' hb
  by_cases hab : b = a
  · subst hab
    rw [ups_s] at hb
    cases hb
    exact ⟨he, hA⟩
  · rw [ups_n hab] at hb
    exact ⟨(h b e' hb).1.kept (oq b (h.lt hb)), (h b e' hb).2⟩
def kdN : Nat → String
  | 0 => "NUMBER"
  | 1 => "LIST"
  | 2 => "SEQUENCE"
  | _ => "CHOICE"
def exN : List String := ["java/lang/IllegalArgumentException", "java/lang/IllegalStateException", "java/lang/IndexOutOfBoundsException"]
def stN : List (Nat × String) := [(55, "a bound is out of range"), (79, "a size is out of range"), (94, "the draft has all its parts"), (113, "no sequence, or no type from before it"), (118, "the sequence has all its additions"), (126, "a value could be too long"), (134, "the number is out of range"), (137, "the tale is full"), (151, "no such number"), (162, "the tale is no tale of such a value"), (171, "no such bit"), (177, "so many bits can't be left"), (183, "there is a fault in the bits"), (190, "no such type"), (195, "no room for the type, or its values could be too long"), (197, "the draft is empty"), (199, "so many additions can't be known")]
def nsF : List (String × Nat × String × String × String) := [("BitNotation", 164, "BitNotation$Writer", "written", "LBitNotation$Row;"), ("BitNotation", 185, "BitNotation$Reader", "heard", "LBitNotation$Row;"), ("BitNotation$Writer", 38, "BitNotation$Type", "kind", "LBitNotation$Kind;"), ("BitNotation$Reader", 41, "BitNotation$Type", "kind", "LBitNotation$Kind;"), ("BitNotation", 110, "BitNotation$Type", "kind", "LBitNotation$Kind;"), ("BitNotation$Reader", 55, "BitNotation$Type", "least", "I"), ("BitNotation$Writer", 52, "BitNotation$Type", "least", "I"), ("BitNotation$Writer", 55, "BitNotation$Type", "greatest", "I"), ("BitNotation$Reader", 61, "BitNotation$Type", "greatest", "I"), ("BitNotation$Reader", 58, "BitNotation$Type", "width", "I"), ("BitNotation$Writer", 62, "BitNotation$Type", "width", "I"), ("BitNotation$Writer", 72, "BitNotation$Type", "parts", "LBitNotation$TypeRow;"), ("BitNotation$Reader", 74, "BitNotation$Type", "parts", "LBitNotation$TypeRow;"), ("BitNotation$Writer", 89, "BitNotation$Type", "additions", "LBitNotation$TypeRow;"), ("BitNotation$Reader", 92, "BitNotation$Type", "additions", "LBitNotation$TypeRow;"), ("BitNotation", 115, "BitNotation$Type", "additions", "LBitNotation$TypeRow;"), ("BitNotation", 128, "BitNotation$Type", "fewestBits", "I"), ("BitNotation", 131, "BitNotation$Type", "mostBits", "I")]
def nsM : List (String × Nat × MethodName) := [("BitNotation", 30, ⟨"BitNotation$Writer", "<init>", "()V"⟩), ("BitNotation", 37, ⟨"BitNotation$Reader", "<init>", "()V"⟩), ("BitNotation$Type", 31, ⟨"BitNotation", "widthFor", "(I)I"⟩), ("BitNotation$Writer", 109, ⟨"BitNotation", "isOutside", "(III)Z"⟩)]
def dcN : List MethodName := [⟨"java/lang/RuntimeException", "<init>", "(Ljava/lang/String;)V"⟩, ⟨"java/lang/Exception", "<init>", "(Ljava/lang/String;)V"⟩, ⟨"java/lang/Throwable", "<init>", "(Ljava/lang/String;)V"⟩]
/-- what stays: the classes, the array classes, the constants of Kind, what a throw needs -/
def SK (G : gG) (A : Nat → Prop) (U : State) (H : Heap) : Prop :=
  va_K G.1 vwCl (tysG G) U ∧ (∀ k, k < 4 → va_Z "BitNotation$Kind" (kdN k) "LBitNotation$Kind;" (.ref (G.2.2 k)) A U H) ∧
  vx_Zq Bundle.tN "UNASSIGNED_STACK" Bundle.steD A U H ∧ vx_Zq Bundle.tN "SUPPRESSED_SENTINEL" Bundle.listD A U H ∧
  (∀ X ∈ exN, va_Nw (.castable X X) U) ∧ (∀ X ∈ exN, ∀ Y ∈ exN, X ≠ Y → va_Nc X Y U) ∧ (∀ q ∈ stN, ∃ a, vk_R RX6 q.1 q.2 a U) ∧ va_AO "BitNotation$Type" U ∧
  (∀ q ∈ nsF, va_Nw (.fieldLinkNest q.1 q.2.1 q.2.2.1 q.2.2.2.1 q.2.2.2.2 "BitNotation") U) ∧ (∀ q ∈ nsM, va_Nw (.methodLinkNest q.1 q.2.1 q.2.2 "BitNotation") U) ∧ ∀ y ∈ dcN, va_Nw (.declares y) U
theorem SK.next {G : gG} {A : Nat → Prop} {s U : State} {H0 H : Heap} {locs : List Loc} (h : SK G A s H0) (hS : va_S A H0 H locs) (hU : U.heap = H) (hW : s.WarmedH U.vm) : SK G A U U.heap := by
  obtain ⟨h1, h2, h3, h4, h5, h6, h7, h8, h9, h10, h11⟩ := h
  have hq : ∀ a : Nat, a < H0.size → ¬ A a → U.heap[a]? = H0[a]? := fun a ha hA => by rw [hU]; exact hS.2.1 a ha hA
  exact ⟨va_K.moved hW.alike h1, fun k hk => va_Z.moved hW.alike ((h2 k hk).kept hq), vx_Zq.moved hW.alike (h3.kept hq), vx_Zq.moved hW.alike (h4.kept hq), fun X hX => (h5 X hX).warmC hW, fun X hX Y hY n => (h6 X hX Y hY n).moved hW.alike, fun q hq => by obtain ⟨a, ha⟩ := h7 q hq; exact ⟨a, ha.warm hW⟩, h8.moved hW.alike, fun q hq => (h9 q hq).warmF hW, fun q hq => (h10 q hq).warmM hW, fun y hy => va_tabs rfl (rfl : (s.setVm U.vm).vm = U.vm) (by rw [Cond.declares_setVm hW.alike]; exact h11 y hy)⟩
def PcG (G : gG) (A : Nat → Prop) (μ : Mm) (av : List Value) : Array Value → State → Prop := va_Pc av (fun U => SK G A U U.heap ∧ BM G A μ U.heap ∧ ∀ q, U.heap.size ≤ q → A q)
def QG (G : gG) (A : Nat → Prop) (post : Option Value → Mm → Prop) : Array Value → State → Outcome → State → Prop := fun _ st oc t => (∃ (v : Option Value) (μ : Mm), oc = .returned v ∧ post v μ ∧ BM G A μ t.heap) ∧ va_F A st t
def XG (G : gG) (A : Nat → Prop) (px : String → Mm → Prop) : String → State → State → Prop := fun E st t => (∃ μ : Mm, px E μ ∧ BM G A μ t.heap) ∧ va_F A st t
theorem PcG.blind {G : gG} {A : Nat → Prop} {μ : Mm} {av : List Value} : FrameBlind (PcG G A μ av) := by
  intro a U g mk h
  obtain ⟨h1, h2, h3, h4⟩ := h
  exact ⟨h1, SK.next h2 (va_S.rf (A := A)) rfl (State.WarmedH.refl U), h3, h4⟩
/-- posts by the type of the answer -/
def pI (post : Int32 → Mm → Prop) : Option Value → Mm → Prop := fun v μ => ∃ r : Int32, v = some (.int r) ∧ post r μ
def pQ (post : Option Nat → Mm → Prop) : Option Value → Mm → Prop := fun v μ => ∃ r : Option Nat, v = some (va_rf r) ∧ post r μ
def pV (post : Mm → Prop) : Option Value → Mm → Prop := fun v μ => v = none ∧ post μ
/-- the room of a method of level k -/
def rmL (k mc ms : Nat) : Room := { frames := k + 6, cells := mc, slots := ms, locals := 40 * k + 120 }
def Cx (p : Program) (l : Launch) (s : State) (m : MethodId) (args : Array Value) (meth : Method) (c : Code) (cc : ByteArray) (nL : Nat) (ret : Option FieldType) (own : String) (G : gG) (A : Nat → Prop) : Prop :=
  p.tables.exec = Jvm.exec ∧ c.code = cc ∧ meth.sig.returnType = ret ∧ c.maxLocals = nL ∧ s.vm.findClass own = some m.cls ∧ (∀ w ∈ wsA, w.before args s = true) ∧ meth.locks = false ∧ SK G A s s.heap ∧ (∀ q, s.heap.size ≤ q → A q)
def J (p : Program) (l : Launch) (e : Env) (R : Room) (s : State) (m : MethodId) (args : Array Value) (below : List Frame) (meth : Method) (c : Code) (nL : Nat) (G : gG) (A : Nat → Prop) (Q : State → Prop) (cells slots pc : Nat) (loc : List (Nat × Value)) (st : List Value) (μ : Mm) : Prop :=
  ∀ (H : Heap) (locs : List Loc) (ls : Array Slot), BM G A μ H → va_S A s.heap H locs → lv_has ls nL loc → W p l e R s m args below meth c H locs cells slots Q (F0 m pc ls st)
section JR
variable {p : Program} {l : Launch} {e : Env} {R : Room} {s : State} {m : MethodId} {args : Array Value} {below : List Frame} {meth : Method} {c : Code} {nL : Nat} {G : gG} {A : Nat → Prop} {Q : State → Prop} {cells slots pc pc' : Nat} {loc loc' : List (Nat × Value)} {rest : List Value} {μ : Mm} {cc : ByteArray} {ret : Option FieldType} {own : String}
theorem j_iconst (X : Cx p l s m args meth c cc nL ret own G A) {n : Int} {v : Int32} (hv : Int32.ofInt n = v) (hdg : decode cc pc = .ok (.iconst n, 1)) (hn : pc + 1 = pc') (k : J p l e R s m args below meth c nL G A Q cells slots pc' loc (.int v :: rest) μ) : J p l e R s m args below meth c nL G A Q cells slots pc loc (rest) μ := by
  subst hn
  intro H locs ls hB hS hl
  exact lv_iconst X.1 X.2.1 hdg hv (k H locs ls hB hS hl)
theorem j_bipush (X : Cx p l s m args meth c cc nL ret own G A) {n : Int} {v : Int32} (hv : (Int8.ofInt n).toInt32 = v) (hdg : decode cc pc = .ok (.bipush n, 2)) (hn : pc + 2 = pc') (k : J p l e R s m args below meth c nL G A Q cells slots pc' loc (.int v :: rest) μ) : J p l e R s m args below meth c nL G A Q cells slots pc loc (rest) μ := by
  subst hn
  intro H locs ls hB hS hl
  exact lv_bipush X.1 X.2.1 hdg hv (k H locs ls hB hS hl)
theorem j_sipush (X : Cx p l s m args meth c cc nL ret own G A) {n : Int} {v : Int32} (hv : (Int16.ofInt n).toInt32 = v) (hdg : decode cc pc = .ok (.sipush n, 3)) (hn : pc + 3 = pc') (k : J p l e R s m args below meth c nL G A Q cells slots pc' loc (.int v :: rest) μ) : J p l e R s m args below meth c nL G A Q cells slots pc loc (rest) μ := by
  subst hn
  intro H locs ls hB hS hl
  exact lv_sipush X.1 X.2.1 hdg hv (k H locs ls hB hS hl)
theorem j_null (X : Cx p l s m args meth c cc nL ret own G A)  (hdg : decode cc pc = .ok (.aconst_null, 1)) (hn : pc + 1 = pc') (k : J p l e R s m args below meth c nL G A Q cells slots pc' loc (.null :: rest) μ) : J p l e R s m args below meth c nL G A Q cells slots pc loc (rest) μ := by
  subst hn
  intro H locs ls hB hS hl
  exact lv_null X.1 X.2.1 hdg (k H locs ls hB hS hl)
theorem j_iload_n (X : Cx p l s m args meth c cc nL ret own G A) {kk : Fin 4} {i : Nat} {x : Int32} (q : Nat) (hi : (kk : Nat) = i) (hq : loc[q]? = some (i, .int x)) (hdg : decode cc pc = .ok (.iload_n kk, 1)) (hn : pc + 1 = pc') (k : J p l e R s m args below meth c nL G A Q cells slots pc' loc (.int x :: rest) μ) : J p l e R s m args below meth c nL G A Q cells slots pc loc (rest) μ := by
  subst hn
  intro H locs ls hB hS hl
  exact lv_iload_n X.1 X.2.1 hdg hi (lv_at hl q hq) (k H locs ls hB hS hl)
theorem j_iload (X : Cx p l s m args meth c cc nL ret own G A) {i : Nat} {x : Int32} (q : Nat) (hq : loc[q]? = some (i, .int x)) (hdg : decode cc pc = .ok (.iload i, 2)) (hn : pc + 2 = pc') (k : J p l e R s m args below meth c nL G A Q cells slots pc' loc (.int x :: rest) μ) : J p l e R s m args below meth c nL G A Q cells slots pc loc (rest) μ := by
  subst hn
  intro H locs ls hB hS hl
  exact lv_iload X.1 X.2.1 hdg (lv_at hl q hq) (k H locs ls hB hS hl)
theorem j_aload_n (X : Cx p l s m args meth c cc nL ret own G A) {kk : Fin 4} {i : Nat} {x : Nat} (q : Nat) (hi : (kk : Nat) = i) (hq : loc[q]? = some (i, .ref x)) (hdg : decode cc pc = .ok (.aload_n kk, 1)) (hn : pc + 1 = pc') (k : J p l e R s m args below meth c nL G A Q cells slots pc' loc (.ref x :: rest) μ) : J p l e R s m args below meth c nL G A Q cells slots pc loc (rest) μ := by
  subst hn
  intro H locs ls hB hS hl
  exact lv_aload_n X.1 X.2.1 hdg hi (lv_at hl q hq) (k H locs ls hB hS hl)
theorem j_aload (X : Cx p l s m args meth c cc nL ret own G A) {i : Nat} {x : Nat} (q : Nat) (hq : loc[q]? = some (i, .ref x)) (hdg : decode cc pc = .ok (.aload i, 2)) (hn : pc + 2 = pc') (k : J p l e R s m args below meth c nL G A Q cells slots pc' loc (.ref x :: rest) μ) : J p l e R s m args below meth c nL G A Q cells slots pc loc (rest) μ := by
  subst hn
  intro H locs ls hB hS hl
  exact lv_aload X.1 X.2.1 hdg (lv_at hl q hq) (k H locs ls hB hS hl)
theorem j_aload_nq (X : Cx p l s m args meth c cc nL ret own G A) {kk : Fin 4} {i : Nat} {x : Option Nat} (q : Nat) (hi : (kk : Nat) = i) (hq : loc[q]? = some (i, va_rf x)) (hdg : decode cc pc = .ok (.aload_n kk, 1)) (hn : pc + 1 = pc') (k : J p l e R s m args below meth c nL G A Q cells slots pc' loc (va_rf x :: rest) μ) : J p l e R s m args below meth c nL G A Q cells slots pc loc (rest) μ := by
  subst hn
  intro H locs ls hB hS hl
  cases x with
  | none => exact lv_aload_nN X.1 X.2.1 hdg hi (lv_at hl q hq) (k H locs ls hB hS hl)
  | some x => exact lv_aload_n X.1 X.2.1 hdg hi (lv_at hl q hq) (k H locs ls hB hS hl)
theorem j_aload_q (X : Cx p l s m args meth c cc nL ret own G A) {i : Nat} {x : Option Nat} (q : Nat) (hq : loc[q]? = some (i, va_rf x)) (hdg : decode cc pc = .ok (.aload i, 2)) (hn : pc + 2 = pc') (k : J p l e R s m args below meth c nL G A Q cells slots pc' loc (va_rf x :: rest) μ) : J p l e R s m args below meth c nL G A Q cells slots pc loc (rest) μ := by
  subst hn
  intro H locs ls hB hS hl
  cases x with
  | none => exact lv_aloadN X.1 X.2.1 hdg (lv_at hl q hq) (k H locs ls hB hS hl)
  | some x => exact lv_aload X.1 X.2.1 hdg (lv_at hl q hq) (k H locs ls hB hS hl)
theorem j_istore_n (X : Cx p l s m args meth c cc nL ret own G A) {kk : Fin 4} {i : Nat} {x : Int32} (hdg : decode cc pc = .ok (.istore_n kk, 1)) (hn : pc + 1 = pc') (hi : (kk : Nat) = i) (hL : i < nL) (hl' : (i, Value.int x) :: loc.filter (fun q => !(q.1 == i) && !(q.1 + 1 == i && q.2.category == 2)) = loc') (k : J p l e R s m args below meth c nL G A Q cells slots pc' loc' rest μ) : J p l e R s m args below meth c nL G A Q cells slots pc loc (Value.int x :: rest) μ := by
  subst hn
  intro H locs ls hB hS hl
  exact lv_istore_n X.1 X.2.1 hdg hi hl hL hl' (fun ls' hl2 => k H locs ls' hB hS hl2)
theorem j_istore (X : Cx p l s m args meth c cc nL ret own G A) {i : Nat} {x : Int32} (hdg : decode cc pc = .ok (.istore i, 2)) (hn : pc + 2 = pc') (hL : i < nL) (hl' : (i, Value.int x) :: loc.filter (fun q => !(q.1 == i) && !(q.1 + 1 == i && q.2.category == 2)) = loc') (k : J p l e R s m args below meth c nL G A Q cells slots pc' loc' rest μ) : J p l e R s m args below meth c nL G A Q cells slots pc loc (Value.int x :: rest) μ := by
  subst hn
  intro H locs ls hB hS hl
  exact lv_istore X.1 X.2.1 hdg hl hL hl' (fun ls' hl2 => k H locs ls' hB hS hl2)
theorem j_astore_n (X : Cx p l s m args meth c cc nL ret own G A) {kk : Fin 4} {i : Nat} {x : Nat} (hdg : decode cc pc = .ok (.astore_n kk, 1)) (hn : pc + 1 = pc') (hi : (kk : Nat) = i) (hL : i < nL) (hl' : (i, Value.ref x) :: loc.filter (fun q => !(q.1 == i) && !(q.1 + 1 == i && q.2.category == 2)) = loc') (k : J p l e R s m args below meth c nL G A Q cells slots pc' loc' rest μ) : J p l e R s m args below meth c nL G A Q cells slots pc loc (Value.ref x :: rest) μ := by
  subst hn
  intro H locs ls hB hS hl
  exact lv_astore_n X.1 X.2.1 hdg hi hl hL hl' (fun ls' hl2 => k H locs ls' hB hS hl2)
theorem j_astore (X : Cx p l s m args meth c cc nL ret own G A) {i : Nat} {x : Nat} (hdg : decode cc pc = .ok (.astore i, 2)) (hn : pc + 2 = pc') (hL : i < nL) (hl' : (i, Value.ref x) :: loc.filter (fun q => !(q.1 == i) && !(q.1 + 1 == i && q.2.category == 2)) = loc') (k : J p l e R s m args below meth c nL G A Q cells slots pc' loc' rest μ) : J p l e R s m args below meth c nL G A Q cells slots pc loc (Value.ref x :: rest) μ := by
  subst hn
  intro H locs ls hB hS hl
  exact lv_astore X.1 X.2.1 hdg hl hL hl' (fun ls' hl2 => k H locs ls' hB hS hl2)
theorem j_astore_nq (X : Cx p l s m args meth c cc nL ret own G A) {kk : Fin 4} {i : Nat} {x : Option Nat} (hdg : decode cc pc = .ok (.astore_n kk, 1)) (hn : pc + 1 = pc') (hi : (kk : Nat) = i) (hL : i < nL) (hl' : (i, va_rf x) :: loc.filter (fun q => !(q.1 == i) && !(q.1 + 1 == i && q.2.category == 2)) = loc') (k : J p l e R s m args below meth c nL G A Q cells slots pc' loc' rest μ) : J p l e R s m args below meth c nL G A Q cells slots pc loc (va_rf x :: rest) μ := by
  cases x with
  | none =>
    subst hn
    intro H locs ls hB hS hl
    exact lv_astore_nN X.1 X.2.1 hdg hi hl hL hl' (fun ls' hl2 => k H locs ls' hB hS hl2)
  | some x => exact j_astore_n X hdg hn hi hL hl' k
theorem j_astore_q (X : Cx p l s m args meth c cc nL ret own G A) {i : Nat} {x : Option Nat} (hdg : decode cc pc = .ok (.astore i, 2)) (hn : pc + 2 = pc') (hL : i < nL) (hl' : (i, va_rf x) :: loc.filter (fun q => !(q.1 == i) && !(q.1 + 1 == i && q.2.category == 2)) = loc') (k : J p l e R s m args below meth c nL G A Q cells slots pc' loc' rest μ) : J p l e R s m args below meth c nL G A Q cells slots pc loc (va_rf x :: rest) μ := by
  cases x with
  | none =>
    subst hn
    intro H locs ls hB hS hl
    exact lv_astoreN X.1 X.2.1 hdg hl hL hl' (fun ls' hl2 => k H locs ls' hB hS hl2)
  | some x => exact j_astore X hdg hn hL hl' k
theorem j_iinc (X : Cx p l s m args meth c cc nL ret own G A) {i : Nat} {n : Int} {x v : Int32} (q : Nat) (hq : loc[q]? = some (i, .int x)) (hv : x + Int32.ofInt n = v) (hdg : decode cc pc = .ok (.iinc i n, 3)) (hn : pc + 3 = pc') (hL : i < nL) (hl' : (i, Value.int v) :: loc.filter (fun q => !(q.1 == i) && !(q.1 + 1 == i && q.2.category == 2)) = loc') (k : J p l e R s m args below meth c nL G A Q cells slots pc' loc' rest μ) : J p l e R s m args below meth c nL G A Q cells slots pc loc rest μ := by
  subst hn
  intro H locs ls hB hS hl
  exact lv_iinc X.1 X.2.1 hdg hl hq hv hL hl' (fun ls' hl2 => k H locs ls' hB hS hl2)
theorem j_iadd (X : Cx p l s m args meth c cc nL ret own G A) {x y : Int32} (hdg : decode cc pc = .ok (.iadd, 1)) (hn : pc + 1 = pc') (k : J p l e R s m args below meth c nL G A Q cells slots pc' loc (.int (x + y) :: rest) μ) : J p l e R s m args below meth c nL G A Q cells slots pc loc (.int y :: .int x :: rest) μ := by
  subst hn
  intro H locs ls hB hS hl
  exact lv_iadd X.1 X.2.1 hdg (k H locs ls hB hS hl)
theorem j_isub (X : Cx p l s m args meth c cc nL ret own G A) {x y : Int32} (hdg : decode cc pc = .ok (.isub, 1)) (hn : pc + 1 = pc') (k : J p l e R s m args below meth c nL G A Q cells slots pc' loc (.int (x - y) :: rest) μ) : J p l e R s m args below meth c nL G A Q cells slots pc loc (.int y :: .int x :: rest) μ := by
  subst hn
  intro H locs ls hB hS hl
  exact lv_isub X.1 X.2.1 hdg (k H locs ls hB hS hl)
theorem j_imul (X : Cx p l s m args meth c cc nL ret own G A) {x y : Int32} (hdg : decode cc pc = .ok (.imul, 1)) (hn : pc + 1 = pc') (k : J p l e R s m args below meth c nL G A Q cells slots pc' loc (.int (x * y) :: rest) μ) : J p l e R s m args below meth c nL G A Q cells slots pc loc (.int y :: .int x :: rest) μ := by
  subst hn
  intro H locs ls hB hS hl
  exact lv_imul X.1 X.2.1 hdg (k H locs ls hB hS hl)
theorem j_iand (X : Cx p l s m args meth c cc nL ret own G A) {x y : Int32} (hdg : decode cc pc = .ok (.iand, 1)) (hn : pc + 1 = pc') (k : J p l e R s m args below meth c nL G A Q cells slots pc' loc (.int (x &&& y) :: rest) μ) : J p l e R s m args below meth c nL G A Q cells slots pc loc (.int y :: .int x :: rest) μ := by
  subst hn
  intro H locs ls hB hS hl
  exact lv_iand X.1 X.2.1 hdg (k H locs ls hB hS hl)
theorem j_ior (X : Cx p l s m args meth c cc nL ret own G A) {x y : Int32} (hdg : decode cc pc = .ok (.ior, 1)) (hn : pc + 1 = pc') (k : J p l e R s m args below meth c nL G A Q cells slots pc' loc (.int (x ||| y) :: rest) μ) : J p l e R s m args below meth c nL G A Q cells slots pc loc (.int y :: .int x :: rest) μ := by
  subst hn
  intro H locs ls hB hS hl
  exact lv_ior X.1 X.2.1 hdg (k H locs ls hB hS hl)
theorem j_ishl (X : Cx p l s m args meth c cc nL ret own G A) {x y : Int32} (hdg : decode cc pc = .ok (.ishl, 1)) (hn : pc + 1 = pc') (k : J p l e R s m args below meth c nL G A Q cells slots pc' loc (.int (x <<< (y &&& 31)) :: rest) μ) : J p l e R s m args below meth c nL G A Q cells slots pc loc (.int y :: .int x :: rest) μ := by
  subst hn
  intro H locs ls hB hS hl
  exact lv_ishl X.1 X.2.1 hdg (k H locs ls hB hS hl)
theorem j_ishr (X : Cx p l s m args meth c cc nL ret own G A) {x y : Int32} (hdg : decode cc pc = .ok (.ishr, 1)) (hn : pc + 1 = pc') (k : J p l e R s m args below meth c nL G A Q cells slots pc' loc (.int (x >>> (y &&& 31)) :: rest) μ) : J p l e R s m args below meth c nL G A Q cells slots pc loc (.int y :: .int x :: rest) μ := by
  subst hn
  intro H locs ls hB hS hl
  exact lv_ishr X.1 X.2.1 hdg (k H locs ls hB hS hl)
theorem j_irem (X : Cx p l s m args meth c cc nL ret own G A) {x y : Int32} (h0 : ¬ y = 0) (hdg : decode cc pc = .ok (.irem, 1)) (hn : pc + 1 = pc') (k : J p l e R s m args below meth c nL G A Q cells slots pc' loc (.int (x - x / y * y) :: rest) μ) : J p l e R s m args below meth c nL G A Q cells slots pc loc (.int y :: .int x :: rest) μ := by
  subst hn
  intro H locs ls hB hS hl
  exact lv_irem X.1 X.2.1 hdg h0 (k H locs ls hB hS hl)
theorem j_i2l (X : Cx p l s m args meth c cc nL ret own G A) {x : Int32} (hdg : decode cc pc = .ok (.i2l, 1)) (hn : pc + 1 = pc') (k : J p l e R s m args below meth c nL G A Q cells slots pc' loc (.long x.toInt64 :: rest) μ) : J p l e R s m args below meth c nL G A Q cells slots pc loc (.int x :: rest) μ := by
  subst hn
  intro H locs ls hB hS hl
  exact lv_i2l X.1 X.2.1 hdg rfl (k H locs ls hB hS hl)
theorem j_dup (X : Cx p l s m args meth c cc nL ret own G A) {va : Value} (hva : va.category = 1) (hdg : decode cc pc = .ok (.dup, 1)) (hn : pc + 1 = pc') (k : J p l e R s m args below meth c nL G A Q cells slots pc' loc (va :: va :: rest) μ) : J p l e R s m args below meth c nL G A Q cells slots pc loc (va :: rest) μ := by
  subst hn
  intro H locs ls hB hS hl
  exact lv_dup X.1 X.2.1 hdg hva (k H locs ls hB hS hl)
theorem j_pop (X : Cx p l s m args meth c cc nL ret own G A) {va : Value} (hva : va.category = 1) (hdg : decode cc pc = .ok (.pop, 1)) (hn : pc + 1 = pc') (k : J p l e R s m args below meth c nL G A Q cells slots pc' loc (rest) μ) : J p l e R s m args below meth c nL G A Q cells slots pc loc (va :: rest) μ := by
  subst hn
  intro H locs ls hB hS hl
  exact lv_pop X.1 X.2.1 hdg hva (k H locs ls hB hS hl)
theorem j_dup2 (X : Cx p l s m args meth c cc nL ret own G A) {va vb : Value} (hva : va.category = 1) (hvb : vb.category = 1) (hdg : decode cc pc = .ok (.dup2, 1)) (hn : pc + 1 = pc') (k : J p l e R s m args below meth c nL G A Q cells slots pc' loc (va :: vb :: va :: vb :: rest) μ) : J p l e R s m args below meth c nL G A Q cells slots pc loc (va :: vb :: rest) μ := by
  subst hn
  intro H locs ls hB hS hl
  exact lv_dup2_11 X.1 X.2.1 hdg hva hvb (k H locs ls hB hS hl)
theorem j_dup_x1 (X : Cx p l s m args meth c cc nL ret own G A) {va vb : Value} (hva : va.category = 1) (hvb : vb.category = 1) (hdg : decode cc pc = .ok (.dup_x1, 1)) (hn : pc + 1 = pc') (k : J p l e R s m args below meth c nL G A Q cells slots pc' loc (va :: vb :: va :: rest) μ) : J p l e R s m args below meth c nL G A Q cells slots pc loc (va :: vb :: rest) μ := by
  subst hn
  intro H locs ls hB hS hl
  exact lv_dup_x1 X.1 X.2.1 hdg hva hvb (k H locs ls hB hS hl)
theorem j_dup_x2 (X : Cx p l s m args meth c cc nL ret own G A) {va vb vd : Value} (hva : va.category = 1) (hvb : vb.category = 1) (hvd : vd.category = 1) (hdg : decode cc pc = .ok (.dup_x2, 1)) (hn : pc + 1 = pc') (k : J p l e R s m args below meth c nL G A Q cells slots pc' loc (va :: vb :: vd :: va :: rest) μ) : J p l e R s m args below meth c nL G A Q cells slots pc loc (va :: vb :: vd :: rest) μ := by
  subst hn
  intro H locs ls hB hS hl
  exact lv_dup_x2 X.1 X.2.1 hdg hva hvb hvd (k H locs ls hB hS hl)
theorem j_if_eq (X : Cx p l s m args meth c cc nL ret own G A) {x : Int32} {off : Int} {tgt : Nat} (hdg : decode cc pc = .ok (.ifCond .eq off, 3)) (hn : pc + 3 = pc') (ht : (pc : Int) + off = (tgt : Int)) (kt : x = 0 → J p l e R s m args below meth c nL G A Q cells slots tgt loc rest μ) (kf : ¬ x = 0 → J p l e R s m args below meth c nL G A Q cells slots pc' loc rest μ) : J p l e R s m args below meth c nL G A Q cells slots pc loc (.int x :: rest) μ := by
  subst hn
  intro H locs ls hB hS hl
  exact lv_if_eq X.1 X.2.1 hdg ht (fun h => kt h H locs ls hB hS hl) (fun h => kf h H locs ls hB hS hl)
theorem j_icmp_eq (X : Cx p l s m args meth c cc nL ret own G A) {x y : Int32} {off : Int} {tgt : Nat} (hdg : decode cc pc = .ok (.if_icmp .eq off, 3)) (hn : pc + 3 = pc') (ht : (pc : Int) + off = (tgt : Int)) (kt : x = y → J p l e R s m args below meth c nL G A Q cells slots tgt loc rest μ) (kf : ¬ x = y → J p l e R s m args below meth c nL G A Q cells slots pc' loc rest μ) : J p l e R s m args below meth c nL G A Q cells slots pc loc (.int y :: .int x :: rest) μ := by
  subst hn
  intro H locs ls hB hS hl
  exact lv_icmp_eq X.1 X.2.1 hdg ht (fun h => kt h H locs ls hB hS hl) (fun h => kf h H locs ls hB hS hl)
theorem j_if_ne (X : Cx p l s m args meth c cc nL ret own G A) {x : Int32} {off : Int} {tgt : Nat} (hdg : decode cc pc = .ok (.ifCond .ne off, 3)) (hn : pc + 3 = pc') (ht : (pc : Int) + off = (tgt : Int)) (kt : ¬ x = 0 → J p l e R s m args below meth c nL G A Q cells slots tgt loc rest μ) (kf : x = 0 → J p l e R s m args below meth c nL G A Q cells slots pc' loc rest μ) : J p l e R s m args below meth c nL G A Q cells slots pc loc (.int x :: rest) μ := by
  subst hn
  intro H locs ls hB hS hl
  exact lv_if_ne X.1 X.2.1 hdg ht (fun h => kt h H locs ls hB hS hl) (fun h => kf h H locs ls hB hS hl)
theorem j_icmp_ne (X : Cx p l s m args meth c cc nL ret own G A) {x y : Int32} {off : Int} {tgt : Nat} (hdg : decode cc pc = .ok (.if_icmp .ne off, 3)) (hn : pc + 3 = pc') (ht : (pc : Int) + off = (tgt : Int)) (kt : ¬ x = y → J p l e R s m args below meth c nL G A Q cells slots tgt loc rest μ) (kf : x = y → J p l e R s m args below meth c nL G A Q cells slots pc' loc rest μ) : J p l e R s m args below meth c nL G A Q cells slots pc loc (.int y :: .int x :: rest) μ := by
  subst hn
  intro H locs ls hB hS hl
  exact lv_icmp_ne X.1 X.2.1 hdg ht (fun h => kt h H locs ls hB hS hl) (fun h => kf h H locs ls hB hS hl)
theorem j_if_lt (X : Cx p l s m args meth c cc nL ret own G A) {x : Int32} {off : Int} {tgt : Nat} (hdg : decode cc pc = .ok (.ifCond .lt off, 3)) (hn : pc + 3 = pc') (ht : (pc : Int) + off = (tgt : Int)) (kt : x < 0 → J p l e R s m args below meth c nL G A Q cells slots tgt loc rest μ) (kf : ¬ x < 0 → J p l e R s m args below meth c nL G A Q cells slots pc' loc rest μ) : J p l e R s m args below meth c nL G A Q cells slots pc loc (.int x :: rest) μ := by
  subst hn
  intro H locs ls hB hS hl
  exact lv_if_lt X.1 X.2.1 hdg ht (fun h => kt h H locs ls hB hS hl) (fun h => kf h H locs ls hB hS hl)
theorem j_icmp_lt (X : Cx p l s m args meth c cc nL ret own G A) {x y : Int32} {off : Int} {tgt : Nat} (hdg : decode cc pc = .ok (.if_icmp .lt off, 3)) (hn : pc + 3 = pc') (ht : (pc : Int) + off = (tgt : Int)) (kt : x < y → J p l e R s m args below meth c nL G A Q cells slots tgt loc rest μ) (kf : ¬ x < y → J p l e R s m args below meth c nL G A Q cells slots pc' loc rest μ) : J p l e R s m args below meth c nL G A Q cells slots pc loc (.int y :: .int x :: rest) μ := by
  subst hn
  intro H locs ls hB hS hl
  exact lv_icmp_lt X.1 X.2.1 hdg ht (fun h => kt h H locs ls hB hS hl) (fun h => kf h H locs ls hB hS hl)
theorem j_if_ge (X : Cx p l s m args meth c cc nL ret own G A) {x : Int32} {off : Int} {tgt : Nat} (hdg : decode cc pc = .ok (.ifCond .ge off, 3)) (hn : pc + 3 = pc') (ht : (pc : Int) + off = (tgt : Int)) (kt : 0 ≤ x → J p l e R s m args below meth c nL G A Q cells slots tgt loc rest μ) (kf : ¬ 0 ≤ x → J p l e R s m args below meth c nL G A Q cells slots pc' loc rest μ) : J p l e R s m args below meth c nL G A Q cells slots pc loc (.int x :: rest) μ := by
  subst hn
  intro H locs ls hB hS hl
  exact lv_if_ge X.1 X.2.1 hdg ht (fun h => kt h H locs ls hB hS hl) (fun h => kf h H locs ls hB hS hl)
theorem j_icmp_ge (X : Cx p l s m args meth c cc nL ret own G A) {x y : Int32} {off : Int} {tgt : Nat} (hdg : decode cc pc = .ok (.if_icmp .ge off, 3)) (hn : pc + 3 = pc') (ht : (pc : Int) + off = (tgt : Int)) (kt : y ≤ x → J p l e R s m args below meth c nL G A Q cells slots tgt loc rest μ) (kf : ¬ y ≤ x → J p l e R s m args below meth c nL G A Q cells slots pc' loc rest μ) : J p l e R s m args below meth c nL G A Q cells slots pc loc (.int y :: .int x :: rest) μ := by
  subst hn
  intro H locs ls hB hS hl
  exact lv_icmp_ge X.1 X.2.1 hdg ht (fun h => kt h H locs ls hB hS hl) (fun h => kf h H locs ls hB hS hl)
theorem j_if_gt (X : Cx p l s m args meth c cc nL ret own G A) {x : Int32} {off : Int} {tgt : Nat} (hdg : decode cc pc = .ok (.ifCond .gt off, 3)) (hn : pc + 3 = pc') (ht : (pc : Int) + off = (tgt : Int)) (kt : 0 < x → J p l e R s m args below meth c nL G A Q cells slots tgt loc rest μ) (kf : ¬ 0 < x → J p l e R s m args below meth c nL G A Q cells slots pc' loc rest μ) : J p l e R s m args below meth c nL G A Q cells slots pc loc (.int x :: rest) μ := by
  subst hn
  intro H locs ls hB hS hl
  exact lv_if_gt X.1 X.2.1 hdg ht (fun h => kt h H locs ls hB hS hl) (fun h => kf h H locs ls hB hS hl)
theorem j_icmp_gt (X : Cx p l s m args meth c cc nL ret own G A) {x y : Int32} {off : Int} {tgt : Nat} (hdg : decode cc pc = .ok (.if_icmp .gt off, 3)) (hn : pc + 3 = pc') (ht : (pc : Int) + off = (tgt : Int)) (kt : y < x → J p l e R s m args below meth c nL G A Q cells slots tgt loc rest μ) (kf : ¬ y < x → J p l e R s m args below meth c nL G A Q cells slots pc' loc rest μ) : J p l e R s m args below meth c nL G A Q cells slots pc loc (.int y :: .int x :: rest) μ := by
  subst hn
  intro H locs ls hB hS hl
  exact lv_icmp_gt X.1 X.2.1 hdg ht (fun h => kt h H locs ls hB hS hl) (fun h => kf h H locs ls hB hS hl)
theorem j_if_le (X : Cx p l s m args meth c cc nL ret own G A) {x : Int32} {off : Int} {tgt : Nat} (hdg : decode cc pc = .ok (.ifCond .le off, 3)) (hn : pc + 3 = pc') (ht : (pc : Int) + off = (tgt : Int)) (kt : x ≤ 0 → J p l e R s m args below meth c nL G A Q cells slots tgt loc rest μ) (kf : ¬ x ≤ 0 → J p l e R s m args below meth c nL G A Q cells slots pc' loc rest μ) : J p l e R s m args below meth c nL G A Q cells slots pc loc (.int x :: rest) μ := by
  subst hn
  intro H locs ls hB hS hl
  exact lv_if_le X.1 X.2.1 hdg ht (fun h => kt h H locs ls hB hS hl) (fun h => kf h H locs ls hB hS hl)
theorem j_icmp_le (X : Cx p l s m args meth c cc nL ret own G A) {x y : Int32} {off : Int} {tgt : Nat} (hdg : decode cc pc = .ok (.if_icmp .le off, 3)) (hn : pc + 3 = pc') (ht : (pc : Int) + off = (tgt : Int)) (kt : x ≤ y → J p l e R s m args below meth c nL G A Q cells slots tgt loc rest μ) (kf : ¬ x ≤ y → J p l e R s m args below meth c nL G A Q cells slots pc' loc rest μ) : J p l e R s m args below meth c nL G A Q cells slots pc loc (.int y :: .int x :: rest) μ := by
  subst hn
  intro H locs ls hB hS hl
  exact lv_icmp_le X.1 X.2.1 hdg ht (fun h => kt h H locs ls hB hS hl) (fun h => kf h H locs ls hB hS hl)
theorem j_acmp_eq (X : Cx p l s m args meth c cc nL ret own G A) {rx ry : Option Nat} {off : Int} {tgt : Nat} (hdg : decode cc pc = .ok (.if_acmp .eq off, 3)) (hn : pc + 3 = pc') (ht : (pc : Int) + off = (tgt : Int)) (kt : rx = ry → J p l e R s m args below meth c nL G A Q cells slots tgt loc rest μ) (kf : ¬ rx = ry → J p l e R s m args below meth c nL G A Q cells slots pc' loc rest μ) : J p l e R s m args below meth c nL G A Q cells slots pc loc (va_rf ry :: va_rf rx :: rest) μ := by
  subst hn
  intro H locs ls hB hS hl
  exact lv_acmp_eq X.1 X.2.1 hdg ht (fun h => kt h H locs ls hB hS hl) (fun h => kf h H locs ls hB hS hl)
theorem j_acmp_ne (X : Cx p l s m args meth c cc nL ret own G A) {rx ry : Option Nat} {off : Int} {tgt : Nat} (hdg : decode cc pc = .ok (.if_acmp .ne off, 3)) (hn : pc + 3 = pc') (ht : (pc : Int) + off = (tgt : Int)) (kt : ¬ rx = ry → J p l e R s m args below meth c nL G A Q cells slots tgt loc rest μ) (kf : rx = ry → J p l e R s m args below meth c nL G A Q cells slots pc' loc rest μ) : J p l e R s m args below meth c nL G A Q cells slots pc loc (va_rf ry :: va_rf rx :: rest) μ := by
  subst hn
  intro H locs ls hB hS hl
  exact lv_acmp_ne X.1 X.2.1 hdg ht (fun h => kt h H locs ls hB hS hl) (fun h => kf h H locs ls hB hS hl)
theorem j_ifnull (X : Cx p l s m args meth c cc nL ret own G A) {x : Option Nat} {off : Int} {tgt : Nat} (hdg : decode cc pc = .ok (.ifnull off, 3)) (hn : pc + 3 = pc') (ht : (pc : Int) + off = (tgt : Int)) (kt : x = none → J p l e R s m args below meth c nL G A Q cells slots tgt loc rest μ) (kf : ∀ a, x = some a → J p l e R s m args below meth c nL G A Q cells slots pc' loc rest μ) : J p l e R s m args below meth c nL G A Q cells slots pc loc (va_rf x :: rest) μ := by
  subst hn
  intro H locs ls hB hS hl
  cases x with
  | none => exact lv_ifnullN X.1 X.2.1 hdg ht (kt rfl H locs ls hB hS hl)
  | some x => exact lv_ifnull X.1 X.2.1 hdg (kf x rfl H locs ls hB hS hl)
theorem j_ifnonnull (X : Cx p l s m args meth c cc nL ret own G A) {x : Option Nat} {off : Int} {tgt : Nat} (hdg : decode cc pc = .ok (.ifnonnull off, 3)) (hn : pc + 3 = pc') (ht : (pc : Int) + off = (tgt : Int)) (kt : ∀ a, x = some a → J p l e R s m args below meth c nL G A Q cells slots tgt loc rest μ) (kf : x = none → J p l e R s m args below meth c nL G A Q cells slots pc' loc rest μ) : J p l e R s m args below meth c nL G A Q cells slots pc loc (va_rf x :: rest) μ := by
  subst hn
  intro H locs ls hB hS hl
  cases x with
  | none => exact lv_ifnonnullN X.1 X.2.1 hdg (kf rfl H locs ls hB hS hl)
  | some x => exact lv_ifnonnull X.1 X.2.1 hdg ht (kt x rfl H locs ls hB hS hl)
theorem j_goto (X : Cx p l s m args meth c cc nL ret own G A) {off : Int} {tgt : Nat} (hdg : decode cc pc = .ok (.goto off, 3)) (ht : (pc : Int) + off = (tgt : Int)) (k : J p l e R s m args below meth c nL G A Q cells slots tgt loc rest μ) : J p l e R s m args below meth c nL G A Q cells slots pc loc rest μ := by
  intro H locs ls hB hS hl
  exact lv_goto X.1 X.2.1 hdg ht (k H locs ls hB hS hl)
/-- the locals told anew: fewer, or in another order -/
theorem j_loc (ks : List Nat) (h : lv_pick loc ks = loc') (k : J p l e R s m args below meth c nL G A Q cells slots pc loc' rest μ) : J p l e R s m args below meth c nL G A Q cells slots pc loc rest μ := fun H locs ls hB hS hl => k H locs ls hB hS (lv_sub hl ks h)
theorem j_widen {k1 n1 : Nat} (h1 : cells ≤ k1) (h2 : slots ≤ n1) (k : J p l e R s m args below meth c nL G A Q k1 n1 pc loc rest μ) : J p l e R s m args below meth c nL G A Q cells slots pc loc rest μ := fun H locs ls hB hS hl => W.widen h1 h2 (k H locs ls hB hS hl)
theorem j_getf (X : Cx p l s m args meth c cc nL ret own G A) {C : String} {T : u_T} {N ci index a : Nat} {fs : List Value} {v : Value} (hm : μ a = some (.inl (ci, fs))) (kf : Nat) (hv : fs[kf]? = some v) (hc : vwCl[ci]? = some (C, T, N)) (hin : ∀ w ∈ u_ws C T N, w ∈ wsA) (hk : kf < N) (hlink : Cond.fieldLink own index (T kf).1 (T kf).2.1 (T kf).2.2.1 ∈ wsA) (hdg : decode cc pc = .ok (.getfield index, 3)) (hn : pc + 3 = pc') (k : J p l e R s m args below meth c nL G A Q cells slots pc' loc (v :: rest) μ) : J p l e R s m args below meth c nL G A Q cells slots pc loc (.ref a :: rest) μ := by
  subst hn
  intro H locs ls hB hS hl
  obtain ⟨hx, hb, hr, hml, hown, hts, hlk, hSK, hA⟩ := X
  exact va_get (ci := ci) hx hb hts hin hown hSK.1 (hB.one hm) 0 rfl hc kf hk (hts _ hlink) (fun _ h => h) hv hdg (k H locs ls hB hS hl)
theorem j_getfN (X : Cx p l s m args meth c cc nL ret own G A) {C : String} {T : u_T} {N ci index a : Nat} {fs : List Value} {v : Value} (hm : μ a = some (.inl (ci, fs))) (kf : Nat) (hv : fs[kf]? = some v) (hc : vwCl[ci]? = some (C, T, N)) (hin : ∀ w ∈ u_ws C T N, w ∈ wsA) (hk : kf < N) (hlink : (own, index, (T kf).1, (T kf).2.1, (T kf).2.2.1) ∈ nsF) (hdg : decode cc pc = .ok (.getfield index, 3)) (hn : pc + 3 = pc') (k : J p l e R s m args below meth c nL G A Q cells slots pc' loc (v :: rest) μ) : J p l e R s m args below meth c nL G A Q cells slots pc loc (.ref a :: rest) μ := by
  subst hn
  intro H locs ls hB hS hl
  obtain ⟨hx, hb, hr, hml, hown, hts, hlk, hSK, hA⟩ := X
  exact va_getN (ci := ci) (host := "BitNotation") hx hb hts hin hown hSK.1 (hB.one hm) 0 rfl hc kf hk (va_Nw.use rfl (hSK.2.2.2.2.2.2.2.2.1 _ hlink)) (fun _ h => h) hv hdg (k H locs ls hB hS hl)
theorem j_putf (X : Cx p l s m args meth c cc nL ret own G A) {C : String} {T : u_T} {N ci index a : Nat} {fs : List Value} {v : Value} {ty : FieldType} {ty0 : Nat → FieldType} (hm : μ a = some (.inl (ci, fs))) (kf : Nat) (hlen : kf < fs.length) (hc : vwCl[ci]? = some (C, T, N)) (hin : ∀ w ∈ u_ws C T N, w ∈ wsA) (hty : ∀ k, k < N → parseFieldDescriptor (T k).2.2.1 = some (ty0 k)) (hnm : ∀ a, a < N → ∀ b, b < N → a ≠ b → (T a).2.1 ≠ (T b).2.1) (hk : kf < N) (hfin : (T kf).2.2.2 = false) (hlink : Cond.fieldLink own index (T kf).1 (T kf).2.1 (T kf).2.2.1 ∈ wsA) (hd : parseFieldDescriptor (T kf).2.2.1 = some ty) (hnar : narrow ty v = v) (hfit : fits ty v = true) (hdg : decode cc pc = .ok (.putfield index, 3)) (hn : pc + 3 = pc') (k : J p l e R s m args below meth c nL G A Q cells slots pc' loc rest (ups μ a (.inl (ci, fs.set kf v)))) : J p l e R s m args below meth c nL G A Q cells slots pc loc (v :: .ref a :: rest) μ := by
  subst hn
  intro H locs ls hB hS hl
  obtain ⟨hx, hb, hr, hml, hown, hts, hlk, hSK, hA⟩ := X
  have hK := hSK.1
  have hap := va_apart (own := own) hts hin ty0 hty hnm hK hc
  obtain ⟨hat, hAa⟩ := hB a _ hm
  obtain ⟨r, h1, cell, q1, q2, q3, q4⟩ := hat
  have hr2 : r = (C, T, N) := Option.some.inj (h1.symm.trans hc)
  subst hr2
  obtain ⟨hSl, hfc, kC, hkC, hkind⟩ := hK.1 ci _ hc
  obtain ⟨cf, kf2, fi, f, hi, hsl⟩ := hSl kf hk
  have hlay := hts _ (hin _ (u_in_lay hk))
  unfold u_lay at hlay
  rw [if_neg (by rw [hfin]; decide)] at hlay
  have hst := (u_facts hfc hkC (u_lays hts hin hk) hi).1
  have h6 := u_store hfc hkC hkind hlay hi hd hnar hfit
  refine W.putK hx hb (f := f) ⟨hown, hts _ hlink, ⟨_, _, _, hi⟩, hst⟩ (by rw [q2]; exact h6) q1 q3 (by rw [hsl]; exact k2_hasslot (q4 kf hk)) rfl rfl hdg fun H' e1 e2 e3 => ?_
  rw [hsl] at e1 ⊢
  exact k H' _ ls (hB.put hAa ⟨_, hc, t_OB.to (V := updV (vp_V fs) kf v) ⟨_, e1, q2, q3, t_set q4 hap hk v⟩ (fun j _ => vp_updV_set hlen v j)⟩ e3) (hS.put e2 e3 hAa) hl
theorem j_putF (X : Cx p l s m args meth c cc nL ret own G A) {C : String} {T : u_T} {N ci index a : Nat} {fs : List Value} {v : Value} {ty : FieldType} {ty0 : Nat → FieldType} (hin2 : meth.name = "<init>") (hm : μ a = some (.inl (ci, fs))) (kf : Nat) (hlen : kf < fs.length) (hc : vwCl[ci]? = some (C, T, N)) (hin : ∀ w ∈ u_ws C T N, w ∈ wsA) (hty : ∀ k, k < N → parseFieldDescriptor (T k).2.2.1 = some (ty0 k)) (hnm : ∀ a, a < N → ∀ b, b < N → a ≠ b → (T a).2.1 ≠ (T b).2.1) (hk : kf < N) (hfin : (T kf).2.2.2 = true) (hdecl : (T kf).1 = own) (hlink : Cond.fieldLink own index (T kf).1 (T kf).2.1 (T kf).2.2.1 ∈ wsA) (hd : parseFieldDescriptor (T kf).2.2.1 = some ty) (hnar : narrow ty v = v) (hfit : fits ty v = true) (hdg : decode cc pc = .ok (.putfield index, 3)) (hn : pc + 3 = pc') (k : J p l e R s m args below meth c nL G A Q cells slots pc' loc rest (ups μ a (.inl (ci, fs.set kf v)))) : J p l e R s m args below meth c nL G A Q cells slots pc loc (v :: .ref a :: rest) μ := by
  subst hn
  intro H locs ls hB hS hl
  obtain ⟨hx, hb, hr, hml, hown, hts, hlk, hSK, hA⟩ := X
  have hK := hSK.1
  have hap := va_apart (own := own) hts hin ty0 hty hnm hK hc
  obtain ⟨hat, hAa⟩ := hB a _ hm
  obtain ⟨r, h1, cell, q1, q2, q3, q4⟩ := hat
  have hr2 : r = (C, T, N) := Option.some.inj (h1.symm.trans hc)
  subst hr2
  obtain ⟨hSl, hfc, kC, hkC, hkind⟩ := hK.1 ci _ hc
  obtain ⟨cf, kf2, fi, f, hi, hsl⟩ := hSl kf hk
  have hlay := hts _ (hin _ (u_in_lay hk))
  unfold u_lay at hlay
  rw [if_pos hfin] at hlay
  have hst := (u_facts hfc hkC (u_lays hts hin hk) hi).1
  have hcf : m.cls = cf := by
    obtain ⟨_, _, c', _, _, _, -, -, hf', -, -, -, hown2, -⟩ := Cond.laysFinal_spec hlay
    have e1 : c' = cf := by have := hi.symm.trans hf'; simp at this; exact this.1.symm
    rw [hdecl] at hown2
    rw [← e1]; exact Option.some.inj (hown.symm.trans hown2)
  have h6 := u_fits hfc hkC hkind (Or.inr hlay) hi hd hnar hfit
  refine W.putFinK hx hb hown (hts _ hlink) hi hst hcf hin2 (by rw [q2]; exact h6) q1 q3 (by rw [hsl]; exact k2_hasslot (q4 kf hk)) rfl rfl hdg fun H' e1 e2 e3 => ?_
  rw [hsl] at e1 ⊢
  exact k H' _ ls (hB.put hAa ⟨_, hc, t_OB.to (V := updV (vp_V fs) kf v) ⟨_, e1, q2, q3, t_set q4 hap hk v⟩ (fun j _ => vp_updV_set hlen v j)⟩ e3) (hS.put e2 e3 hAa) hl
theorem j_iald (X : Cx p l s m args meth c cc nL ret own G A) {a n : Nat} {f : Nat → Int32} {i : Int32} (hm : μ a = some (eI n f)) (hi : vp_in i n) (hdg : decode cc pc = .ok (.iaload, 1)) (hn : pc + 1 = pc') (k : J p l e R s m args below meth c nL G A Q cells slots pc' loc (.int (f i.toNatClampNeg) :: rest) μ) : J p l e R s m args below meth c nL G A Q cells slots pc loc (.int i :: .ref a :: rest) μ := by
  subst hn
  intro H locs ls hB hS hl
  exact va_iald X.1 X.2.1 X.2.2.2.2.2.2.2.1.1 (hB.one hm) 0 0 rfl rfl hi hdg (k H locs ls hB hS hl)
theorem j_aald (X : Cx p l s m args meth c cc nL ret own G A) {a n : Nat} {f : Nat → Option Nat} {i : Int32} (hm : μ a = some (eT n f)) (hi : vp_in i n) (hdg : decode cc pc = .ok (.aaload, 1)) (hn : pc + 1 = pc') (k : J p l e R s m args below meth c nL G A Q cells slots pc' loc (va_rf (f i.toNatClampNeg) :: rest) μ) : J p l e R s m args below meth c nL G A Q cells slots pc loc (.int i :: .ref a :: rest) μ := by
  subst hn
  intro H locs ls hB hS hl
  exact va_aldq X.1 X.2.1 X.2.2.2.2.2.2.2.1.1 (hB.one hm) 0 2 rfl rfl hi hdg (k H locs ls hB hS hl)
theorem j_ilen (X : Cx p l s m args meth c cc nL ret own G A) {a n : Nat} {f : Nat → Int32} (hm : μ a = some (eI n f)) (hdg : decode cc pc = .ok (.arraylength, 1)) (hn : pc + 1 = pc') (k : J p l e R s m args below meth c nL G A Q cells slots pc' loc (.int (nI n) :: rest) μ) : J p l e R s m args below meth c nL G A Q cells slots pc loc (.ref a :: rest) μ := by
  subst hn
  intro H locs ls hB hS hl
  exact va_alen X.1 X.2.1 X.2.2.2.2.2.2.2.1.1 (hB.one hm) 0 0 rfl rfl rfl hdg (k H locs ls hB hS hl)
theorem j_alen (X : Cx p l s m args meth c cc nL ret own G A) {a n : Nat} {f : Nat → Option Nat} (hm : μ a = some (eT n f)) (hdg : decode cc pc = .ok (.arraylength, 1)) (hn : pc + 1 = pc') (k : J p l e R s m args below meth c nL G A Q cells slots pc' loc (.int (nI n) :: rest) μ) : J p l e R s m args below meth c nL G A Q cells slots pc loc (.ref a :: rest) μ := by
  subst hn
  intro H locs ls hB hS hl
  exact va_alen X.1 X.2.1 X.2.2.2.2.2.2.2.1.1 (hB.one hm) 0 2 rfl rfl rfl hdg (k H locs ls hB hS hl)
theorem j_iast (X : Cx p l s m args meth c cc nL ret own G A) {a n : Nat} {f : Nat → Int32} {i x : Int32} (hm : μ a = some (eI n f)) (hi : vp_in i n) (hdg : decode cc pc = .ok (.iastore, 1)) (hn : pc + 1 = pc') (k : J p l e R s m args below meth c nL G A Q cells slots pc' loc rest (ups μ a (eI n (upd f i.toNatClampNeg x)))) : J p l e R s m args below meth c nL G A Q cells slots pc loc (.int x :: .int i :: .ref a :: rest) μ := by
  subst hn
  intro H locs ls hB hS hl
  obtain ⟨hx, hb, hr, hml, hown, hts, hlk, hSK, hA⟩ := X
  obtain ⟨hat, hAa⟩ := hB a _ hm
  refine W.iast hx hb hat ((hSK.1.2 0 _ rfl).1 n (fun j => .int (f j))) (fun q => by cases q) (by show ¬ (i < 0 ∨ (arrV _ _ _).slots.size ≤ _); rw [arrV_size]; exact hi) rfl rfl hdg fun H1 e z oq => ?_
  refine k H1 _ ls (hB.put hAa ?_ oq) (hS.put z oq hAa) hl
  show H1[a]? = some (vp_cell _ _)
  rw [e]
  rw [vp_cell_i, vp_cell_i, arrV_store]
  congr 2
  funext q
  by_cases hq : q = i.toNatClampNeg
  · subst hq
    simp [updV, upd]
  · simp [updV, upd, hq]
theorem j_aast (X : Cx p l s m args meth c cc nL ret own G A) {a n v : Nat} {vs : List Value} {f : Nat → Option Nat} {i : Int32} (hm : μ a = some (eT n f)) (hv : μ v = some (.inl (2, vs))) (hi : vp_in i n) (hdg : decode cc pc = .ok (.aastore, 1)) (hn : pc + 1 = pc') (k : J p l e R s m args below meth c nL G A Q cells slots pc' loc rest (ups μ a (eT n (va_up f i.toNatClampNeg (some v))))) : J p l e R s m args below meth c nL G A Q cells slots pc loc (.ref v :: .int i :: .ref a :: rest) μ := by
  subst hn
  intro H locs ls hB hS hl
  obtain ⟨hx, hb, hr, hml, hown, hts, hlk, hSK, hA⟩ := X
  obtain ⟨hat, hAa⟩ := hB a _ hm
  have hlt : i.toNatClampNeg < n := Nat.not_le.mp fun q => hi (Or.inr q)
  have h0 : ¬ i < 0 := fun q => hi (Or.inl q)
  obtain ⟨r', hr', cellV, g1, g2, g3, -⟩ := (hB v _ hv).1
  have hcls := (hSK.1.1 2 _ rfl).2
  obtain ⟨kA, comp, k1, k2, k3, -⟩ := (hSK.1.2 2 _ rfl).2
  have hcomp : comp = G.1.1 2 := Option.some.inj (k3.symm.trans hcls.1)
  subst hcomp
  obtain ⟨kC, hkC, -⟩ := hcls.2
  refine W.aast hx hb hat (fun q h => by cases h) (fun h => by cases h) k1 k2 rfl hkC ⟨h0, by show _ < (arrV _ _ _).slots.size; rw [arrV_size]; exact hlt⟩ g1 (fun q h => by rw [g3] at h; cases h) (by rw [g2]; exact hkC) (by rw [g2]; exact va_assign hcls) rfl rfl hdg fun H1 e z oq => ?_
  refine k H1 _ ls (hB.put hAa ?_ oq) (hS.put z oq hAa) hl
  show H1[a]? = some (vp_cell _ _)
  rw [e]
  rw [vp_cell_q, vp_cell_q, arrV_store]
  congr 2
  funext q
  by_cases hq : q = i.toNatClampNeg
  · subst hq
    simp [updV, va_up, va_rf]
  · simp [updV, va_up, hq]
theorem j_new (X : Cx p l s m args meth c cc nL ret own G A) {C : String} {T : u_T} {N ci index : Nat} {ty0 : Nat → FieldType} {fs : List Value} (hc : vwCl[ci]? = some (C, T, N)) (hin : ∀ w ∈ u_ws C T N, w ∈ wsA) (hty : ∀ k, k < N → parseFieldDescriptor (T k).2.2.1 = some (ty0 k)) (hcl : Cond.classLink own index C ∈ wsA) (hinst : Cond.instantiable C N ∈ wsA) (hini : Cond.initialized C ∈ wsA) (hfs : ∀ j, j < N → defaultValue (ty0 j) = vp_V fs j) (hcells : cells + 1 ≤ R.cells) (hslots : slots + N ≤ R.slots) (hdg : decode cc pc = .ok (.new index, 3)) (hn : pc + 3 = pc') (k : ∀ q, μ q = none → J p l e R s m args below meth c nL G A Q (cells + 1) (slots + N) pc' loc (.ref q :: rest) (ups μ q (.inl (ci, fs)))) : J p l e R s m args below meth c nL G A Q cells slots pc loc rest μ := by
  subst hn
  intro H locs ls hB hS hl
  obtain ⟨hx, hb, hr, hml, hown, hts, hlk, hSK, hA⟩ := X
  have hKn := hSK.1.1 ci _ hc
  refine W.newcK hx hb hown (hts _ hcl) (hts _ hinst) (hts _ hini) rfl hdg hcells hslots hKn.2.1 rfl fun H1 kC hkC e1 z1 o1 => ?_
  refine k H.size (hB.fresh (Nat.le_refl _)) H1 locs ls (hB.add (hA _ hS.1) ⟨_, hc, (u_born ty0 hts hin hKn hkC e1 hty).to hfs⟩ o1) ⟨Nat.le_trans hS.1 (by omega), fun x h1 h2 => (o1 x (Nat.lt_of_lt_of_le h1 hS.1)).trans (hS.2.1 x h1 h2), hS.2.2⟩ hl
theorem j_newI (X : Cx p l s m args meth c cc nL ret own G A) {n : Int32} {N : Nat} (harr : Cond.arrayClass .int ∈ wsA) (hn0 : ¬ n < 0) (hN : n.toNatClampNeg = N) (hb4 : N ≤ 1000) (hcells : cells + 1 ≤ R.cells) (hslots : slots + N ≤ R.slots) (hdg : decode cc pc = .ok (.newarray .int, 2)) (hn : pc + 2 = pc') (k : ∀ q, μ q = none → J p l e R s m args below meth c nL G A Q (cells + 1) (slots + N) pc' loc (.ref q :: rest) (ups μ q (eI N (fun _ => 0)))) : J p l e R s m args below meth c nL G A Q cells slots pc loc (.int n :: rest) μ := by
  subst hn
  intro H locs ls hB hS hl
  obtain ⟨hx, hb, hr, hml, hown, hts, hlk, hSK, hA⟩ := X
  refine va_newaK hx hb (atype := .int) (hts _ harr) rfl hdg rfl hn0 hN (by show N * 4 ≤ 536870912; omega) hcells hslots rfl fun H1 cA e1 z1 o1 hAr hNm => ?_
  have hcA : cA = G.2.1.1 := Option.some.inj (hNm.symm.trans (hSK.1.2 0 _ rfl).2)
  subst hcA
  exact k H.size (hB.fresh (Nat.le_refl _)) H1 locs ls (hB.add (hA _ hS.1) e1 o1) ⟨Nat.le_trans hS.1 (by omega), fun x h1 h2 => (o1 x (Nat.lt_of_lt_of_le h1 hS.1)).trans (hS.2.1 x h1 h2), hS.2.2⟩ hl
theorem j_newT (X : Cx p l s m args meth c cc nL ret own G A) {n : Int32} {N index : Nat} (hcl : Cond.classLink own index "BitNotation$Type" ∈ wsA) (hn0 : ¬ n < 0) (hN : n.toNatClampNeg = N) (hb4 : N ≤ 1000) (hcells : cells + 1 ≤ R.cells) (hslots : slots + N ≤ R.slots) (hdg : decode cc pc = .ok (.anewarray index, 3)) (hn : pc + 3 = pc') (k : ∀ q, μ q = none → J p l e R s m args below meth c nL G A Q (cells + 1) (slots + N) pc' loc (.ref q :: rest) (ups μ q (eT N (fun _ => none)))) : J p l e R s m args below meth c nL G A Q cells slots pc loc (.int n :: rest) μ := by
  subst hn
  intro H locs ls hB hS hl
  obtain ⟨hx, hb, hr, hml, hown, hts, hlk, hSK, hA⟩ := X
  subst hN
  refine W.anew hx hb hown (hts _ hcl) (va_AO.use hSK.2.2.2.2.2.2.2.1) rfl hdg rfl hn0 (by omega) hcells hslots fun cA kA comp f1 f2 f3 f4 => ?_
  generalize hH1 : H.push ({ cls := cA, slots := Array.replicate n.toNatClampNeg .null, vm := .none } : Cell) = H1
  have z1 : H1.size = H.size + 1 := by rw [← hH1, Array.size_push]
  have e1 : H1[H.size]? = some (arrV cA n.toNatClampNeg (fun _ => .null)) := by rw [← hH1, Array.getElem?_push_size, ← arrV_new]
  have o1 : ∀ q : Nat, q < H.size → H1[q]? = H[q]? := fun q hq => by rw [← hH1, Array.getElem?_push, if_neg (Nat.ne_of_lt hq)]
  have hcA : cA = G.2.1.2.2 := by
    obtain ⟨kA2, comp2, g2, g3, g4, g5⟩ := (hSK.1.2 2 _ rfl).2
    exact Option.some.inj (f1.symm.trans g5)
  subst hcA
  exact k H.size (hB.fresh (Nat.le_refl _)) H1 locs ls (hB.add (hA _ hS.1) e1 o1) ⟨Nat.le_trans hS.1 (by omega), fun x h1 h2 => (o1 x (Nat.lt_of_lt_of_le h1 hS.1)).trans (hS.2.1 x h1 h2), hS.2.2⟩ hl
theorem j_kind (X : Cx p l s m args meth c cc nL ret own G A) {index : Nat} (kk : Nat) (hkk : kk < 4) (hlink : Cond.fieldLink own index "BitNotation$Kind" (kdN kk) "LBitNotation$Kind;" ∈ wsA) (hdg : decode cc pc = .ok (.getstatic index, 3)) (hn : pc + 3 = pc') (k : J p l e R s m args below meth c nL G A Q cells slots pc' loc (.ref (G.2.2 kk) :: rest) μ) : J p l e R s m args below meth c nL G A Q cells slots pc loc rest μ := by
  subst hn
  intro H locs ls hB hS hl
  obtain ⟨hx, hb, hr, hml, hown, hts, hlk, hSK, hA⟩ := X
  exact va_gets hx hb (hSK.2.1 kk hkk) hS hown (hts _ hlink) (fun _ h => h) hdg (k H locs ls hB hS hl)
theorem j_objInit (X : Cx p l s m args meth c cc nL ret own G A) {idx a : Nat} (hlink : Cond.methodLink own idx objectInit ∈ wsA) (hinst : Cond.instanceMethod objectInit ∈ wsA) (hcode : Cond.code objectInit ⟨#[0xb1]⟩ 1 none ∈ wsA) (hf : 1 ≤ R.frames) (ho : (rest.map fun v => v.category).sum + 12 ≤ R.locals) (hdg : decode cc pc = .ok (.invokespecial idx, 3)) (hn : pc + 3 = pc') (k : J p l e R s m args below meth c nL G A Q cells slots pc' loc rest μ) : J p l e R s m args below meth c nL G A Q cells slots pc loc (.ref a :: rest) μ := by
  subst hn
  intro H locs ls hB hS hl
  obtain ⟨hx, hb, hr, hml, hown, hts, hlk, hSK, hA⟩ := X
  exact W.objInit hx hb hown (hts _ hlink) (hts _ hinst) (hts _ hcode) rfl (by rw [hml]; exact hl.1) rfl hdg hf (by show 2 * 0 + _ + 12 ≤ _; omega) (k H locs ls hB hS hl)
end JR
