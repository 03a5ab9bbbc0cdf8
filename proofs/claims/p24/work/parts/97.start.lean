/-! THE CLAIM OUT OF ONE WALK OF THE LAW'S BODY. Your part is whole_start (and what it stands on); all else here is the same for every law, but numbers. -/
def R_law : String := "BitNotationLaw"
def lw_P (b : Addr) (xs : List Int32) (args : Array Value) (s : State) : Prop := args = #[.ref b] ∧ s.IntsAt b xs ∧ xs.length ≤ 260 ∧ (Jvm.Cond.and given_1 narrow_1).before args s = true
def lw_Q (_ : Array Value) (s : State) (o : Outcome) (t : State) : Prop := o = .returned (some (.int 1)) ∧ Framed s o t [] 787991 6737495
def lw_Z (below : List Frame) (a : Array Value) (s : State) : State → Prop := fun t => ∃ o, t.status = .running ∧ Ended t below o ∧ lw_Q a s o t
/-- the law's own end, with 1 on the stack, nothing written that was there before, its room as the claim has it -/
theorem lw_ret {p : Program} {l : Launch} {e : Env} {s : State} {m : MethodId} {below : List Frame} {meth : Method} {c : Code} {b : Nat} (hx : p.tables.exec = Jvm.exec) (hb : c.code = code) (hr : meth.sig.returnType = ret) (hlocks : meth.locks = false) {pc : Nat} {H : Heap} {ls : Array Slot} (hdg : decode code pc = .ok (.ireturn, 1)) : W p l e room_1 s m #[Value.ref b] below meth c H [] 787991 6737495 (lw_Z below #[Value.ref b] s) (F0 m pc ls [.int 1]) := by
  intro T hT X
  obtain ⟨fs, hret, hrun, hended, hW, hframe⟩ := X.leave (v := some (.int 1)) (hlocks := hlocks) (fun h => by rw [hr] at h; cases h)
  have hmeth' : T.vm.method? m = some meth := X.method'
  refine ⟨T.setFrames fs, ?_, .returned (some (.int 1)), hrun, hended, rfl, ⟨_, rfl⟩, hW, hframe⟩
  jvm_step X.here [X.here.top, hx, hb, hdg, hmeth', hr, ret, narrow_b1]
  (try refine ⟨rfl, ?_⟩); (try refine ⟨rfl, ?_⟩)
  first | (intro acts; rw [hret _ acts rfl rfl rfl]) | rw [hret _ _ rfl rfl rfl]
  exact Steps.refl _
/-- what holds at the law's entry: the machine, the code, the tables' words (any of lw_tbl by 'hts w (by decide +kernel)'), the script of L ints xs at the cell b, what the Statement gives of the start (any of its parts by flat_of_before) -/
def lw_At (p : Program) (s : State) (m : MethodId) (meth : Method) (c : Code) (b L : Nat) (xs : Nat → Int32) : Prop :=
  p.tables.exec = Jvm.exec ∧ c.code = code ∧ meth.sig.returnType = ret ∧ c.maxLocals = 7 ∧ s.vm.findClass R_law = some m.cls ∧ (∀ w ∈ lw_tbl, w.before #[Value.ref b] s = true) ∧ va_X b L xs s s.heap ∧ b < s.heap.size ∧ meth.locks = false ∧ (Jvm.Cond.and given_1 narrow_1).before #[Value.ref b] s = true
theorem tbl_1 {w : Cond} (h : w ∈ tables_1_1) : w ∈ lw_tbl := List.mem_append_right _ (List.mem_append_left _ h)
theorem tbl_2 {w : Cond} (h : w ∈ tables_1_2) : w ∈ lw_tbl := List.mem_append_right _ (List.mem_append_right _ (List.mem_append_left _ h))
theorem tbl_3 {w : Cond} (h : w ∈ tables_1_3) : w ∈ lw_tbl := List.mem_append_right _ (List.mem_append_right _ (List.mem_append_right _ (h)))
set_option maxHeartbeats 4000000 in
set_option maxRecDepth 100000 in
/-- what the law's start gives of the world that stays -/
theorem SK_start {s : State} {b : Nat} (hts : ∀ w ∈ lw_tbl, w.before #[Value.ref b] s = true) (hgv : (Jvm.Cond.and given_1 narrow_1).before #[Value.ref b] s = true) : ∃ G : gG, SK G (fun q : Nat => s.heap.size ≤ q) s s.heap ∧ ∀ i j, i < 4 → j < 4 → G.2.2 i = G.2.2 j → i = j := by
  have hs := flat_of_before _ hgv
  have hA : ∀ a : Nat, a < s.heap.size → ¬ (fun q : Nat => s.heap.size ≤ q) a := fun a h => Nat.not_le.mpr h
  obtain ⟨cX1, iX1, hKX1⟩ := u_known (C := RX1) (T := TX1) (N := 4) (n := 4) hts (fun w h => wsA_tbl w (fw_TX1 w h)) (hts _ (tbl_1 (List.mem_of_getElem? (i := 77) rfl)))
  obtain ⟨cX2, iX2, hKX2⟩ := u_known (C := RX2) (T := TX2) (N := 2) (n := 2) hts (fun w h => wsA_tbl w (fw_TX2 w h)) (hts _ (tbl_1 (List.mem_of_getElem? (i := 43) rfl)))
  obtain ⟨cX3, iX3, hKX3⟩ := u_known (C := RX3) (T := TX3) (N := 10) (n := 10) hts (fun w h => wsA_tbl w (fw_TX3 w h)) (hts _ (tbl_1 (List.mem_of_getElem? (i := 225) rfl)))
  obtain ⟨cX4, iX4, hKX4⟩ := u_known (C := RX4) (T := TX4) (N := 2) (n := 2) hts (fun w h => wsA_tbl w (fw_TX4 w h)) (hts _ (tbl_1 (List.mem_of_getElem? (i := 25) rfl)))
  obtain ⟨cX5, iX5, hKX5⟩ := u_known (C := RX5) (T := TX5) (N := 3) (n := 3) hts (fun w h => wsA_tbl w (fw_TX5 w h)) (hts _ (tbl_1 (List.mem_of_getElem? (i := 58) rfl)))
  obtain ⟨cX6, iX6, hKX6⟩ := u_known (C := RX6) (T := TX6) (N := 7) (n := 7) hts (fun w h => wsA_tbl w (fw_TX6 w h)) (hts _ (tbl_1 (List.mem_of_getElem? (i := 17) rfl)))
  obtain ⟨a1, k1, p1, f1, f2, f3⟩ := Cond.arrayClass_spec (hts _ (tbl_1 (List.mem_of_getElem? (i := 56) rfl)))
  obtain ⟨p3, a3, k3, h1, -, h3, h4, h5⟩ := Cond.arrayOver_spec (hts _ (tbl_1 (List.mem_of_getElem? (i := 34) rfl)))
  obtain ⟨d0, -, -, -, hd0, -⟩ := Cond.exactly_spec (hs (.exactly (.static "BitNotation$Kind" "NUMBER" "LBitNotation$Kind;") "BitNotation$Kind") (by decide +kernel))
  obtain ⟨d1, -, -, -, hd1, -⟩ := Cond.exactly_spec (hs (.exactly (.static "BitNotation$Kind" "LIST" "LBitNotation$Kind;") "BitNotation$Kind") (by decide +kernel))
  obtain ⟨d2, -, -, -, hd2, -⟩ := Cond.exactly_spec (hs (.exactly (.static "BitNotation$Kind" "SEQUENCE" "LBitNotation$Kind;") "BitNotation$Kind") (by decide +kernel))
  obtain ⟨d3, -, -, -, hd3, -⟩ := Cond.exactly_spec (hs (.exactly (.static "BitNotation$Kind" "CHOICE" "LBitNotation$Kind;") "BitNotation$Kind") (by decide +kernel))
  have n02 : d0 ≠ d2 := va_neR (hs (.not (.eq (.static "BitNotation$Kind" "NUMBER" "LBitNotation$Kind;") (.static "BitNotation$Kind" "SEQUENCE" "LBitNotation$Kind;"))) (by decide +kernel)) hd0 hd2
  have n01 : d0 ≠ d1 := va_neR (hs (.not (.eq (.static "BitNotation$Kind" "NUMBER" "LBitNotation$Kind;") (.static "BitNotation$Kind" "LIST" "LBitNotation$Kind;"))) (by decide +kernel)) hd0 hd1
  have n21 : d2 ≠ d1 := va_neR (hs (.not (.eq (.static "BitNotation$Kind" "SEQUENCE" "LBitNotation$Kind;") (.static "BitNotation$Kind" "LIST" "LBitNotation$Kind;"))) (by decide +kernel)) hd2 hd1
  have n03 : d0 ≠ d3 := va_neR (hs (.not (.eq (.static "BitNotation$Kind" "NUMBER" "LBitNotation$Kind;") (.static "BitNotation$Kind" "CHOICE" "LBitNotation$Kind;"))) (by decide +kernel)) hd0 hd3
  have n23 : d2 ≠ d3 := va_neR (hs (.not (.eq (.static "BitNotation$Kind" "SEQUENCE" "LBitNotation$Kind;") (.static "BitNotation$Kind" "CHOICE" "LBitNotation$Kind;"))) (by decide +kernel)) hd2 hd3
  have n13 : d1 ≠ d3 := va_neR (hs (.not (.eq (.static "BitNotation$Kind" "LIST" "LBitNotation$Kind;") (.static "BitNotation$Kind" "CHOICE" "LBitNotation$Kind;"))) (by decide +kernel)) hd1 hd3
  obtain ⟨t0, -, -, -, ht0, -⟩ := Cond.exactly_spec (hs (.exactly (.string "BitNotation" 55) "java/lang/String") (by decide +kernel))
  obtain ⟨t1, -, -, -, ht1, -⟩ := Cond.exactly_spec (hs (.exactly (.string "BitNotation" 79) "java/lang/String") (by decide +kernel))
  obtain ⟨t2, -, -, -, ht2, -⟩ := Cond.exactly_spec (hs (.exactly (.string "BitNotation" 94) "java/lang/String") (by decide +kernel))
  obtain ⟨t3, -, -, -, ht3, -⟩ := Cond.exactly_spec (hs (.exactly (.string "BitNotation" 113) "java/lang/String") (by decide +kernel))
  obtain ⟨t4, -, -, -, ht4, -⟩ := Cond.exactly_spec (hs (.exactly (.string "BitNotation" 118) "java/lang/String") (by decide +kernel))
  obtain ⟨t5, -, -, -, ht5, -⟩ := Cond.exactly_spec (hs (.exactly (.string "BitNotation" 126) "java/lang/String") (by decide +kernel))
  obtain ⟨t6, -, -, -, ht6, -⟩ := Cond.exactly_spec (hs (.exactly (.string "BitNotation" 134) "java/lang/String") (by decide +kernel))
  obtain ⟨t7, -, -, -, ht7, -⟩ := Cond.exactly_spec (hs (.exactly (.string "BitNotation" 137) "java/lang/String") (by decide +kernel))
  obtain ⟨t8, -, -, -, ht8, -⟩ := Cond.exactly_spec (hs (.exactly (.string "BitNotation" 151) "java/lang/String") (by decide +kernel))
  obtain ⟨t9, -, -, -, ht9, -⟩ := Cond.exactly_spec (hs (.exactly (.string "BitNotation" 162) "java/lang/String") (by decide +kernel))
  obtain ⟨t10, -, -, -, ht10, -⟩ := Cond.exactly_spec (hs (.exactly (.string "BitNotation" 171) "java/lang/String") (by decide +kernel))
  obtain ⟨t11, -, -, -, ht11, -⟩ := Cond.exactly_spec (hs (.exactly (.string "BitNotation" 177) "java/lang/String") (by decide +kernel))
  obtain ⟨t12, -, -, -, ht12, -⟩ := Cond.exactly_spec (hs (.exactly (.string "BitNotation" 183) "java/lang/String") (by decide +kernel))
  obtain ⟨t13, -, -, -, ht13, -⟩ := Cond.exactly_spec (hs (.exactly (.string "BitNotation" 190) "java/lang/String") (by decide +kernel))
  obtain ⟨t14, -, -, -, ht14, -⟩ := Cond.exactly_spec (hs (.exactly (.string "BitNotation" 195) "java/lang/String") (by decide +kernel))
  obtain ⟨t15, -, -, -, ht15, -⟩ := Cond.exactly_spec (hs (.exactly (.string "BitNotation" 197) "java/lang/String") (by decide +kernel))
  obtain ⟨t16, -, -, -, ht16, -⟩ := Cond.exactly_spec (hs (.exactly (.string "BitNotation" 199) "java/lang/String") (by decide +kernel))
  refine ⟨((fun k => match k with | 0 => cX1 | 1 => cX2 | 2 => cX3 | 3 => cX4 | 4 => cX5 | _ => cX6, fun k => match k with | 0 => iX1 | 1 => iX2 | 2 => iX3 | 3 => iX4 | 4 => iX5 | _ => iX6), (a1, a1, a3), fun k => match k with | 0 => d0 | 1 => d1 | 2 => d2 | _ => d3), ⟨⟨?_, ?_⟩, ?_, ?_, ?_, ?_, ?_, ?_, ?_, ?_, ?_, ?_⟩, ?_⟩
  · intro k q hq
    match k, hq with
    | 0, hq => cases hq; exact hKX1
    | 1, hq => cases hq; exact hKX2
    | 2, hq => cases hq; exact hKX3
    | 3, hq => cases hq; exact hKX4
    | 4, hq => cases hq; exact hKX5
    | 5, hq => cases hq; exact hKX6
    | k + 6, hq => simp [vwCl] at hq
  · intro k q hq
    match k, hq with
    | 0, hq => cases hq; exact ⟨fun n z => ⟨fun k h => (by cases h), k1, f2, p1, f3⟩, f1⟩
    | 1, hq => cases hq; exact ⟨fun n z => ⟨fun k h => (by cases h), k1, f2, p1, f3⟩, f1⟩
    | 2, hq => cases hq; exact ⟨fun n z => ⟨fun k h => (by cases h), k3, h3, p3, h4⟩, k3, p3, h3, h4, h1, h5⟩
    | k + 3, hq => simp [tysG] at hq
  · intro k hk
    match k, hk with
    | 0, _ => exact va_Zof (hts _ (tbl_1 (List.mem_of_getElem? (i := 227) rfl))) (hts _ (tbl_1 (List.mem_of_getElem? (i := 13) rfl))) hd0 hA
    | 1, _ => exact va_Zof (hts _ (tbl_2 (List.mem_of_getElem? (i := 59) rfl))) (hts _ (tbl_1 (List.mem_of_getElem? (i := 13) rfl))) hd1 hA
    | 2, _ => exact va_Zof (hts _ (tbl_1 (List.mem_of_getElem? (i := 237) rfl))) (hts _ (tbl_1 (List.mem_of_getElem? (i := 13) rfl))) hd2 hA
    | 3, _ => exact va_Zof (hts _ (tbl_2 (List.mem_of_getElem? (i := 69) rfl))) (hts _ (tbl_1 (List.mem_of_getElem? (i := 13) rfl))) hd3 hA
    | k + 4, h => exact absurd h (by omega)
  · exact vx_Zqof (hts _ (tbl_1 (List.mem_of_getElem? (i := 183) rfl))) (hts _ (tbl_1 (List.mem_of_getElem? (i := 7) rfl))) (hs (.isRef (.static "java/lang/Throwable" "UNASSIGNED_STACK" "[Ljava/lang/StackTraceElement;")) (by decide +kernel)) hA
  · exact vx_Zqof (hts _ (tbl_1 (List.mem_of_getElem? (i := 185) rfl))) (hts _ (tbl_1 (List.mem_of_getElem? (i := 7) rfl))) (hs (.isRef (.static "java/lang/Throwable" "SUPPRESSED_SENTINEL" "Ljava/util/List;")) (by decide +kernel)) hA
  · exact List.forall_mem_cons.mpr ⟨va_Nw.of rfl (hts _ (tbl_1 (List.mem_of_getElem? (i := 158) rfl))), List.forall_mem_cons.mpr ⟨va_Nw.of rfl (hts _ (tbl_2 (List.mem_of_getElem? (i := 93) rfl))), List.forall_mem_cons.mpr ⟨va_Nw.of rfl (hts _ (tbl_2 (List.mem_of_getElem? (i := 128) rfl))), fun _ h => absurd h List.not_mem_nil⟩⟩⟩
  · exact List.forall_mem_cons.mpr ⟨(List.forall_mem_cons.mpr ⟨fun n => absurd rfl n, List.forall_mem_cons.mpr ⟨fun n => va_Nc.of (hs (.not (.castable "java/lang/IllegalArgumentException" "java/lang/IllegalStateException")) (by decide +kernel)), List.forall_mem_cons.mpr ⟨fun n => va_Nc.of (hs (.not (.castable "java/lang/IllegalArgumentException" "java/lang/IndexOutOfBoundsException")) (by decide +kernel)), fun _ h => absurd h List.not_mem_nil⟩⟩⟩), List.forall_mem_cons.mpr ⟨(List.forall_mem_cons.mpr ⟨fun n => va_Nc.of (hs (.not (.castable "java/lang/IllegalStateException" "java/lang/IllegalArgumentException")) (by decide +kernel)), List.forall_mem_cons.mpr ⟨fun n => absurd rfl n, List.forall_mem_cons.mpr ⟨fun n => va_Nc.of (hs (.not (.castable "java/lang/IllegalStateException" "java/lang/IndexOutOfBoundsException")) (by decide +kernel)), fun _ h => absurd h List.not_mem_nil⟩⟩⟩), List.forall_mem_cons.mpr ⟨(List.forall_mem_cons.mpr ⟨fun n => va_Nc.of (hs (.not (.castable "java/lang/IndexOutOfBoundsException" "java/lang/IllegalArgumentException")) (by decide +kernel)), List.forall_mem_cons.mpr ⟨fun n => va_Nc.of (hs (.not (.castable "java/lang/IndexOutOfBoundsException" "java/lang/IllegalStateException")) (by decide +kernel)), List.forall_mem_cons.mpr ⟨fun n => absurd rfl n, fun _ h => absurd h List.not_mem_nil⟩⟩⟩), fun _ h => absurd h List.not_mem_nil⟩⟩⟩
  · exact List.forall_mem_cons.mpr ⟨⟨t0, vk_R.of (hts _ (tbl_1 (List.mem_of_getElem? (i := 197) rfl))) ht0⟩, List.forall_mem_cons.mpr ⟨⟨t1, vk_R.of (hts _ (tbl_2 (List.mem_of_getElem? (i := 142) rfl))) ht1⟩, List.forall_mem_cons.mpr ⟨⟨t2, vk_R.of (hts _ (tbl_2 (List.mem_of_getElem? (i := 152) rfl))) ht2⟩, List.forall_mem_cons.mpr ⟨⟨t3, vk_R.of (hts _ (tbl_2 (List.mem_of_getElem? (i := 161) rfl))) ht3⟩, List.forall_mem_cons.mpr ⟨⟨t4, vk_R.of (hts _ (tbl_2 (List.mem_of_getElem? (i := 162) rfl))) ht4⟩, List.forall_mem_cons.mpr ⟨⟨t5, vk_R.of (hts _ (tbl_2 (List.mem_of_getElem? (i := 173) rfl))) ht5⟩, List.forall_mem_cons.mpr ⟨⟨t6, vk_R.of (hts _ (tbl_2 (List.mem_of_getElem? (i := 195) rfl))) ht6⟩, List.forall_mem_cons.mpr ⟨⟨t7, vk_R.of (hts _ (tbl_2 (List.mem_of_getElem? (i := 200) rfl))) ht7⟩, List.forall_mem_cons.mpr ⟨⟨t8, vk_R.of (hts _ (tbl_2 (List.mem_of_getElem? (i := 216) rfl))) ht8⟩, List.forall_mem_cons.mpr ⟨⟨t9, vk_R.of (hts _ (tbl_3 (List.mem_of_getElem? (i := 47) rfl))) ht9⟩, List.forall_mem_cons.mpr ⟨⟨t10, vk_R.of (hts _ (tbl_3 (List.mem_of_getElem? (i := 63) rfl))) ht10⟩, List.forall_mem_cons.mpr ⟨⟨t11, vk_R.of (hts _ (tbl_3 (List.mem_of_getElem? (i := 79) rfl))) ht11⟩, List.forall_mem_cons.mpr ⟨⟨t12, vk_R.of (hts _ (tbl_3 (List.mem_of_getElem? (i := 137) rfl))) ht12⟩, List.forall_mem_cons.mpr ⟨⟨t13, vk_R.of (hts _ (tbl_2 (List.mem_of_getElem? (i := 135) rfl))) ht13⟩, List.forall_mem_cons.mpr ⟨⟨t14, vk_R.of (hts _ (tbl_2 (List.mem_of_getElem? (i := 100) rfl))) ht14⟩, List.forall_mem_cons.mpr ⟨⟨t15, vk_R.of (hts _ (tbl_3 (List.mem_of_getElem? (i := 159) rfl))) ht15⟩, List.forall_mem_cons.mpr ⟨⟨t16, vk_R.of (hts _ (tbl_3 (List.mem_of_getElem? (i := 92) rfl))) ht16⟩, fun _ h => absurd h List.not_mem_nil⟩⟩⟩⟩⟩⟩⟩⟩⟩⟩⟩⟩⟩⟩⟩⟩⟩
  · exact va_AO.of (hts _ (tbl_1 (List.mem_of_getElem? (i := 34) rfl)))
  · exact List.forall_mem_cons.mpr ⟨va_Nw.of rfl (hts _ (tbl_1 (List.mem_of_getElem? (i := 66) rfl))), List.forall_mem_cons.mpr ⟨va_Nw.of rfl (hts _ (tbl_1 (List.mem_of_getElem? (i := 85) rfl))), List.forall_mem_cons.mpr ⟨va_Nw.of rfl (hts _ (tbl_2 (List.mem_of_getElem? (i := 0) rfl))), List.forall_mem_cons.mpr ⟨va_Nw.of rfl (hts _ (tbl_2 (List.mem_of_getElem? (i := 1) rfl))), List.forall_mem_cons.mpr ⟨va_Nw.of rfl (hts _ (tbl_2 (List.mem_of_getElem? (i := 2) rfl))), List.forall_mem_cons.mpr ⟨va_Nw.of rfl (hts _ (tbl_2 (List.mem_of_getElem? (i := 4) rfl))), List.forall_mem_cons.mpr ⟨va_Nw.of rfl (hts _ (tbl_2 (List.mem_of_getElem? (i := 5) rfl))), List.forall_mem_cons.mpr ⟨va_Nw.of rfl (hts _ (tbl_2 (List.mem_of_getElem? (i := 7) rfl))), List.forall_mem_cons.mpr ⟨va_Nw.of rfl (hts _ (tbl_2 (List.mem_of_getElem? (i := 8) rfl))), List.forall_mem_cons.mpr ⟨va_Nw.of rfl (hts _ (tbl_2 (List.mem_of_getElem? (i := 10) rfl))), List.forall_mem_cons.mpr ⟨va_Nw.of rfl (hts _ (tbl_2 (List.mem_of_getElem? (i := 11) rfl))), List.forall_mem_cons.mpr ⟨va_Nw.of rfl (hts _ (tbl_2 (List.mem_of_getElem? (i := 13) rfl))), List.forall_mem_cons.mpr ⟨va_Nw.of rfl (hts _ (tbl_2 (List.mem_of_getElem? (i := 14) rfl))), List.forall_mem_cons.mpr ⟨va_Nw.of rfl (hts _ (tbl_2 (List.mem_of_getElem? (i := 17) rfl))), List.forall_mem_cons.mpr ⟨va_Nw.of rfl (hts _ (tbl_2 (List.mem_of_getElem? (i := 18) rfl))), List.forall_mem_cons.mpr ⟨va_Nw.of rfl (hts _ (tbl_2 (List.mem_of_getElem? (i := 19) rfl))), List.forall_mem_cons.mpr ⟨va_Nw.of rfl (hts _ (tbl_2 (List.mem_of_getElem? (i := 21) rfl))), List.forall_mem_cons.mpr ⟨va_Nw.of rfl (hts _ (tbl_2 (List.mem_of_getElem? (i := 23) rfl))), fun _ h => absurd h List.not_mem_nil⟩⟩⟩⟩⟩⟩⟩⟩⟩⟩⟩⟩⟩⟩⟩⟩⟩⟩
  · exact List.forall_mem_cons.mpr ⟨va_Nw.of rfl (hts _ (tbl_1 (List.mem_of_getElem? (i := 59) rfl))), List.forall_mem_cons.mpr ⟨va_Nw.of rfl (hts _ (tbl_1 (List.mem_of_getElem? (i := 78) rfl))), List.forall_mem_cons.mpr ⟨va_Nw.of rfl (hts _ (tbl_1 (List.mem_of_getElem? (i := 232) rfl))), List.forall_mem_cons.mpr ⟨va_Nw.of rfl (hts _ (tbl_3 (List.mem_of_getElem? (i := 21) rfl))), fun _ h => absurd h List.not_mem_nil⟩⟩⟩⟩
  · exact List.forall_mem_cons.mpr ⟨va_Nw.of rfl (hts _ (tbl_1 (List.mem_of_getElem? (i := 160) rfl))), List.forall_mem_cons.mpr ⟨va_Nw.of rfl (hts _ (tbl_1 (List.mem_of_getElem? (i := 162) rfl))), List.forall_mem_cons.mpr ⟨va_Nw.of rfl (hts _ (tbl_1 (List.mem_of_getElem? (i := 164) rfl))), fun _ h => absurd h List.not_mem_nil⟩⟩⟩
  · intro i j hi hj h
    match i, j, hi, hj, h with
    | 0, 0, _, _, h => exact rfl
    | 0, 1, _, _, h => exact absurd h n01
    | 0, 2, _, _, h => exact absurd h n02
    | 0, 3, _, _, h => exact absurd h n03
    | 1, 0, _, _, h => exact absurd h n01.symm
    | 1, 1, _, _, h => exact rfl
    | 1, 2, _, _, h => exact absurd h n21.symm
    | 1, 3, _, _, h => exact absurd h n13
    | 2, 0, _, _, h => exact absurd h n02.symm
    | 2, 1, _, _, h => exact absurd h n21
    | 2, 2, _, _, h => exact rfl
    | 2, 3, _, _, h => exact absurd h n23
    | 3, 0, _, _, h => exact absurd h n03.symm
    | 3, 1, _, _, h => exact absurd h n13.symm
    | 3, 2, _, _, h => exact absurd h n23.symm
    | 3, 3, _, _, h => exact rfl
    | i + 4, _, hi, _, _ => exact absurd hi (by omega)
    | _, j + 4, _, hj, _ => exact absurd hj (by omega)
