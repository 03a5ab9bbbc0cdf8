/-! BitNotationModel.told(I)I -/
theorem dX7_told_0 : decode cX7_told 0 = .ok (.aload_n 0, 1) := by decide +kernel
theorem dX7_told_1 : decode cX7_told 1 = .ok (.iload_n 1, 1) := by decide +kernel
theorem dX7_told_2 : decode cX7_told 2 = .ok (.iconst 0, 1) := by decide +kernel
theorem dX7_told_3 : decode cX7_told 3 = .ok (.aload_n 0, 1) := by decide +kernel
theorem dX7_told_4 : decode cX7_told 4 = .ok (.getfield 139, 3) := by decide +kernel
theorem dX7_told_7 : decode cX7_told 7 = .ok (.iconst 1, 1) := by decide +kernel
theorem dX7_told_8 : decode cX7_told 8 = .ok (.isub, 1) := by decide +kernel
theorem dX7_told_9 : decode cX7_told 9 = .ok (.invokestatic 80, 3) := by decide +kernel
theorem dX7_told_12 : decode cX7_told 12 = .ok (.ifCond .eq 7, 3) := by decide +kernel
theorem dX7_told_15 : decode cX7_told 15 = .ok (.iconst 0, 1) := by decide +kernel
theorem dX7_told_16 : decode cX7_told 16 = .ok (.goto 4, 3) := by decide +kernel
theorem dX7_told_19 : decode cX7_told 19 = .ok (.iconst 1, 1) := by decide +kernel
theorem dX7_told_20 : decode cX7_told 20 = .ok (.invokevirtual 109, 3) := by decide +kernel
theorem dX7_told_23 : decode cX7_told 23 = .ok (.ifCond .eq 7, 3) := by decide +kernel
theorem dX7_told_26 : decode cX7_told 26 = .ok (.iconst 0, 1) := by decide +kernel
theorem dX7_told_27 : decode cX7_told 27 = .ok (.goto 9, 3) := by decide +kernel
theorem dX7_told_30 : decode cX7_told 30 = .ok (.aload_n 0, 1) := by decide +kernel
theorem dX7_told_31 : decode cX7_told 31 = .ok (.getfield 43, 3) := by decide +kernel
theorem dX7_told_34 : decode cX7_told 34 = .ok (.iload_n 1, 1) := by decide +kernel
theorem dX7_told_35 : decode cX7_told 35 = .ok (.iaload, 1) := by decide +kernel
theorem dX7_told_36 : decode cX7_told 36 = .ok (.ireturn, 1) := by decide +kernel
def wb_X7_told_20 (post : Int32 → (Nat → Int32) → (Nat → Nat → Int32) → Prop)  (v1 : Int32) (s0 : Int32) (σ : Nat → Int32) (α : Nat → Nat → Int32) : Prop := wp_X7_refused s0 σ α (fun r4 σ5 α6 => (r4 = 0 → (vp_in v1 300 ∧ post (α6 15 v1.toNatClampNeg) σ5 α6)) ∧ (¬ r4 = 0 → (post (0 : Int32) σ5 α6)))
set_option maxHeartbeats 4000000 in
set_option maxRecDepth 100000 in
theorem tb_X7_told_20 {p : Program} {l : Launch} {e : Env} {s : State} {m : MethodId} {args : Array Value} {below : List Frame} {meth : Method} {c : Code} {G : gG} {A : Nat → Prop} {μ0 : Mm} {mm : Nat} {rf : Nat → Nat} {post : Int32 → (Nat → Int32) → (Nat → Nat → Int32) → Prop} (X : Cx p l s m args meth c cX7_told 2 (some .int) RX7 G A) (hMO : MOk mm rf) : ∀ (v1 : Int32) (s0 : Int32) (σ : Nat → Int32) (α : Nat → Nat → Int32), wb_X7_told_20 post v1 s0 σ α → J p l e (rmL (1) 0 0) s m args below meth c 2 G A (MQ below (QG G A (pI (pMi μ0 mm rf post))) args s 0 0 A) 0 0 20 [(0, .ref mm), (1, .int v1)] [.int s0, .ref mm] (mset μ0 mm rf σ α) := by
  intro v1 s0 σ α hw
  unfold wb_X7_told_20 at hw
  refine j_callVi (As := [.int s0]) (rest := []) X (pc' := 23) (cells' := 0) (slots' := 0) (c_X7_refused l G A hMO μ0 s0 σ α _ hw) (gk_X7_refused wt_4_27) hd_X7_refused (rmL_fit (k1 := 0) (k := 1) (by omega) (by decide)) mset_o rfl rfl rfl (Nat.le_of_ble_eq_true rfl) dX7_told_20 rfl ⟨Nat.le_of_ble_eq_true rfl, Nat.le_of_ble_eq_true rfl⟩ rfl rfl (fun r4 μ10 hw1 => ?_)
  obtain ⟨σ5, α6, rfl, hw2⟩ := hw1
  refine j_if_eq X (pc' := 26) (tgt := 30) dX7_told_23 rfl (by decide) (fun c7 => ?_) (fun c7 => ?_)
  · have hw3 := hw2.1 c7
    refine j_aload_n X (pc' := 31) (kk := 0) (i := 0) 0 rfl rfl dX7_told_30 rfl ?_
    refine j_getf X (pc' := 34) mset_o 15 rfl rfl fw_TX7 (by decide) wt_3_180 dX7_told_31 rfl ?_
    refine j_iload_n X (pc' := 35) (kk := 1) (i := 1) 1 rfl rfl dX7_told_34 rfl ?_
    have h8 := hw3.1
    have hw4 := hw3.2
    refine j_iald X (pc' := 36) (mset_a hMO 15 (by decide)) h8 dX7_told_35 rfl ?_
    exact j_iret X ⟨_, rfl, _, _, rfl, hw4⟩ (Nat.le_of_ble_eq_true rfl) (Nat.le_of_ble_eq_true rfl) dX7_told_36
  · have hw5 := hw2.2 c7
    refine j_iconst X (pc' := 27) (v := 0) (by decide) dX7_told_26 rfl ?_
    refine j_goto X (tgt := 36) dX7_told_27 (by decide) ?_
    exact j_iret X ⟨_, rfl, _, _, rfl, hw5⟩ (Nat.le_of_ble_eq_true rfl) (Nat.le_of_ble_eq_true rfl) dX7_told_36
def wp_X7_told (x1 : Int32) (σ : Nat → Int32) (α : Nat → Nat → Int32) (post : Int32 → (Nat → Int32) → (Nat → Nat → Int32) → Prop) : Prop := wp_X7_in x1 (0 : Int32) ((σ 14) - (1 : Int32)) (fun r1 => (r1 = 0 → (wb_X7_told_20 post x1 (1 : Int32) σ α)) ∧ (¬ r1 = 0 → (wb_X7_told_20 post x1 (0 : Int32) σ α)))
set_option maxHeartbeats 4000000 in
set_option maxRecDepth 100000 in
theorem c_X7_told (l : Launch) (G : gG) (A : Nat → Prop) {mm : Nat} {rf : Nat → Nat} (hMO : MOk mm rf) (μ0 : Mm) (x1 : Int32) (σ : Nat → Int32) (α : Nat → Nat → Int32) (post : Int32 → (Nat → Int32) → (Nat → Nat → Int32) → Prop) (h : wp_X7_told x1 σ α post) : Met l yX7_told (.code yX7_told cX7_told 2 (some .int) :: wsA) (rmL (1) 0 0) (PcG G A (mset μ0 mm rf σ α) [.ref mm, .int x1]) (QG G A (pI (pMi μ0 mm rf post))) 0 0 A := by
  refine met_J (loc := [(0, .ref mm), (1, .int x1)]) (by decide +kernel) (Nat.le_of_ble_eq_true rfl) rfl ?_
  intro p e s m args below meth c X hin
  have X : Cx p l s m args meth c cX7_told 2 (some .int) RX7 G A := X
  have hw := h
  unfold wp_X7_told at hw
  refine j_aload_n X (pc' := 1) (kk := 0) (i := 0) 0 rfl rfl dX7_told_0 rfl ?_
  refine j_iload_n X (pc' := 2) (kk := 1) (i := 1) 1 rfl rfl dX7_told_1 rfl ?_
  refine j_iconst X (pc' := 3) (v := 0) (by decide) dX7_told_2 rfl ?_
  refine j_aload_n X (pc' := 4) (kk := 0) (i := 0) 0 rfl rfl dX7_told_3 rfl ?_
  refine j_getf X (pc' := 7) mset_o 14 rfl rfl fw_TX7 (by decide) wt_3_179 dX7_told_4 rfl ?_
  refine j_iconst X (pc' := 8) (v := 1) (by decide) dX7_told_7 rfl ?_
  refine j_isub X (pc' := 9) dX7_told_8 rfl ?_
  refine j_callSp (As := [.int x1, .int (0 : Int32), .int ((σ 14) - (1 : Int32))]) (rest := [.ref mm]) X (pc' := 12) (cells' := 0) (slots' := 0) (c_X7_in l G A (mset μ0 mm rf σ α) x1 (0 : Int32) ((σ 14) - (1 : Int32)) _ hw) (gk_X7_in wt_4_24) hd_X7_in (rmL_fit (k1 := 0) (k := 1) (by omega) (by decide)) rfl rfl (Nat.le_of_ble_eq_true rfl) dX7_told_9 rfl ⟨Nat.le_of_ble_eq_true rfl, Nat.le_of_ble_eq_true rfl⟩ rfl rfl (fun r1 hw1 => ?_)
  refine j_if_eq X (pc' := 15) (tgt := 19) dX7_told_12 rfl (by decide) (fun c2 => ?_) (fun c2 => ?_)
  · have hw2 := hw1.1 c2
    refine j_iconst X (pc' := 20) (v := 1) (by decide) dX7_told_19 rfl ?_
    exact tb_X7_told_20 X hMO _ _ _ _ hw2
  · have hw3 := hw1.2 c2
    refine j_iconst X (pc' := 16) (v := 0) (by decide) dX7_told_15 rfl ?_
    refine j_goto X (tgt := 20) dX7_told_16 (by decide) ?_
    exact tb_X7_told_20 X hMO _ _ _ _ hw3
/-! BitNotationModel.push(I)V -/
theorem dX7_push_0 : decode cX7_push 0 = .ok (.aload_n 0, 1) := by decide +kernel
theorem dX7_push_1 : decode cX7_push 1 = .ok (.getfield 52, 3) := by decide +kernel
theorem dX7_push_4 : decode cX7_push 4 = .ok (.aload_n 0, 1) := by decide +kernel
theorem dX7_push_5 : decode cX7_push 5 = .ok (.getfield 142, 3) := by decide +kernel
theorem dX7_push_8 : decode cX7_push 8 = .ok (.iload_n 1, 1) := by decide +kernel
theorem dX7_push_9 : decode cX7_push 9 = .ok (.iastore, 1) := by decide +kernel
theorem dX7_push_10 : decode cX7_push 10 = .ok (.aload_n 0, 1) := by decide +kernel
theorem dX7_push_11 : decode cX7_push 11 = .ok (.getfield 55, 3) := by decide +kernel
theorem dX7_push_14 : decode cX7_push 14 = .ok (.aload_n 0, 1) := by decide +kernel
theorem dX7_push_15 : decode cX7_push 15 = .ok (.getfield 142, 3) := by decide +kernel
theorem dX7_push_18 : decode cX7_push 18 = .ok (.iconst 0, 1) := by decide +kernel
theorem dX7_push_19 : decode cX7_push 19 = .ok (.iastore, 1) := by decide +kernel
theorem dX7_push_20 : decode cX7_push 20 = .ok (.aload_n 0, 1) := by decide +kernel
theorem dX7_push_21 : decode cX7_push 21 = .ok (.getfield 64, 3) := by decide +kernel
theorem dX7_push_24 : decode cX7_push 24 = .ok (.aload_n 0, 1) := by decide +kernel
theorem dX7_push_25 : decode cX7_push 25 = .ok (.getfield 142, 3) := by decide +kernel
theorem dX7_push_28 : decode cX7_push 28 = .ok (.iconst (-1), 1) := by decide +kernel
theorem dX7_push_29 : decode cX7_push 29 = .ok (.iastore, 1) := by decide +kernel
theorem dX7_push_30 : decode cX7_push 30 = .ok (.aload_n 0, 1) := by decide +kernel
theorem dX7_push_31 : decode cX7_push 31 = .ok (.dup, 1) := by decide +kernel
theorem dX7_push_32 : decode cX7_push 32 = .ok (.getfield 142, 3) := by decide +kernel
theorem dX7_push_35 : decode cX7_push 35 = .ok (.iconst 1, 1) := by decide +kernel
theorem dX7_push_36 : decode cX7_push 36 = .ok (.iadd, 1) := by decide +kernel
theorem dX7_push_37 : decode cX7_push 37 = .ok (.putfield 142, 3) := by decide +kernel
theorem dX7_push_40 : decode cX7_push 40 = .ok (.return_, 1) := by decide +kernel
def wp_X7_push (x1 : Int32) (σ : Nat → Int32) (α : Nat → Nat → Int32) (post : (Nat → Int32) → (Nat → Nat → Int32) → Prop) : Prop := vp_in (σ 20) 20 ∧ ∀ α2, α2 = upA α 21 (upd (α 21) (σ 20).toNatClampNeg x1) → vp_in (σ 20) 20 ∧ ∀ α5, α5 = upA α2 22 (upd (α2 22) (σ 20).toNatClampNeg (0 : Int32)) → vp_in (σ 20) 20 ∧ ∀ α8, α8 = upA α5 25 (upd (α5 25) (σ 20).toNatClampNeg (-1 : Int32)) → ∀ σ10, σ10 = upd σ 20 ((σ 20) + (1 : Int32)) → post σ10 α8
set_option maxHeartbeats 4000000 in
set_option maxRecDepth 100000 in
theorem c_X7_push (l : Launch) (G : gG) (A : Nat → Prop) {mm : Nat} {rf : Nat → Nat} (hMO : MOk mm rf) (μ0 : Mm) (x1 : Int32) (σ : Nat → Int32) (α : Nat → Nat → Int32) (post : (Nat → Int32) → (Nat → Nat → Int32) → Prop) (h : wp_X7_push x1 σ α post) : Met l yX7_push (.code yX7_push cX7_push 2 none :: wsA) (rmL (0) 0 0) (PcG G A (mset μ0 mm rf σ α) [.ref mm, .int x1]) (QG G A (pV (pMv μ0 mm rf post))) 0 0 A := by
  refine met_J (loc := [(0, .ref mm), (1, .int x1)]) (by decide +kernel) (Nat.le_of_ble_eq_true rfl) rfl ?_
  intro p e s m args below meth c X hin
  have X : Cx p l s m args meth c cX7_push 2 none RX7 G A := X
  have hw := h
  unfold wp_X7_push at hw
  refine j_aload_n X (pc' := 1) (kk := 0) (i := 0) 0 rfl rfl dX7_push_0 rfl ?_
  refine j_getf X (pc' := 4) mset_o 21 rfl rfl fw_TX7 (by decide) wt_3_186 dX7_push_1 rfl ?_
  refine j_aload_n X (pc' := 5) (kk := 0) (i := 0) 0 rfl rfl dX7_push_4 rfl ?_
  refine j_getf X (pc' := 8) mset_o 20 rfl rfl fw_TX7 (by decide) wt_3_185 dX7_push_5 rfl ?_
  refine j_iload_n X (pc' := 9) (kk := 1) (i := 1) 1 rfl rfl dX7_push_8 rfl ?_
  have h1 := hw.1
  have hw1 := hw.2
  refine jm_iast X (pc' := 10) hMO 21 (by decide) h1 dX7_push_9 rfl (fun α2 e3 => ?_)
  have hw2 := hw1 α2 e3
  refine j_aload_n X (pc' := 11) (kk := 0) (i := 0) 0 rfl rfl dX7_push_10 rfl ?_
  refine j_getf X (pc' := 14) mset_o 22 rfl rfl fw_TX7 (by decide) wt_3_187 dX7_push_11 rfl ?_
  refine j_aload_n X (pc' := 15) (kk := 0) (i := 0) 0 rfl rfl dX7_push_14 rfl ?_
  refine j_getf X (pc' := 18) mset_o 20 rfl rfl fw_TX7 (by decide) wt_3_185 dX7_push_15 rfl ?_
  refine j_iconst X (pc' := 19) (v := 0) (by decide) dX7_push_18 rfl ?_
  have h4 := hw2.1
  have hw3 := hw2.2
  refine jm_iast X (pc' := 20) hMO 22 (by decide) h4 dX7_push_19 rfl (fun α5 e6 => ?_)
  have hw4 := hw3 α5 e6
  refine j_aload_n X (pc' := 21) (kk := 0) (i := 0) 0 rfl rfl dX7_push_20 rfl ?_
  refine j_getf X (pc' := 24) mset_o 25 rfl rfl fw_TX7 (by decide) wt_3_190 dX7_push_21 rfl ?_
  refine j_aload_n X (pc' := 25) (kk := 0) (i := 0) 0 rfl rfl dX7_push_24 rfl ?_
  refine j_getf X (pc' := 28) mset_o 20 rfl rfl fw_TX7 (by decide) wt_3_185 dX7_push_25 rfl ?_
  refine j_iconst X (pc' := 29) (v := (-1)) (by decide) dX7_push_28 rfl ?_
  have h7 := hw4.1
  have hw5 := hw4.2
  refine jm_iast X (pc' := 30) hMO 25 (by decide) h7 dX7_push_29 rfl (fun α8 e9 => ?_)
  have hw6 := hw5 α8 e9
  refine j_aload_n X (pc' := 31) (kk := 0) (i := 0) 0 rfl rfl dX7_push_30 rfl ?_
  refine j_dup X (pc' := 32) rfl dX7_push_31 rfl ?_
  refine j_getf X (pc' := 35) mset_o 20 rfl rfl fw_TX7 (by decide) wt_3_185 dX7_push_32 rfl ?_
  refine j_iconst X (pc' := 36) (v := 1) (by decide) dX7_push_35 rfl ?_
  refine j_iadd X (pc' := 37) dX7_push_36 rfl ?_
  refine jm_putf X (pc' := 40) 20 (mF_set_20 _ _ _) (by decide) rfl wt_3_185 (by decide +kernel) dX7_push_37 rfl (fun σ10 e11 => ?_)
  have hw7 := hw6 σ10 e11
  exact j_vret X ⟨rfl, _, _, rfl, hw7⟩ (Nat.le_of_ble_eq_true rfl) (Nat.le_of_ble_eq_true rfl) dX7_push_40
/-! BitNotationModel.emit(IIZ)V -/
theorem dX7_emit_0 : decode cX7_emit 0 = .ok (.iload_n 2, 1) := by decide +kernel
theorem dX7_emit_1 : decode cX7_emit 1 = .ok (.iconst 1, 1) := by decide +kernel
theorem dX7_emit_2 : decode cX7_emit 2 = .ok (.isub, 1) := by decide +kernel
theorem dX7_emit_3 : decode cX7_emit 3 = .ok (.istore 4, 2) := by decide +kernel
theorem dX7_emit_5 : decode cX7_emit 5 = .ok (.iload 4, 2) := by decide +kernel
theorem dX7_emit_7 : decode cX7_emit 7 = .ok (.ifCond .lt 38, 3) := by decide +kernel
theorem dX7_emit_10 : decode cX7_emit 10 = .ok (.iload_n 3, 1) := by decide +kernel
theorem dX7_emit_11 : decode cX7_emit 11 = .ok (.ifCond .eq 34, 3) := by decide +kernel
theorem dX7_emit_14 : decode cX7_emit 14 = .ok (.aload_n 0, 1) := by decide +kernel
theorem dX7_emit_15 : decode cX7_emit 15 = .ok (.getfield 46, 3) := by decide +kernel
theorem dX7_emit_18 : decode cX7_emit 18 = .ok (.aload_n 0, 1) := by decide +kernel
theorem dX7_emit_19 : decode cX7_emit 19 = .ok (.getfield 145, 3) := by decide +kernel
theorem dX7_emit_22 : decode cX7_emit 22 = .ok (.iload_n 1, 1) := by decide +kernel
theorem dX7_emit_23 : decode cX7_emit 23 = .ok (.iload 4, 2) := by decide +kernel
theorem dX7_emit_25 : decode cX7_emit 25 = .ok (.ishr, 1) := by decide +kernel
theorem dX7_emit_26 : decode cX7_emit 26 = .ok (.iconst 1, 1) := by decide +kernel
theorem dX7_emit_27 : decode cX7_emit 27 = .ok (.iand, 1) := by decide +kernel
theorem dX7_emit_28 : decode cX7_emit 28 = .ok (.iastore, 1) := by decide +kernel
theorem dX7_emit_29 : decode cX7_emit 29 = .ok (.aload_n 0, 1) := by decide +kernel
theorem dX7_emit_30 : decode cX7_emit 30 = .ok (.dup, 1) := by decide +kernel
theorem dX7_emit_31 : decode cX7_emit 31 = .ok (.getfield 145, 3) := by decide +kernel
theorem dX7_emit_34 : decode cX7_emit 34 = .ok (.iconst 1, 1) := by decide +kernel
theorem dX7_emit_35 : decode cX7_emit 35 = .ok (.iadd, 1) := by decide +kernel
theorem dX7_emit_36 : decode cX7_emit 36 = .ok (.putfield 145, 3) := by decide +kernel
theorem dX7_emit_39 : decode cX7_emit 39 = .ok (.iinc 4 (-1), 3) := by decide +kernel
theorem dX7_emit_42 : decode cX7_emit 42 = .ok (.goto (-37), 3) := by decide +kernel
theorem dX7_emit_45 : decode cX7_emit 45 = .ok (.return_, 1) := by decide +kernel
def wb_X7_emit_5 (post : (Nat → Int32) → (Nat → Nat → Int32) → Prop)  : Nat → Int32 → Int32 → Int32 → (Nat → Int32) → (Nat → Nat → Int32) → Prop
  | 0 => fun _ _ _ _ _ => False
  | n + 1 => fun v1 v3 v4 σ α => (v4 < 0 → (post σ α)) ∧ (¬ v4 < 0 → ((v3 = 0 → (post σ α)) ∧ (¬ v3 = 0 → (vp_in (σ 16) 300 ∧ ∀ α4, α4 = upA α 17 (upd (α 17) (σ 16).toNatClampNeg ((v1 >>> (v4 &&& 31)) &&& (1 : Int32))) → ∀ σ6, σ6 = upd σ 16 ((σ 16) + (1 : Int32)) → wb_X7_emit_5 post n v1 v3 (v4 + (-1)) σ6 α4))))
set_option maxHeartbeats 4000000 in
set_option maxRecDepth 100000 in
theorem tb_X7_emit_5 {p : Program} {l : Launch} {e : Env} {s : State} {m : MethodId} {args : Array Value} {below : List Frame} {meth : Method} {c : Code} {G : gG} {A : Nat → Prop} {μ0 : Mm} {mm : Nat} {rf : Nat → Nat} {post : (Nat → Int32) → (Nat → Nat → Int32) → Prop} (X : Cx p l s m args meth c cX7_emit 5 none RX7 G A) (hMO : MOk mm rf) : ∀ (n : Nat) (v1 : Int32) (v3 : Int32) (v4 : Int32) (σ : Nat → Int32) (α : Nat → Nat → Int32), wb_X7_emit_5 post n v1 v3 v4 σ α → J p l e (rmL (0) 0 0) s m args below meth c 5 G A (MQ below (QG G A (pV (pMv μ0 mm rf post))) args s 0 0 A) 0 0 5 [(0, .ref mm), (1, .int v1), (3, .int v3), (4, .int v4)] [] (mset μ0 mm rf σ α) := by
  intro n
  induction n with
  | zero => intro v1 v3 v4 σ α hw; exact hw.elim
  | succ n ih =>
    intro v1 v3 v4 σ α hw
    rw [wb_X7_emit_5] at hw
    refine j_iload X (pc' := 7) (i := 4) 3 rfl dX7_emit_5 rfl ?_
    refine j_if_lt X (pc' := 10) (tgt := 45) dX7_emit_7 rfl (by decide) (fun c1 => ?_) (fun c1 => ?_)
    · have hw1 := hw.1 c1
      exact j_vret X ⟨rfl, _, _, rfl, hw1⟩ (Nat.le_of_ble_eq_true rfl) (Nat.le_of_ble_eq_true rfl) dX7_emit_45
    · have hw2 := hw.2 c1
      refine j_iload_n X (pc' := 11) (kk := 3) (i := 3) 2 rfl rfl dX7_emit_10 rfl ?_
      refine j_if_eq X (pc' := 14) (tgt := 45) dX7_emit_11 rfl (by decide) (fun c2 => ?_) (fun c2 => ?_)
      · have hw3 := hw2.1 c2
        exact j_vret X ⟨rfl, _, _, rfl, hw3⟩ (Nat.le_of_ble_eq_true rfl) (Nat.le_of_ble_eq_true rfl) dX7_emit_45
      · have hw4 := hw2.2 c2
        refine j_aload_n X (pc' := 15) (kk := 0) (i := 0) 0 rfl rfl dX7_emit_14 rfl ?_
        refine j_getf X (pc' := 18) mset_o 17 rfl rfl fw_TX7 (by decide) wt_3_182 dX7_emit_15 rfl ?_
        refine j_aload_n X (pc' := 19) (kk := 0) (i := 0) 0 rfl rfl dX7_emit_18 rfl ?_
        refine j_getf X (pc' := 22) mset_o 16 rfl rfl fw_TX7 (by decide) wt_3_181 dX7_emit_19 rfl ?_
        refine j_iload_n X (pc' := 23) (kk := 1) (i := 1) 1 rfl rfl dX7_emit_22 rfl ?_
        refine j_iload X (pc' := 25) (i := 4) 3 rfl dX7_emit_23 rfl ?_
        refine j_ishr X (pc' := 26) dX7_emit_25 rfl ?_
        refine j_iconst X (pc' := 27) (v := 1) (by decide) dX7_emit_26 rfl ?_
        refine j_iand X (pc' := 28) dX7_emit_27 rfl ?_
        have h3 := hw4.1
        have hw5 := hw4.2
        refine jm_iast X (pc' := 29) hMO 17 (by decide) h3 dX7_emit_28 rfl (fun α4 e5 => ?_)
        have hw6 := hw5 α4 e5
        refine j_aload_n X (pc' := 30) (kk := 0) (i := 0) 0 rfl rfl dX7_emit_29 rfl ?_
        refine j_dup X (pc' := 31) rfl dX7_emit_30 rfl ?_
        refine j_getf X (pc' := 34) mset_o 16 rfl rfl fw_TX7 (by decide) wt_3_181 dX7_emit_31 rfl ?_
        refine j_iconst X (pc' := 35) (v := 1) (by decide) dX7_emit_34 rfl ?_
        refine j_iadd X (pc' := 36) dX7_emit_35 rfl ?_
        refine jm_putf X (pc' := 39) 16 (mF_set_16 _ _ _) (by decide) rfl wt_3_181 (by decide +kernel) dX7_emit_36 rfl (fun σ6 e7 => ?_)
        have hw7 := hw6 σ6 e7
        refine j_iinc X (pc' := 42) (i := 4) (v := v4 + (-1)) (loc' := [(4, .int (v4 + (-1))), (0, .ref mm), (1, .int v1), (3, .int v3)]) 3 rfl (ii_m1 _) dX7_emit_39 rfl (by decide) rfl ?_
        refine j_goto X (tgt := 5) dX7_emit_42 (by decide) ?_
        refine j_loc [1, 2, 3, 0] rfl ?_
        exact ih _ _ _ _ _ hw7
def wp_X7_emit (x1 : Int32) (x2 : Int32) (x3 : Int32) (σ : Nat → Int32) (α : Nat → Nat → Int32) (post : (Nat → Int32) → (Nat → Nat → Int32) → Prop) : Prop := ∃ n, wb_X7_emit_5 post n x1 x3 (x2 - (1 : Int32)) σ α
set_option maxHeartbeats 4000000 in
set_option maxRecDepth 100000 in
theorem c_X7_emit (l : Launch) (G : gG) (A : Nat → Prop) {mm : Nat} {rf : Nat → Nat} (hMO : MOk mm rf) (μ0 : Mm) (x1 : Int32) (x2 : Int32) (x3 : Int32) (σ : Nat → Int32) (α : Nat → Nat → Int32) (post : (Nat → Int32) → (Nat → Nat → Int32) → Prop) (h : wp_X7_emit x1 x2 x3 σ α post) : Met l yX7_emit (.code yX7_emit cX7_emit 5 none :: wsA) (rmL (0) 0 0) (PcG G A (mset μ0 mm rf σ α) [.ref mm, .int x1, .int x2, .int x3]) (QG G A (pV (pMv μ0 mm rf post))) 0 0 A := by
  refine met_J (loc := [(0, .ref mm), (1, .int x1), (2, .int x2), (3, .int x3)]) (by decide +kernel) (Nat.le_of_ble_eq_true rfl) rfl ?_
  intro p e s m args below meth c X hin
  have X : Cx p l s m args meth c cX7_emit 5 none RX7 G A := X
  have hw := h
  unfold wp_X7_emit at hw
  refine j_iload_n X (pc' := 1) (kk := 2) (i := 2) 2 rfl rfl dX7_emit_0 rfl ?_
  refine j_iconst X (pc' := 2) (v := 1) (by decide) dX7_emit_1 rfl ?_
  refine j_isub X (pc' := 3) dX7_emit_2 rfl ?_
  refine j_istore X (pc' := 5) (i := 4) (loc' := [(4, .int (x2 - (1 : Int32))), (0, .ref mm), (1, .int x1), (2, .int x2), (3, .int x3)]) dX7_emit_3 rfl (by decide) rfl ?_
  obtain ⟨n0, hw1⟩ := hw
  refine j_loc [1, 2, 4, 0] rfl ?_
  exact tb_X7_emit_5 X hMO n0 _ _ _ _ _ hw1
/-! BitNotationModel.isWrong(II)Z -/
theorem dX7_isWrong_0 : decode cX7_isWrong 0 = .ok (.aload_n 0, 1) := by decide +kernel
theorem dX7_isWrong_1 : decode cX7_isWrong 1 = .ok (.getfield 148, 3) := by decide +kernel
theorem dX7_isWrong_4 : decode cX7_isWrong 4 = .ok (.aload_n 0, 1) := by decide +kernel
theorem dX7_isWrong_5 : decode cX7_isWrong 5 = .ok (.getfield 139, 3) := by decide +kernel
theorem dX7_isWrong_8 : decode cX7_isWrong 8 = .ok (.if_icmp .ge 20, 3) := by decide +kernel
theorem dX7_isWrong_11 : decode cX7_isWrong 11 = .ok (.aload_n 0, 1) := by decide +kernel
theorem dX7_isWrong_12 : decode cX7_isWrong 12 = .ok (.getfield 43, 3) := by decide +kernel
theorem dX7_isWrong_15 : decode cX7_isWrong 15 = .ok (.aload_n 0, 1) := by decide +kernel
theorem dX7_isWrong_16 : decode cX7_isWrong 16 = .ok (.getfield 148, 3) := by decide +kernel
theorem dX7_isWrong_19 : decode cX7_isWrong 19 = .ok (.iaload, 1) := by decide +kernel
theorem dX7_isWrong_20 : decode cX7_isWrong 20 = .ok (.iload_n 1, 1) := by decide +kernel
theorem dX7_isWrong_21 : decode cX7_isWrong 21 = .ok (.iload_n 2, 1) := by decide +kernel
theorem dX7_isWrong_22 : decode cX7_isWrong 22 = .ok (.invokestatic 80, 3) := by decide +kernel
theorem dX7_isWrong_25 : decode cX7_isWrong 25 = .ok (.ifCond .ne 7, 3) := by decide +kernel
theorem dX7_isWrong_28 : decode cX7_isWrong 28 = .ok (.iconst 1, 1) := by decide +kernel
theorem dX7_isWrong_29 : decode cX7_isWrong 29 = .ok (.goto 4, 3) := by decide +kernel
theorem dX7_isWrong_32 : decode cX7_isWrong 32 = .ok (.iconst 0, 1) := by decide +kernel
theorem dX7_isWrong_33 : decode cX7_isWrong 33 = .ok (.istore_n 3, 1) := by decide +kernel
theorem dX7_isWrong_34 : decode cX7_isWrong 34 = .ok (.aload_n 0, 1) := by decide +kernel
theorem dX7_isWrong_35 : decode cX7_isWrong 35 = .ok (.iload_n 3, 1) := by decide +kernel
theorem dX7_isWrong_36 : decode cX7_isWrong 36 = .ok (.ifCond .eq 10, 3) := by decide +kernel
theorem dX7_isWrong_39 : decode cX7_isWrong 39 = .ok (.aload_n 0, 1) := by decide +kernel
theorem dX7_isWrong_40 : decode cX7_isWrong 40 = .ok (.getfield 148, 3) := by decide +kernel
theorem dX7_isWrong_43 : decode cX7_isWrong 43 = .ok (.goto 7, 3) := by decide +kernel
theorem dX7_isWrong_46 : decode cX7_isWrong 46 = .ok (.aload_n 0, 1) := by decide +kernel
theorem dX7_isWrong_47 : decode cX7_isWrong 47 = .ok (.getfield 151, 3) := by decide +kernel
theorem dX7_isWrong_50 : decode cX7_isWrong 50 = .ok (.putfield 151, 3) := by decide +kernel
theorem dX7_isWrong_53 : decode cX7_isWrong 53 = .ok (.iload_n 3, 1) := by decide +kernel
theorem dX7_isWrong_54 : decode cX7_isWrong 54 = .ok (.ireturn, 1) := by decide +kernel
def wb_X7_isWrong_50 (post : Int32 → (Nat → Int32) → (Nat → Nat → Int32) → Prop)  (v3 : Int32) (s0 : Int32) (σ : Nat → Int32) (α : Nat → Nat → Int32) : Prop := ∀ σ7, σ7 = upd σ 29 s0 → (v3 = 0 ∨ v3 = 1) ∧ post v3 σ7 α
set_option maxHeartbeats 4000000 in
set_option maxRecDepth 100000 in
theorem tb_X7_isWrong_50 {p : Program} {l : Launch} {e : Env} {s : State} {m : MethodId} {args : Array Value} {below : List Frame} {meth : Method} {c : Code} {G : gG} {A : Nat → Prop} {μ0 : Mm} {mm : Nat} {rf : Nat → Nat} {post : Int32 → (Nat → Int32) → (Nat → Nat → Int32) → Prop} (X : Cx p l s m args meth c cX7_isWrong 4 (some .boolean) RX7 G A) (hMO : MOk mm rf) : ∀ (v3 : Int32) (s0 : Int32) (σ : Nat → Int32) (α : Nat → Nat → Int32), wb_X7_isWrong_50 post v3 s0 σ α → J p l e (rmL (1) 0 0) s m args below meth c 4 G A (MQ below (QG G A (pI (pMi μ0 mm rf post))) args s 0 0 A) 0 0 50 [(0, .ref mm), (3, .int v3)] [.int s0, .ref mm] (mset μ0 mm rf σ α) := by
  intro v3 s0 σ α hw
  unfold wb_X7_isWrong_50 at hw
  refine jm_putf X (pc' := 53) 29 (mF_set_29 _ _ _) (by decide) rfl wt_3_194 (by decide +kernel) dX7_isWrong_50 rfl (fun σ7 e8 => ?_)
  have hw1 := hw σ7 e8
  refine j_iload_n X (pc' := 54) (kk := 3) (i := 3) 1 rfl rfl dX7_isWrong_53 rfl ?_
  have hb := hw1.1
  have hw2 := hw1.2
  exact j_zret X hb ⟨_, rfl, _, _, rfl, hw2⟩ (Nat.le_of_ble_eq_true rfl) (Nat.le_of_ble_eq_true rfl) dX7_isWrong_54
def wb_X7_isWrong_33 (post : Int32 → (Nat → Int32) → (Nat → Nat → Int32) → Prop)  (s0 : Int32) (σ : Nat → Int32) (α : Nat → Nat → Int32) : Prop := (s0 = 0 → (wb_X7_isWrong_50 post s0 (σ 29) σ α)) ∧ (¬ s0 = 0 → (wb_X7_isWrong_50 post s0 (σ 28) σ α))
set_option maxHeartbeats 4000000 in
set_option maxRecDepth 100000 in
theorem tb_X7_isWrong_33 {p : Program} {l : Launch} {e : Env} {s : State} {m : MethodId} {args : Array Value} {below : List Frame} {meth : Method} {c : Code} {G : gG} {A : Nat → Prop} {μ0 : Mm} {mm : Nat} {rf : Nat → Nat} {post : Int32 → (Nat → Int32) → (Nat → Nat → Int32) → Prop} (X : Cx p l s m args meth c cX7_isWrong 4 (some .boolean) RX7 G A) (hMO : MOk mm rf) : ∀ (s0 : Int32) (σ : Nat → Int32) (α : Nat → Nat → Int32), wb_X7_isWrong_33 post s0 σ α → J p l e (rmL (1) 0 0) s m args below meth c 4 G A (MQ below (QG G A (pI (pMi μ0 mm rf post))) args s 0 0 A) 0 0 33 [(0, .ref mm)] [.int s0] (mset μ0 mm rf σ α) := by
  intro s0 σ α hw
  unfold wb_X7_isWrong_33 at hw
  refine j_istore_n X (pc' := 34) (kk := 3) (i := 3) (loc' := [(3, .int s0), (0, .ref mm)]) dX7_isWrong_33 rfl rfl (by decide) rfl ?_
  refine j_aload_n X (pc' := 35) (kk := 0) (i := 0) 1 rfl rfl dX7_isWrong_34 rfl ?_
  refine j_iload_n X (pc' := 36) (kk := 3) (i := 3) 0 rfl rfl dX7_isWrong_35 rfl ?_
  refine j_if_eq X (pc' := 39) (tgt := 46) dX7_isWrong_36 rfl (by decide) (fun c6 => ?_) (fun c6 => ?_)
  · have hw1 := hw.1 c6
    refine j_aload_n X (pc' := 47) (kk := 0) (i := 0) 1 rfl rfl dX7_isWrong_46 rfl ?_
    refine j_getf X (pc' := 50) mset_o 29 rfl rfl fw_TX7 (by decide) wt_3_194 dX7_isWrong_47 rfl ?_
    refine j_loc [1, 0] rfl ?_
    exact tb_X7_isWrong_50 X hMO _ _ _ _ hw1
  · have hw2 := hw.2 c6
    refine j_aload_n X (pc' := 40) (kk := 0) (i := 0) 1 rfl rfl dX7_isWrong_39 rfl ?_
    refine j_getf X (pc' := 43) mset_o 28 rfl rfl fw_TX7 (by decide) wt_3_193 dX7_isWrong_40 rfl ?_
    refine j_goto X (tgt := 50) dX7_isWrong_43 (by decide) ?_
    refine j_loc [1, 0] rfl ?_
    exact tb_X7_isWrong_50 X hMO _ _ _ _ hw2
def wp_X7_isWrong (x1 : Int32) (x2 : Int32) (σ : Nat → Int32) (α : Nat → Nat → Int32) (post : Int32 → (Nat → Int32) → (Nat → Nat → Int32) → Prop) : Prop := ((σ 14) ≤ (σ 28) → (wb_X7_isWrong_33 post (1 : Int32) σ α)) ∧ (¬ (σ 14) ≤ (σ 28) → (vp_in (σ 28) 300 ∧ wp_X7_in (α 15 (σ 28).toNatClampNeg) x1 x2 (fun r3 => (¬ r3 = 0 → (wb_X7_isWrong_33 post (0 : Int32) σ α)) ∧ (r3 = 0 → (wb_X7_isWrong_33 post (1 : Int32) σ α)))))
set_option maxHeartbeats 4000000 in
set_option maxRecDepth 100000 in
theorem c_X7_isWrong (l : Launch) (G : gG) (A : Nat → Prop) {mm : Nat} {rf : Nat → Nat} (hMO : MOk mm rf) (μ0 : Mm) (x1 : Int32) (x2 : Int32) (σ : Nat → Int32) (α : Nat → Nat → Int32) (post : Int32 → (Nat → Int32) → (Nat → Nat → Int32) → Prop) (h : wp_X7_isWrong x1 x2 σ α post) : Met l yX7_isWrong (.code yX7_isWrong cX7_isWrong 4 (some .boolean) :: wsA) (rmL (1) 0 0) (PcG G A (mset μ0 mm rf σ α) [.ref mm, .int x1, .int x2]) (QG G A (pI (pMi μ0 mm rf post))) 0 0 A := by
  refine met_J (loc := [(0, .ref mm), (1, .int x1), (2, .int x2)]) (by decide +kernel) (Nat.le_of_ble_eq_true rfl) rfl ?_
  intro p e s m args below meth c X hin
  have X : Cx p l s m args meth c cX7_isWrong 4 (some .boolean) RX7 G A := X
  have hw := h
  unfold wp_X7_isWrong at hw
  refine j_aload_n X (pc' := 1) (kk := 0) (i := 0) 0 rfl rfl dX7_isWrong_0 rfl ?_
  refine j_getf X (pc' := 4) mset_o 28 rfl rfl fw_TX7 (by decide) wt_3_193 dX7_isWrong_1 rfl ?_
  refine j_aload_n X (pc' := 5) (kk := 0) (i := 0) 0 rfl rfl dX7_isWrong_4 rfl ?_
  refine j_getf X (pc' := 8) mset_o 14 rfl rfl fw_TX7 (by decide) wt_3_179 dX7_isWrong_5 rfl ?_
  refine j_icmp_ge X (pc' := 11) (tgt := 28) dX7_isWrong_8 rfl (by decide) (fun c1 => ?_) (fun c1 => ?_)
  · have hw1 := hw.1 c1
    refine j_iconst X (pc' := 29) (v := 1) (by decide) dX7_isWrong_28 rfl ?_
    refine j_goto X (tgt := 33) dX7_isWrong_29 (by decide) ?_
    refine j_loc [0] rfl ?_
    exact tb_X7_isWrong_33 X hMO _ _ _ hw1
  · have hw2 := hw.2 c1
    refine j_aload_n X (pc' := 12) (kk := 0) (i := 0) 0 rfl rfl dX7_isWrong_11 rfl ?_
    refine j_getf X (pc' := 15) mset_o 15 rfl rfl fw_TX7 (by decide) wt_3_180 dX7_isWrong_12 rfl ?_
    refine j_aload_n X (pc' := 16) (kk := 0) (i := 0) 0 rfl rfl dX7_isWrong_15 rfl ?_
    refine j_getf X (pc' := 19) mset_o 28 rfl rfl fw_TX7 (by decide) wt_3_193 dX7_isWrong_16 rfl ?_
    have h2 := hw2.1
    have hw3 := hw2.2
    refine j_iald X (pc' := 20) (mset_a hMO 15 (by decide)) h2 dX7_isWrong_19 rfl ?_
    refine j_iload_n X (pc' := 21) (kk := 1) (i := 1) 1 rfl rfl dX7_isWrong_20 rfl ?_
    refine j_iload_n X (pc' := 22) (kk := 2) (i := 2) 2 rfl rfl dX7_isWrong_21 rfl ?_
    refine j_callSp (As := [.int (α 15 (σ 28).toNatClampNeg), .int x1, .int x2]) (rest := []) X (pc' := 25) (cells' := 0) (slots' := 0) (c_X7_in l G A (mset μ0 mm rf σ α) (α 15 (σ 28).toNatClampNeg) x1 x2 _ hw3) (gk_X7_in wt_4_24) hd_X7_in (rmL_fit (k1 := 0) (k := 1) (by omega) (by decide)) rfl rfl (Nat.le_of_ble_eq_true rfl) dX7_isWrong_22 rfl ⟨Nat.le_of_ble_eq_true rfl, Nat.le_of_ble_eq_true rfl⟩ rfl rfl (fun r3 hw4 => ?_)
    refine j_if_ne X (pc' := 28) (tgt := 32) dX7_isWrong_25 rfl (by decide) (fun c4 => ?_) (fun c4 => ?_)
    · have hw5 := hw4.1 c4
      refine j_iconst X (pc' := 33) (v := 0) (by decide) dX7_isWrong_32 rfl ?_
      refine j_loc [0] rfl ?_
      exact tb_X7_isWrong_33 X hMO _ _ _ hw5
    · have hw6 := hw4.2 c4
      refine j_iconst X (pc' := 29) (v := 1) (by decide) dX7_isWrong_28 rfl ?_
      refine j_goto X (tgt := 33) dX7_isWrong_29 (by decide) ?_
      refine j_loc [0] rfl ?_
      exact tb_X7_isWrong_33 X hMO _ _ _ hw6
/-! BitNotationModel.headOfTale(IIZ)Z -/
theorem dX7_headOfTale_0 : decode cX7_headOfTale 0 = .ok (.aload_n 0, 1) := by decide +kernel
theorem dX7_headOfTale_1 : decode cX7_headOfTale 1 = .ok (.getfield 58, 3) := by decide +kernel
theorem dX7_headOfTale_4 : decode cX7_headOfTale 4 = .ok (.iload_n 2, 1) := by decide +kernel
theorem dX7_headOfTale_5 : decode cX7_headOfTale 5 = .ok (.iconst 0, 1) := by decide +kernel
theorem dX7_headOfTale_6 : decode cX7_headOfTale 6 = .ok (.iastore, 1) := by decide +kernel
theorem dX7_headOfTale_7 : decode cX7_headOfTale 7 = .ok (.iconst 0, 1) := by decide +kernel
theorem dX7_headOfTale_8 : decode cX7_headOfTale 8 = .ok (.istore 4, 2) := by decide +kernel
theorem dX7_headOfTale_10 : decode cX7_headOfTale 10 = .ok (.iload 4, 2) := by decide +kernel
theorem dX7_headOfTale_12 : decode cX7_headOfTale 12 = .ok (.aload_n 0, 1) := by decide +kernel
theorem dX7_headOfTale_13 : decode cX7_headOfTale 13 = .ok (.getfield 22, 3) := by decide +kernel
theorem dX7_headOfTale_16 : decode cX7_headOfTale 16 = .ok (.iload_n 1, 1) := by decide +kernel
theorem dX7_headOfTale_17 : decode cX7_headOfTale 17 = .ok (.iaload, 1) := by decide +kernel
theorem dX7_headOfTale_18 : decode cX7_headOfTale 18 = .ok (.if_icmp .ge 88, 3) := by decide +kernel
theorem dX7_headOfTale_21 : decode cX7_headOfTale 21 = .ok (.aload_n 0, 1) := by decide +kernel
theorem dX7_headOfTale_22 : decode cX7_headOfTale 22 = .ok (.iload_n 1, 1) := by decide +kernel
theorem dX7_headOfTale_23 : decode cX7_headOfTale 23 = .ok (.iload 4, 2) := by decide +kernel
theorem dX7_headOfTale_25 : decode cX7_headOfTale 25 = .ok (.invokevirtual 88, 3) := by decide +kernel
theorem dX7_headOfTale_28 : decode cX7_headOfTale 28 = .ok (.istore 5, 2) := by decide +kernel
theorem dX7_headOfTale_30 : decode cX7_headOfTale 30 = .ok (.iload 5, 2) := by decide +kernel
theorem dX7_headOfTale_32 : decode cX7_headOfTale 32 = .ok (.ifCond .eq 14, 3) := by decide +kernel
theorem dX7_headOfTale_35 : decode cX7_headOfTale 35 = .ok (.aload_n 0, 1) := by decide +kernel
theorem dX7_headOfTale_36 : decode cX7_headOfTale 36 = .ok (.iconst 0, 1) := by decide +kernel
theorem dX7_headOfTale_37 : decode cX7_headOfTale 37 = .ok (.iconst 1, 1) := by decide +kernel
theorem dX7_headOfTale_38 : decode cX7_headOfTale 38 = .ok (.invokevirtual 162, 3) := by decide +kernel
theorem dX7_headOfTale_41 : decode cX7_headOfTale 41 = .ok (.ifCond .eq 5, 3) := by decide +kernel
theorem dX7_headOfTale_44 : decode cX7_headOfTale 44 = .ok (.iconst 0, 1) := by decide +kernel
theorem dX7_headOfTale_45 : decode cX7_headOfTale 45 = .ok (.ireturn, 1) := by decide +kernel
theorem dX7_headOfTale_46 : decode cX7_headOfTale 46 = .ok (.aload_n 0, 1) := by decide +kernel
theorem dX7_headOfTale_47 : decode cX7_headOfTale 47 = .ok (.getfield 58, 3) := by decide +kernel
theorem dX7_headOfTale_50 : decode cX7_headOfTale 50 = .ok (.iload_n 2, 1) := by decide +kernel
theorem dX7_headOfTale_51 : decode cX7_headOfTale 51 = .ok (.dup2, 1) := by decide +kernel
theorem dX7_headOfTale_52 : decode cX7_headOfTale 52 = .ok (.iaload, 1) := by decide +kernel
theorem dX7_headOfTale_53 : decode cX7_headOfTale 53 = .ok (.iload 5, 2) := by decide +kernel
theorem dX7_headOfTale_55 : decode cX7_headOfTale 55 = .ok (.ifCond .eq 16, 3) := by decide +kernel
theorem dX7_headOfTale_58 : decode cX7_headOfTale 58 = .ok (.aload_n 0, 1) := by decide +kernel
theorem dX7_headOfTale_59 : decode cX7_headOfTale 59 = .ok (.getfield 43, 3) := by decide +kernel
theorem dX7_headOfTale_62 : decode cX7_headOfTale 62 = .ok (.aload_n 0, 1) := by decide +kernel
theorem dX7_headOfTale_63 : decode cX7_headOfTale 63 = .ok (.getfield 148, 3) := by decide +kernel
theorem dX7_headOfTale_66 : decode cX7_headOfTale 66 = .ok (.iaload, 1) := by decide +kernel
theorem dX7_headOfTale_67 : decode cX7_headOfTale 67 = .ok (.iconst 1, 1) := by decide +kernel
theorem dX7_headOfTale_68 : decode cX7_headOfTale 68 = .ok (.if_icmp .ne 10, 3) := by decide +kernel
theorem dX7_headOfTale_71 : decode cX7_headOfTale 71 = .ok (.iconst 1, 1) := by decide +kernel
theorem dX7_headOfTale_72 : decode cX7_headOfTale 72 = .ok (.iload 4, 2) := by decide +kernel
theorem dX7_headOfTale_74 : decode cX7_headOfTale 74 = .ok (.ishl, 1) := by decide +kernel
theorem dX7_headOfTale_75 : decode cX7_headOfTale 75 = .ok (.goto 4, 3) := by decide +kernel
theorem dX7_headOfTale_78 : decode cX7_headOfTale 78 = .ok (.iconst 0, 1) := by decide +kernel
theorem dX7_headOfTale_79 : decode cX7_headOfTale 79 = .ok (.ior, 1) := by decide +kernel
theorem dX7_headOfTale_80 : decode cX7_headOfTale 80 = .ok (.iastore, 1) := by decide +kernel
theorem dX7_headOfTale_81 : decode cX7_headOfTale 81 = .ok (.aload_n 0, 1) := by decide +kernel
theorem dX7_headOfTale_82 : decode cX7_headOfTale 82 = .ok (.dup, 1) := by decide +kernel
theorem dX7_headOfTale_83 : decode cX7_headOfTale 83 = .ok (.getfield 148, 3) := by decide +kernel
theorem dX7_headOfTale_86 : decode cX7_headOfTale 86 = .ok (.iload 5, 2) := by decide +kernel
theorem dX7_headOfTale_88 : decode cX7_headOfTale 88 = .ok (.ifCond .eq 7, 3) := by decide +kernel
theorem dX7_headOfTale_91 : decode cX7_headOfTale 91 = .ok (.iconst 1, 1) := by decide +kernel
theorem dX7_headOfTale_92 : decode cX7_headOfTale 92 = .ok (.goto 4, 3) := by decide +kernel
theorem dX7_headOfTale_95 : decode cX7_headOfTale 95 = .ok (.iconst 0, 1) := by decide +kernel
theorem dX7_headOfTale_96 : decode cX7_headOfTale 96 = .ok (.iadd, 1) := by decide +kernel
theorem dX7_headOfTale_97 : decode cX7_headOfTale 97 = .ok (.putfield 148, 3) := by decide +kernel
theorem dX7_headOfTale_100 : decode cX7_headOfTale 100 = .ok (.iinc 4 1, 3) := by decide +kernel
theorem dX7_headOfTale_103 : decode cX7_headOfTale 103 = .ok (.goto (-93), 3) := by decide +kernel
theorem dX7_headOfTale_106 : decode cX7_headOfTale 106 = .ok (.aload_n 0, 1) := by decide +kernel
theorem dX7_headOfTale_107 : decode cX7_headOfTale 107 = .ok (.iconst 0, 1) := by decide +kernel
theorem dX7_headOfTale_108 : decode cX7_headOfTale 108 = .ok (.aload_n 0, 1) := by decide +kernel
theorem dX7_headOfTale_109 : decode cX7_headOfTale 109 = .ok (.getfield 28, 3) := by decide +kernel
theorem dX7_headOfTale_112 : decode cX7_headOfTale 112 = .ok (.iload_n 1, 1) := by decide +kernel
theorem dX7_headOfTale_113 : decode cX7_headOfTale 113 = .ok (.iaload, 1) := by decide +kernel
theorem dX7_headOfTale_114 : decode cX7_headOfTale 114 = .ok (.invokevirtual 162, 3) := by decide +kernel
theorem dX7_headOfTale_117 : decode cX7_headOfTale 117 = .ok (.ifCond .eq 5, 3) := by decide +kernel
theorem dX7_headOfTale_120 : decode cX7_headOfTale 120 = .ok (.iconst 0, 1) := by decide +kernel
theorem dX7_headOfTale_121 : decode cX7_headOfTale 121 = .ok (.ireturn, 1) := by decide +kernel
theorem dX7_headOfTale_122 : decode cX7_headOfTale 122 = .ok (.aload_n 0, 1) := by decide +kernel
theorem dX7_headOfTale_123 : decode cX7_headOfTale 123 = .ok (.getfield 61, 3) := by decide +kernel
theorem dX7_headOfTale_126 : decode cX7_headOfTale 126 = .ok (.iload_n 2, 1) := by decide +kernel
theorem dX7_headOfTale_127 : decode cX7_headOfTale 127 = .ok (.aload_n 0, 1) := by decide +kernel
theorem dX7_headOfTale_128 : decode cX7_headOfTale 128 = .ok (.getfield 43, 3) := by decide +kernel
theorem dX7_headOfTale_131 : decode cX7_headOfTale 131 = .ok (.aload_n 0, 1) := by decide +kernel
theorem dX7_headOfTale_132 : decode cX7_headOfTale 132 = .ok (.getfield 148, 3) := by decide +kernel
theorem dX7_headOfTale_135 : decode cX7_headOfTale 135 = .ok (.iaload, 1) := by decide +kernel
theorem dX7_headOfTale_136 : decode cX7_headOfTale 136 = .ok (.iastore, 1) := by decide +kernel
theorem dX7_headOfTale_137 : decode cX7_headOfTale 137 = .ok (.aload_n 0, 1) := by decide +kernel
theorem dX7_headOfTale_138 : decode cX7_headOfTale 138 = .ok (.dup, 1) := by decide +kernel
theorem dX7_headOfTale_139 : decode cX7_headOfTale 139 = .ok (.getfield 148, 3) := by decide +kernel
theorem dX7_headOfTale_142 : decode cX7_headOfTale 142 = .ok (.iconst 1, 1) := by decide +kernel
theorem dX7_headOfTale_143 : decode cX7_headOfTale 143 = .ok (.iadd, 1) := by decide +kernel
theorem dX7_headOfTale_144 : decode cX7_headOfTale 144 = .ok (.putfield 148, 3) := by decide +kernel
theorem dX7_headOfTale_147 : decode cX7_headOfTale 147 = .ok (.aload_n 0, 1) := by decide +kernel
theorem dX7_headOfTale_148 : decode cX7_headOfTale 148 = .ok (.aload_n 0, 1) := by decide +kernel
theorem dX7_headOfTale_149 : decode cX7_headOfTale 149 = .ok (.getfield 61, 3) := by decide +kernel
theorem dX7_headOfTale_152 : decode cX7_headOfTale 152 = .ok (.iload_n 2, 1) := by decide +kernel
theorem dX7_headOfTale_153 : decode cX7_headOfTale 153 = .ok (.iaload, 1) := by decide +kernel
theorem dX7_headOfTale_154 : decode cX7_headOfTale 154 = .ok (.ifCond .le 7, 3) := by decide +kernel
theorem dX7_headOfTale_157 : decode cX7_headOfTale 157 = .ok (.iconst 1, 1) := by decide +kernel
theorem dX7_headOfTale_158 : decode cX7_headOfTale 158 = .ok (.goto 4, 3) := by decide +kernel
theorem dX7_headOfTale_161 : decode cX7_headOfTale 161 = .ok (.iconst 0, 1) := by decide +kernel
theorem dX7_headOfTale_162 : decode cX7_headOfTale 162 = .ok (.iconst 1, 1) := by decide +kernel
theorem dX7_headOfTale_163 : decode cX7_headOfTale 163 = .ok (.iload_n 3, 1) := by decide +kernel
theorem dX7_headOfTale_164 : decode cX7_headOfTale 164 = .ok (.invokevirtual 165, 3) := by decide +kernel
theorem dX7_headOfTale_167 : decode cX7_headOfTale 167 = .ok (.iconst 0, 1) := by decide +kernel
theorem dX7_headOfTale_168 : decode cX7_headOfTale 168 = .ok (.istore 4, 2) := by decide +kernel
theorem dX7_headOfTale_170 : decode cX7_headOfTale 170 = .ok (.iload 4, 2) := by decide +kernel
theorem dX7_headOfTale_172 : decode cX7_headOfTale 172 = .ok (.aload_n 0, 1) := by decide +kernel
theorem dX7_headOfTale_173 : decode cX7_headOfTale 173 = .ok (.getfield 22, 3) := by decide +kernel
theorem dX7_headOfTale_176 : decode cX7_headOfTale 176 = .ok (.iload_n 1, 1) := by decide +kernel
theorem dX7_headOfTale_177 : decode cX7_headOfTale 177 = .ok (.iaload, 1) := by decide +kernel
theorem dX7_headOfTale_178 : decode cX7_headOfTale 178 = .ok (.if_icmp .ge 40, 3) := by decide +kernel
theorem dX7_headOfTale_181 : decode cX7_headOfTale 181 = .ok (.aload_n 0, 1) := by decide +kernel
theorem dX7_headOfTale_182 : decode cX7_headOfTale 182 = .ok (.aload_n 0, 1) := by decide +kernel
theorem dX7_headOfTale_183 : decode cX7_headOfTale 183 = .ok (.getfield 58, 3) := by decide +kernel
theorem dX7_headOfTale_186 : decode cX7_headOfTale 186 = .ok (.iload_n 2, 1) := by decide +kernel
theorem dX7_headOfTale_187 : decode cX7_headOfTale 187 = .ok (.iaload, 1) := by decide +kernel
theorem dX7_headOfTale_188 : decode cX7_headOfTale 188 = .ok (.iload 4, 2) := by decide +kernel
theorem dX7_headOfTale_190 : decode cX7_headOfTale 190 = .ok (.ishr, 1) := by decide +kernel
theorem dX7_headOfTale_191 : decode cX7_headOfTale 191 = .ok (.iconst 1, 1) := by decide +kernel
theorem dX7_headOfTale_192 : decode cX7_headOfTale 192 = .ok (.iand, 1) := by decide +kernel
theorem dX7_headOfTale_193 : decode cX7_headOfTale 193 = .ok (.aload_n 0, 1) := by decide +kernel
theorem dX7_headOfTale_194 : decode cX7_headOfTale 194 = .ok (.iload_n 1, 1) := by decide +kernel
theorem dX7_headOfTale_195 : decode cX7_headOfTale 195 = .ok (.iload 4, 2) := by decide +kernel
theorem dX7_headOfTale_197 : decode cX7_headOfTale 197 = .ok (.invokevirtual 88, 3) := by decide +kernel
theorem dX7_headOfTale_200 : decode cX7_headOfTale 200 = .ok (.ifCond .eq 7, 3) := by decide +kernel
theorem dX7_headOfTale_203 : decode cX7_headOfTale 203 = .ok (.iconst 1, 1) := by decide +kernel
theorem dX7_headOfTale_204 : decode cX7_headOfTale 204 = .ok (.goto 4, 3) := by decide +kernel
theorem dX7_headOfTale_207 : decode cX7_headOfTale 207 = .ok (.iconst 0, 1) := by decide +kernel
theorem dX7_headOfTale_208 : decode cX7_headOfTale 208 = .ok (.iload_n 3, 1) := by decide +kernel
theorem dX7_headOfTale_209 : decode cX7_headOfTale 209 = .ok (.invokevirtual 165, 3) := by decide +kernel
theorem dX7_headOfTale_212 : decode cX7_headOfTale 212 = .ok (.iinc 4 1, 3) := by decide +kernel
theorem dX7_headOfTale_215 : decode cX7_headOfTale 215 = .ok (.goto (-45), 3) := by decide +kernel
theorem dX7_headOfTale_218 : decode cX7_headOfTale 218 = .ok (.iconst 1, 1) := by decide +kernel
theorem dX7_headOfTale_219 : decode cX7_headOfTale 219 = .ok (.ireturn, 1) := by decide +kernel
def wb_X7_headOfTale_208 (post : Int32 → (Nat → Int32) → (Nat → Nat → Int32) → Prop) (K170 : Int32 → Int32 → Int32 → Int32 → (Nat → Int32) → (Nat → Nat → Int32) → Prop) (v1 : Int32) (v2 : Int32) (v3 : Int32) (v4 : Int32) (s0 : Int32) (s1 : Int32) (σ : Nat → Int32) (α : Nat → Nat → Int32) : Prop := wp_X7_emit s1 s0 v3 σ α (fun σ56 α57 => K170 v1 v2 v3 (v4 + 1) σ56 α57)
set_option maxHeartbeats 4000000 in
set_option maxRecDepth 100000 in
theorem tb_X7_headOfTale_208 {p : Program} {l : Launch} {e : Env} {s : State} {m : MethodId} {args : Array Value} {below : List Frame} {meth : Method} {c : Code} {G : gG} {A : Nat → Prop} {μ0 : Mm} {mm : Nat} {rf : Nat → Nat} {post : Int32 → (Nat → Int32) → (Nat → Nat → Int32) → Prop} {K170 : Int32 → Int32 → Int32 → Int32 → (Nat → Int32) → (Nat → Nat → Int32) → Prop} (X : Cx p l s m args meth c cX7_headOfTale 6 (some .boolean) RX7 G A) (hMO : MOk mm rf) (hK170 : ∀ (v1 : Int32) (v2 : Int32) (v3 : Int32) (v4 : Int32) (σ : Nat → Int32) (α : Nat → Nat → Int32), K170 v1 v2 v3 v4 σ α → J p l e (rmL (2) 0 0) s m args below meth c 6 G A (MQ below (QG G A (pI (pMi μ0 mm rf post))) args s 0 0 A) 0 0 170 [(0, .ref mm), (1, .int v1), (2, .int v2), (3, .int v3), (4, .int v4)] [] (mset μ0 mm rf σ α)) : ∀ (v1 : Int32) (v2 : Int32) (v3 : Int32) (v4 : Int32) (s0 : Int32) (s1 : Int32) (σ : Nat → Int32) (α : Nat → Nat → Int32), wb_X7_headOfTale_208 post K170 v1 v2 v3 v4 s0 s1 σ α → J p l e (rmL (2) 0 0) s m args below meth c 6 G A (MQ below (QG G A (pI (pMi μ0 mm rf post))) args s 0 0 A) 0 0 208 [(0, .ref mm), (1, .int v1), (2, .int v2), (3, .int v3), (4, .int v4)] [.int s0, .int s1, .ref mm] (mset μ0 mm rf σ α) := by
  intro v1 v2 v3 v4 s0 s1 σ α hw
  unfold wb_X7_headOfTale_208 at hw
  refine j_iload_n X (pc' := 209) (kk := 3) (i := 3) 3 rfl rfl dX7_headOfTale_208 rfl ?_
  refine j_callVv (As := [.int s1, .int s0, .int v3]) (rest := []) X (pc' := 212) (cells' := 0) (slots' := 0) (c_X7_emit l G A hMO μ0 s1 s0 v3 σ α _ hw) (gk_X7_emit wt_4_158) hd_X7_emit (rmL_fit (k1 := 0) (k := 2) (by omega) (by decide)) mset_o rfl rfl rfl (Nat.le_of_ble_eq_true rfl) dX7_headOfTale_209 rfl ⟨Nat.le_of_ble_eq_true rfl, Nat.le_of_ble_eq_true rfl⟩ rfl rfl (fun μ59 hw1 => ?_)
  obtain ⟨σ56, α57, rfl, hw2⟩ := hw1
  refine j_iinc X (pc' := 215) (i := 4) (v := v4 + 1) (loc' := [(4, .int (v4 + 1)), (0, .ref mm), (1, .int v1), (2, .int v2), (3, .int v3)]) 4 rfl rfl dX7_headOfTale_212 rfl (by decide) rfl ?_
  refine j_goto X (tgt := 170) dX7_headOfTale_215 (by decide) ?_
  refine j_loc [1, 2, 3, 4, 0] rfl ?_
  exact hK170 _ _ _ _ _ _ hw2
def wb_X7_headOfTale_170 (post : Int32 → (Nat → Int32) → (Nat → Nat → Int32) → Prop)  : Nat → Int32 → Int32 → Int32 → Int32 → (Nat → Int32) → (Nat → Nat → Int32) → Prop
  | 0 => fun _ _ _ _ _ _ => False
  | n + 1 => fun v1 v2 v3 v4 σ α => vp_in v1 16 ∧ ((α 6 v1.toNatClampNeg) ≤ v4 → (post (1 : Int32) σ α)) ∧ (¬ (α 6 v1.toNatClampNeg) ≤ v4 → (vp_in v2 20 ∧ wp_X7_isOptional v1 v4 σ α (fun r45 σ46 α47 => (r45 = 0 → (wb_X7_headOfTale_208 post (wb_X7_headOfTale_170 post n) v1 v2 v3 v4 (0 : Int32) (((α 23 v2.toNatClampNeg) >>> (v4 &&& 31)) &&& (1 : Int32)) σ46 α47)) ∧ (¬ r45 = 0 → (wb_X7_headOfTale_208 post (wb_X7_headOfTale_170 post n) v1 v2 v3 v4 (1 : Int32) (((α 23 v2.toNatClampNeg) >>> (v4 &&& 31)) &&& (1 : Int32)) σ46 α47)))))
set_option maxHeartbeats 4000000 in
set_option maxRecDepth 100000 in
theorem tb_X7_headOfTale_170 {p : Program} {l : Launch} {e : Env} {s : State} {m : MethodId} {args : Array Value} {below : List Frame} {meth : Method} {c : Code} {G : gG} {A : Nat → Prop} {μ0 : Mm} {mm : Nat} {rf : Nat → Nat} {post : Int32 → (Nat → Int32) → (Nat → Nat → Int32) → Prop} (X : Cx p l s m args meth c cX7_headOfTale 6 (some .boolean) RX7 G A) (hMO : MOk mm rf) : ∀ (n : Nat) (v1 : Int32) (v2 : Int32) (v3 : Int32) (v4 : Int32) (σ : Nat → Int32) (α : Nat → Nat → Int32), wb_X7_headOfTale_170 post n v1 v2 v3 v4 σ α → J p l e (rmL (2) 0 0) s m args below meth c 6 G A (MQ below (QG G A (pI (pMi μ0 mm rf post))) args s 0 0 A) 0 0 170 [(0, .ref mm), (1, .int v1), (2, .int v2), (3, .int v3), (4, .int v4)] [] (mset μ0 mm rf σ α) := by
  intro n
  induction n with
  | zero => intro v1 v2 v3 v4 σ α hw; exact hw.elim
  | succ n ih =>
    intro v1 v2 v3 v4 σ α hw
    rw [wb_X7_headOfTale_170] at hw
    refine j_iload X (pc' := 172) (i := 4) 4 rfl dX7_headOfTale_170 rfl ?_
    refine j_aload_n X (pc' := 173) (kk := 0) (i := 0) 0 rfl rfl dX7_headOfTale_172 rfl ?_
    refine j_getf X (pc' := 176) mset_o 6 rfl rfl fw_TX7 (by decide) wt_3_171 dX7_headOfTale_173 rfl ?_
    refine j_iload_n X (pc' := 177) (kk := 1) (i := 1) 1 rfl rfl dX7_headOfTale_176 rfl ?_
    have h42 := hw.1
    have hw1 := hw.2
    refine j_iald X (pc' := 178) (mset_a hMO 6 (by decide)) h42 dX7_headOfTale_177 rfl ?_
    refine j_icmp_ge X (pc' := 181) (tgt := 218) dX7_headOfTale_178 rfl (by decide) (fun c43 => ?_) (fun c43 => ?_)
    · have hw2 := hw1.1 c43
      refine j_iconst X (pc' := 219) (v := 1) (by decide) dX7_headOfTale_218 rfl ?_
      exact j_zret X (Or.inr rfl) ⟨_, rfl, _, _, rfl, hw2⟩ (Nat.le_of_ble_eq_true rfl) (Nat.le_of_ble_eq_true rfl) dX7_headOfTale_219
    · have hw3 := hw1.2 c43
      refine j_aload_n X (pc' := 182) (kk := 0) (i := 0) 0 rfl rfl dX7_headOfTale_181 rfl ?_
      refine j_aload_n X (pc' := 183) (kk := 0) (i := 0) 0 rfl rfl dX7_headOfTale_182 rfl ?_
      refine j_getf X (pc' := 186) mset_o 23 rfl rfl fw_TX7 (by decide) wt_3_188 dX7_headOfTale_183 rfl ?_
      refine j_iload_n X (pc' := 187) (kk := 2) (i := 2) 2 rfl rfl dX7_headOfTale_186 rfl ?_
      have h44 := hw3.1
      have hw4 := hw3.2
      refine j_iald X (pc' := 188) (mset_a hMO 23 (by decide)) h44 dX7_headOfTale_187 rfl ?_
      refine j_iload X (pc' := 190) (i := 4) 4 rfl dX7_headOfTale_188 rfl ?_
      refine j_ishr X (pc' := 191) dX7_headOfTale_190 rfl ?_
      refine j_iconst X (pc' := 192) (v := 1) (by decide) dX7_headOfTale_191 rfl ?_
      refine j_iand X (pc' := 193) dX7_headOfTale_192 rfl ?_
      refine j_aload_n X (pc' := 194) (kk := 0) (i := 0) 0 rfl rfl dX7_headOfTale_193 rfl ?_
      refine j_iload_n X (pc' := 195) (kk := 1) (i := 1) 1 rfl rfl dX7_headOfTale_194 rfl ?_
      refine j_iload X (pc' := 197) (i := 4) 4 rfl dX7_headOfTale_195 rfl ?_
      refine j_callVi (As := [.int v1, .int v4]) (rest := [.int (((α 23 v2.toNatClampNeg) >>> (v4 &&& 31)) &&& (1 : Int32)), .ref mm]) X (pc' := 200) (cells' := 0) (slots' := 0) (c_X7_isOptional l G A hMO μ0 v1 v4 σ α _ hw4) (gk_X7_isOptional wt_4_47) hd_X7_isOptional (rmL_fit (k1 := 0) (k := 2) (by omega) (by decide)) mset_o rfl rfl rfl (Nat.le_of_ble_eq_true rfl) dX7_headOfTale_197 rfl ⟨Nat.le_of_ble_eq_true rfl, Nat.le_of_ble_eq_true rfl⟩ rfl rfl (fun r45 μ50 hw5 => ?_)
      obtain ⟨σ46, α47, rfl, hw6⟩ := hw5
      refine j_if_eq X (pc' := 203) (tgt := 207) dX7_headOfTale_200 rfl (by decide) (fun c48 => ?_) (fun c48 => ?_)
      · have hw7 := hw6.1 c48
        refine j_iconst X (pc' := 208) (v := 0) (by decide) dX7_headOfTale_207 rfl ?_
        exact tb_X7_headOfTale_208 X hMO ih _ _ _ _ _ _ _ _ hw7
      · have hw8 := hw6.2 c48
        refine j_iconst X (pc' := 204) (v := 1) (by decide) dX7_headOfTale_203 rfl ?_
        refine j_goto X (tgt := 208) dX7_headOfTale_204 (by decide) ?_
        exact tb_X7_headOfTale_208 X hMO ih _ _ _ _ _ _ _ _ hw8
def wb_X7_headOfTale_162 (post : Int32 → (Nat → Int32) → (Nat → Nat → Int32) → Prop)  (v1 : Int32) (v2 : Int32) (v3 : Int32) (s0 : Int32) (σ : Nat → Int32) (α : Nat → Nat → Int32) : Prop := wp_X7_emit s0 (1 : Int32) v3 σ α (fun σ34 α35 => ∃ n, wb_X7_headOfTale_170 post n v1 v2 v3 (0 : Int32) σ34 α35)
set_option maxHeartbeats 4000000 in
set_option maxRecDepth 100000 in
theorem tb_X7_headOfTale_162 {p : Program} {l : Launch} {e : Env} {s : State} {m : MethodId} {args : Array Value} {below : List Frame} {meth : Method} {c : Code} {G : gG} {A : Nat → Prop} {μ0 : Mm} {mm : Nat} {rf : Nat → Nat} {post : Int32 → (Nat → Int32) → (Nat → Nat → Int32) → Prop} (X : Cx p l s m args meth c cX7_headOfTale 6 (some .boolean) RX7 G A) (hMO : MOk mm rf) : ∀ (v1 : Int32) (v2 : Int32) (v3 : Int32) (s0 : Int32) (σ : Nat → Int32) (α : Nat → Nat → Int32), wb_X7_headOfTale_162 post v1 v2 v3 s0 σ α → J p l e (rmL (2) 0 0) s m args below meth c 6 G A (MQ below (QG G A (pI (pMi μ0 mm rf post))) args s 0 0 A) 0 0 162 [(0, .ref mm), (1, .int v1), (2, .int v2), (3, .int v3)] [.int s0, .ref mm] (mset μ0 mm rf σ α) := by
  intro v1 v2 v3 s0 σ α hw
  unfold wb_X7_headOfTale_162 at hw
  refine j_iconst X (pc' := 163) (v := 1) (by decide) dX7_headOfTale_162 rfl ?_
  refine j_iload_n X (pc' := 164) (kk := 3) (i := 3) 3 rfl rfl dX7_headOfTale_163 rfl ?_
  refine j_callVv (As := [.int s0, .int (1 : Int32), .int v3]) (rest := []) X (pc' := 167) (cells' := 0) (slots' := 0) (c_X7_emit l G A hMO μ0 s0 (1 : Int32) v3 σ α _ hw) (gk_X7_emit wt_4_158) hd_X7_emit (rmL_fit (k1 := 0) (k := 2) (by omega) (by decide)) mset_o rfl rfl rfl (Nat.le_of_ble_eq_true rfl) dX7_headOfTale_164 rfl ⟨Nat.le_of_ble_eq_true rfl, Nat.le_of_ble_eq_true rfl⟩ rfl rfl (fun μ37 hw1 => ?_)
  obtain ⟨σ34, α35, rfl, hw2⟩ := hw1
  refine j_iconst X (pc' := 168) (v := 0) (by decide) dX7_headOfTale_167 rfl ?_
  refine j_istore X (pc' := 170) (i := 4) (loc' := [(4, .int ((0 : Int32))), (0, .ref mm), (1, .int v1), (2, .int v2), (3, .int v3)]) dX7_headOfTale_168 rfl (by decide) rfl ?_
  obtain ⟨n0, hw3⟩ := hw2
  refine j_loc [1, 2, 3, 4, 0] rfl ?_
  exact tb_X7_headOfTale_170 X hMO n0 _ _ _ _ _ _ hw3
def wb_X7_headOfTale_96 (post : Int32 → (Nat → Int32) → (Nat → Nat → Int32) → Prop) (K10 : Int32 → Int32 → Int32 → Int32 → (Nat → Int32) → (Nat → Nat → Int32) → Prop) (v1 : Int32) (v2 : Int32) (v3 : Int32) (v4 : Int32) (s0 : Int32) (s1 : Int32) (σ : Nat → Int32) (α : Nat → Nat → Int32) : Prop := ∀ σ60, σ60 = upd σ 28 (s1 + s0) → K10 v1 v2 v3 (v4 + 1) σ60 α
set_option maxHeartbeats 4000000 in
set_option maxRecDepth 100000 in
theorem tb_X7_headOfTale_96 {p : Program} {l : Launch} {e : Env} {s : State} {m : MethodId} {args : Array Value} {below : List Frame} {meth : Method} {c : Code} {G : gG} {A : Nat → Prop} {μ0 : Mm} {mm : Nat} {rf : Nat → Nat} {post : Int32 → (Nat → Int32) → (Nat → Nat → Int32) → Prop} {K10 : Int32 → Int32 → Int32 → Int32 → (Nat → Int32) → (Nat → Nat → Int32) → Prop} (X : Cx p l s m args meth c cX7_headOfTale 6 (some .boolean) RX7 G A) (hMO : MOk mm rf) (hK10 : ∀ (v1 : Int32) (v2 : Int32) (v3 : Int32) (v4 : Int32) (σ : Nat → Int32) (α : Nat → Nat → Int32), K10 v1 v2 v3 v4 σ α → J p l e (rmL (2) 0 0) s m args below meth c 6 G A (MQ below (QG G A (pI (pMi μ0 mm rf post))) args s 0 0 A) 0 0 10 [(0, .ref mm), (1, .int v1), (2, .int v2), (3, .int v3), (4, .int v4)] [] (mset μ0 mm rf σ α)) : ∀ (v1 : Int32) (v2 : Int32) (v3 : Int32) (v4 : Int32) (s0 : Int32) (s1 : Int32) (σ : Nat → Int32) (α : Nat → Nat → Int32), wb_X7_headOfTale_96 post K10 v1 v2 v3 v4 s0 s1 σ α → J p l e (rmL (2) 0 0) s m args below meth c 6 G A (MQ below (QG G A (pI (pMi μ0 mm rf post))) args s 0 0 A) 0 0 96 [(0, .ref mm), (1, .int v1), (2, .int v2), (3, .int v3), (4, .int v4)] [.int s0, .int s1, .ref mm] (mset μ0 mm rf σ α) := by
  intro v1 v2 v3 v4 s0 s1 σ α hw
  unfold wb_X7_headOfTale_96 at hw
  refine j_iadd X (pc' := 97) dX7_headOfTale_96 rfl ?_
  refine jm_putf X (pc' := 100) 28 (mF_set_28 _ _ _) (by decide) rfl wt_3_193 (by decide +kernel) dX7_headOfTale_97 rfl (fun σ60 e61 => ?_)
  have hw1 := hw σ60 e61
  refine j_iinc X (pc' := 103) (i := 4) (v := v4 + 1) (loc' := [(4, .int (v4 + 1)), (0, .ref mm), (1, .int v1), (2, .int v2), (3, .int v3)]) 4 rfl rfl dX7_headOfTale_100 rfl (by decide) rfl ?_
  refine j_goto X (tgt := 10) dX7_headOfTale_103 (by decide) ?_
  refine j_loc [1, 2, 3, 4, 0] rfl ?_
  exact hK10 _ _ _ _ _ _ hw1
def wb_X7_headOfTale_79 (post : Int32 → (Nat → Int32) → (Nat → Nat → Int32) → Prop) (K10 : Int32 → Int32 → Int32 → Int32 → (Nat → Int32) → (Nat → Nat → Int32) → Prop) (v1 : Int32) (v2 : Int32) (v3 : Int32) (v4 : Int32) (v5 : Int32) (s0 : Int32) (s1 : Int32) (s2 : Int32) (σ : Nat → Int32) (α : Nat → Nat → Int32) : Prop := vp_in s2 20 ∧ ∀ α52, α52 = upA α 23 (upd (α 23) s2.toNatClampNeg (s1 ||| s0)) → (v5 = 0 → (wb_X7_headOfTale_96 post K10 v1 v2 v3 v4 (0 : Int32) (σ 28) σ α52)) ∧ (¬ v5 = 0 → (wb_X7_headOfTale_96 post K10 v1 v2 v3 v4 (1 : Int32) (σ 28) σ α52))
set_option maxHeartbeats 4000000 in
set_option maxRecDepth 100000 in
theorem tb_X7_headOfTale_79 {p : Program} {l : Launch} {e : Env} {s : State} {m : MethodId} {args : Array Value} {below : List Frame} {meth : Method} {c : Code} {G : gG} {A : Nat → Prop} {μ0 : Mm} {mm : Nat} {rf : Nat → Nat} {post : Int32 → (Nat → Int32) → (Nat → Nat → Int32) → Prop} {K10 : Int32 → Int32 → Int32 → Int32 → (Nat → Int32) → (Nat → Nat → Int32) → Prop} (X : Cx p l s m args meth c cX7_headOfTale 6 (some .boolean) RX7 G A) (hMO : MOk mm rf) (hK10 : ∀ (v1 : Int32) (v2 : Int32) (v3 : Int32) (v4 : Int32) (σ : Nat → Int32) (α : Nat → Nat → Int32), K10 v1 v2 v3 v4 σ α → J p l e (rmL (2) 0 0) s m args below meth c 6 G A (MQ below (QG G A (pI (pMi μ0 mm rf post))) args s 0 0 A) 0 0 10 [(0, .ref mm), (1, .int v1), (2, .int v2), (3, .int v3), (4, .int v4)] [] (mset μ0 mm rf σ α)) : ∀ (v1 : Int32) (v2 : Int32) (v3 : Int32) (v4 : Int32) (v5 : Int32) (s0 : Int32) (s1 : Int32) (s2 : Int32) (σ : Nat → Int32) (α : Nat → Nat → Int32), wb_X7_headOfTale_79 post K10 v1 v2 v3 v4 v5 s0 s1 s2 σ α → J p l e (rmL (2) 0 0) s m args below meth c 6 G A (MQ below (QG G A (pI (pMi μ0 mm rf post))) args s 0 0 A) 0 0 79 [(0, .ref mm), (1, .int v1), (2, .int v2), (3, .int v3), (4, .int v4), (5, .int v5)] [.int s0, .int s1, .int s2, .ref (rf 23)] (mset μ0 mm rf σ α) := by
  intro v1 v2 v3 v4 v5 s0 s1 s2 σ α hw
  unfold wb_X7_headOfTale_79 at hw
  refine j_ior X (pc' := 80) dX7_headOfTale_79 rfl ?_
  have h51 := hw.1
  have hw1 := hw.2
  refine jm_iast X (pc' := 81) hMO 23 (by decide) h51 dX7_headOfTale_80 rfl (fun α52 e53 => ?_)
  have hw2 := hw1 α52 e53
  refine j_aload_n X (pc' := 82) (kk := 0) (i := 0) 0 rfl rfl dX7_headOfTale_81 rfl ?_
  refine j_dup X (pc' := 83) rfl dX7_headOfTale_82 rfl ?_
  refine j_getf X (pc' := 86) mset_o 28 rfl rfl fw_TX7 (by decide) wt_3_193 dX7_headOfTale_83 rfl ?_
  refine j_iload X (pc' := 88) (i := 5) 5 rfl dX7_headOfTale_86 rfl ?_
  refine j_if_eq X (pc' := 91) (tgt := 95) dX7_headOfTale_88 rfl (by decide) (fun c54 => ?_) (fun c54 => ?_)
  · have hw3 := hw2.1 c54
    refine j_iconst X (pc' := 96) (v := 0) (by decide) dX7_headOfTale_95 rfl ?_
    refine j_loc [0, 1, 2, 3, 4] rfl ?_
    exact tb_X7_headOfTale_96 X hMO hK10 _ _ _ _ _ _ _ _ hw3
  · have hw4 := hw2.2 c54
    refine j_iconst X (pc' := 92) (v := 1) (by decide) dX7_headOfTale_91 rfl ?_
    refine j_goto X (tgt := 96) dX7_headOfTale_92 (by decide) ?_
    refine j_loc [0, 1, 2, 3, 4] rfl ?_
    exact tb_X7_headOfTale_96 X hMO hK10 _ _ _ _ _ _ _ _ hw4
def wb_X7_headOfTale_71 (post : Int32 → (Nat → Int32) → (Nat → Nat → Int32) → Prop) (K10 : Int32 → Int32 → Int32 → Int32 → (Nat → Int32) → (Nat → Nat → Int32) → Prop) (v1 : Int32) (v2 : Int32) (v3 : Int32) (v4 : Int32) (v5 : Int32) (s0 : Int32) (s1 : Int32) (σ : Nat → Int32) (α : Nat → Nat → Int32) : Prop := wb_X7_headOfTale_79 post K10 v1 v2 v3 v4 v5 ((1 : Int32) <<< (v4 &&& 31)) s0 s1 σ α
set_option maxHeartbeats 4000000 in
set_option maxRecDepth 100000 in
theorem tb_X7_headOfTale_71 {p : Program} {l : Launch} {e : Env} {s : State} {m : MethodId} {args : Array Value} {below : List Frame} {meth : Method} {c : Code} {G : gG} {A : Nat → Prop} {μ0 : Mm} {mm : Nat} {rf : Nat → Nat} {post : Int32 → (Nat → Int32) → (Nat → Nat → Int32) → Prop} {K10 : Int32 → Int32 → Int32 → Int32 → (Nat → Int32) → (Nat → Nat → Int32) → Prop} (X : Cx p l s m args meth c cX7_headOfTale 6 (some .boolean) RX7 G A) (hMO : MOk mm rf) (hK10 : ∀ (v1 : Int32) (v2 : Int32) (v3 : Int32) (v4 : Int32) (σ : Nat → Int32) (α : Nat → Nat → Int32), K10 v1 v2 v3 v4 σ α → J p l e (rmL (2) 0 0) s m args below meth c 6 G A (MQ below (QG G A (pI (pMi μ0 mm rf post))) args s 0 0 A) 0 0 10 [(0, .ref mm), (1, .int v1), (2, .int v2), (3, .int v3), (4, .int v4)] [] (mset μ0 mm rf σ α)) : ∀ (v1 : Int32) (v2 : Int32) (v3 : Int32) (v4 : Int32) (v5 : Int32) (s0 : Int32) (s1 : Int32) (σ : Nat → Int32) (α : Nat → Nat → Int32), wb_X7_headOfTale_71 post K10 v1 v2 v3 v4 v5 s0 s1 σ α → J p l e (rmL (2) 0 0) s m args below meth c 6 G A (MQ below (QG G A (pI (pMi μ0 mm rf post))) args s 0 0 A) 0 0 71 [(0, .ref mm), (1, .int v1), (2, .int v2), (3, .int v3), (4, .int v4), (5, .int v5)] [.int s0, .int s1, .ref (rf 23)] (mset μ0 mm rf σ α) := by
  intro v1 v2 v3 v4 v5 s0 s1 σ α hw
  unfold wb_X7_headOfTale_71 at hw
  refine j_iconst X (pc' := 72) (v := 1) (by decide) dX7_headOfTale_71 rfl ?_
  refine j_iload X (pc' := 74) (i := 4) 4 rfl dX7_headOfTale_72 rfl ?_
  refine j_ishl X (pc' := 75) dX7_headOfTale_74 rfl ?_
  refine j_goto X (tgt := 79) dX7_headOfTale_75 (by decide) ?_
  exact tb_X7_headOfTale_79 X hMO hK10 _ _ _ _ _ _ _ _ _ _ hw
def wb_X7_headOfTale_46 (post : Int32 → (Nat → Int32) → (Nat → Nat → Int32) → Prop) (K10 : Int32 → Int32 → Int32 → Int32 → (Nat → Int32) → (Nat → Nat → Int32) → Prop) (v1 : Int32) (v2 : Int32) (v3 : Int32) (v4 : Int32) (v5 : Int32) (σ : Nat → Int32) (α : Nat → Nat → Int32) : Prop := vp_in v2 20 ∧ (v5 = 0 → (wb_X7_headOfTale_71 post K10 v1 v2 v3 v4 v5 (α 23 v2.toNatClampNeg) v2 σ α)) ∧ (¬ v5 = 0 → (vp_in (σ 28) 300 ∧ (¬ (α 15 (σ 28).toNatClampNeg) = (1 : Int32) → (wb_X7_headOfTale_79 post K10 v1 v2 v3 v4 v5 (0 : Int32) (α 23 v2.toNatClampNeg) v2 σ α)) ∧ ((α 15 (σ 28).toNatClampNeg) = (1 : Int32) → (wb_X7_headOfTale_71 post K10 v1 v2 v3 v4 v5 (α 23 v2.toNatClampNeg) v2 σ α))))
set_option maxHeartbeats 4000000 in
set_option maxRecDepth 100000 in
theorem tb_X7_headOfTale_46 {p : Program} {l : Launch} {e : Env} {s : State} {m : MethodId} {args : Array Value} {below : List Frame} {meth : Method} {c : Code} {G : gG} {A : Nat → Prop} {μ0 : Mm} {mm : Nat} {rf : Nat → Nat} {post : Int32 → (Nat → Int32) → (Nat → Nat → Int32) → Prop} {K10 : Int32 → Int32 → Int32 → Int32 → (Nat → Int32) → (Nat → Nat → Int32) → Prop} (X : Cx p l s m args meth c cX7_headOfTale 6 (some .boolean) RX7 G A) (hMO : MOk mm rf) (hK10 : ∀ (v1 : Int32) (v2 : Int32) (v3 : Int32) (v4 : Int32) (σ : Nat → Int32) (α : Nat → Nat → Int32), K10 v1 v2 v3 v4 σ α → J p l e (rmL (2) 0 0) s m args below meth c 6 G A (MQ below (QG G A (pI (pMi μ0 mm rf post))) args s 0 0 A) 0 0 10 [(0, .ref mm), (1, .int v1), (2, .int v2), (3, .int v3), (4, .int v4)] [] (mset μ0 mm rf σ α)) : ∀ (v1 : Int32) (v2 : Int32) (v3 : Int32) (v4 : Int32) (v5 : Int32) (σ : Nat → Int32) (α : Nat → Nat → Int32), wb_X7_headOfTale_46 post K10 v1 v2 v3 v4 v5 σ α → J p l e (rmL (2) 0 0) s m args below meth c 6 G A (MQ below (QG G A (pI (pMi μ0 mm rf post))) args s 0 0 A) 0 0 46 [(0, .ref mm), (1, .int v1), (2, .int v2), (3, .int v3), (4, .int v4), (5, .int v5)] [] (mset μ0 mm rf σ α) := by
  intro v1 v2 v3 v4 v5 σ α hw
  unfold wb_X7_headOfTale_46 at hw
  refine j_aload_n X (pc' := 47) (kk := 0) (i := 0) 0 rfl rfl dX7_headOfTale_46 rfl ?_
  refine j_getf X (pc' := 50) mset_o 23 rfl rfl fw_TX7 (by decide) wt_3_188 dX7_headOfTale_47 rfl ?_
  refine j_iload_n X (pc' := 51) (kk := 2) (i := 2) 2 rfl rfl dX7_headOfTale_50 rfl ?_
  refine j_dup2 X (pc' := 52) rfl rfl dX7_headOfTale_51 rfl ?_
  have h38 := hw.1
  have hw1 := hw.2
  refine j_iald X (pc' := 53) (mset_a hMO 23 (by decide)) h38 dX7_headOfTale_52 rfl ?_
  refine j_iload X (pc' := 55) (i := 5) 5 rfl dX7_headOfTale_53 rfl ?_
  refine j_if_eq X (pc' := 58) (tgt := 71) dX7_headOfTale_55 rfl (by decide) (fun c39 => ?_) (fun c39 => ?_)
  · have hw2 := hw1.1 c39
    exact tb_X7_headOfTale_71 X hMO hK10 _ _ _ _ _ _ _ _ _ hw2
  · have hw3 := hw1.2 c39
    refine j_aload_n X (pc' := 59) (kk := 0) (i := 0) 0 rfl rfl dX7_headOfTale_58 rfl ?_
    refine j_getf X (pc' := 62) mset_o 15 rfl rfl fw_TX7 (by decide) wt_3_180 dX7_headOfTale_59 rfl ?_
    refine j_aload_n X (pc' := 63) (kk := 0) (i := 0) 0 rfl rfl dX7_headOfTale_62 rfl ?_
    refine j_getf X (pc' := 66) mset_o 28 rfl rfl fw_TX7 (by decide) wt_3_193 dX7_headOfTale_63 rfl ?_
    have h40 := hw3.1
    have hw4 := hw3.2
    refine j_iald X (pc' := 67) (mset_a hMO 15 (by decide)) h40 dX7_headOfTale_66 rfl ?_
    refine j_iconst X (pc' := 68) (v := 1) (by decide) dX7_headOfTale_67 rfl ?_
    refine j_icmp_ne X (pc' := 71) (tgt := 78) dX7_headOfTale_68 rfl (by decide) (fun c41 => ?_) (fun c41 => ?_)
    · have hw5 := hw4.1 c41
      refine j_iconst X (pc' := 79) (v := 0) (by decide) dX7_headOfTale_78 rfl ?_
      exact tb_X7_headOfTale_79 X hMO hK10 _ _ _ _ _ _ _ _ _ _ hw5
    · have hw6 := hw4.2 c41
      exact tb_X7_headOfTale_71 X hMO hK10 _ _ _ _ _ _ _ _ _ hw6
def wb_X7_headOfTale_10 (post : Int32 → (Nat → Int32) → (Nat → Nat → Int32) → Prop)  : Nat → Int32 → Int32 → Int32 → Int32 → (Nat → Int32) → (Nat → Nat → Int32) → Prop
  | 0 => fun _ _ _ _ _ _ => False
  | n + 1 => fun v1 v2 v3 v4 σ α => vp_in v1 16 ∧ ((α 6 v1.toNatClampNeg) ≤ v4 → (vp_in v1 16 ∧ wp_X7_isWrong (0 : Int32) (α 8 v1.toNatClampNeg) σ α (fun r7 σ8 α9 => (r7 = 0 → (vp_in (σ8 28) 300 ∧ vp_in v2 20 ∧ ∀ α13, α13 = upA α9 24 (upd (α9 24) v2.toNatClampNeg (α9 15 (σ8 28).toNatClampNeg)) → ∀ σ15, σ15 = upd σ8 28 ((σ8 28) + (1 : Int32)) → vp_in v2 20 ∧ ((α13 24 v2.toNatClampNeg) ≤ 0 → (wb_X7_headOfTale_162 post v1 v2 v3 (0 : Int32) σ15 α13)) ∧ (¬ (α13 24 v2.toNatClampNeg) ≤ 0 → (wb_X7_headOfTale_162 post v1 v2 v3 (1 : Int32) σ15 α13)))) ∧ (¬ r7 = 0 → (post (0 : Int32) σ8 α9))))) ∧ (¬ (α 6 v1.toNatClampNeg) ≤ v4 → (wp_X7_isOptional v1 v4 σ α (fun r21 σ22 α23 => (r21 = 0 → (wb_X7_headOfTale_46 post (wb_X7_headOfTale_10 post n) v1 v2 v3 v4 r21 σ22 α23)) ∧ (¬ r21 = 0 → (wp_X7_isWrong (0 : Int32) (1 : Int32) σ22 α23 (fun r25 σ26 α27 => (r25 = 0 → (wb_X7_headOfTale_46 post (wb_X7_headOfTale_10 post n) v1 v2 v3 v4 r21 σ26 α27)) ∧ (¬ r25 = 0 → (post (0 : Int32) σ26 α27))))))))
set_option maxHeartbeats 4000000 in
set_option maxRecDepth 100000 in
theorem tb_X7_headOfTale_10 {p : Program} {l : Launch} {e : Env} {s : State} {m : MethodId} {args : Array Value} {below : List Frame} {meth : Method} {c : Code} {G : gG} {A : Nat → Prop} {μ0 : Mm} {mm : Nat} {rf : Nat → Nat} {post : Int32 → (Nat → Int32) → (Nat → Nat → Int32) → Prop} (X : Cx p l s m args meth c cX7_headOfTale 6 (some .boolean) RX7 G A) (hMO : MOk mm rf) : ∀ (n : Nat) (v1 : Int32) (v2 : Int32) (v3 : Int32) (v4 : Int32) (σ : Nat → Int32) (α : Nat → Nat → Int32), wb_X7_headOfTale_10 post n v1 v2 v3 v4 σ α → J p l e (rmL (2) 0 0) s m args below meth c 6 G A (MQ below (QG G A (pI (pMi μ0 mm rf post))) args s 0 0 A) 0 0 10 [(0, .ref mm), (1, .int v1), (2, .int v2), (3, .int v3), (4, .int v4)] [] (mset μ0 mm rf σ α) := by
  intro n
  induction n with
  | zero => intro v1 v2 v3 v4 σ α hw; exact hw.elim
  | succ n ih =>
    intro v1 v2 v3 v4 σ α hw
    rw [wb_X7_headOfTale_10] at hw
    refine j_iload X (pc' := 12) (i := 4) 4 rfl dX7_headOfTale_10 rfl ?_
    refine j_aload_n X (pc' := 13) (kk := 0) (i := 0) 0 rfl rfl dX7_headOfTale_12 rfl ?_
    refine j_getf X (pc' := 16) mset_o 6 rfl rfl fw_TX7 (by decide) wt_3_171 dX7_headOfTale_13 rfl ?_
    refine j_iload_n X (pc' := 17) (kk := 1) (i := 1) 1 rfl rfl dX7_headOfTale_16 rfl ?_
    have h4 := hw.1
    have hw1 := hw.2
    refine j_iald X (pc' := 18) (mset_a hMO 6 (by decide)) h4 dX7_headOfTale_17 rfl ?_
    refine j_icmp_ge X (pc' := 21) (tgt := 106) dX7_headOfTale_18 rfl (by decide) (fun c5 => ?_) (fun c5 => ?_)
    · have hw2 := hw1.1 c5
      refine j_aload_n X (pc' := 107) (kk := 0) (i := 0) 0 rfl rfl dX7_headOfTale_106 rfl ?_
      refine j_iconst X (pc' := 108) (v := 0) (by decide) dX7_headOfTale_107 rfl ?_
      refine j_aload_n X (pc' := 109) (kk := 0) (i := 0) 0 rfl rfl dX7_headOfTale_108 rfl ?_
      refine j_getf X (pc' := 112) mset_o 8 rfl rfl fw_TX7 (by decide) wt_3_173 dX7_headOfTale_109 rfl ?_
      refine j_iload_n X (pc' := 113) (kk := 1) (i := 1) 1 rfl rfl dX7_headOfTale_112 rfl ?_
      have h6 := hw2.1
      have hw3 := hw2.2
      refine j_iald X (pc' := 114) (mset_a hMO 8 (by decide)) h6 dX7_headOfTale_113 rfl ?_
      refine j_callVi (As := [.int (0 : Int32), .int (α 8 v1.toNatClampNeg)]) (rest := []) X (pc' := 117) (cells' := 0) (slots' := 0) (c_X7_isWrong l G A hMO μ0 (0 : Int32) (α 8 v1.toNatClampNeg) σ α _ hw3) (gk_X7_isWrong wt_4_154) hd_X7_isWrong (rmL_fit (k1 := 1) (k := 2) (by omega) (by decide)) mset_o rfl rfl rfl (Nat.le_of_ble_eq_true rfl) dX7_headOfTale_114 rfl ⟨Nat.le_of_ble_eq_true rfl, Nat.le_of_ble_eq_true rfl⟩ rfl rfl (fun r7 μ20 hw4 => ?_)
      obtain ⟨σ8, α9, rfl, hw5⟩ := hw4
      refine j_if_eq X (pc' := 120) (tgt := 122) dX7_headOfTale_117 rfl (by decide) (fun c10 => ?_) (fun c10 => ?_)
      · have hw6 := hw5.1 c10
        refine j_aload_n X (pc' := 123) (kk := 0) (i := 0) 0 rfl rfl dX7_headOfTale_122 rfl ?_
        refine j_getf X (pc' := 126) mset_o 24 rfl rfl fw_TX7 (by decide) wt_3_189 dX7_headOfTale_123 rfl ?_
        refine j_iload_n X (pc' := 127) (kk := 2) (i := 2) 2 rfl rfl dX7_headOfTale_126 rfl ?_
        refine j_aload_n X (pc' := 128) (kk := 0) (i := 0) 0 rfl rfl dX7_headOfTale_127 rfl ?_
        refine j_getf X (pc' := 131) mset_o 15 rfl rfl fw_TX7 (by decide) wt_3_180 dX7_headOfTale_128 rfl ?_
        refine j_aload_n X (pc' := 132) (kk := 0) (i := 0) 0 rfl rfl dX7_headOfTale_131 rfl ?_
        refine j_getf X (pc' := 135) mset_o 28 rfl rfl fw_TX7 (by decide) wt_3_193 dX7_headOfTale_132 rfl ?_
        have h11 := hw6.1
        have hw7 := hw6.2
        refine j_iald X (pc' := 136) (mset_a hMO 15 (by decide)) h11 dX7_headOfTale_135 rfl ?_
        have h12 := hw7.1
        have hw8 := hw7.2
        refine jm_iast X (pc' := 137) hMO 24 (by decide) h12 dX7_headOfTale_136 rfl (fun α13 e14 => ?_)
        have hw9 := hw8 α13 e14
        refine j_aload_n X (pc' := 138) (kk := 0) (i := 0) 0 rfl rfl dX7_headOfTale_137 rfl ?_
        refine j_dup X (pc' := 139) rfl dX7_headOfTale_138 rfl ?_
        refine j_getf X (pc' := 142) mset_o 28 rfl rfl fw_TX7 (by decide) wt_3_193 dX7_headOfTale_139 rfl ?_
        refine j_iconst X (pc' := 143) (v := 1) (by decide) dX7_headOfTale_142 rfl ?_
        refine j_iadd X (pc' := 144) dX7_headOfTale_143 rfl ?_
        refine jm_putf X (pc' := 147) 28 (mF_set_28 _ _ _) (by decide) rfl wt_3_193 (by decide +kernel) dX7_headOfTale_144 rfl (fun σ15 e16 => ?_)
        have hw10 := hw9 σ15 e16
        refine j_aload_n X (pc' := 148) (kk := 0) (i := 0) 0 rfl rfl dX7_headOfTale_147 rfl ?_
        refine j_aload_n X (pc' := 149) (kk := 0) (i := 0) 0 rfl rfl dX7_headOfTale_148 rfl ?_
        refine j_getf X (pc' := 152) mset_o 24 rfl rfl fw_TX7 (by decide) wt_3_189 dX7_headOfTale_149 rfl ?_
        refine j_iload_n X (pc' := 153) (kk := 2) (i := 2) 2 rfl rfl dX7_headOfTale_152 rfl ?_
        have h17 := hw10.1
        have hw11 := hw10.2
        refine j_iald X (pc' := 154) (mset_a hMO 24 (by decide)) h17 dX7_headOfTale_153 rfl ?_
        refine j_if_le X (pc' := 157) (tgt := 161) dX7_headOfTale_154 rfl (by decide) (fun c18 => ?_) (fun c18 => ?_)
        · have hw12 := hw11.1 c18
          refine j_iconst X (pc' := 162) (v := 0) (by decide) dX7_headOfTale_161 rfl ?_
          refine j_loc [0, 1, 2, 3] rfl ?_
          exact tb_X7_headOfTale_162 X hMO _ _ _ _ _ _ hw12
        · have hw13 := hw11.2 c18
          refine j_iconst X (pc' := 158) (v := 1) (by decide) dX7_headOfTale_157 rfl ?_
          refine j_goto X (tgt := 162) dX7_headOfTale_158 (by decide) ?_
          refine j_loc [0, 1, 2, 3] rfl ?_
          exact tb_X7_headOfTale_162 X hMO _ _ _ _ _ _ hw13
      · have hw14 := hw5.2 c10
        refine j_iconst X (pc' := 121) (v := 0) (by decide) dX7_headOfTale_120 rfl ?_
        exact j_zret X (Or.inl rfl) ⟨_, rfl, _, _, rfl, hw14⟩ (Nat.le_of_ble_eq_true rfl) (Nat.le_of_ble_eq_true rfl) dX7_headOfTale_121
    · have hw15 := hw1.2 c5
      refine j_aload_n X (pc' := 22) (kk := 0) (i := 0) 0 rfl rfl dX7_headOfTale_21 rfl ?_
      refine j_iload_n X (pc' := 23) (kk := 1) (i := 1) 1 rfl rfl dX7_headOfTale_22 rfl ?_
      refine j_iload X (pc' := 25) (i := 4) 4 rfl dX7_headOfTale_23 rfl ?_
      refine j_callVi (As := [.int v1, .int v4]) (rest := []) X (pc' := 28) (cells' := 0) (slots' := 0) (c_X7_isOptional l G A hMO μ0 v1 v4 σ α _ hw15) (gk_X7_isOptional wt_4_47) hd_X7_isOptional (rmL_fit (k1 := 0) (k := 2) (by omega) (by decide)) mset_o rfl rfl rfl (Nat.le_of_ble_eq_true rfl) dX7_headOfTale_25 rfl ⟨Nat.le_of_ble_eq_true rfl, Nat.le_of_ble_eq_true rfl⟩ rfl rfl (fun r21 μ32 hw16 => ?_)
      obtain ⟨σ22, α23, rfl, hw17⟩ := hw16
      refine j_istore X (pc' := 30) (i := 5) (loc' := [(5, .int r21), (0, .ref mm), (1, .int v1), (2, .int v2), (3, .int v3), (4, .int v4)]) dX7_headOfTale_28 rfl (by decide) rfl ?_
      refine j_iload X (pc' := 32) (i := 5) 0 rfl dX7_headOfTale_30 rfl ?_
      refine j_if_eq X (pc' := 35) (tgt := 46) dX7_headOfTale_32 rfl (by decide) (fun c24 => ?_) (fun c24 => ?_)
      · have hw18 := hw17.1 c24
        refine j_loc [1, 2, 3, 4, 5, 0] rfl ?_
        exact tb_X7_headOfTale_46 X hMO ih _ _ _ _ _ _ _ hw18
      · have hw19 := hw17.2 c24
        refine j_aload_n X (pc' := 36) (kk := 0) (i := 0) 1 rfl rfl dX7_headOfTale_35 rfl ?_
        refine j_iconst X (pc' := 37) (v := 0) (by decide) dX7_headOfTale_36 rfl ?_
        refine j_iconst X (pc' := 38) (v := 1) (by decide) dX7_headOfTale_37 rfl ?_
        refine j_callVi (As := [.int (0 : Int32), .int (1 : Int32)]) (rest := []) X (pc' := 41) (cells' := 0) (slots' := 0) (c_X7_isWrong l G A hMO μ0 (0 : Int32) (1 : Int32) σ22 α23 _ hw19) (gk_X7_isWrong wt_4_154) hd_X7_isWrong (rmL_fit (k1 := 1) (k := 2) (by omega) (by decide)) mset_o rfl rfl rfl (Nat.le_of_ble_eq_true rfl) dX7_headOfTale_38 rfl ⟨Nat.le_of_ble_eq_true rfl, Nat.le_of_ble_eq_true rfl⟩ rfl rfl (fun r25 μ30 hw20 => ?_)
        obtain ⟨σ26, α27, rfl, hw21⟩ := hw20
        refine j_if_eq X (pc' := 44) (tgt := 46) dX7_headOfTale_41 rfl (by decide) (fun c28 => ?_) (fun c28 => ?_)
        · have hw22 := hw21.1 c28
          refine j_loc [1, 2, 3, 4, 5, 0] rfl ?_
          exact tb_X7_headOfTale_46 X hMO ih _ _ _ _ _ _ _ hw22
        · have hw23 := hw21.2 c28
          refine j_iconst X (pc' := 45) (v := 0) (by decide) dX7_headOfTale_44 rfl ?_
          exact j_zret X (Or.inl rfl) ⟨_, rfl, _, _, rfl, hw23⟩ (Nat.le_of_ble_eq_true rfl) (Nat.le_of_ble_eq_true rfl) dX7_headOfTale_45
def wp_X7_headOfTale (x1 : Int32) (x2 : Int32) (x3 : Int32) (σ : Nat → Int32) (α : Nat → Nat → Int32) (post : Int32 → (Nat → Int32) → (Nat → Nat → Int32) → Prop) : Prop := vp_in x2 20 ∧ ∀ α2, α2 = upA α 23 (upd (α 23) x2.toNatClampNeg (0 : Int32)) → ∃ n, wb_X7_headOfTale_10 post n x1 x2 x3 (0 : Int32) σ α2
set_option maxHeartbeats 4000000 in
set_option maxRecDepth 100000 in
theorem c_X7_headOfTale (l : Launch) (G : gG) (A : Nat → Prop) {mm : Nat} {rf : Nat → Nat} (hMO : MOk mm rf) (μ0 : Mm) (x1 : Int32) (x2 : Int32) (x3 : Int32) (σ : Nat → Int32) (α : Nat → Nat → Int32) (post : Int32 → (Nat → Int32) → (Nat → Nat → Int32) → Prop) (h : wp_X7_headOfTale x1 x2 x3 σ α post) : Met l yX7_headOfTale (.code yX7_headOfTale cX7_headOfTale 6 (some .boolean) :: wsA) (rmL (2) 0 0) (PcG G A (mset μ0 mm rf σ α) [.ref mm, .int x1, .int x2, .int x3]) (QG G A (pI (pMi μ0 mm rf post))) 0 0 A := by
  refine met_J (loc := [(0, .ref mm), (1, .int x1), (2, .int x2), (3, .int x3)]) (by decide +kernel) (Nat.le_of_ble_eq_true rfl) rfl ?_
  intro p e s m args below meth c X hin
  have X : Cx p l s m args meth c cX7_headOfTale 6 (some .boolean) RX7 G A := X
  have hw := h
  unfold wp_X7_headOfTale at hw
  refine j_aload_n X (pc' := 1) (kk := 0) (i := 0) 0 rfl rfl dX7_headOfTale_0 rfl ?_
  refine j_getf X (pc' := 4) mset_o 23 rfl rfl fw_TX7 (by decide) wt_3_188 dX7_headOfTale_1 rfl ?_
  refine j_iload_n X (pc' := 5) (kk := 2) (i := 2) 2 rfl rfl dX7_headOfTale_4 rfl ?_
  refine j_iconst X (pc' := 6) (v := 0) (by decide) dX7_headOfTale_5 rfl ?_
  have h1 := hw.1
  have hw1 := hw.2
  refine jm_iast X (pc' := 7) hMO 23 (by decide) h1 dX7_headOfTale_6 rfl (fun α2 e3 => ?_)
  have hw2 := hw1 α2 e3
  refine j_iconst X (pc' := 8) (v := 0) (by decide) dX7_headOfTale_7 rfl ?_
  refine j_istore X (pc' := 10) (i := 4) (loc' := [(4, .int ((0 : Int32))), (0, .ref mm), (1, .int x1), (2, .int x2), (3, .int x3)]) dX7_headOfTale_8 rfl (by decide) rfl ?_
  obtain ⟨n0, hw3⟩ := hw2
  refine j_loc [1, 2, 3, 4, 0] rfl ?_
  exact tb_X7_headOfTale_10 X hMO n0 _ _ _ _ _ _ hw3
/-! BitNotationModel.sequenceOfTale(IIIZ)Z -/
theorem dX7_sequenceOfTale_0 : decode cX7_sequenceOfTale 0 = .ok (.iconst 0, 1) := by decide +kernel
theorem dX7_sequenceOfTale_1 : decode cX7_sequenceOfTale 1 = .ok (.istore 5, 2) := by decide +kernel
theorem dX7_sequenceOfTale_3 : decode cX7_sequenceOfTale 3 = .ok (.iload 5, 2) := by decide +kernel
theorem dX7_sequenceOfTale_5 : decode cX7_sequenceOfTale 5 = .ok (.bipush 8, 2) := by decide +kernel
theorem dX7_sequenceOfTale_7 : decode cX7_sequenceOfTale 7 = .ok (.if_icmp .ge 54, 3) := by decide +kernel
theorem dX7_sequenceOfTale_10 : decode cX7_sequenceOfTale 10 = .ok (.aload_n 0, 1) := by decide +kernel
theorem dX7_sequenceOfTale_11 : decode cX7_sequenceOfTale 11 = .ok (.getfield 64, 3) := by decide +kernel
theorem dX7_sequenceOfTale_14 : decode cX7_sequenceOfTale 14 = .ok (.iload_n 2, 1) := by decide +kernel
theorem dX7_sequenceOfTale_15 : decode cX7_sequenceOfTale 15 = .ok (.iaload, 1) := by decide +kernel
theorem dX7_sequenceOfTale_16 : decode cX7_sequenceOfTale 16 = .ok (.ifCond .lt 45, 3) := by decide +kernel
theorem dX7_sequenceOfTale_19 : decode cX7_sequenceOfTale 19 = .ok (.aload_n 0, 1) := by decide +kernel
theorem dX7_sequenceOfTale_20 : decode cX7_sequenceOfTale 20 = .ok (.getfield 46, 3) := by decide +kernel
theorem dX7_sequenceOfTale_23 : decode cX7_sequenceOfTale 23 = .ok (.aload_n 0, 1) := by decide +kernel
theorem dX7_sequenceOfTale_24 : decode cX7_sequenceOfTale 24 = .ok (.getfield 64, 3) := by decide +kernel
theorem dX7_sequenceOfTale_27 : decode cX7_sequenceOfTale 27 = .ok (.iload_n 2, 1) := by decide +kernel
theorem dX7_sequenceOfTale_28 : decode cX7_sequenceOfTale 28 = .ok (.iaload, 1) := by decide +kernel
theorem dX7_sequenceOfTale_29 : decode cX7_sequenceOfTale 29 = .ok (.iload 5, 2) := by decide +kernel
theorem dX7_sequenceOfTale_31 : decode cX7_sequenceOfTale 31 = .ok (.iadd, 1) := by decide +kernel
theorem dX7_sequenceOfTale_32 : decode cX7_sequenceOfTale 32 = .ok (.aload_n 0, 1) := by decide +kernel
theorem dX7_sequenceOfTale_33 : decode cX7_sequenceOfTale 33 = .ok (.getfield 145, 3) := by decide +kernel
theorem dX7_sequenceOfTale_36 : decode cX7_sequenceOfTale 36 = .ok (.aload_n 0, 1) := by decide +kernel
theorem dX7_sequenceOfTale_37 : decode cX7_sequenceOfTale 37 = .ok (.getfield 64, 3) := by decide +kernel
theorem dX7_sequenceOfTale_40 : decode cX7_sequenceOfTale 40 = .ok (.iload_n 2, 1) := by decide +kernel
theorem dX7_sequenceOfTale_41 : decode cX7_sequenceOfTale 41 = .ok (.iaload, 1) := by decide +kernel
theorem dX7_sequenceOfTale_42 : decode cX7_sequenceOfTale 42 = .ok (.isub, 1) := by decide +kernel
theorem dX7_sequenceOfTale_43 : decode cX7_sequenceOfTale 43 = .ok (.bipush 8, 2) := by decide +kernel
theorem dX7_sequenceOfTale_45 : decode cX7_sequenceOfTale 45 = .ok (.isub, 1) := by decide +kernel
theorem dX7_sequenceOfTale_46 : decode cX7_sequenceOfTale 46 = .ok (.bipush 7, 2) := by decide +kernel
theorem dX7_sequenceOfTale_48 : decode cX7_sequenceOfTale 48 = .ok (.iload 5, 2) := by decide +kernel
theorem dX7_sequenceOfTale_50 : decode cX7_sequenceOfTale 50 = .ok (.isub, 1) := by decide +kernel
theorem dX7_sequenceOfTale_51 : decode cX7_sequenceOfTale 51 = .ok (.ishr, 1) := by decide +kernel
theorem dX7_sequenceOfTale_52 : decode cX7_sequenceOfTale 52 = .ok (.iconst 1, 1) := by decide +kernel
theorem dX7_sequenceOfTale_53 : decode cX7_sequenceOfTale 53 = .ok (.iand, 1) := by decide +kernel
theorem dX7_sequenceOfTale_54 : decode cX7_sequenceOfTale 54 = .ok (.iastore, 1) := by decide +kernel
theorem dX7_sequenceOfTale_55 : decode cX7_sequenceOfTale 55 = .ok (.iinc 5 1, 3) := by decide +kernel
theorem dX7_sequenceOfTale_58 : decode cX7_sequenceOfTale 58 = .ok (.goto (-55), 3) := by decide +kernel
theorem dX7_sequenceOfTale_61 : decode cX7_sequenceOfTale 61 = .ok (.aload_n 0, 1) := by decide +kernel
theorem dX7_sequenceOfTale_62 : decode cX7_sequenceOfTale 62 = .ok (.getfield 64, 3) := by decide +kernel
theorem dX7_sequenceOfTale_65 : decode cX7_sequenceOfTale 65 = .ok (.iload_n 2, 1) := by decide +kernel
theorem dX7_sequenceOfTale_66 : decode cX7_sequenceOfTale 66 = .ok (.iconst (-1), 1) := by decide +kernel
theorem dX7_sequenceOfTale_67 : decode cX7_sequenceOfTale 67 = .ok (.iastore, 1) := by decide +kernel
theorem dX7_sequenceOfTale_68 : decode cX7_sequenceOfTale 68 = .ok (.iload_n 3, 1) := by decide +kernel
theorem dX7_sequenceOfTale_69 : decode cX7_sequenceOfTale 69 = .ok (.aload_n 0, 1) := by decide +kernel
theorem dX7_sequenceOfTale_70 : decode cX7_sequenceOfTale 70 = .ok (.getfield 22, 3) := by decide +kernel
theorem dX7_sequenceOfTale_73 : decode cX7_sequenceOfTale 73 = .ok (.iload_n 1, 1) := by decide +kernel
theorem dX7_sequenceOfTale_74 : decode cX7_sequenceOfTale 74 = .ok (.iaload, 1) := by decide +kernel
theorem dX7_sequenceOfTale_75 : decode cX7_sequenceOfTale 75 = .ok (.if_icmp .ge 29, 3) := by decide +kernel
theorem dX7_sequenceOfTale_78 : decode cX7_sequenceOfTale 78 = .ok (.aload_n 0, 1) := by decide +kernel
theorem dX7_sequenceOfTale_79 : decode cX7_sequenceOfTale 79 = .ok (.getfield 58, 3) := by decide +kernel
theorem dX7_sequenceOfTale_82 : decode cX7_sequenceOfTale 82 = .ok (.iload_n 2, 1) := by decide +kernel
theorem dX7_sequenceOfTale_83 : decode cX7_sequenceOfTale 83 = .ok (.iaload, 1) := by decide +kernel
theorem dX7_sequenceOfTale_84 : decode cX7_sequenceOfTale 84 = .ok (.iload_n 3, 1) := by decide +kernel
theorem dX7_sequenceOfTale_85 : decode cX7_sequenceOfTale 85 = .ok (.ishr, 1) := by decide +kernel
theorem dX7_sequenceOfTale_86 : decode cX7_sequenceOfTale 86 = .ok (.iconst 1, 1) := by decide +kernel
theorem dX7_sequenceOfTale_87 : decode cX7_sequenceOfTale 87 = .ok (.iand, 1) := by decide +kernel
theorem dX7_sequenceOfTale_88 : decode cX7_sequenceOfTale 88 = .ok (.iconst 1, 1) := by decide +kernel
theorem dX7_sequenceOfTale_89 : decode cX7_sequenceOfTale 89 = .ok (.if_icmp .ne 13, 3) := by decide +kernel
theorem dX7_sequenceOfTale_92 : decode cX7_sequenceOfTale 92 = .ok (.aload_n 0, 1) := by decide +kernel
theorem dX7_sequenceOfTale_93 : decode cX7_sequenceOfTale 93 = .ok (.aload_n 0, 1) := by decide +kernel
theorem dX7_sequenceOfTale_94 : decode cX7_sequenceOfTale 94 = .ok (.iload_n 1, 1) := by decide +kernel
theorem dX7_sequenceOfTale_95 : decode cX7_sequenceOfTale 95 = .ok (.iload_n 3, 1) := by decide +kernel
theorem dX7_sequenceOfTale_96 : decode cX7_sequenceOfTale 96 = .ok (.invokevirtual 95, 3) := by decide +kernel
theorem dX7_sequenceOfTale_99 : decode cX7_sequenceOfTale 99 = .ok (.invokevirtual 169, 3) := by decide +kernel
theorem dX7_sequenceOfTale_102 : decode cX7_sequenceOfTale 102 = .ok (.iconst 1, 1) := by decide +kernel
theorem dX7_sequenceOfTale_103 : decode cX7_sequenceOfTale 103 = .ok (.ireturn, 1) := by decide +kernel
theorem dX7_sequenceOfTale_104 : decode cX7_sequenceOfTale 104 = .ok (.iload_n 3, 1) := by decide +kernel
theorem dX7_sequenceOfTale_105 : decode cX7_sequenceOfTale 105 = .ok (.aload_n 0, 1) := by decide +kernel
theorem dX7_sequenceOfTale_106 : decode cX7_sequenceOfTale 106 = .ok (.getfield 22, 3) := by decide +kernel
theorem dX7_sequenceOfTale_109 : decode cX7_sequenceOfTale 109 = .ok (.iload_n 1, 1) := by decide +kernel
theorem dX7_sequenceOfTale_110 : decode cX7_sequenceOfTale 110 = .ok (.iaload, 1) := by decide +kernel
theorem dX7_sequenceOfTale_111 : decode cX7_sequenceOfTale 111 = .ok (.isub, 1) := by decide +kernel
theorem dX7_sequenceOfTale_112 : decode cX7_sequenceOfTale 112 = .ok (.istore 5, 2) := by decide +kernel
theorem dX7_sequenceOfTale_114 : decode cX7_sequenceOfTale 114 = .ok (.iload 5, 2) := by decide +kernel
theorem dX7_sequenceOfTale_116 : decode cX7_sequenceOfTale 116 = .ok (.aload_n 0, 1) := by decide +kernel
theorem dX7_sequenceOfTale_117 : decode cX7_sequenceOfTale 117 = .ok (.getfield 61, 3) := by decide +kernel
theorem dX7_sequenceOfTale_120 : decode cX7_sequenceOfTale 120 = .ok (.iload_n 2, 1) := by decide +kernel
theorem dX7_sequenceOfTale_121 : decode cX7_sequenceOfTale 121 = .ok (.iaload, 1) := by decide +kernel
theorem dX7_sequenceOfTale_122 : decode cX7_sequenceOfTale 122 = .ok (.if_icmp .lt 15, 3) := by decide +kernel
theorem dX7_sequenceOfTale_125 : decode cX7_sequenceOfTale 125 = .ok (.aload_n 0, 1) := by decide +kernel
theorem dX7_sequenceOfTale_126 : decode cX7_sequenceOfTale 126 = .ok (.dup, 1) := by decide +kernel
theorem dX7_sequenceOfTale_127 : decode cX7_sequenceOfTale 127 = .ok (.getfield 142, 3) := by decide +kernel
theorem dX7_sequenceOfTale_130 : decode cX7_sequenceOfTale 130 = .ok (.iconst 1, 1) := by decide +kernel
theorem dX7_sequenceOfTale_131 : decode cX7_sequenceOfTale 131 = .ok (.isub, 1) := by decide +kernel
theorem dX7_sequenceOfTale_132 : decode cX7_sequenceOfTale 132 = .ok (.putfield 142, 3) := by decide +kernel
theorem dX7_sequenceOfTale_135 : decode cX7_sequenceOfTale 135 = .ok (.iconst 1, 1) := by decide +kernel
theorem dX7_sequenceOfTale_136 : decode cX7_sequenceOfTale 136 = .ok (.ireturn, 1) := by decide +kernel
theorem dX7_sequenceOfTale_137 : decode cX7_sequenceOfTale 137 = .ok (.aload_n 0, 1) := by decide +kernel
theorem dX7_sequenceOfTale_138 : decode cX7_sequenceOfTale 138 = .ok (.aload_n 0, 1) := by decide +kernel
theorem dX7_sequenceOfTale_139 : decode cX7_sequenceOfTale 139 = .ok (.getfield 61, 3) := by decide +kernel
theorem dX7_sequenceOfTale_142 : decode cX7_sequenceOfTale 142 = .ok (.iload_n 2, 1) := by decide +kernel
theorem dX7_sequenceOfTale_143 : decode cX7_sequenceOfTale 143 = .ok (.iaload, 1) := by decide +kernel
theorem dX7_sequenceOfTale_144 : decode cX7_sequenceOfTale 144 = .ok (.iconst 1, 1) := by decide +kernel
theorem dX7_sequenceOfTale_145 : decode cX7_sequenceOfTale 145 = .ok (.isub, 1) := by decide +kernel
theorem dX7_sequenceOfTale_146 : decode cX7_sequenceOfTale 146 = .ok (.iload 5, 2) := by decide +kernel
theorem dX7_sequenceOfTale_148 : decode cX7_sequenceOfTale 148 = .ok (.ifCond .ne 7, 3) := by decide +kernel
theorem dX7_sequenceOfTale_151 : decode cX7_sequenceOfTale 151 = .ok (.iconst 2, 1) := by decide +kernel
theorem dX7_sequenceOfTale_152 : decode cX7_sequenceOfTale 152 = .ok (.goto 4, 3) := by decide +kernel
theorem dX7_sequenceOfTale_155 : decode cX7_sequenceOfTale 155 = .ok (.iconst 0, 1) := by decide +kernel
theorem dX7_sequenceOfTale_156 : decode cX7_sequenceOfTale 156 = .ok (.iload 4, 2) := by decide +kernel
theorem dX7_sequenceOfTale_158 : decode cX7_sequenceOfTale 158 = .ok (.invokevirtual 165, 3) := by decide +kernel
theorem dX7_sequenceOfTale_161 : decode cX7_sequenceOfTale 161 = .ok (.aload_n 0, 1) := by decide +kernel
theorem dX7_sequenceOfTale_162 : decode cX7_sequenceOfTale 162 = .ok (.getfield 64, 3) := by decide +kernel
theorem dX7_sequenceOfTale_165 : decode cX7_sequenceOfTale 165 = .ok (.iload_n 2, 1) := by decide +kernel
theorem dX7_sequenceOfTale_166 : decode cX7_sequenceOfTale 166 = .ok (.iload 4, 2) := by decide +kernel
theorem dX7_sequenceOfTale_168 : decode cX7_sequenceOfTale 168 = .ok (.ifCond .eq 10, 3) := by decide +kernel
theorem dX7_sequenceOfTale_171 : decode cX7_sequenceOfTale 171 = .ok (.aload_n 0, 1) := by decide +kernel
theorem dX7_sequenceOfTale_172 : decode cX7_sequenceOfTale 172 = .ok (.getfield 145, 3) := by decide +kernel
theorem dX7_sequenceOfTale_175 : decode cX7_sequenceOfTale 175 = .ok (.goto 4, 3) := by decide +kernel
theorem dX7_sequenceOfTale_178 : decode cX7_sequenceOfTale 178 = .ok (.iconst (-1), 1) := by decide +kernel
theorem dX7_sequenceOfTale_179 : decode cX7_sequenceOfTale 179 = .ok (.iastore, 1) := by decide +kernel
theorem dX7_sequenceOfTale_180 : decode cX7_sequenceOfTale 180 = .ok (.aload_n 0, 1) := by decide +kernel
theorem dX7_sequenceOfTale_181 : decode cX7_sequenceOfTale 181 = .ok (.iconst 0, 1) := by decide +kernel
theorem dX7_sequenceOfTale_182 : decode cX7_sequenceOfTale 182 = .ok (.bipush 8, 2) := by decide +kernel
theorem dX7_sequenceOfTale_184 : decode cX7_sequenceOfTale 184 = .ok (.iload 4, 2) := by decide +kernel
theorem dX7_sequenceOfTale_186 : decode cX7_sequenceOfTale 186 = .ok (.invokevirtual 165, 3) := by decide +kernel
theorem dX7_sequenceOfTale_189 : decode cX7_sequenceOfTale 189 = .ok (.aload_n 0, 1) := by decide +kernel
theorem dX7_sequenceOfTale_190 : decode cX7_sequenceOfTale 190 = .ok (.aload_n 0, 1) := by decide +kernel
theorem dX7_sequenceOfTale_191 : decode cX7_sequenceOfTale 191 = .ok (.getfield 25, 3) := by decide +kernel
theorem dX7_sequenceOfTale_194 : decode cX7_sequenceOfTale 194 = .ok (.iconst 3, 1) := by decide +kernel
theorem dX7_sequenceOfTale_195 : decode cX7_sequenceOfTale 195 = .ok (.iload_n 1, 1) := by decide +kernel
theorem dX7_sequenceOfTale_196 : decode cX7_sequenceOfTale 196 = .ok (.imul, 1) := by decide +kernel
theorem dX7_sequenceOfTale_197 : decode cX7_sequenceOfTale 197 = .ok (.iload 5, 2) := by decide +kernel
theorem dX7_sequenceOfTale_199 : decode cX7_sequenceOfTale 199 = .ok (.iadd, 1) := by decide +kernel
theorem dX7_sequenceOfTale_200 : decode cX7_sequenceOfTale 200 = .ok (.iaload, 1) := by decide +kernel
theorem dX7_sequenceOfTale_201 : decode cX7_sequenceOfTale 201 = .ok (.invokevirtual 169, 3) := by decide +kernel
theorem dX7_sequenceOfTale_204 : decode cX7_sequenceOfTale 204 = .ok (.iconst 1, 1) := by decide +kernel
theorem dX7_sequenceOfTale_205 : decode cX7_sequenceOfTale 205 = .ok (.ireturn, 1) := by decide +kernel
def wb_X7_sequenceOfTale_179 (post : Int32 → (Nat → Int32) → (Nat → Nat → Int32) → Prop)  (v1 : Int32) (v4 : Int32) (v5 : Int32) (s0 : Int32) (s1 : Int32) (σ : Nat → Int32) (α : Nat → Nat → Int32) : Prop := vp_in s1 20 ∧ ∀ α40, α40 = upA α 25 (upd (α 25) s1.toNatClampNeg s0) → wp_X7_emit (0 : Int32) (8 : Int32) v4 σ α40 (fun σ43 α44 => vp_in (((3 : Int32) * v1) + v5) 48 ∧ wp_X7_push (α44 7 (((3 : Int32) * v1) + v5).toNatClampNeg) σ43 α44 (fun σ47 α48 => post (1 : Int32) σ47 α48))
set_option maxHeartbeats 4000000 in
set_option maxRecDepth 100000 in
theorem tb_X7_sequenceOfTale_179 {p : Program} {l : Launch} {e : Env} {s : State} {m : MethodId} {args : Array Value} {below : List Frame} {meth : Method} {c : Code} {G : gG} {A : Nat → Prop} {μ0 : Mm} {mm : Nat} {rf : Nat → Nat} {post : Int32 → (Nat → Int32) → (Nat → Nat → Int32) → Prop} (X : Cx p l s m args meth c cX7_sequenceOfTale 6 (some .boolean) RX7 G A) (hMO : MOk mm rf) : ∀ (v1 : Int32) (v4 : Int32) (v5 : Int32) (s0 : Int32) (s1 : Int32) (σ : Nat → Int32) (α : Nat → Nat → Int32), wb_X7_sequenceOfTale_179 post v1 v4 v5 s0 s1 σ α → J p l e (rmL (1) 0 0) s m args below meth c 6 G A (MQ below (QG G A (pI (pMi μ0 mm rf post))) args s 0 0 A) 0 0 179 [(0, .ref mm), (1, .int v1), (4, .int v4), (5, .int v5)] [.int s0, .int s1, .ref (rf 25)] (mset μ0 mm rf σ α) := by
  intro v1 v4 v5 s0 s1 σ α hw
  unfold wb_X7_sequenceOfTale_179 at hw
  have h39 := hw.1
  have hw1 := hw.2
  refine jm_iast X (pc' := 180) hMO 25 (by decide) h39 dX7_sequenceOfTale_179 rfl (fun α40 e41 => ?_)
  have hw2 := hw1 α40 e41
  refine j_aload_n X (pc' := 181) (kk := 0) (i := 0) 0 rfl rfl dX7_sequenceOfTale_180 rfl ?_
  refine j_iconst X (pc' := 182) (v := 0) (by decide) dX7_sequenceOfTale_181 rfl ?_
  refine j_bipush X (pc' := 184) (v := 8) (by decide) dX7_sequenceOfTale_182 rfl ?_
  refine j_iload X (pc' := 186) (i := 4) 2 rfl dX7_sequenceOfTale_184 rfl ?_
  refine j_callVv (As := [.int (0 : Int32), .int (8 : Int32), .int v4]) (rest := []) X (pc' := 189) (cells' := 0) (slots' := 0) (c_X7_emit l G A hMO μ0 (0 : Int32) (8 : Int32) v4 σ α40 _ hw2) (gk_X7_emit wt_4_158) hd_X7_emit (rmL_fit (k1 := 0) (k := 1) (by omega) (by decide)) mset_o rfl rfl rfl (Nat.le_of_ble_eq_true rfl) dX7_sequenceOfTale_186 rfl ⟨Nat.le_of_ble_eq_true rfl, Nat.le_of_ble_eq_true rfl⟩ rfl rfl (fun μ52 hw3 => ?_)
  obtain ⟨σ43, α44, rfl, hw4⟩ := hw3
  refine j_aload_n X (pc' := 190) (kk := 0) (i := 0) 0 rfl rfl dX7_sequenceOfTale_189 rfl ?_
  refine j_aload_n X (pc' := 191) (kk := 0) (i := 0) 0 rfl rfl dX7_sequenceOfTale_190 rfl ?_
  refine j_getf X (pc' := 194) mset_o 7 rfl rfl fw_TX7 (by decide) wt_3_172 dX7_sequenceOfTale_191 rfl ?_
  refine j_iconst X (pc' := 195) (v := 3) (by decide) dX7_sequenceOfTale_194 rfl ?_
  refine j_iload_n X (pc' := 196) (kk := 1) (i := 1) 1 rfl rfl dX7_sequenceOfTale_195 rfl ?_
  refine j_imul X (pc' := 197) dX7_sequenceOfTale_196 rfl ?_
  refine j_iload X (pc' := 199) (i := 5) 3 rfl dX7_sequenceOfTale_197 rfl ?_
  refine j_iadd X (pc' := 200) dX7_sequenceOfTale_199 rfl ?_
  have h45 := hw4.1
  have hw5 := hw4.2
  refine j_iald X (pc' := 201) (mset_a hMO 7 (by decide)) h45 dX7_sequenceOfTale_200 rfl ?_
  refine j_callVv (As := [.int (α44 7 (((3 : Int32) * v1) + v5).toNatClampNeg)]) (rest := []) X (pc' := 204) (cells' := 0) (slots' := 0) (c_X7_push l G A hMO μ0 (α44 7 (((3 : Int32) * v1) + v5).toNatClampNeg) σ43 α44 _ hw5) (gk_X7_push wt_4_142) hd_X7_push (rmL_fit (k1 := 0) (k := 1) (by omega) (by decide)) mset_o rfl rfl rfl (Nat.le_of_ble_eq_true rfl) dX7_sequenceOfTale_201 rfl ⟨Nat.le_of_ble_eq_true rfl, Nat.le_of_ble_eq_true rfl⟩ rfl rfl (fun μ50 hw6 => ?_)
  obtain ⟨σ47, α48, rfl, hw7⟩ := hw6
  refine j_iconst X (pc' := 205) (v := 1) (by decide) dX7_sequenceOfTale_204 rfl ?_
  exact j_zret X (Or.inr rfl) ⟨_, rfl, _, _, rfl, hw7⟩ (Nat.le_of_ble_eq_true rfl) (Nat.le_of_ble_eq_true rfl) dX7_sequenceOfTale_205
def wb_X7_sequenceOfTale_156 (post : Int32 → (Nat → Int32) → (Nat → Nat → Int32) → Prop)  (v1 : Int32) (v2 : Int32) (v4 : Int32) (v5 : Int32) (s0 : Int32) (s1 : Int32) (σ : Nat → Int32) (α : Nat → Nat → Int32) : Prop := wp_X7_emit s1 s0 v4 σ α (fun σ34 α35 => (v4 = 0 → (wb_X7_sequenceOfTale_179 post v1 v4 v5 (-1 : Int32) v2 σ34 α35)) ∧ (¬ v4 = 0 → (wb_X7_sequenceOfTale_179 post v1 v4 v5 (σ34 16) v2 σ34 α35)))
set_option maxHeartbeats 4000000 in
set_option maxRecDepth 100000 in
theorem tb_X7_sequenceOfTale_156 {p : Program} {l : Launch} {e : Env} {s : State} {m : MethodId} {args : Array Value} {below : List Frame} {meth : Method} {c : Code} {G : gG} {A : Nat → Prop} {μ0 : Mm} {mm : Nat} {rf : Nat → Nat} {post : Int32 → (Nat → Int32) → (Nat → Nat → Int32) → Prop} (X : Cx p l s m args meth c cX7_sequenceOfTale 6 (some .boolean) RX7 G A) (hMO : MOk mm rf) : ∀ (v1 : Int32) (v2 : Int32) (v4 : Int32) (v5 : Int32) (s0 : Int32) (s1 : Int32) (σ : Nat → Int32) (α : Nat → Nat → Int32), wb_X7_sequenceOfTale_156 post v1 v2 v4 v5 s0 s1 σ α → J p l e (rmL (1) 0 0) s m args below meth c 6 G A (MQ below (QG G A (pI (pMi μ0 mm rf post))) args s 0 0 A) 0 0 156 [(0, .ref mm), (1, .int v1), (2, .int v2), (4, .int v4), (5, .int v5)] [.int s0, .int s1, .ref mm] (mset μ0 mm rf σ α) := by
  intro v1 v2 v4 v5 s0 s1 σ α hw
  unfold wb_X7_sequenceOfTale_156 at hw
  refine j_iload X (pc' := 158) (i := 4) 3 rfl dX7_sequenceOfTale_156 rfl ?_
  refine j_callVv (As := [.int s1, .int s0, .int v4]) (rest := []) X (pc' := 161) (cells' := 0) (slots' := 0) (c_X7_emit l G A hMO μ0 s1 s0 v4 σ α _ hw) (gk_X7_emit wt_4_158) hd_X7_emit (rmL_fit (k1 := 0) (k := 1) (by omega) (by decide)) mset_o rfl rfl rfl (Nat.le_of_ble_eq_true rfl) dX7_sequenceOfTale_158 rfl ⟨Nat.le_of_ble_eq_true rfl, Nat.le_of_ble_eq_true rfl⟩ rfl rfl (fun μ38 hw1 => ?_)
  obtain ⟨σ34, α35, rfl, hw2⟩ := hw1
  refine j_aload_n X (pc' := 162) (kk := 0) (i := 0) 0 rfl rfl dX7_sequenceOfTale_161 rfl ?_
  refine j_getf X (pc' := 165) mset_o 25 rfl rfl fw_TX7 (by decide) wt_3_190 dX7_sequenceOfTale_162 rfl ?_
  refine j_iload_n X (pc' := 166) (kk := 2) (i := 2) 2 rfl rfl dX7_sequenceOfTale_165 rfl ?_
  refine j_iload X (pc' := 168) (i := 4) 3 rfl dX7_sequenceOfTale_166 rfl ?_
  refine j_if_eq X (pc' := 171) (tgt := 178) dX7_sequenceOfTale_168 rfl (by decide) (fun c36 => ?_) (fun c36 => ?_)
  · have hw3 := hw2.1 c36
    refine j_iconst X (pc' := 179) (v := (-1)) (by decide) dX7_sequenceOfTale_178 rfl ?_
    refine j_loc [0, 1, 3, 4] rfl ?_
    exact tb_X7_sequenceOfTale_179 X hMO _ _ _ _ _ _ _ hw3
  · have hw4 := hw2.2 c36
    refine j_aload_n X (pc' := 172) (kk := 0) (i := 0) 0 rfl rfl dX7_sequenceOfTale_171 rfl ?_
    refine j_getf X (pc' := 175) mset_o 16 rfl rfl fw_TX7 (by decide) wt_3_181 dX7_sequenceOfTale_172 rfl ?_
    refine j_goto X (tgt := 179) dX7_sequenceOfTale_175 (by decide) ?_
    refine j_loc [0, 1, 3, 4] rfl ?_
    exact tb_X7_sequenceOfTale_179 X hMO _ _ _ _ _ _ _ hw4
def wb_X7_sequenceOfTale_61 (post : Int32 → (Nat → Int32) → (Nat → Nat → Int32) → Prop)  (v1 : Int32) (v2 : Int32) (v3 : Int32) (v4 : Int32) (σ : Nat → Int32) (α : Nat → Nat → Int32) : Prop := vp_in v2 20 ∧ ∀ α10, α10 = upA α 25 (upd (α 25) v2.toNatClampNeg (-1 : Int32)) → vp_in v1 16 ∧ ((α10 6 v1.toNatClampNeg) ≤ v3 → (vp_in v1 16 ∧ vp_in v2 20 ∧ ((v3 - (α10 6 v1.toNatClampNeg)) < (α10 24 v2.toNatClampNeg) → (vp_in v2 20 ∧ (¬ (v3 - (α10 6 v1.toNatClampNeg)) = 0 → (wb_X7_sequenceOfTale_156 post v1 v2 v4 (v3 - (α10 6 v1.toNatClampNeg)) (0 : Int32) ((α10 24 v2.toNatClampNeg) - (1 : Int32)) σ α10)) ∧ ((v3 - (α10 6 v1.toNatClampNeg)) = 0 → (wb_X7_sequenceOfTale_156 post v1 v2 v4 (v3 - (α10 6 v1.toNatClampNeg)) (2 : Int32) ((α10 24 v2.toNatClampNeg) - (1 : Int32)) σ α10)))) ∧ (¬ (v3 - (α10 6 v1.toNatClampNeg)) < (α10 24 v2.toNatClampNeg) → (∀ σ19, σ19 = upd σ 20 ((σ 20) - (1 : Int32)) → post (1 : Int32) σ19 α10)))) ∧ (¬ (α10 6 v1.toNatClampNeg) ≤ v3 → (vp_in v2 20 ∧ (¬ (((α10 23 v2.toNatClampNeg) >>> (v3 &&& 31)) &&& (1 : Int32)) = (1 : Int32) → (post (1 : Int32) σ α10)) ∧ ((((α10 23 v2.toNatClampNeg) >>> (v3 &&& 31)) &&& (1 : Int32)) = (1 : Int32) → (wp_X7_partOf v1 v3 σ α10 (fun r23 σ24 α25 => wp_X7_push r23 σ24 α25 (fun σ27 α28 => post (1 : Int32) σ27 α28))))))
set_option maxHeartbeats 4000000 in
set_option maxRecDepth 100000 in
theorem tb_X7_sequenceOfTale_61 {p : Program} {l : Launch} {e : Env} {s : State} {m : MethodId} {args : Array Value} {below : List Frame} {meth : Method} {c : Code} {G : gG} {A : Nat → Prop} {μ0 : Mm} {mm : Nat} {rf : Nat → Nat} {post : Int32 → (Nat → Int32) → (Nat → Nat → Int32) → Prop} (X : Cx p l s m args meth c cX7_sequenceOfTale 6 (some .boolean) RX7 G A) (hMO : MOk mm rf) : ∀ (v1 : Int32) (v2 : Int32) (v3 : Int32) (v4 : Int32) (σ : Nat → Int32) (α : Nat → Nat → Int32), wb_X7_sequenceOfTale_61 post v1 v2 v3 v4 σ α → J p l e (rmL (1) 0 0) s m args below meth c 6 G A (MQ below (QG G A (pI (pMi μ0 mm rf post))) args s 0 0 A) 0 0 61 [(0, .ref mm), (1, .int v1), (2, .int v2), (3, .int v3), (4, .int v4)] [] (mset μ0 mm rf σ α) := by
  intro v1 v2 v3 v4 σ α hw
  unfold wb_X7_sequenceOfTale_61 at hw
  refine j_aload_n X (pc' := 62) (kk := 0) (i := 0) 0 rfl rfl dX7_sequenceOfTale_61 rfl ?_
  refine j_getf X (pc' := 65) mset_o 25 rfl rfl fw_TX7 (by decide) wt_3_190 dX7_sequenceOfTale_62 rfl ?_
  refine j_iload_n X (pc' := 66) (kk := 2) (i := 2) 2 rfl rfl dX7_sequenceOfTale_65 rfl ?_
  refine j_iconst X (pc' := 67) (v := (-1)) (by decide) dX7_sequenceOfTale_66 rfl ?_
  have h9 := hw.1
  have hw1 := hw.2
  refine jm_iast X (pc' := 68) hMO 25 (by decide) h9 dX7_sequenceOfTale_67 rfl (fun α10 e11 => ?_)
  have hw2 := hw1 α10 e11
  refine j_iload_n X (pc' := 69) (kk := 3) (i := 3) 3 rfl rfl dX7_sequenceOfTale_68 rfl ?_
  refine j_aload_n X (pc' := 70) (kk := 0) (i := 0) 0 rfl rfl dX7_sequenceOfTale_69 rfl ?_
  refine j_getf X (pc' := 73) mset_o 6 rfl rfl fw_TX7 (by decide) wt_3_171 dX7_sequenceOfTale_70 rfl ?_
  refine j_iload_n X (pc' := 74) (kk := 1) (i := 1) 1 rfl rfl dX7_sequenceOfTale_73 rfl ?_
  have h12 := hw2.1
  have hw3 := hw2.2
  refine j_iald X (pc' := 75) (mset_a hMO 6 (by decide)) h12 dX7_sequenceOfTale_74 rfl ?_
  refine j_icmp_ge X (pc' := 78) (tgt := 104) dX7_sequenceOfTale_75 rfl (by decide) (fun c13 => ?_) (fun c13 => ?_)
  · have hw4 := hw3.1 c13
    refine j_iload_n X (pc' := 105) (kk := 3) (i := 3) 3 rfl rfl dX7_sequenceOfTale_104 rfl ?_
    refine j_aload_n X (pc' := 106) (kk := 0) (i := 0) 0 rfl rfl dX7_sequenceOfTale_105 rfl ?_
    refine j_getf X (pc' := 109) mset_o 6 rfl rfl fw_TX7 (by decide) wt_3_171 dX7_sequenceOfTale_106 rfl ?_
    refine j_iload_n X (pc' := 110) (kk := 1) (i := 1) 1 rfl rfl dX7_sequenceOfTale_109 rfl ?_
    have h14 := hw4.1
    have hw5 := hw4.2
    refine j_iald X (pc' := 111) (mset_a hMO 6 (by decide)) h14 dX7_sequenceOfTale_110 rfl ?_
    refine j_isub X (pc' := 112) dX7_sequenceOfTale_111 rfl ?_
    refine j_istore X (pc' := 114) (i := 5) (loc' := [(5, .int (v3 - (α10 6 v1.toNatClampNeg))), (0, .ref mm), (1, .int v1), (2, .int v2), (3, .int v3), (4, .int v4)]) dX7_sequenceOfTale_112 rfl (by decide) rfl ?_
    refine j_iload X (pc' := 116) (i := 5) 0 rfl dX7_sequenceOfTale_114 rfl ?_
    refine j_aload_n X (pc' := 117) (kk := 0) (i := 0) 1 rfl rfl dX7_sequenceOfTale_116 rfl ?_
    refine j_getf X (pc' := 120) mset_o 24 rfl rfl fw_TX7 (by decide) wt_3_189 dX7_sequenceOfTale_117 rfl ?_
    refine j_iload_n X (pc' := 121) (kk := 2) (i := 2) 3 rfl rfl dX7_sequenceOfTale_120 rfl ?_
    have h15 := hw5.1
    have hw6 := hw5.2
    refine j_iald X (pc' := 122) (mset_a hMO 24 (by decide)) h15 dX7_sequenceOfTale_121 rfl ?_
    refine j_icmp_lt X (pc' := 125) (tgt := 137) dX7_sequenceOfTale_122 rfl (by decide) (fun c16 => ?_) (fun c16 => ?_)
    · have hw7 := hw6.1 c16
      refine j_aload_n X (pc' := 138) (kk := 0) (i := 0) 1 rfl rfl dX7_sequenceOfTale_137 rfl ?_
      refine j_aload_n X (pc' := 139) (kk := 0) (i := 0) 1 rfl rfl dX7_sequenceOfTale_138 rfl ?_
      refine j_getf X (pc' := 142) mset_o 24 rfl rfl fw_TX7 (by decide) wt_3_189 dX7_sequenceOfTale_139 rfl ?_
      refine j_iload_n X (pc' := 143) (kk := 2) (i := 2) 3 rfl rfl dX7_sequenceOfTale_142 rfl ?_
      have h17 := hw7.1
      have hw8 := hw7.2
      refine j_iald X (pc' := 144) (mset_a hMO 24 (by decide)) h17 dX7_sequenceOfTale_143 rfl ?_
      refine j_iconst X (pc' := 145) (v := 1) (by decide) dX7_sequenceOfTale_144 rfl ?_
      refine j_isub X (pc' := 146) dX7_sequenceOfTale_145 rfl ?_
      refine j_iload X (pc' := 148) (i := 5) 0 rfl dX7_sequenceOfTale_146 rfl ?_
      refine j_if_ne X (pc' := 151) (tgt := 155) dX7_sequenceOfTale_148 rfl (by decide) (fun c18 => ?_) (fun c18 => ?_)
      · have hw9 := hw8.1 c18
        refine j_iconst X (pc' := 156) (v := 0) (by decide) dX7_sequenceOfTale_155 rfl ?_
        refine j_loc [1, 2, 3, 5, 0] rfl ?_
        exact tb_X7_sequenceOfTale_156 X hMO _ _ _ _ _ _ _ _ hw9
      · have hw10 := hw8.2 c18
        refine j_iconst X (pc' := 152) (v := 2) (by decide) dX7_sequenceOfTale_151 rfl ?_
        refine j_goto X (tgt := 156) dX7_sequenceOfTale_152 (by decide) ?_
        refine j_loc [1, 2, 3, 5, 0] rfl ?_
        exact tb_X7_sequenceOfTale_156 X hMO _ _ _ _ _ _ _ _ hw10
    · have hw11 := hw6.2 c16
      refine j_aload_n X (pc' := 126) (kk := 0) (i := 0) 1 rfl rfl dX7_sequenceOfTale_125 rfl ?_
      refine j_dup X (pc' := 127) rfl dX7_sequenceOfTale_126 rfl ?_
      refine j_getf X (pc' := 130) mset_o 20 rfl rfl fw_TX7 (by decide) wt_3_185 dX7_sequenceOfTale_127 rfl ?_
      refine j_iconst X (pc' := 131) (v := 1) (by decide) dX7_sequenceOfTale_130 rfl ?_
      refine j_isub X (pc' := 132) dX7_sequenceOfTale_131 rfl ?_
      refine jm_putf X (pc' := 135) 20 (mF_set_20 _ _ _) (by decide) rfl wt_3_185 (by decide +kernel) dX7_sequenceOfTale_132 rfl (fun σ19 e20 => ?_)
      have hw12 := hw11 σ19 e20
      refine j_iconst X (pc' := 136) (v := 1) (by decide) dX7_sequenceOfTale_135 rfl ?_
      exact j_zret X (Or.inr rfl) ⟨_, rfl, _, _, rfl, hw12⟩ (Nat.le_of_ble_eq_true rfl) (Nat.le_of_ble_eq_true rfl) dX7_sequenceOfTale_136
  · have hw13 := hw3.2 c13
    refine j_aload_n X (pc' := 79) (kk := 0) (i := 0) 0 rfl rfl dX7_sequenceOfTale_78 rfl ?_
    refine j_getf X (pc' := 82) mset_o 23 rfl rfl fw_TX7 (by decide) wt_3_188 dX7_sequenceOfTale_79 rfl ?_
    refine j_iload_n X (pc' := 83) (kk := 2) (i := 2) 2 rfl rfl dX7_sequenceOfTale_82 rfl ?_
    have h21 := hw13.1
    have hw14 := hw13.2
    refine j_iald X (pc' := 84) (mset_a hMO 23 (by decide)) h21 dX7_sequenceOfTale_83 rfl ?_
    refine j_iload_n X (pc' := 85) (kk := 3) (i := 3) 3 rfl rfl dX7_sequenceOfTale_84 rfl ?_
    refine j_ishr X (pc' := 86) dX7_sequenceOfTale_85 rfl ?_
    refine j_iconst X (pc' := 87) (v := 1) (by decide) dX7_sequenceOfTale_86 rfl ?_
    refine j_iand X (pc' := 88) dX7_sequenceOfTale_87 rfl ?_
    refine j_iconst X (pc' := 89) (v := 1) (by decide) dX7_sequenceOfTale_88 rfl ?_
    refine j_icmp_ne X (pc' := 92) (tgt := 102) dX7_sequenceOfTale_89 rfl (by decide) (fun c22 => ?_) (fun c22 => ?_)
    · have hw15 := hw14.1 c22
      refine j_iconst X (pc' := 103) (v := 1) (by decide) dX7_sequenceOfTale_102 rfl ?_
      exact j_zret X (Or.inr rfl) ⟨_, rfl, _, _, rfl, hw15⟩ (Nat.le_of_ble_eq_true rfl) (Nat.le_of_ble_eq_true rfl) dX7_sequenceOfTale_103
    · have hw16 := hw14.2 c22
      refine j_aload_n X (pc' := 93) (kk := 0) (i := 0) 0 rfl rfl dX7_sequenceOfTale_92 rfl ?_
      refine j_aload_n X (pc' := 94) (kk := 0) (i := 0) 0 rfl rfl dX7_sequenceOfTale_93 rfl ?_
      refine j_iload_n X (pc' := 95) (kk := 1) (i := 1) 1 rfl rfl dX7_sequenceOfTale_94 rfl ?_
      refine j_iload_n X (pc' := 96) (kk := 3) (i := 3) 3 rfl rfl dX7_sequenceOfTale_95 rfl ?_
      refine j_callVi (As := [.int v1, .int v3]) (rest := [.ref mm]) X (pc' := 99) (cells' := 0) (slots' := 0) (c_X7_partOf l G A hMO μ0 v1 v3 σ α10 _ hw16) (gk_X7_partOf wt_4_51) hd_X7_partOf (rmL_fit (k1 := 0) (k := 1) (by omega) (by decide)) mset_o rfl rfl rfl (Nat.le_of_ble_eq_true rfl) dX7_sequenceOfTale_96 rfl ⟨Nat.le_of_ble_eq_true rfl, Nat.le_of_ble_eq_true rfl⟩ rfl rfl (fun r23 μ32 hw17 => ?_)
      obtain ⟨σ24, α25, rfl, hw18⟩ := hw17
      refine j_callVv (As := [.int r23]) (rest := []) X (pc' := 102) (cells' := 0) (slots' := 0) (c_X7_push l G A hMO μ0 r23 σ24 α25 _ hw18) (gk_X7_push wt_4_142) hd_X7_push (rmL_fit (k1 := 0) (k := 1) (by omega) (by decide)) mset_o rfl rfl rfl (Nat.le_of_ble_eq_true rfl) dX7_sequenceOfTale_99 rfl ⟨Nat.le_of_ble_eq_true rfl, Nat.le_of_ble_eq_true rfl⟩ rfl rfl (fun μ30 hw19 => ?_)
      obtain ⟨σ27, α28, rfl, hw20⟩ := hw19
      refine j_iconst X (pc' := 103) (v := 1) (by decide) dX7_sequenceOfTale_102 rfl ?_
      exact j_zret X (Or.inr rfl) ⟨_, rfl, _, _, rfl, hw20⟩ (Nat.le_of_ble_eq_true rfl) (Nat.le_of_ble_eq_true rfl) dX7_sequenceOfTale_103
def wb_X7_sequenceOfTale_3 (post : Int32 → (Nat → Int32) → (Nat → Nat → Int32) → Prop)  : Nat → Int32 → Int32 → Int32 → Int32 → Int32 → (Nat → Int32) → (Nat → Nat → Int32) → Prop
  | 0 => fun _ _ _ _ _ _ _ => False
  | n + 1 => fun v1 v2 v3 v4 v5 σ α => ((8 : Int32) ≤ v5 → (wb_X7_sequenceOfTale_61 post v1 v2 v3 v4 σ α)) ∧ (¬ (8 : Int32) ≤ v5 → (vp_in v2 20 ∧ ((α 25 v2.toNatClampNeg) < 0 → (wb_X7_sequenceOfTale_61 post v1 v2 v3 v4 σ α)) ∧ (¬ (α 25 v2.toNatClampNeg) < 0 → (vp_in v2 20 ∧ vp_in v2 20 ∧ vp_in ((α 25 v2.toNatClampNeg) + v5) 300 ∧ ∀ α7, α7 = upA α 17 (upd (α 17) ((α 25 v2.toNatClampNeg) + v5).toNatClampNeg (((((σ 16) - (α 25 v2.toNatClampNeg)) - (8 : Int32)) >>> (((7 : Int32) - v5) &&& 31)) &&& (1 : Int32))) → wb_X7_sequenceOfTale_3 post n v1 v2 v3 v4 (v5 + 1) σ α7))))
set_option maxHeartbeats 4000000 in
set_option maxRecDepth 100000 in
theorem tb_X7_sequenceOfTale_3 {p : Program} {l : Launch} {e : Env} {s : State} {m : MethodId} {args : Array Value} {below : List Frame} {meth : Method} {c : Code} {G : gG} {A : Nat → Prop} {μ0 : Mm} {mm : Nat} {rf : Nat → Nat} {post : Int32 → (Nat → Int32) → (Nat → Nat → Int32) → Prop} (X : Cx p l s m args meth c cX7_sequenceOfTale 6 (some .boolean) RX7 G A) (hMO : MOk mm rf) : ∀ (n : Nat) (v1 : Int32) (v2 : Int32) (v3 : Int32) (v4 : Int32) (v5 : Int32) (σ : Nat → Int32) (α : Nat → Nat → Int32), wb_X7_sequenceOfTale_3 post n v1 v2 v3 v4 v5 σ α → J p l e (rmL (1) 0 0) s m args below meth c 6 G A (MQ below (QG G A (pI (pMi μ0 mm rf post))) args s 0 0 A) 0 0 3 [(0, .ref mm), (1, .int v1), (2, .int v2), (3, .int v3), (4, .int v4), (5, .int v5)] [] (mset μ0 mm rf σ α) := by
  intro n
  induction n with
  | zero => intro v1 v2 v3 v4 v5 σ α hw; exact hw.elim
  | succ n ih =>
    intro v1 v2 v3 v4 v5 σ α hw
    rw [wb_X7_sequenceOfTale_3] at hw
    refine j_iload X (pc' := 5) (i := 5) 5 rfl dX7_sequenceOfTale_3 rfl ?_
    refine j_bipush X (pc' := 7) (v := 8) (by decide) dX7_sequenceOfTale_5 rfl ?_
    refine j_icmp_ge X (pc' := 10) (tgt := 61) dX7_sequenceOfTale_7 rfl (by decide) (fun c1 => ?_) (fun c1 => ?_)
    · have hw1 := hw.1 c1
      refine j_loc [0, 1, 2, 3, 4] rfl ?_
      exact tb_X7_sequenceOfTale_61 X hMO _ _ _ _ _ _ hw1
    · have hw2 := hw.2 c1
      refine j_aload_n X (pc' := 11) (kk := 0) (i := 0) 0 rfl rfl dX7_sequenceOfTale_10 rfl ?_
      refine j_getf X (pc' := 14) mset_o 25 rfl rfl fw_TX7 (by decide) wt_3_190 dX7_sequenceOfTale_11 rfl ?_
      refine j_iload_n X (pc' := 15) (kk := 2) (i := 2) 2 rfl rfl dX7_sequenceOfTale_14 rfl ?_
      have h2 := hw2.1
      have hw3 := hw2.2
      refine j_iald X (pc' := 16) (mset_a hMO 25 (by decide)) h2 dX7_sequenceOfTale_15 rfl ?_
      refine j_if_lt X (pc' := 19) (tgt := 61) dX7_sequenceOfTale_16 rfl (by decide) (fun c3 => ?_) (fun c3 => ?_)
      · have hw4 := hw3.1 c3
        refine j_loc [0, 1, 2, 3, 4] rfl ?_
        exact tb_X7_sequenceOfTale_61 X hMO _ _ _ _ _ _ hw4
      · have hw5 := hw3.2 c3
        refine j_aload_n X (pc' := 20) (kk := 0) (i := 0) 0 rfl rfl dX7_sequenceOfTale_19 rfl ?_
        refine j_getf X (pc' := 23) mset_o 17 rfl rfl fw_TX7 (by decide) wt_3_182 dX7_sequenceOfTale_20 rfl ?_
        refine j_aload_n X (pc' := 24) (kk := 0) (i := 0) 0 rfl rfl dX7_sequenceOfTale_23 rfl ?_
        refine j_getf X (pc' := 27) mset_o 25 rfl rfl fw_TX7 (by decide) wt_3_190 dX7_sequenceOfTale_24 rfl ?_
        refine j_iload_n X (pc' := 28) (kk := 2) (i := 2) 2 rfl rfl dX7_sequenceOfTale_27 rfl ?_
        have h4 := hw5.1
        have hw6 := hw5.2
        refine j_iald X (pc' := 29) (mset_a hMO 25 (by decide)) h4 dX7_sequenceOfTale_28 rfl ?_
        refine j_iload X (pc' := 31) (i := 5) 5 rfl dX7_sequenceOfTale_29 rfl ?_
        refine j_iadd X (pc' := 32) dX7_sequenceOfTale_31 rfl ?_
        refine j_aload_n X (pc' := 33) (kk := 0) (i := 0) 0 rfl rfl dX7_sequenceOfTale_32 rfl ?_
        refine j_getf X (pc' := 36) mset_o 16 rfl rfl fw_TX7 (by decide) wt_3_181 dX7_sequenceOfTale_33 rfl ?_
        refine j_aload_n X (pc' := 37) (kk := 0) (i := 0) 0 rfl rfl dX7_sequenceOfTale_36 rfl ?_
        refine j_getf X (pc' := 40) mset_o 25 rfl rfl fw_TX7 (by decide) wt_3_190 dX7_sequenceOfTale_37 rfl ?_
        refine j_iload_n X (pc' := 41) (kk := 2) (i := 2) 2 rfl rfl dX7_sequenceOfTale_40 rfl ?_
        have h5 := hw6.1
        have hw7 := hw6.2
        refine j_iald X (pc' := 42) (mset_a hMO 25 (by decide)) h5 dX7_sequenceOfTale_41 rfl ?_
        refine j_isub X (pc' := 43) dX7_sequenceOfTale_42 rfl ?_
        refine j_bipush X (pc' := 45) (v := 8) (by decide) dX7_sequenceOfTale_43 rfl ?_
        refine j_isub X (pc' := 46) dX7_sequenceOfTale_45 rfl ?_
        refine j_bipush X (pc' := 48) (v := 7) (by decide) dX7_sequenceOfTale_46 rfl ?_
        refine j_iload X (pc' := 50) (i := 5) 5 rfl dX7_sequenceOfTale_48 rfl ?_
        refine j_isub X (pc' := 51) dX7_sequenceOfTale_50 rfl ?_
        refine j_ishr X (pc' := 52) dX7_sequenceOfTale_51 rfl ?_
        refine j_iconst X (pc' := 53) (v := 1) (by decide) dX7_sequenceOfTale_52 rfl ?_
        refine j_iand X (pc' := 54) dX7_sequenceOfTale_53 rfl ?_
        have h6 := hw7.1
        have hw8 := hw7.2
        refine jm_iast X (pc' := 55) hMO 17 (by decide) h6 dX7_sequenceOfTale_54 rfl (fun α7 e8 => ?_)
        have hw9 := hw8 α7 e8
        refine j_iinc X (pc' := 58) (i := 5) (v := v5 + 1) (loc' := [(5, .int (v5 + 1)), (0, .ref mm), (1, .int v1), (2, .int v2), (3, .int v3), (4, .int v4)]) 5 rfl rfl dX7_sequenceOfTale_55 rfl (by decide) rfl ?_
        refine j_goto X (tgt := 3) dX7_sequenceOfTale_58 (by decide) ?_
        refine j_loc [1, 2, 3, 4, 5, 0] rfl ?_
        exact ih _ _ _ _ _ _ _ hw9
def wp_X7_sequenceOfTale (x1 : Int32) (x2 : Int32) (x3 : Int32) (x4 : Int32) (σ : Nat → Int32) (α : Nat → Nat → Int32) (post : Int32 → (Nat → Int32) → (Nat → Nat → Int32) → Prop) : Prop := ∃ n, wb_X7_sequenceOfTale_3 post n x1 x2 x3 x4 (0 : Int32) σ α
set_option maxHeartbeats 4000000 in
set_option maxRecDepth 100000 in
theorem c_X7_sequenceOfTale (l : Launch) (G : gG) (A : Nat → Prop) {mm : Nat} {rf : Nat → Nat} (hMO : MOk mm rf) (μ0 : Mm) (x1 : Int32) (x2 : Int32) (x3 : Int32) (x4 : Int32) (σ : Nat → Int32) (α : Nat → Nat → Int32) (post : Int32 → (Nat → Int32) → (Nat → Nat → Int32) → Prop) (h : wp_X7_sequenceOfTale x1 x2 x3 x4 σ α post) : Met l yX7_sequenceOfTale (.code yX7_sequenceOfTale cX7_sequenceOfTale 6 (some .boolean) :: wsA) (rmL (1) 0 0) (PcG G A (mset μ0 mm rf σ α) [.ref mm, .int x1, .int x2, .int x3, .int x4]) (QG G A (pI (pMi μ0 mm rf post))) 0 0 A := by
  refine met_J (loc := [(0, .ref mm), (1, .int x1), (2, .int x2), (3, .int x3), (4, .int x4)]) (by decide +kernel) (Nat.le_of_ble_eq_true rfl) rfl ?_
  intro p e s m args below meth c X hin
  have X : Cx p l s m args meth c cX7_sequenceOfTale 6 (some .boolean) RX7 G A := X
  have hw := h
  unfold wp_X7_sequenceOfTale at hw
  refine j_iconst X (pc' := 1) (v := 0) (by decide) dX7_sequenceOfTale_0 rfl ?_
  refine j_istore X (pc' := 3) (i := 5) (loc' := [(5, .int ((0 : Int32))), (0, .ref mm), (1, .int x1), (2, .int x2), (3, .int x3), (4, .int x4)]) dX7_sequenceOfTale_1 rfl (by decide) rfl ?_
  obtain ⟨n0, hw1⟩ := hw
  refine j_loc [1, 2, 3, 4, 5, 0] rfl ?_
  exact tb_X7_sequenceOfTale_3 X hMO n0 _ _ _ _ _ _ _ hw1
/-! BitNotationModel.goOverTale(Z)Z -/
theorem dX7_goOverTale_0 : decode cX7_goOverTale 0 = .ok (.aload_n 0, 1) := by decide +kernel
theorem dX7_goOverTale_1 : decode cX7_goOverTale 1 = .ok (.getfield 142, 3) := by decide +kernel
theorem dX7_goOverTale_4 : decode cX7_goOverTale 4 = .ok (.iconst 1, 1) := by decide +kernel
theorem dX7_goOverTale_5 : decode cX7_goOverTale 5 = .ok (.isub, 1) := by decide +kernel
theorem dX7_goOverTale_6 : decode cX7_goOverTale 6 = .ok (.istore_n 2, 1) := by decide +kernel
theorem dX7_goOverTale_7 : decode cX7_goOverTale 7 = .ok (.aload_n 0, 1) := by decide +kernel
theorem dX7_goOverTale_8 : decode cX7_goOverTale 8 = .ok (.getfield 52, 3) := by decide +kernel
theorem dX7_goOverTale_11 : decode cX7_goOverTale 11 = .ok (.iload_n 2, 1) := by decide +kernel
theorem dX7_goOverTale_12 : decode cX7_goOverTale 12 = .ok (.iaload, 1) := by decide +kernel
theorem dX7_goOverTale_13 : decode cX7_goOverTale 13 = .ok (.istore_n 3, 1) := by decide +kernel
theorem dX7_goOverTale_14 : decode cX7_goOverTale 14 = .ok (.aload_n 0, 1) := by decide +kernel
theorem dX7_goOverTale_15 : decode cX7_goOverTale 15 = .ok (.getfield 55, 3) := by decide +kernel
theorem dX7_goOverTale_18 : decode cX7_goOverTale 18 = .ok (.iload_n 2, 1) := by decide +kernel
theorem dX7_goOverTale_19 : decode cX7_goOverTale 19 = .ok (.iaload, 1) := by decide +kernel
theorem dX7_goOverTale_20 : decode cX7_goOverTale 20 = .ok (.istore 4, 2) := by decide +kernel
theorem dX7_goOverTale_22 : decode cX7_goOverTale 22 = .ok (.aload_n 0, 1) := by decide +kernel
theorem dX7_goOverTale_23 : decode cX7_goOverTale 23 = .ok (.getfield 55, 3) := by decide +kernel
theorem dX7_goOverTale_26 : decode cX7_goOverTale 26 = .ok (.iload_n 2, 1) := by decide +kernel
theorem dX7_goOverTale_27 : decode cX7_goOverTale 27 = .ok (.dup2, 1) := by decide +kernel
theorem dX7_goOverTale_28 : decode cX7_goOverTale 28 = .ok (.iaload, 1) := by decide +kernel
theorem dX7_goOverTale_29 : decode cX7_goOverTale 29 = .ok (.iconst 1, 1) := by decide +kernel
theorem dX7_goOverTale_30 : decode cX7_goOverTale 30 = .ok (.iadd, 1) := by decide +kernel
theorem dX7_goOverTale_31 : decode cX7_goOverTale 31 = .ok (.iastore, 1) := by decide +kernel
theorem dX7_goOverTale_32 : decode cX7_goOverTale 32 = .ok (.aload_n 0, 1) := by decide +kernel
theorem dX7_goOverTale_33 : decode cX7_goOverTale 33 = .ok (.getfield 7, 3) := by decide +kernel
theorem dX7_goOverTale_36 : decode cX7_goOverTale 36 = .ok (.iload_n 3, 1) := by decide +kernel
theorem dX7_goOverTale_37 : decode cX7_goOverTale 37 = .ok (.iaload, 1) := by decide +kernel
theorem dX7_goOverTale_38 : decode cX7_goOverTale 38 = .ok (.iconst 2, 1) := by decide +kernel
theorem dX7_goOverTale_39 : decode cX7_goOverTale 39 = .ok (.if_icmp .ne 30, 3) := by decide +kernel
theorem dX7_goOverTale_42 : decode cX7_goOverTale 42 = .ok (.iload 4, 2) := by decide +kernel
theorem dX7_goOverTale_44 : decode cX7_goOverTale 44 = .ok (.ifCond .ne 13, 3) := by decide +kernel
theorem dX7_goOverTale_47 : decode cX7_goOverTale 47 = .ok (.aload_n 0, 1) := by decide +kernel
theorem dX7_goOverTale_48 : decode cX7_goOverTale 48 = .ok (.iload_n 3, 1) := by decide +kernel
theorem dX7_goOverTale_49 : decode cX7_goOverTale 49 = .ok (.iload_n 2, 1) := by decide +kernel
theorem dX7_goOverTale_50 : decode cX7_goOverTale 50 = .ok (.iload_n 1, 1) := by decide +kernel
theorem dX7_goOverTale_51 : decode cX7_goOverTale 51 = .ok (.invokevirtual 154, 3) := by decide +kernel
theorem dX7_goOverTale_54 : decode cX7_goOverTale 54 = .ok (.goto 14, 3) := by decide +kernel
theorem dX7_goOverTale_57 : decode cX7_goOverTale 57 = .ok (.aload_n 0, 1) := by decide +kernel
theorem dX7_goOverTale_58 : decode cX7_goOverTale 58 = .ok (.iload_n 3, 1) := by decide +kernel
theorem dX7_goOverTale_59 : decode cX7_goOverTale 59 = .ok (.iload_n 2, 1) := by decide +kernel
theorem dX7_goOverTale_60 : decode cX7_goOverTale 60 = .ok (.iload 4, 2) := by decide +kernel
theorem dX7_goOverTale_62 : decode cX7_goOverTale 62 = .ok (.iconst 1, 1) := by decide +kernel
theorem dX7_goOverTale_63 : decode cX7_goOverTale 63 = .ok (.isub, 1) := by decide +kernel
theorem dX7_goOverTale_64 : decode cX7_goOverTale 64 = .ok (.iload_n 1, 1) := by decide +kernel
theorem dX7_goOverTale_65 : decode cX7_goOverTale 65 = .ok (.invokevirtual 158, 3) := by decide +kernel
theorem dX7_goOverTale_68 : decode cX7_goOverTale 68 = .ok (.ireturn, 1) := by decide +kernel
theorem dX7_goOverTale_69 : decode cX7_goOverTale 69 = .ok (.iload 4, 2) := by decide +kernel
theorem dX7_goOverTale_71 : decode cX7_goOverTale 71 = .ok (.ifCond .ne 117, 3) := by decide +kernel
theorem dX7_goOverTale_74 : decode cX7_goOverTale 74 = .ok (.aload_n 0, 1) := by decide +kernel
theorem dX7_goOverTale_75 : decode cX7_goOverTale 75 = .ok (.getfield 7, 3) := by decide +kernel
theorem dX7_goOverTale_78 : decode cX7_goOverTale 78 = .ok (.iload_n 3, 1) := by decide +kernel
theorem dX7_goOverTale_79 : decode cX7_goOverTale 79 = .ok (.iaload, 1) := by decide +kernel
theorem dX7_goOverTale_80 : decode cX7_goOverTale 80 = .ok (.iconst 3, 1) := by decide +kernel
theorem dX7_goOverTale_81 : decode cX7_goOverTale 81 = .ok (.if_icmp .ne 7, 3) := by decide +kernel
theorem dX7_goOverTale_84 : decode cX7_goOverTale 84 = .ok (.iconst 1, 1) := by decide +kernel
theorem dX7_goOverTale_85 : decode cX7_goOverTale 85 = .ok (.goto 4, 3) := by decide +kernel
theorem dX7_goOverTale_88 : decode cX7_goOverTale 88 = .ok (.iconst 0, 1) := by decide +kernel
theorem dX7_goOverTale_89 : decode cX7_goOverTale 89 = .ok (.istore 5, 2) := by decide +kernel
theorem dX7_goOverTale_91 : decode cX7_goOverTale 91 = .ok (.iload 5, 2) := by decide +kernel
theorem dX7_goOverTale_93 : decode cX7_goOverTale 93 = .ok (.ifCond .eq 7, 3) := by decide +kernel
theorem dX7_goOverTale_96 : decode cX7_goOverTale 96 = .ok (.iconst 0, 1) := by decide +kernel
theorem dX7_goOverTale_97 : decode cX7_goOverTale 97 = .ok (.goto 9, 3) := by decide +kernel
theorem dX7_goOverTale_100 : decode cX7_goOverTale 100 = .ok (.aload_n 0, 1) := by decide +kernel
theorem dX7_goOverTale_101 : decode cX7_goOverTale 101 = .ok (.getfield 13, 3) := by decide +kernel
theorem dX7_goOverTale_104 : decode cX7_goOverTale 104 = .ok (.iload_n 3, 1) := by decide +kernel
theorem dX7_goOverTale_105 : decode cX7_goOverTale 105 = .ok (.iaload, 1) := by decide +kernel
theorem dX7_goOverTale_106 : decode cX7_goOverTale 106 = .ok (.istore 6, 2) := by decide +kernel
theorem dX7_goOverTale_108 : decode cX7_goOverTale 108 = .ok (.aload_n 0, 1) := by decide +kernel
theorem dX7_goOverTale_109 : decode cX7_goOverTale 109 = .ok (.iload 6, 2) := by decide +kernel
theorem dX7_goOverTale_111 : decode cX7_goOverTale 111 = .ok (.iload 5, 2) := by decide +kernel
theorem dX7_goOverTale_113 : decode cX7_goOverTale 113 = .ok (.ifCond .eq 14, 3) := by decide +kernel
theorem dX7_goOverTale_116 : decode cX7_goOverTale 116 = .ok (.aload_n 0, 1) := by decide +kernel
theorem dX7_goOverTale_117 : decode cX7_goOverTale 117 = .ok (.getfield 22, 3) := by decide +kernel
theorem dX7_goOverTale_120 : decode cX7_goOverTale 120 = .ok (.iload_n 3, 1) := by decide +kernel
theorem dX7_goOverTale_121 : decode cX7_goOverTale 121 = .ok (.iaload, 1) := by decide +kernel
theorem dX7_goOverTale_122 : decode cX7_goOverTale 122 = .ok (.iconst 1, 1) := by decide +kernel
theorem dX7_goOverTale_123 : decode cX7_goOverTale 123 = .ok (.isub, 1) := by decide +kernel
theorem dX7_goOverTale_124 : decode cX7_goOverTale 124 = .ok (.goto 9, 3) := by decide +kernel
theorem dX7_goOverTale_127 : decode cX7_goOverTale 127 = .ok (.aload_n 0, 1) := by decide +kernel
theorem dX7_goOverTale_128 : decode cX7_goOverTale 128 = .ok (.getfield 16, 3) := by decide +kernel
theorem dX7_goOverTale_131 : decode cX7_goOverTale 131 = .ok (.iload_n 3, 1) := by decide +kernel
theorem dX7_goOverTale_132 : decode cX7_goOverTale 132 = .ok (.iaload, 1) := by decide +kernel
theorem dX7_goOverTale_133 : decode cX7_goOverTale 133 = .ok (.invokevirtual 162, 3) := by decide +kernel
theorem dX7_goOverTale_136 : decode cX7_goOverTale 136 = .ok (.ifCond .eq 5, 3) := by decide +kernel
theorem dX7_goOverTale_139 : decode cX7_goOverTale 139 = .ok (.iconst 0, 1) := by decide +kernel
theorem dX7_goOverTale_140 : decode cX7_goOverTale 140 = .ok (.ireturn, 1) := by decide +kernel
theorem dX7_goOverTale_141 : decode cX7_goOverTale 141 = .ok (.aload_n 0, 1) := by decide +kernel
theorem dX7_goOverTale_142 : decode cX7_goOverTale 142 = .ok (.getfield 58, 3) := by decide +kernel
theorem dX7_goOverTale_145 : decode cX7_goOverTale 145 = .ok (.iload_n 2, 1) := by decide +kernel
theorem dX7_goOverTale_146 : decode cX7_goOverTale 146 = .ok (.aload_n 0, 1) := by decide +kernel
theorem dX7_goOverTale_147 : decode cX7_goOverTale 147 = .ok (.getfield 43, 3) := by decide +kernel
theorem dX7_goOverTale_150 : decode cX7_goOverTale 150 = .ok (.aload_n 0, 1) := by decide +kernel
theorem dX7_goOverTale_151 : decode cX7_goOverTale 151 = .ok (.getfield 148, 3) := by decide +kernel
theorem dX7_goOverTale_154 : decode cX7_goOverTale 154 = .ok (.iaload, 1) := by decide +kernel
theorem dX7_goOverTale_155 : decode cX7_goOverTale 155 = .ok (.iastore, 1) := by decide +kernel
theorem dX7_goOverTale_156 : decode cX7_goOverTale 156 = .ok (.aload_n 0, 1) := by decide +kernel
theorem dX7_goOverTale_157 : decode cX7_goOverTale 157 = .ok (.aload_n 0, 1) := by decide +kernel
theorem dX7_goOverTale_158 : decode cX7_goOverTale 158 = .ok (.getfield 43, 3) := by decide +kernel
theorem dX7_goOverTale_161 : decode cX7_goOverTale 161 = .ok (.aload_n 0, 1) := by decide +kernel
theorem dX7_goOverTale_162 : decode cX7_goOverTale 162 = .ok (.getfield 148, 3) := by decide +kernel
theorem dX7_goOverTale_165 : decode cX7_goOverTale 165 = .ok (.iaload, 1) := by decide +kernel
theorem dX7_goOverTale_166 : decode cX7_goOverTale 166 = .ok (.iload 6, 2) := by decide +kernel
theorem dX7_goOverTale_168 : decode cX7_goOverTale 168 = .ok (.isub, 1) := by decide +kernel
theorem dX7_goOverTale_169 : decode cX7_goOverTale 169 = .ok (.aload_n 0, 1) := by decide +kernel
theorem dX7_goOverTale_170 : decode cX7_goOverTale 170 = .ok (.iload_n 3, 1) := by decide +kernel
theorem dX7_goOverTale_171 : decode cX7_goOverTale 171 = .ok (.invokevirtual 99, 3) := by decide +kernel
theorem dX7_goOverTale_174 : decode cX7_goOverTale 174 = .ok (.iload_n 1, 1) := by decide +kernel
theorem dX7_goOverTale_175 : decode cX7_goOverTale 175 = .ok (.invokevirtual 165, 3) := by decide +kernel
theorem dX7_goOverTale_178 : decode cX7_goOverTale 178 = .ok (.aload_n 0, 1) := by decide +kernel
theorem dX7_goOverTale_179 : decode cX7_goOverTale 179 = .ok (.dup, 1) := by decide +kernel
theorem dX7_goOverTale_180 : decode cX7_goOverTale 180 = .ok (.getfield 148, 3) := by decide +kernel
theorem dX7_goOverTale_183 : decode cX7_goOverTale 183 = .ok (.iconst 1, 1) := by decide +kernel
theorem dX7_goOverTale_184 : decode cX7_goOverTale 184 = .ok (.iadd, 1) := by decide +kernel
theorem dX7_goOverTale_185 : decode cX7_goOverTale 185 = .ok (.putfield 148, 3) := by decide +kernel
theorem dX7_goOverTale_188 : decode cX7_goOverTale 188 = .ok (.aload_n 0, 1) := by decide +kernel
theorem dX7_goOverTale_189 : decode cX7_goOverTale 189 = .ok (.getfield 7, 3) := by decide +kernel
theorem dX7_goOverTale_192 : decode cX7_goOverTale 192 = .ok (.iload_n 3, 1) := by decide +kernel
theorem dX7_goOverTale_193 : decode cX7_goOverTale 193 = .ok (.iaload, 1) := by decide +kernel
theorem dX7_goOverTale_194 : decode cX7_goOverTale 194 = .ok (.iconst 1, 1) := by decide +kernel
theorem dX7_goOverTale_195 : decode cX7_goOverTale 195 = .ok (.if_icmp .ne 27, 3) := by decide +kernel
theorem dX7_goOverTale_198 : decode cX7_goOverTale 198 = .ok (.iload 4, 2) := by decide +kernel
theorem dX7_goOverTale_200 : decode cX7_goOverTale 200 = .ok (.aload_n 0, 1) := by decide +kernel
theorem dX7_goOverTale_201 : decode cX7_goOverTale 201 = .ok (.getfield 58, 3) := by decide +kernel
theorem dX7_goOverTale_204 : decode cX7_goOverTale 204 = .ok (.iload_n 2, 1) := by decide +kernel
theorem dX7_goOverTale_205 : decode cX7_goOverTale 205 = .ok (.iaload, 1) := by decide +kernel
theorem dX7_goOverTale_206 : decode cX7_goOverTale 206 = .ok (.if_icmp .ge 16, 3) := by decide +kernel
theorem dX7_goOverTale_209 : decode cX7_goOverTale 209 = .ok (.aload_n 0, 1) := by decide +kernel
theorem dX7_goOverTale_210 : decode cX7_goOverTale 210 = .ok (.aload_n 0, 1) := by decide +kernel
theorem dX7_goOverTale_211 : decode cX7_goOverTale 211 = .ok (.iload_n 3, 1) := by decide +kernel
theorem dX7_goOverTale_212 : decode cX7_goOverTale 212 = .ok (.iconst 0, 1) := by decide +kernel
theorem dX7_goOverTale_213 : decode cX7_goOverTale 213 = .ok (.invokevirtual 95, 3) := by decide +kernel
theorem dX7_goOverTale_216 : decode cX7_goOverTale 216 = .ok (.invokevirtual 169, 3) := by decide +kernel
theorem dX7_goOverTale_219 : decode cX7_goOverTale 219 = .ok (.goto 46, 3) := by decide +kernel
theorem dX7_goOverTale_222 : decode cX7_goOverTale 222 = .ok (.aload_n 0, 1) := by decide +kernel
theorem dX7_goOverTale_223 : decode cX7_goOverTale 223 = .ok (.getfield 7, 3) := by decide +kernel
theorem dX7_goOverTale_226 : decode cX7_goOverTale 226 = .ok (.iload_n 3, 1) := by decide +kernel
theorem dX7_goOverTale_227 : decode cX7_goOverTale 227 = .ok (.iaload, 1) := by decide +kernel
theorem dX7_goOverTale_228 : decode cX7_goOverTale 228 = .ok (.iconst 3, 1) := by decide +kernel
theorem dX7_goOverTale_229 : decode cX7_goOverTale 229 = .ok (.if_icmp .ne 26, 3) := by decide +kernel
theorem dX7_goOverTale_232 : decode cX7_goOverTale 232 = .ok (.iload 4, 2) := by decide +kernel
theorem dX7_goOverTale_234 : decode cX7_goOverTale 234 = .ok (.ifCond .ne 21, 3) := by decide +kernel
theorem dX7_goOverTale_237 : decode cX7_goOverTale 237 = .ok (.aload_n 0, 1) := by decide +kernel
theorem dX7_goOverTale_238 : decode cX7_goOverTale 238 = .ok (.aload_n 0, 1) := by decide +kernel
theorem dX7_goOverTale_239 : decode cX7_goOverTale 239 = .ok (.iload_n 3, 1) := by decide +kernel
theorem dX7_goOverTale_240 : decode cX7_goOverTale 240 = .ok (.aload_n 0, 1) := by decide +kernel
theorem dX7_goOverTale_241 : decode cX7_goOverTale 241 = .ok (.getfield 58, 3) := by decide +kernel
theorem dX7_goOverTale_244 : decode cX7_goOverTale 244 = .ok (.iload_n 2, 1) := by decide +kernel
theorem dX7_goOverTale_245 : decode cX7_goOverTale 245 = .ok (.iaload, 1) := by decide +kernel
theorem dX7_goOverTale_246 : decode cX7_goOverTale 246 = .ok (.invokevirtual 95, 3) := by decide +kernel
theorem dX7_goOverTale_249 : decode cX7_goOverTale 249 = .ok (.invokevirtual 169, 3) := by decide +kernel
theorem dX7_goOverTale_252 : decode cX7_goOverTale 252 = .ok (.goto 13, 3) := by decide +kernel
theorem dX7_goOverTale_255 : decode cX7_goOverTale 255 = .ok (.aload_n 0, 1) := by decide +kernel
theorem dX7_goOverTale_256 : decode cX7_goOverTale 256 = .ok (.dup, 1) := by decide +kernel
theorem dX7_goOverTale_257 : decode cX7_goOverTale 257 = .ok (.getfield 142, 3) := by decide +kernel
theorem dX7_goOverTale_260 : decode cX7_goOverTale 260 = .ok (.iconst 1, 1) := by decide +kernel
theorem dX7_goOverTale_261 : decode cX7_goOverTale 261 = .ok (.isub, 1) := by decide +kernel
theorem dX7_goOverTale_262 : decode cX7_goOverTale 262 = .ok (.putfield 142, 3) := by decide +kernel
theorem dX7_goOverTale_265 : decode cX7_goOverTale 265 = .ok (.iconst 1, 1) := by decide +kernel
theorem dX7_goOverTale_266 : decode cX7_goOverTale 266 = .ok (.ireturn, 1) := by decide +kernel
def wb_X7_goOverTale_255 (post : Int32 → (Nat → Int32) → (Nat → Nat → Int32) → Prop)   (σ : Nat → Int32) (α : Nat → Nat → Int32) : Prop := ∀ σ56, σ56 = upd σ 20 ((σ 20) - (1 : Int32)) → post (1 : Int32) σ56 α
set_option maxHeartbeats 4000000 in
set_option maxRecDepth 100000 in
theorem tb_X7_goOverTale_255 {p : Program} {l : Launch} {e : Env} {s : State} {m : MethodId} {args : Array Value} {below : List Frame} {meth : Method} {c : Code} {G : gG} {A : Nat → Prop} {μ0 : Mm} {mm : Nat} {rf : Nat → Nat} {post : Int32 → (Nat → Int32) → (Nat → Nat → Int32) → Prop} (X : Cx p l s m args meth c cX7_goOverTale 7 (some .boolean) RX7 G A) (hMO : MOk mm rf) : ∀ (σ : Nat → Int32) (α : Nat → Nat → Int32), wb_X7_goOverTale_255 post σ α → J p l e (rmL (3) 0 0) s m args below meth c 7 G A (MQ below (QG G A (pI (pMi μ0 mm rf post))) args s 0 0 A) 0 0 255 [(0, .ref mm)] [] (mset μ0 mm rf σ α) := by
  intro σ α hw
  unfold wb_X7_goOverTale_255 at hw
  refine j_aload_n X (pc' := 256) (kk := 0) (i := 0) 0 rfl rfl dX7_goOverTale_255 rfl ?_
  refine j_dup X (pc' := 257) rfl dX7_goOverTale_256 rfl ?_
  refine j_getf X (pc' := 260) mset_o 20 rfl rfl fw_TX7 (by decide) wt_3_185 dX7_goOverTale_257 rfl ?_
  refine j_iconst X (pc' := 261) (v := 1) (by decide) dX7_goOverTale_260 rfl ?_
  refine j_isub X (pc' := 262) dX7_goOverTale_261 rfl ?_
  refine jm_putf X (pc' := 265) 20 (mF_set_20 _ _ _) (by decide) rfl wt_3_185 (by decide +kernel) dX7_goOverTale_262 rfl (fun σ56 e57 => ?_)
  have hw1 := hw σ56 e57
  refine j_iconst X (pc' := 266) (v := 1) (by decide) dX7_goOverTale_265 rfl ?_
  exact j_zret X (Or.inr rfl) ⟨_, rfl, _, _, rfl, hw1⟩ (Nat.le_of_ble_eq_true rfl) (Nat.le_of_ble_eq_true rfl) dX7_goOverTale_266
def wb_X7_goOverTale_222 (post : Int32 → (Nat → Int32) → (Nat → Nat → Int32) → Prop)  (v2 : Int32) (v3 : Int32) (v4 : Int32) (σ : Nat → Int32) (α : Nat → Nat → Int32) : Prop := vp_in v3 16 ∧ (¬ (α 2 v3.toNatClampNeg) = (3 : Int32) → (wb_X7_goOverTale_255 post σ α)) ∧ ((α 2 v3.toNatClampNeg) = (3 : Int32) → ((¬ v4 = 0 → (wb_X7_goOverTale_255 post σ α)) ∧ (v4 = 0 → (vp_in v2 20 ∧ wp_X7_partOf v3 (α 23 v2.toNatClampNeg) σ α (fun r43 σ44 α45 => wp_X7_push r43 σ44 α45 (fun σ47 α48 => post (1 : Int32) σ47 α48))))))
set_option maxHeartbeats 4000000 in
set_option maxRecDepth 100000 in
theorem tb_X7_goOverTale_222 {p : Program} {l : Launch} {e : Env} {s : State} {m : MethodId} {args : Array Value} {below : List Frame} {meth : Method} {c : Code} {G : gG} {A : Nat → Prop} {μ0 : Mm} {mm : Nat} {rf : Nat → Nat} {post : Int32 → (Nat → Int32) → (Nat → Nat → Int32) → Prop} (X : Cx p l s m args meth c cX7_goOverTale 7 (some .boolean) RX7 G A) (hMO : MOk mm rf) : ∀ (v2 : Int32) (v3 : Int32) (v4 : Int32) (σ : Nat → Int32) (α : Nat → Nat → Int32), wb_X7_goOverTale_222 post v2 v3 v4 σ α → J p l e (rmL (3) 0 0) s m args below meth c 7 G A (MQ below (QG G A (pI (pMi μ0 mm rf post))) args s 0 0 A) 0 0 222 [(0, .ref mm), (2, .int v2), (3, .int v3), (4, .int v4)] [] (mset μ0 mm rf σ α) := by
  intro v2 v3 v4 σ α hw
  unfold wb_X7_goOverTale_222 at hw
  refine j_aload_n X (pc' := 223) (kk := 0) (i := 0) 0 rfl rfl dX7_goOverTale_222 rfl ?_
  refine j_getf X (pc' := 226) mset_o 2 rfl rfl fw_TX7 (by decide) wt_3_167 dX7_goOverTale_223 rfl ?_
  refine j_iload_n X (pc' := 227) (kk := 3) (i := 3) 2 rfl rfl dX7_goOverTale_226 rfl ?_
  have h39 := hw.1
  have hw1 := hw.2
  refine j_iald X (pc' := 228) (mset_a hMO 2 (by decide)) h39 dX7_goOverTale_227 rfl ?_
  refine j_iconst X (pc' := 229) (v := 3) (by decide) dX7_goOverTale_228 rfl ?_
  refine j_icmp_ne X (pc' := 232) (tgt := 255) dX7_goOverTale_229 rfl (by decide) (fun c40 => ?_) (fun c40 => ?_)
  · have hw2 := hw1.1 c40
    refine j_loc [0] rfl ?_
    exact tb_X7_goOverTale_255 X hMO  _ _ hw2
  · have hw3 := hw1.2 c40
    refine j_iload X (pc' := 234) (i := 4) 3 rfl dX7_goOverTale_232 rfl ?_
    refine j_if_ne X (pc' := 237) (tgt := 255) dX7_goOverTale_234 rfl (by decide) (fun c41 => ?_) (fun c41 => ?_)
    · have hw4 := hw3.1 c41
      refine j_loc [0] rfl ?_
      exact tb_X7_goOverTale_255 X hMO  _ _ hw4
    · have hw5 := hw3.2 c41
      refine j_aload_n X (pc' := 238) (kk := 0) (i := 0) 0 rfl rfl dX7_goOverTale_237 rfl ?_
      refine j_aload_n X (pc' := 239) (kk := 0) (i := 0) 0 rfl rfl dX7_goOverTale_238 rfl ?_
      refine j_iload_n X (pc' := 240) (kk := 3) (i := 3) 2 rfl rfl dX7_goOverTale_239 rfl ?_
      refine j_aload_n X (pc' := 241) (kk := 0) (i := 0) 0 rfl rfl dX7_goOverTale_240 rfl ?_
      refine j_getf X (pc' := 244) mset_o 23 rfl rfl fw_TX7 (by decide) wt_3_188 dX7_goOverTale_241 rfl ?_
      refine j_iload_n X (pc' := 245) (kk := 2) (i := 2) 1 rfl rfl dX7_goOverTale_244 rfl ?_
      have h42 := hw5.1
      have hw6 := hw5.2
      refine j_iald X (pc' := 246) (mset_a hMO 23 (by decide)) h42 dX7_goOverTale_245 rfl ?_
      refine j_callVi (As := [.int v3, .int (α 23 v2.toNatClampNeg)]) (rest := [.ref mm]) X (pc' := 249) (cells' := 0) (slots' := 0) (c_X7_partOf l G A hMO μ0 v3 (α 23 v2.toNatClampNeg) σ α _ hw6) (gk_X7_partOf wt_4_51) hd_X7_partOf (rmL_fit (k1 := 0) (k := 3) (by omega) (by decide)) mset_o rfl rfl rfl (Nat.le_of_ble_eq_true rfl) dX7_goOverTale_246 rfl ⟨Nat.le_of_ble_eq_true rfl, Nat.le_of_ble_eq_true rfl⟩ rfl rfl (fun r43 μ52 hw7 => ?_)
      obtain ⟨σ44, α45, rfl, hw8⟩ := hw7
      refine j_callVv (As := [.int r43]) (rest := []) X (pc' := 252) (cells' := 0) (slots' := 0) (c_X7_push l G A hMO μ0 r43 σ44 α45 _ hw8) (gk_X7_push wt_4_142) hd_X7_push (rmL_fit (k1 := 0) (k := 3) (by omega) (by decide)) mset_o rfl rfl rfl (Nat.le_of_ble_eq_true rfl) dX7_goOverTale_249 rfl ⟨Nat.le_of_ble_eq_true rfl, Nat.le_of_ble_eq_true rfl⟩ rfl rfl (fun μ50 hw9 => ?_)
      obtain ⟨σ47, α48, rfl, hw10⟩ := hw9
      refine j_goto X (tgt := 265) dX7_goOverTale_252 (by decide) ?_
      refine j_iconst X (pc' := 266) (v := 1) (by decide) dX7_goOverTale_265 rfl ?_
      exact j_zret X (Or.inr rfl) ⟨_, rfl, _, _, rfl, hw10⟩ (Nat.le_of_ble_eq_true rfl) (Nat.le_of_ble_eq_true rfl) dX7_goOverTale_266
def wb_X7_goOverTale_188 (post : Int32 → (Nat → Int32) → (Nat → Nat → Int32) → Prop)  (v2 : Int32) (v3 : Int32) (v4 : Int32) (σ : Nat → Int32) (α : Nat → Nat → Int32) : Prop := vp_in v3 16 ∧ (¬ (α 2 v3.toNatClampNeg) = (1 : Int32) → (wb_X7_goOverTale_222 post v2 v3 v4 σ α)) ∧ ((α 2 v3.toNatClampNeg) = (1 : Int32) → (vp_in v2 20 ∧ ((α 23 v2.toNatClampNeg) ≤ v4 → (wb_X7_goOverTale_222 post v2 v3 v4 σ α)) ∧ (¬ (α 23 v2.toNatClampNeg) ≤ v4 → (wp_X7_partOf v3 (0 : Int32) σ α (fun r27 σ28 α29 => wp_X7_push r27 σ28 α29 (fun σ31 α32 => post (1 : Int32) σ31 α32))))))
set_option maxHeartbeats 4000000 in
set_option maxRecDepth 100000 in
theorem tb_X7_goOverTale_188 {p : Program} {l : Launch} {e : Env} {s : State} {m : MethodId} {args : Array Value} {below : List Frame} {meth : Method} {c : Code} {G : gG} {A : Nat → Prop} {μ0 : Mm} {mm : Nat} {rf : Nat → Nat} {post : Int32 → (Nat → Int32) → (Nat → Nat → Int32) → Prop} (X : Cx p l s m args meth c cX7_goOverTale 7 (some .boolean) RX7 G A) (hMO : MOk mm rf) : ∀ (v2 : Int32) (v3 : Int32) (v4 : Int32) (σ : Nat → Int32) (α : Nat → Nat → Int32), wb_X7_goOverTale_188 post v2 v3 v4 σ α → J p l e (rmL (3) 0 0) s m args below meth c 7 G A (MQ below (QG G A (pI (pMi μ0 mm rf post))) args s 0 0 A) 0 0 188 [(0, .ref mm), (2, .int v2), (3, .int v3), (4, .int v4)] [] (mset μ0 mm rf σ α) := by
  intro v2 v3 v4 σ α hw
  unfold wb_X7_goOverTale_188 at hw
  refine j_aload_n X (pc' := 189) (kk := 0) (i := 0) 0 rfl rfl dX7_goOverTale_188 rfl ?_
  refine j_getf X (pc' := 192) mset_o 2 rfl rfl fw_TX7 (by decide) wt_3_167 dX7_goOverTale_189 rfl ?_
  refine j_iload_n X (pc' := 193) (kk := 3) (i := 3) 2 rfl rfl dX7_goOverTale_192 rfl ?_
  have h23 := hw.1
  have hw1 := hw.2
  refine j_iald X (pc' := 194) (mset_a hMO 2 (by decide)) h23 dX7_goOverTale_193 rfl ?_
  refine j_iconst X (pc' := 195) (v := 1) (by decide) dX7_goOverTale_194 rfl ?_
  refine j_icmp_ne X (pc' := 198) (tgt := 222) dX7_goOverTale_195 rfl (by decide) (fun c24 => ?_) (fun c24 => ?_)
  · have hw2 := hw1.1 c24
    exact tb_X7_goOverTale_222 X hMO _ _ _ _ _ hw2
  · have hw3 := hw1.2 c24
    refine j_iload X (pc' := 200) (i := 4) 3 rfl dX7_goOverTale_198 rfl ?_
    refine j_aload_n X (pc' := 201) (kk := 0) (i := 0) 0 rfl rfl dX7_goOverTale_200 rfl ?_
    refine j_getf X (pc' := 204) mset_o 23 rfl rfl fw_TX7 (by decide) wt_3_188 dX7_goOverTale_201 rfl ?_
    refine j_iload_n X (pc' := 205) (kk := 2) (i := 2) 1 rfl rfl dX7_goOverTale_204 rfl ?_
    have h25 := hw3.1
    have hw4 := hw3.2
    refine j_iald X (pc' := 206) (mset_a hMO 23 (by decide)) h25 dX7_goOverTale_205 rfl ?_
    refine j_icmp_ge X (pc' := 209) (tgt := 222) dX7_goOverTale_206 rfl (by decide) (fun c26 => ?_) (fun c26 => ?_)
    · have hw5 := hw4.1 c26
      exact tb_X7_goOverTale_222 X hMO _ _ _ _ _ hw5
    · have hw6 := hw4.2 c26
      refine j_aload_n X (pc' := 210) (kk := 0) (i := 0) 0 rfl rfl dX7_goOverTale_209 rfl ?_
      refine j_aload_n X (pc' := 211) (kk := 0) (i := 0) 0 rfl rfl dX7_goOverTale_210 rfl ?_
      refine j_iload_n X (pc' := 212) (kk := 3) (i := 3) 2 rfl rfl dX7_goOverTale_211 rfl ?_
      refine j_iconst X (pc' := 213) (v := 0) (by decide) dX7_goOverTale_212 rfl ?_
      refine j_callVi (As := [.int v3, .int (0 : Int32)]) (rest := [.ref mm]) X (pc' := 216) (cells' := 0) (slots' := 0) (c_X7_partOf l G A hMO μ0 v3 (0 : Int32) σ α _ hw6) (gk_X7_partOf wt_4_51) hd_X7_partOf (rmL_fit (k1 := 0) (k := 3) (by omega) (by decide)) mset_o rfl rfl rfl (Nat.le_of_ble_eq_true rfl) dX7_goOverTale_213 rfl ⟨Nat.le_of_ble_eq_true rfl, Nat.le_of_ble_eq_true rfl⟩ rfl rfl (fun r27 μ36 hw7 => ?_)
      obtain ⟨σ28, α29, rfl, hw8⟩ := hw7
      refine j_callVv (As := [.int r27]) (rest := []) X (pc' := 219) (cells' := 0) (slots' := 0) (c_X7_push l G A hMO μ0 r27 σ28 α29 _ hw8) (gk_X7_push wt_4_142) hd_X7_push (rmL_fit (k1 := 0) (k := 3) (by omega) (by decide)) mset_o rfl rfl rfl (Nat.le_of_ble_eq_true rfl) dX7_goOverTale_216 rfl ⟨Nat.le_of_ble_eq_true rfl, Nat.le_of_ble_eq_true rfl⟩ rfl rfl (fun μ34 hw9 => ?_)
      obtain ⟨σ31, α32, rfl, hw10⟩ := hw9
      refine j_goto X (tgt := 265) dX7_goOverTale_219 (by decide) ?_
      refine j_iconst X (pc' := 266) (v := 1) (by decide) dX7_goOverTale_265 rfl ?_
      exact j_zret X (Or.inr rfl) ⟨_, rfl, _, _, rfl, hw10⟩ (Nat.le_of_ble_eq_true rfl) (Nat.le_of_ble_eq_true rfl) dX7_goOverTale_266
def wb_X7_goOverTale_133 (post : Int32 → (Nat → Int32) → (Nat → Nat → Int32) → Prop)  (v1 : Int32) (v2 : Int32) (v3 : Int32) (v4 : Int32) (v6 : Int32) (s0 : Int32) (s1 : Int32) (σ : Nat → Int32) (α : Nat → Nat → Int32) : Prop := wp_X7_isWrong s1 s0 σ α (fun r58 σ59 α60 => (r58 = 0 → (vp_in (σ59 28) 300 ∧ vp_in v2 20 ∧ ∀ α64, α64 = upA α60 23 (upd (α60 23) v2.toNatClampNeg (α60 15 (σ59 28).toNatClampNeg)) → vp_in (σ59 28) 300 ∧ wp_X7_widthOf v3 σ59 α64 (fun r67 σ68 α69 => wp_X7_emit ((α64 15 (σ59 28).toNatClampNeg) - v6) r67 v1 σ68 α69 (fun σ71 α72 => ∀ σ73, σ73 = upd σ71 28 ((σ71 28) + (1 : Int32)) → wb_X7_goOverTale_188 post v2 v3 v4 σ73 α72)))) ∧ (¬ r58 = 0 → (post (0 : Int32) σ59 α60)))
set_option maxHeartbeats 4000000 in
set_option maxRecDepth 100000 in
theorem tb_X7_goOverTale_133 {p : Program} {l : Launch} {e : Env} {s : State} {m : MethodId} {args : Array Value} {below : List Frame} {meth : Method} {c : Code} {G : gG} {A : Nat → Prop} {μ0 : Mm} {mm : Nat} {rf : Nat → Nat} {post : Int32 → (Nat → Int32) → (Nat → Nat → Int32) → Prop} (X : Cx p l s m args meth c cX7_goOverTale 7 (some .boolean) RX7 G A) (hMO : MOk mm rf) : ∀ (v1 : Int32) (v2 : Int32) (v3 : Int32) (v4 : Int32) (v6 : Int32) (s0 : Int32) (s1 : Int32) (σ : Nat → Int32) (α : Nat → Nat → Int32), wb_X7_goOverTale_133 post v1 v2 v3 v4 v6 s0 s1 σ α → J p l e (rmL (3) 0 0) s m args below meth c 7 G A (MQ below (QG G A (pI (pMi μ0 mm rf post))) args s 0 0 A) 0 0 133 [(0, .ref mm), (1, .int v1), (2, .int v2), (3, .int v3), (4, .int v4), (6, .int v6)] [.int s0, .int s1, .ref mm] (mset μ0 mm rf σ α) := by
  intro v1 v2 v3 v4 v6 s0 s1 σ α hw
  unfold wb_X7_goOverTale_133 at hw
  refine j_callVi (As := [.int s1, .int s0]) (rest := []) X (pc' := 136) (cells' := 0) (slots' := 0) (c_X7_isWrong l G A hMO μ0 s1 s0 σ α _ hw) (gk_X7_isWrong wt_4_154) hd_X7_isWrong (rmL_fit (k1 := 1) (k := 3) (by omega) (by decide)) mset_o rfl rfl rfl (Nat.le_of_ble_eq_true rfl) dX7_goOverTale_133 rfl ⟨Nat.le_of_ble_eq_true rfl, Nat.le_of_ble_eq_true rfl⟩ rfl rfl (fun r58 μ80 hw1 => ?_)
  obtain ⟨σ59, α60, rfl, hw2⟩ := hw1
  refine j_if_eq X (pc' := 139) (tgt := 141) dX7_goOverTale_136 rfl (by decide) (fun c61 => ?_) (fun c61 => ?_)
  · have hw3 := hw2.1 c61
    refine j_aload_n X (pc' := 142) (kk := 0) (i := 0) 0 rfl rfl dX7_goOverTale_141 rfl ?_
    refine j_getf X (pc' := 145) mset_o 23 rfl rfl fw_TX7 (by decide) wt_3_188 dX7_goOverTale_142 rfl ?_
    refine j_iload_n X (pc' := 146) (kk := 2) (i := 2) 2 rfl rfl dX7_goOverTale_145 rfl ?_
    refine j_aload_n X (pc' := 147) (kk := 0) (i := 0) 0 rfl rfl dX7_goOverTale_146 rfl ?_
    refine j_getf X (pc' := 150) mset_o 15 rfl rfl fw_TX7 (by decide) wt_3_180 dX7_goOverTale_147 rfl ?_
    refine j_aload_n X (pc' := 151) (kk := 0) (i := 0) 0 rfl rfl dX7_goOverTale_150 rfl ?_
    refine j_getf X (pc' := 154) mset_o 28 rfl rfl fw_TX7 (by decide) wt_3_193 dX7_goOverTale_151 rfl ?_
    have h62 := hw3.1
    have hw4 := hw3.2
    refine j_iald X (pc' := 155) (mset_a hMO 15 (by decide)) h62 dX7_goOverTale_154 rfl ?_
    have h63 := hw4.1
    have hw5 := hw4.2
    refine jm_iast X (pc' := 156) hMO 23 (by decide) h63 dX7_goOverTale_155 rfl (fun α64 e65 => ?_)
    have hw6 := hw5 α64 e65
    refine j_aload_n X (pc' := 157) (kk := 0) (i := 0) 0 rfl rfl dX7_goOverTale_156 rfl ?_
    refine j_aload_n X (pc' := 158) (kk := 0) (i := 0) 0 rfl rfl dX7_goOverTale_157 rfl ?_
    refine j_getf X (pc' := 161) mset_o 15 rfl rfl fw_TX7 (by decide) wt_3_180 dX7_goOverTale_158 rfl ?_
    refine j_aload_n X (pc' := 162) (kk := 0) (i := 0) 0 rfl rfl dX7_goOverTale_161 rfl ?_
    refine j_getf X (pc' := 165) mset_o 28 rfl rfl fw_TX7 (by decide) wt_3_193 dX7_goOverTale_162 rfl ?_
    have h66 := hw6.1
    have hw7 := hw6.2
    refine j_iald X (pc' := 166) (mset_a hMO 15 (by decide)) h66 dX7_goOverTale_165 rfl ?_
    refine j_iload X (pc' := 168) (i := 6) 5 rfl dX7_goOverTale_166 rfl ?_
    refine j_isub X (pc' := 169) dX7_goOverTale_168 rfl ?_
    refine j_aload_n X (pc' := 170) (kk := 0) (i := 0) 0 rfl rfl dX7_goOverTale_169 rfl ?_
    refine j_iload_n X (pc' := 171) (kk := 3) (i := 3) 3 rfl rfl dX7_goOverTale_170 rfl ?_
    refine j_callVi (As := [.int v3]) (rest := [.int ((α64 15 (σ59 28).toNatClampNeg) - v6), .ref mm]) X (pc' := 174) (cells' := 0) (slots' := 0) (c_X7_widthOf l G A hMO μ0 v3 σ59 α64 _ hw7) (gk_X7_widthOf wt_4_59) hd_X7_widthOf (rmL_fit (k1 := 1) (k := 3) (by omega) (by decide)) mset_o rfl rfl rfl (Nat.le_of_ble_eq_true rfl) dX7_goOverTale_171 rfl ⟨Nat.le_of_ble_eq_true rfl, Nat.le_of_ble_eq_true rfl⟩ rfl rfl (fun r67 μ78 hw8 => ?_)
    obtain ⟨σ68, α69, rfl, hw9⟩ := hw8
    refine j_iload_n X (pc' := 175) (kk := 1) (i := 1) 1 rfl rfl dX7_goOverTale_174 rfl ?_
    refine j_callVv (As := [.int ((α64 15 (σ59 28).toNatClampNeg) - v6), .int r67, .int v1]) (rest := []) X (pc' := 178) (cells' := 0) (slots' := 0) (c_X7_emit l G A hMO μ0 ((α64 15 (σ59 28).toNatClampNeg) - v6) r67 v1 σ68 α69 _ hw9) (gk_X7_emit wt_4_158) hd_X7_emit (rmL_fit (k1 := 0) (k := 3) (by omega) (by decide)) mset_o rfl rfl rfl (Nat.le_of_ble_eq_true rfl) dX7_goOverTale_175 rfl ⟨Nat.le_of_ble_eq_true rfl, Nat.le_of_ble_eq_true rfl⟩ rfl rfl (fun μ76 hw10 => ?_)
    obtain ⟨σ71, α72, rfl, hw11⟩ := hw10
    refine j_aload_n X (pc' := 179) (kk := 0) (i := 0) 0 rfl rfl dX7_goOverTale_178 rfl ?_
    refine j_dup X (pc' := 180) rfl dX7_goOverTale_179 rfl ?_
    refine j_getf X (pc' := 183) mset_o 28 rfl rfl fw_TX7 (by decide) wt_3_193 dX7_goOverTale_180 rfl ?_
    refine j_iconst X (pc' := 184) (v := 1) (by decide) dX7_goOverTale_183 rfl ?_
    refine j_iadd X (pc' := 185) dX7_goOverTale_184 rfl ?_
    refine jm_putf X (pc' := 188) 28 (mF_set_28 _ _ _) (by decide) rfl wt_3_193 (by decide +kernel) dX7_goOverTale_185 rfl (fun σ73 e74 => ?_)
    have hw12 := hw11 σ73 e74
    refine j_loc [0, 2, 3, 4] rfl ?_
    exact tb_X7_goOverTale_188 X hMO _ _ _ _ _ hw12
  · have hw13 := hw2.2 c61
    refine j_iconst X (pc' := 140) (v := 0) (by decide) dX7_goOverTale_139 rfl ?_
    exact j_zret X (Or.inl rfl) ⟨_, rfl, _, _, rfl, hw13⟩ (Nat.le_of_ble_eq_true rfl) (Nat.le_of_ble_eq_true rfl) dX7_goOverTale_140
def wb_X7_goOverTale_106 (post : Int32 → (Nat → Int32) → (Nat → Nat → Int32) → Prop)  (v1 : Int32) (v2 : Int32) (v3 : Int32) (v4 : Int32) (v5 : Int32) (s0 : Int32) (σ : Nat → Int32) (α : Nat → Nat → Int32) : Prop := (v5 = 0 → (vp_in v3 16 ∧ wb_X7_goOverTale_133 post v1 v2 v3 v4 s0 (α 4 v3.toNatClampNeg) s0 σ α)) ∧ (¬ v5 = 0 → (vp_in v3 16 ∧ wb_X7_goOverTale_133 post v1 v2 v3 v4 s0 ((α 6 v3.toNatClampNeg) - (1 : Int32)) s0 σ α))
set_option maxHeartbeats 4000000 in
set_option maxRecDepth 100000 in
theorem tb_X7_goOverTale_106 {p : Program} {l : Launch} {e : Env} {s : State} {m : MethodId} {args : Array Value} {below : List Frame} {meth : Method} {c : Code} {G : gG} {A : Nat → Prop} {μ0 : Mm} {mm : Nat} {rf : Nat → Nat} {post : Int32 → (Nat → Int32) → (Nat → Nat → Int32) → Prop} (X : Cx p l s m args meth c cX7_goOverTale 7 (some .boolean) RX7 G A) (hMO : MOk mm rf) : ∀ (v1 : Int32) (v2 : Int32) (v3 : Int32) (v4 : Int32) (v5 : Int32) (s0 : Int32) (σ : Nat → Int32) (α : Nat → Nat → Int32), wb_X7_goOverTale_106 post v1 v2 v3 v4 v5 s0 σ α → J p l e (rmL (3) 0 0) s m args below meth c 7 G A (MQ below (QG G A (pI (pMi μ0 mm rf post))) args s 0 0 A) 0 0 106 [(0, .ref mm), (1, .int v1), (2, .int v2), (3, .int v3), (4, .int v4), (5, .int v5)] [.int s0] (mset μ0 mm rf σ α) := by
  intro v1 v2 v3 v4 v5 s0 σ α hw
  unfold wb_X7_goOverTale_106 at hw
  refine j_istore X (pc' := 108) (i := 6) (loc' := [(6, .int s0), (0, .ref mm), (1, .int v1), (2, .int v2), (3, .int v3), (4, .int v4), (5, .int v5)]) dX7_goOverTale_106 rfl (by decide) rfl ?_
  refine j_aload_n X (pc' := 109) (kk := 0) (i := 0) 1 rfl rfl dX7_goOverTale_108 rfl ?_
  refine j_iload X (pc' := 111) (i := 6) 0 rfl dX7_goOverTale_109 rfl ?_
  refine j_iload X (pc' := 113) (i := 5) 6 rfl dX7_goOverTale_111 rfl ?_
  refine j_if_eq X (pc' := 116) (tgt := 127) dX7_goOverTale_113 rfl (by decide) (fun c53 => ?_) (fun c53 => ?_)
  · have hw1 := hw.1 c53
    refine j_aload_n X (pc' := 128) (kk := 0) (i := 0) 1 rfl rfl dX7_goOverTale_127 rfl ?_
    refine j_getf X (pc' := 131) mset_o 4 rfl rfl fw_TX7 (by decide) wt_3_169 dX7_goOverTale_128 rfl ?_
    refine j_iload_n X (pc' := 132) (kk := 3) (i := 3) 4 rfl rfl dX7_goOverTale_131 rfl ?_
    have h54 := hw1.1
    have hw2 := hw1.2
    refine j_iald X (pc' := 133) (mset_a hMO 4 (by decide)) h54 dX7_goOverTale_132 rfl ?_
    refine j_loc [1, 2, 3, 4, 5, 0] rfl ?_
    exact tb_X7_goOverTale_133 X hMO _ _ _ _ _ _ _ _ _ hw2
  · have hw3 := hw.2 c53
    refine j_aload_n X (pc' := 117) (kk := 0) (i := 0) 1 rfl rfl dX7_goOverTale_116 rfl ?_
    refine j_getf X (pc' := 120) mset_o 6 rfl rfl fw_TX7 (by decide) wt_3_171 dX7_goOverTale_117 rfl ?_
    refine j_iload_n X (pc' := 121) (kk := 3) (i := 3) 4 rfl rfl dX7_goOverTale_120 rfl ?_
    have h55 := hw3.1
    have hw4 := hw3.2
    refine j_iald X (pc' := 122) (mset_a hMO 6 (by decide)) h55 dX7_goOverTale_121 rfl ?_
    refine j_iconst X (pc' := 123) (v := 1) (by decide) dX7_goOverTale_122 rfl ?_
    refine j_isub X (pc' := 124) dX7_goOverTale_123 rfl ?_
    refine j_goto X (tgt := 133) dX7_goOverTale_124 (by decide) ?_
    refine j_loc [1, 2, 3, 4, 5, 0] rfl ?_
    exact tb_X7_goOverTale_133 X hMO _ _ _ _ _ _ _ _ _ hw4
def wb_X7_goOverTale_89 (post : Int32 → (Nat → Int32) → (Nat → Nat → Int32) → Prop)  (v1 : Int32) (v2 : Int32) (v3 : Int32) (v4 : Int32) (s0 : Int32) (σ : Nat → Int32) (α : Nat → Nat → Int32) : Prop := (s0 = 0 → (vp_in v3 16 ∧ wb_X7_goOverTale_106 post v1 v2 v3 v4 s0 (α 3 v3.toNatClampNeg) σ α)) ∧ (¬ s0 = 0 → (wb_X7_goOverTale_106 post v1 v2 v3 v4 s0 (0 : Int32) σ α))
set_option maxHeartbeats 4000000 in
set_option maxRecDepth 100000 in
theorem tb_X7_goOverTale_89 {p : Program} {l : Launch} {e : Env} {s : State} {m : MethodId} {args : Array Value} {below : List Frame} {meth : Method} {c : Code} {G : gG} {A : Nat → Prop} {μ0 : Mm} {mm : Nat} {rf : Nat → Nat} {post : Int32 → (Nat → Int32) → (Nat → Nat → Int32) → Prop} (X : Cx p l s m args meth c cX7_goOverTale 7 (some .boolean) RX7 G A) (hMO : MOk mm rf) : ∀ (v1 : Int32) (v2 : Int32) (v3 : Int32) (v4 : Int32) (s0 : Int32) (σ : Nat → Int32) (α : Nat → Nat → Int32), wb_X7_goOverTale_89 post v1 v2 v3 v4 s0 σ α → J p l e (rmL (3) 0 0) s m args below meth c 7 G A (MQ below (QG G A (pI (pMi μ0 mm rf post))) args s 0 0 A) 0 0 89 [(0, .ref mm), (1, .int v1), (2, .int v2), (3, .int v3), (4, .int v4)] [.int s0] (mset μ0 mm rf σ α) := by
  intro v1 v2 v3 v4 s0 σ α hw
  unfold wb_X7_goOverTale_89 at hw
  refine j_istore X (pc' := 91) (i := 5) (loc' := [(5, .int s0), (0, .ref mm), (1, .int v1), (2, .int v2), (3, .int v3), (4, .int v4)]) dX7_goOverTale_89 rfl (by decide) rfl ?_
  refine j_iload X (pc' := 93) (i := 5) 0 rfl dX7_goOverTale_91 rfl ?_
  refine j_if_eq X (pc' := 96) (tgt := 100) dX7_goOverTale_93 rfl (by decide) (fun c37 => ?_) (fun c37 => ?_)
  · have hw1 := hw.1 c37
    refine j_aload_n X (pc' := 101) (kk := 0) (i := 0) 1 rfl rfl dX7_goOverTale_100 rfl ?_
    refine j_getf X (pc' := 104) mset_o 3 rfl rfl fw_TX7 (by decide) wt_3_168 dX7_goOverTale_101 rfl ?_
    refine j_iload_n X (pc' := 105) (kk := 3) (i := 3) 4 rfl rfl dX7_goOverTale_104 rfl ?_
    have h38 := hw1.1
    have hw2 := hw1.2
    refine j_iald X (pc' := 106) (mset_a hMO 3 (by decide)) h38 dX7_goOverTale_105 rfl ?_
    refine j_loc [1, 2, 3, 4, 5, 0] rfl ?_
    exact tb_X7_goOverTale_106 X hMO _ _ _ _ _ _ _ _ hw2
  · have hw3 := hw.2 c37
    refine j_iconst X (pc' := 97) (v := 0) (by decide) dX7_goOverTale_96 rfl ?_
    refine j_goto X (tgt := 106) dX7_goOverTale_97 (by decide) ?_
    refine j_loc [1, 2, 3, 4, 5, 0] rfl ?_
    exact tb_X7_goOverTale_106 X hMO _ _ _ _ _ _ _ _ hw3
def wp_X7_goOverTale (x1 : Int32) (σ : Nat → Int32) (α : Nat → Nat → Int32) (post : Int32 → (Nat → Int32) → (Nat → Nat → Int32) → Prop) : Prop := vp_in ((σ 20) - (1 : Int32)) 20 ∧ vp_in ((σ 20) - (1 : Int32)) 20 ∧ vp_in ((σ 20) - (1 : Int32)) 20 ∧ vp_in ((σ 20) - (1 : Int32)) 20 ∧ ∀ α5, α5 = upA α 22 (upd (α 22) ((σ 20) - (1 : Int32)).toNatClampNeg ((α 22 ((σ 20) - (1 : Int32)).toNatClampNeg) + (1 : Int32))) → vp_in (α 21 ((σ 20) - (1 : Int32)).toNatClampNeg) 16 ∧ (¬ (α5 2 (α 21 ((σ 20) - (1 : Int32)).toNatClampNeg).toNatClampNeg) = (2 : Int32) → ((¬ (α 22 ((σ 20) - (1 : Int32)).toNatClampNeg) = 0 → (wb_X7_goOverTale_188 post ((σ 20) - (1 : Int32)) (α 21 ((σ 20) - (1 : Int32)).toNatClampNeg) (α 22 ((σ 20) - (1 : Int32)).toNatClampNeg) σ α5)) ∧ ((α 22 ((σ 20) - (1 : Int32)).toNatClampNeg) = 0 → (vp_in (α 21 ((σ 20) - (1 : Int32)).toNatClampNeg) 16 ∧ (¬ (α5 2 (α 21 ((σ 20) - (1 : Int32)).toNatClampNeg).toNatClampNeg) = (3 : Int32) → (wb_X7_goOverTale_89 post x1 ((σ 20) - (1 : Int32)) (α 21 ((σ 20) - (1 : Int32)).toNatClampNeg) (α 22 ((σ 20) - (1 : Int32)).toNatClampNeg) (0 : Int32) σ α5)) ∧ ((α5 2 (α 21 ((σ 20) - (1 : Int32)).toNatClampNeg).toNatClampNeg) = (3 : Int32) → (wb_X7_goOverTale_89 post x1 ((σ 20) - (1 : Int32)) (α 21 ((σ 20) - (1 : Int32)).toNatClampNeg) (α 22 ((σ 20) - (1 : Int32)).toNatClampNeg) (1 : Int32) σ α5)))))) ∧ ((α5 2 (α 21 ((σ 20) - (1 : Int32)).toNatClampNeg).toNatClampNeg) = (2 : Int32) → ((¬ (α 22 ((σ 20) - (1 : Int32)).toNatClampNeg) = 0 → (wp_X7_sequenceOfTale (α 21 ((σ 20) - (1 : Int32)).toNatClampNeg) ((σ 20) - (1 : Int32)) ((α 22 ((σ 20) - (1 : Int32)).toNatClampNeg) - (1 : Int32)) x1 σ α5 (fun r13 σ14 α15 => (r13 = 0 ∨ r13 = 1) ∧ post r13 σ14 α15))) ∧ ((α 22 ((σ 20) - (1 : Int32)).toNatClampNeg) = 0 → (wp_X7_headOfTale (α 21 ((σ 20) - (1 : Int32)).toNatClampNeg) ((σ 20) - (1 : Int32)) x1 σ α5 (fun r18 σ19 α20 => (r18 = 0 ∨ r18 = 1) ∧ post r18 σ19 α20)))))
set_option maxHeartbeats 4000000 in
set_option maxRecDepth 100000 in
theorem c_X7_goOverTale (l : Launch) (G : gG) (A : Nat → Prop) {mm : Nat} {rf : Nat → Nat} (hMO : MOk mm rf) (μ0 : Mm) (x1 : Int32) (σ : Nat → Int32) (α : Nat → Nat → Int32) (post : Int32 → (Nat → Int32) → (Nat → Nat → Int32) → Prop) (h : wp_X7_goOverTale x1 σ α post) : Met l yX7_goOverTale (.code yX7_goOverTale cX7_goOverTale 7 (some .boolean) :: wsA) (rmL (3) 0 0) (PcG G A (mset μ0 mm rf σ α) [.ref mm, .int x1]) (QG G A (pI (pMi μ0 mm rf post))) 0 0 A := by
  refine met_J (loc := [(0, .ref mm), (1, .int x1)]) (by decide +kernel) (Nat.le_of_ble_eq_true rfl) rfl ?_
  intro p e s m args below meth c X hin
  have X : Cx p l s m args meth c cX7_goOverTale 7 (some .boolean) RX7 G A := X
  have hw := h
  unfold wp_X7_goOverTale at hw
  refine j_aload_n X (pc' := 1) (kk := 0) (i := 0) 0 rfl rfl dX7_goOverTale_0 rfl ?_
  refine j_getf X (pc' := 4) mset_o 20 rfl rfl fw_TX7 (by decide) wt_3_185 dX7_goOverTale_1 rfl ?_
  refine j_iconst X (pc' := 5) (v := 1) (by decide) dX7_goOverTale_4 rfl ?_
  refine j_isub X (pc' := 6) dX7_goOverTale_5 rfl ?_
  refine j_istore_n X (pc' := 7) (kk := 2) (i := 2) (loc' := [(2, .int ((σ 20) - (1 : Int32))), (0, .ref mm), (1, .int x1)]) dX7_goOverTale_6 rfl rfl (by decide) rfl ?_
  refine j_aload_n X (pc' := 8) (kk := 0) (i := 0) 1 rfl rfl dX7_goOverTale_7 rfl ?_
  refine j_getf X (pc' := 11) mset_o 21 rfl rfl fw_TX7 (by decide) wt_3_186 dX7_goOverTale_8 rfl ?_
  refine j_iload_n X (pc' := 12) (kk := 2) (i := 2) 0 rfl rfl dX7_goOverTale_11 rfl ?_
  have h1 := hw.1
  have hw1 := hw.2
  refine j_iald X (pc' := 13) (mset_a hMO 21 (by decide)) h1 dX7_goOverTale_12 rfl ?_
  refine j_istore_n X (pc' := 14) (kk := 3) (i := 3) (loc' := [(3, .int (α 21 ((σ 20) - (1 : Int32)).toNatClampNeg)), (2, .int ((σ 20) - (1 : Int32))), (0, .ref mm), (1, .int x1)]) dX7_goOverTale_13 rfl rfl (by decide) rfl ?_
  refine j_aload_n X (pc' := 15) (kk := 0) (i := 0) 2 rfl rfl dX7_goOverTale_14 rfl ?_
  refine j_getf X (pc' := 18) mset_o 22 rfl rfl fw_TX7 (by decide) wt_3_187 dX7_goOverTale_15 rfl ?_
  refine j_iload_n X (pc' := 19) (kk := 2) (i := 2) 1 rfl rfl dX7_goOverTale_18 rfl ?_
  have h2 := hw1.1
  have hw2 := hw1.2
  refine j_iald X (pc' := 20) (mset_a hMO 22 (by decide)) h2 dX7_goOverTale_19 rfl ?_
  refine j_istore X (pc' := 22) (i := 4) (loc' := [(4, .int (α 22 ((σ 20) - (1 : Int32)).toNatClampNeg)), (3, .int (α 21 ((σ 20) - (1 : Int32)).toNatClampNeg)), (2, .int ((σ 20) - (1 : Int32))), (0, .ref mm), (1, .int x1)]) dX7_goOverTale_20 rfl (by decide) rfl ?_
  refine j_aload_n X (pc' := 23) (kk := 0) (i := 0) 3 rfl rfl dX7_goOverTale_22 rfl ?_
  refine j_getf X (pc' := 26) mset_o 22 rfl rfl fw_TX7 (by decide) wt_3_187 dX7_goOverTale_23 rfl ?_
  refine j_iload_n X (pc' := 27) (kk := 2) (i := 2) 2 rfl rfl dX7_goOverTale_26 rfl ?_
  refine j_dup2 X (pc' := 28) rfl rfl dX7_goOverTale_27 rfl ?_
  have h3 := hw2.1
  have hw3 := hw2.2
  refine j_iald X (pc' := 29) (mset_a hMO 22 (by decide)) h3 dX7_goOverTale_28 rfl ?_
  refine j_iconst X (pc' := 30) (v := 1) (by decide) dX7_goOverTale_29 rfl ?_
  refine j_iadd X (pc' := 31) dX7_goOverTale_30 rfl ?_
  have h4 := hw3.1
  have hw4 := hw3.2
  refine jm_iast X (pc' := 32) hMO 22 (by decide) h4 dX7_goOverTale_31 rfl (fun α5 e6 => ?_)
  have hw5 := hw4 α5 e6
  refine j_aload_n X (pc' := 33) (kk := 0) (i := 0) 3 rfl rfl dX7_goOverTale_32 rfl ?_
  refine j_getf X (pc' := 36) mset_o 2 rfl rfl fw_TX7 (by decide) wt_3_167 dX7_goOverTale_33 rfl ?_
  refine j_iload_n X (pc' := 37) (kk := 3) (i := 3) 1 rfl rfl dX7_goOverTale_36 rfl ?_
  have h7 := hw5.1
  have hw6 := hw5.2
  refine j_iald X (pc' := 38) (mset_a hMO 2 (by decide)) h7 dX7_goOverTale_37 rfl ?_
  refine j_iconst X (pc' := 39) (v := 2) (by decide) dX7_goOverTale_38 rfl ?_
  refine j_icmp_ne X (pc' := 42) (tgt := 69) dX7_goOverTale_39 rfl (by decide) (fun c8 => ?_) (fun c8 => ?_)
  · have hw7 := hw6.1 c8
    refine j_iload X (pc' := 71) (i := 4) 0 rfl dX7_goOverTale_69 rfl ?_
    refine j_if_ne X (pc' := 74) (tgt := 188) dX7_goOverTale_71 rfl (by decide) (fun c9 => ?_) (fun c9 => ?_)
    · have hw8 := hw7.1 c9
      refine j_loc [3, 2, 1, 0] rfl ?_
      exact tb_X7_goOverTale_188 X hMO _ _ _ _ _ hw8
    · have hw9 := hw7.2 c9
      refine j_aload_n X (pc' := 75) (kk := 0) (i := 0) 3 rfl rfl dX7_goOverTale_74 rfl ?_
      refine j_getf X (pc' := 78) mset_o 2 rfl rfl fw_TX7 (by decide) wt_3_167 dX7_goOverTale_75 rfl ?_
      refine j_iload_n X (pc' := 79) (kk := 3) (i := 3) 1 rfl rfl dX7_goOverTale_78 rfl ?_
      have h10 := hw9.1
      have hw10 := hw9.2
      refine j_iald X (pc' := 80) (mset_a hMO 2 (by decide)) h10 dX7_goOverTale_79 rfl ?_
      refine j_iconst X (pc' := 81) (v := 3) (by decide) dX7_goOverTale_80 rfl ?_
      refine j_icmp_ne X (pc' := 84) (tgt := 88) dX7_goOverTale_81 rfl (by decide) (fun c11 => ?_) (fun c11 => ?_)
      · have hw11 := hw10.1 c11
        refine j_iconst X (pc' := 89) (v := 0) (by decide) dX7_goOverTale_88 rfl ?_
        refine j_loc [3, 4, 2, 1, 0] rfl ?_
        exact tb_X7_goOverTale_89 X hMO _ _ _ _ _ _ _ hw11
      · have hw12 := hw10.2 c11
        refine j_iconst X (pc' := 85) (v := 1) (by decide) dX7_goOverTale_84 rfl ?_
        refine j_goto X (tgt := 89) dX7_goOverTale_85 (by decide) ?_
        refine j_loc [3, 4, 2, 1, 0] rfl ?_
        exact tb_X7_goOverTale_89 X hMO _ _ _ _ _ _ _ hw12
  · have hw13 := hw6.2 c8
    refine j_iload X (pc' := 44) (i := 4) 0 rfl dX7_goOverTale_42 rfl ?_
    refine j_if_ne X (pc' := 47) (tgt := 57) dX7_goOverTale_44 rfl (by decide) (fun c12 => ?_) (fun c12 => ?_)
    · have hw14 := hw13.1 c12
      refine j_aload_n X (pc' := 58) (kk := 0) (i := 0) 3 rfl rfl dX7_goOverTale_57 rfl ?_
      refine j_iload_n X (pc' := 59) (kk := 3) (i := 3) 1 rfl rfl dX7_goOverTale_58 rfl ?_
      refine j_iload_n X (pc' := 60) (kk := 2) (i := 2) 2 rfl rfl dX7_goOverTale_59 rfl ?_
      refine j_iload X (pc' := 62) (i := 4) 0 rfl dX7_goOverTale_60 rfl ?_
      refine j_iconst X (pc' := 63) (v := 1) (by decide) dX7_goOverTale_62 rfl ?_
      refine j_isub X (pc' := 64) dX7_goOverTale_63 rfl ?_
      refine j_iload_n X (pc' := 65) (kk := 1) (i := 1) 4 rfl rfl dX7_goOverTale_64 rfl ?_
      refine j_callVi (As := [.int (α 21 ((σ 20) - (1 : Int32)).toNatClampNeg), .int ((σ 20) - (1 : Int32)), .int ((α 22 ((σ 20) - (1 : Int32)).toNatClampNeg) - (1 : Int32)), .int x1]) (rest := []) X (pc' := 68) (cells' := 0) (slots' := 0) (c_X7_sequenceOfTale l G A hMO μ0 (α 21 ((σ 20) - (1 : Int32)).toNatClampNeg) ((σ 20) - (1 : Int32)) ((α 22 ((σ 20) - (1 : Int32)).toNatClampNeg) - (1 : Int32)) x1 σ α5 _ hw14) (gk_X7_sequenceOfTale wt_4_162) hd_X7_sequenceOfTale (rmL_fit (k1 := 1) (k := 3) (by omega) (by decide)) mset_o rfl rfl rfl (Nat.le_of_ble_eq_true rfl) dX7_goOverTale_65 rfl ⟨Nat.le_of_ble_eq_true rfl, Nat.le_of_ble_eq_true rfl⟩ rfl rfl (fun r13 μ17 hw15 => ?_)
      obtain ⟨σ14, α15, rfl, hw16⟩ := hw15
      have hb := hw16.1
      have hw17 := hw16.2
      exact j_zret X hb ⟨_, rfl, _, _, rfl, hw17⟩ (Nat.le_of_ble_eq_true rfl) (Nat.le_of_ble_eq_true rfl) dX7_goOverTale_68
    · have hw18 := hw13.2 c12
      refine j_aload_n X (pc' := 48) (kk := 0) (i := 0) 3 rfl rfl dX7_goOverTale_47 rfl ?_
      refine j_iload_n X (pc' := 49) (kk := 3) (i := 3) 1 rfl rfl dX7_goOverTale_48 rfl ?_
      refine j_iload_n X (pc' := 50) (kk := 2) (i := 2) 2 rfl rfl dX7_goOverTale_49 rfl ?_
      refine j_iload_n X (pc' := 51) (kk := 1) (i := 1) 4 rfl rfl dX7_goOverTale_50 rfl ?_
      refine j_callVi (As := [.int (α 21 ((σ 20) - (1 : Int32)).toNatClampNeg), .int ((σ 20) - (1 : Int32)), .int x1]) (rest := []) X (pc' := 54) (cells' := 0) (slots' := 0) (c_X7_headOfTale l G A hMO μ0 (α 21 ((σ 20) - (1 : Int32)).toNatClampNeg) ((σ 20) - (1 : Int32)) x1 σ α5 _ hw18) (gk_X7_headOfTale wt_4_150) hd_X7_headOfTale (rmL_fit (k1 := 2) (k := 3) (by omega) (by decide)) mset_o rfl rfl rfl (Nat.le_of_ble_eq_true rfl) dX7_goOverTale_51 rfl ⟨Nat.le_of_ble_eq_true rfl, Nat.le_of_ble_eq_true rfl⟩ rfl rfl (fun r18 μ22 hw19 => ?_)
      obtain ⟨σ19, α20, rfl, hw20⟩ := hw19
      refine j_goto X (tgt := 68) dX7_goOverTale_54 (by decide) ?_
      have hb := hw20.1
      have hw21 := hw20.2
      exact j_zret X hb ⟨_, rfl, _, _, rfl, hw21⟩ (Nat.le_of_ble_eq_true rfl) (Nat.le_of_ble_eq_true rfl) dX7_goOverTale_68
/-! BitNotationModel.walk(IZ)I -/
theorem dX7_walk_0 : decode cX7_walk 0 = .ok (.aload_n 0, 1) := by decide +kernel
theorem dX7_walk_1 : decode cX7_walk 1 = .ok (.iconst 0, 1) := by decide +kernel
theorem dX7_walk_2 : decode cX7_walk 2 = .ok (.putfield 142, 3) := by decide +kernel
theorem dX7_walk_5 : decode cX7_walk 5 = .ok (.aload_n 0, 1) := by decide +kernel
theorem dX7_walk_6 : decode cX7_walk 6 = .ok (.iconst 0, 1) := by decide +kernel
theorem dX7_walk_7 : decode cX7_walk 7 = .ok (.putfield 148, 3) := by decide +kernel
theorem dX7_walk_10 : decode cX7_walk 10 = .ok (.aload_n 0, 1) := by decide +kernel
theorem dX7_walk_11 : decode cX7_walk 11 = .ok (.iconst (-1), 1) := by decide +kernel
theorem dX7_walk_12 : decode cX7_walk 12 = .ok (.putfield 151, 3) := by decide +kernel
theorem dX7_walk_15 : decode cX7_walk 15 = .ok (.aload_n 0, 1) := by decide +kernel
theorem dX7_walk_16 : decode cX7_walk 16 = .ok (.iload_n 1, 1) := by decide +kernel
theorem dX7_walk_17 : decode cX7_walk 17 = .ok (.invokevirtual 169, 3) := by decide +kernel
theorem dX7_walk_20 : decode cX7_walk 20 = .ok (.iconst 1, 1) := by decide +kernel
theorem dX7_walk_21 : decode cX7_walk 21 = .ok (.istore_n 3, 1) := by decide +kernel
theorem dX7_walk_22 : decode cX7_walk 22 = .ok (.aload_n 0, 1) := by decide +kernel
theorem dX7_walk_23 : decode cX7_walk 23 = .ok (.getfield 142, 3) := by decide +kernel
theorem dX7_walk_26 : decode cX7_walk 26 = .ok (.ifCond .le 16, 3) := by decide +kernel
theorem dX7_walk_29 : decode cX7_walk 29 = .ok (.iload_n 3, 1) := by decide +kernel
theorem dX7_walk_30 : decode cX7_walk 30 = .ok (.ifCond .eq 12, 3) := by decide +kernel
theorem dX7_walk_33 : decode cX7_walk 33 = .ok (.aload_n 0, 1) := by decide +kernel
theorem dX7_walk_34 : decode cX7_walk 34 = .ok (.iload_n 2, 1) := by decide +kernel
theorem dX7_walk_35 : decode cX7_walk 35 = .ok (.invokevirtual 172, 3) := by decide +kernel
theorem dX7_walk_38 : decode cX7_walk 38 = .ok (.istore_n 3, 1) := by decide +kernel
theorem dX7_walk_39 : decode cX7_walk 39 = .ok (.goto (-17), 3) := by decide +kernel
theorem dX7_walk_42 : decode cX7_walk 42 = .ok (.iload_n 3, 1) := by decide +kernel
theorem dX7_walk_43 : decode cX7_walk 43 = .ok (.ifCond .ne 10, 3) := by decide +kernel
theorem dX7_walk_46 : decode cX7_walk 46 = .ok (.aload_n 0, 1) := by decide +kernel
theorem dX7_walk_47 : decode cX7_walk 47 = .ok (.getfield 151, 3) := by decide +kernel
theorem dX7_walk_50 : decode cX7_walk 50 = .ok (.goto 22, 3) := by decide +kernel
theorem dX7_walk_53 : decode cX7_walk 53 = .ok (.aload_n 0, 1) := by decide +kernel
theorem dX7_walk_54 : decode cX7_walk 54 = .ok (.getfield 148, 3) := by decide +kernel
theorem dX7_walk_57 : decode cX7_walk 57 = .ok (.aload_n 0, 1) := by decide +kernel
theorem dX7_walk_58 : decode cX7_walk 58 = .ok (.getfield 139, 3) := by decide +kernel
theorem dX7_walk_61 : decode cX7_walk 61 = .ok (.if_icmp .ge 10, 3) := by decide +kernel
theorem dX7_walk_64 : decode cX7_walk 64 = .ok (.aload_n 0, 1) := by decide +kernel
theorem dX7_walk_65 : decode cX7_walk 65 = .ok (.getfield 148, 3) := by decide +kernel
theorem dX7_walk_68 : decode cX7_walk 68 = .ok (.goto 4, 3) := by decide +kernel
theorem dX7_walk_71 : decode cX7_walk 71 = .ok (.iconst (-1), 1) := by decide +kernel
theorem dX7_walk_72 : decode cX7_walk 72 = .ok (.ireturn, 1) := by decide +kernel
def wb_X7_walk_42 (post : Int32 → (Nat → Int32) → (Nat → Nat → Int32) → Prop)  (v3 : Int32) (σ : Nat → Int32) (α : Nat → Nat → Int32) : Prop := (¬ v3 = 0 → (((σ 14) ≤ (σ 28) → (post (-1 : Int32) σ α)) ∧ (¬ (σ 14) ≤ (σ 28) → (post (σ 28) σ α)))) ∧ (v3 = 0 → (post (σ 29) σ α))
set_option maxHeartbeats 4000000 in
set_option maxRecDepth 100000 in
theorem tb_X7_walk_42 {p : Program} {l : Launch} {e : Env} {s : State} {m : MethodId} {args : Array Value} {below : List Frame} {meth : Method} {c : Code} {G : gG} {A : Nat → Prop} {μ0 : Mm} {mm : Nat} {rf : Nat → Nat} {post : Int32 → (Nat → Int32) → (Nat → Nat → Int32) → Prop} (X : Cx p l s m args meth c cX7_walk 4 (some .int) RX7 G A) (hMO : MOk mm rf) : ∀ (v3 : Int32) (σ : Nat → Int32) (α : Nat → Nat → Int32), wb_X7_walk_42 post v3 σ α → J p l e (rmL (4) 0 0) s m args below meth c 4 G A (MQ below (QG G A (pI (pMi μ0 mm rf post))) args s 0 0 A) 0 0 42 [(0, .ref mm), (3, .int v3)] [] (mset μ0 mm rf σ α) := by
  intro v3 σ α hw
  unfold wb_X7_walk_42 at hw
  refine j_iload_n X (pc' := 43) (kk := 3) (i := 3) 1 rfl rfl dX7_walk_42 rfl ?_
  refine j_if_ne X (pc' := 46) (tgt := 53) dX7_walk_43 rfl (by decide) (fun c19 => ?_) (fun c19 => ?_)
  · have hw1 := hw.1 c19
    refine j_aload_n X (pc' := 54) (kk := 0) (i := 0) 0 rfl rfl dX7_walk_53 rfl ?_
    refine j_getf X (pc' := 57) mset_o 28 rfl rfl fw_TX7 (by decide) wt_3_193 dX7_walk_54 rfl ?_
    refine j_aload_n X (pc' := 58) (kk := 0) (i := 0) 0 rfl rfl dX7_walk_57 rfl ?_
    refine j_getf X (pc' := 61) mset_o 14 rfl rfl fw_TX7 (by decide) wt_3_179 dX7_walk_58 rfl ?_
    refine j_icmp_ge X (pc' := 64) (tgt := 71) dX7_walk_61 rfl (by decide) (fun c20 => ?_) (fun c20 => ?_)
    · have hw2 := hw1.1 c20
      refine j_iconst X (pc' := 72) (v := (-1)) (by decide) dX7_walk_71 rfl ?_
      exact j_iret X ⟨_, rfl, _, _, rfl, hw2⟩ (Nat.le_of_ble_eq_true rfl) (Nat.le_of_ble_eq_true rfl) dX7_walk_72
    · have hw3 := hw1.2 c20
      refine j_aload_n X (pc' := 65) (kk := 0) (i := 0) 0 rfl rfl dX7_walk_64 rfl ?_
      refine j_getf X (pc' := 68) mset_o 28 rfl rfl fw_TX7 (by decide) wt_3_193 dX7_walk_65 rfl ?_
      refine j_goto X (tgt := 72) dX7_walk_68 (by decide) ?_
      exact j_iret X ⟨_, rfl, _, _, rfl, hw3⟩ (Nat.le_of_ble_eq_true rfl) (Nat.le_of_ble_eq_true rfl) dX7_walk_72
  · have hw4 := hw.2 c19
    refine j_aload_n X (pc' := 47) (kk := 0) (i := 0) 0 rfl rfl dX7_walk_46 rfl ?_
    refine j_getf X (pc' := 50) mset_o 29 rfl rfl fw_TX7 (by decide) wt_3_194 dX7_walk_47 rfl ?_
    refine j_goto X (tgt := 72) dX7_walk_50 (by decide) ?_
    exact j_iret X ⟨_, rfl, _, _, rfl, hw4⟩ (Nat.le_of_ble_eq_true rfl) (Nat.le_of_ble_eq_true rfl) dX7_walk_72
def wb_X7_walk_22 (post : Int32 → (Nat → Int32) → (Nat → Nat → Int32) → Prop)  : Nat → Int32 → Int32 → (Nat → Int32) → (Nat → Nat → Int32) → Prop
  | 0 => fun _ _ _ _ => False
  | n + 1 => fun v2 v3 σ α => ((σ 20) ≤ 0 → (wb_X7_walk_42 post v3 σ α)) ∧ (¬ (σ 20) ≤ 0 → ((v3 = 0 → (wb_X7_walk_42 post v3 σ α)) ∧ (¬ v3 = 0 → (wp_X7_goOverTale v2 σ α (fun r14 σ15 α16 => wb_X7_walk_22 post n v2 r14 σ15 α16)))))
set_option maxHeartbeats 4000000 in
set_option maxRecDepth 100000 in
theorem tb_X7_walk_22 {p : Program} {l : Launch} {e : Env} {s : State} {m : MethodId} {args : Array Value} {below : List Frame} {meth : Method} {c : Code} {G : gG} {A : Nat → Prop} {μ0 : Mm} {mm : Nat} {rf : Nat → Nat} {post : Int32 → (Nat → Int32) → (Nat → Nat → Int32) → Prop} (X : Cx p l s m args meth c cX7_walk 4 (some .int) RX7 G A) (hMO : MOk mm rf) : ∀ (n : Nat) (v2 : Int32) (v3 : Int32) (σ : Nat → Int32) (α : Nat → Nat → Int32), wb_X7_walk_22 post n v2 v3 σ α → J p l e (rmL (4) 0 0) s m args below meth c 4 G A (MQ below (QG G A (pI (pMi μ0 mm rf post))) args s 0 0 A) 0 0 22 [(0, .ref mm), (2, .int v2), (3, .int v3)] [] (mset μ0 mm rf σ α) := by
  intro n
  induction n with
  | zero => intro v2 v3 σ α hw; exact hw.elim
  | succ n ih =>
    intro v2 v3 σ α hw
    rw [wb_X7_walk_22] at hw
    refine j_aload_n X (pc' := 23) (kk := 0) (i := 0) 0 rfl rfl dX7_walk_22 rfl ?_
    refine j_getf X (pc' := 26) mset_o 20 rfl rfl fw_TX7 (by decide) wt_3_185 dX7_walk_23 rfl ?_
    refine j_if_le X (pc' := 29) (tgt := 42) dX7_walk_26 rfl (by decide) (fun c12 => ?_) (fun c12 => ?_)
    · have hw1 := hw.1 c12
      refine j_loc [0, 2] rfl ?_
      exact tb_X7_walk_42 X hMO _ _ _ hw1
    · have hw2 := hw.2 c12
      refine j_iload_n X (pc' := 30) (kk := 3) (i := 3) 2 rfl rfl dX7_walk_29 rfl ?_
      refine j_if_eq X (pc' := 33) (tgt := 42) dX7_walk_30 rfl (by decide) (fun c13 => ?_) (fun c13 => ?_)
      · have hw3 := hw2.1 c13
        refine j_loc [0, 2] rfl ?_
        exact tb_X7_walk_42 X hMO _ _ _ hw3
      · have hw4 := hw2.2 c13
        refine j_aload_n X (pc' := 34) (kk := 0) (i := 0) 0 rfl rfl dX7_walk_33 rfl ?_
        refine j_iload_n X (pc' := 35) (kk := 2) (i := 2) 1 rfl rfl dX7_walk_34 rfl ?_
        refine j_callVi (As := [.int v2]) (rest := []) X (pc' := 38) (cells' := 0) (slots' := 0) (c_X7_goOverTale l G A hMO μ0 v2 σ α _ hw4) (gk_X7_goOverTale wt_4_146) hd_X7_goOverTale (rmL_fit (k1 := 3) (k := 4) (by omega) (by decide)) mset_o rfl rfl rfl (Nat.le_of_ble_eq_true rfl) dX7_walk_35 rfl ⟨Nat.le_of_ble_eq_true rfl, Nat.le_of_ble_eq_true rfl⟩ rfl rfl (fun r14 μ18 hw5 => ?_)
        obtain ⟨σ15, α16, rfl, hw6⟩ := hw5
        refine j_istore_n X (pc' := 39) (kk := 3) (i := 3) (loc' := [(3, .int r14), (0, .ref mm), (2, .int v2)]) dX7_walk_38 rfl rfl (by decide) rfl ?_
        refine j_goto X (tgt := 22) dX7_walk_39 (by decide) ?_
        refine j_loc [1, 2, 0] rfl ?_
        exact ih _ _ _ _ hw6
def wp_X7_walk (x1 : Int32) (x2 : Int32) (σ : Nat → Int32) (α : Nat → Nat → Int32) (post : Int32 → (Nat → Int32) → (Nat → Nat → Int32) → Prop) : Prop := ∀ σ1, σ1 = upd σ 20 (0 : Int32) → ∀ σ3, σ3 = upd σ1 28 (0 : Int32) → ∀ σ5, σ5 = upd σ3 29 (-1 : Int32) → wp_X7_push x1 σ5 α (fun σ8 α9 => ∃ n, wb_X7_walk_22 post n x2 (1 : Int32) σ8 α9)
set_option maxHeartbeats 4000000 in
set_option maxRecDepth 100000 in
theorem c_X7_walk (l : Launch) (G : gG) (A : Nat → Prop) {mm : Nat} {rf : Nat → Nat} (hMO : MOk mm rf) (μ0 : Mm) (x1 : Int32) (x2 : Int32) (σ : Nat → Int32) (α : Nat → Nat → Int32) (post : Int32 → (Nat → Int32) → (Nat → Nat → Int32) → Prop) (h : wp_X7_walk x1 x2 σ α post) : Met l yX7_walk (.code yX7_walk cX7_walk 4 (some .int) :: wsA) (rmL (4) 0 0) (PcG G A (mset μ0 mm rf σ α) [.ref mm, .int x1, .int x2]) (QG G A (pI (pMi μ0 mm rf post))) 0 0 A := by
  refine met_J (loc := [(0, .ref mm), (1, .int x1), (2, .int x2)]) (by decide +kernel) (Nat.le_of_ble_eq_true rfl) rfl ?_
  intro p e s m args below meth c X hin
  have X : Cx p l s m args meth c cX7_walk 4 (some .int) RX7 G A := X
  have hw := h
  unfold wp_X7_walk at hw
  refine j_aload_n X (pc' := 1) (kk := 0) (i := 0) 0 rfl rfl dX7_walk_0 rfl ?_
  refine j_iconst X (pc' := 2) (v := 0) (by decide) dX7_walk_1 rfl ?_
  refine jm_putf X (pc' := 5) 20 (mF_set_20 _ _ _) (by decide) rfl wt_3_185 (by decide +kernel) dX7_walk_2 rfl (fun σ1 e2 => ?_)
  have hw1 := hw σ1 e2
  refine j_aload_n X (pc' := 6) (kk := 0) (i := 0) 0 rfl rfl dX7_walk_5 rfl ?_
  refine j_iconst X (pc' := 7) (v := 0) (by decide) dX7_walk_6 rfl ?_
  refine jm_putf X (pc' := 10) 28 (mF_set_28 _ _ _) (by decide) rfl wt_3_193 (by decide +kernel) dX7_walk_7 rfl (fun σ3 e4 => ?_)
  have hw2 := hw1 σ3 e4
  refine j_aload_n X (pc' := 11) (kk := 0) (i := 0) 0 rfl rfl dX7_walk_10 rfl ?_
  refine j_iconst X (pc' := 12) (v := (-1)) (by decide) dX7_walk_11 rfl ?_
  refine jm_putf X (pc' := 15) 29 (mF_set_29 _ _ _) (by decide) rfl wt_3_194 (by decide +kernel) dX7_walk_12 rfl (fun σ5 e6 => ?_)
  have hw3 := hw2 σ5 e6
  refine j_aload_n X (pc' := 16) (kk := 0) (i := 0) 0 rfl rfl dX7_walk_15 rfl ?_
  refine j_iload_n X (pc' := 17) (kk := 1) (i := 1) 1 rfl rfl dX7_walk_16 rfl ?_
  refine j_callVv (As := [.int x1]) (rest := []) X (pc' := 20) (cells' := 0) (slots' := 0) (c_X7_push l G A hMO μ0 x1 σ5 α _ hw3) (gk_X7_push wt_4_142) hd_X7_push (rmL_fit (k1 := 0) (k := 4) (by omega) (by decide)) mset_o rfl rfl rfl (Nat.le_of_ble_eq_true rfl) dX7_walk_17 rfl ⟨Nat.le_of_ble_eq_true rfl, Nat.le_of_ble_eq_true rfl⟩ rfl rfl (fun μ11 hw4 => ?_)
  obtain ⟨σ8, α9, rfl, hw5⟩ := hw4
  refine j_iconst X (pc' := 21) (v := 1) (by decide) dX7_walk_20 rfl ?_
  refine j_istore_n X (pc' := 22) (kk := 3) (i := 3) (loc' := [(3, .int ((1 : Int32))), (0, .ref mm), (1, .int x1), (2, .int x2)]) dX7_walk_21 rfl rfl (by decide) rfl ?_
  obtain ⟨n0, hw6⟩ := hw5
  refine j_loc [1, 3, 0] rfl ?_
  exact tb_X7_walk_22 X hMO n0 _ _ _ _ hw6
/-! BitNotationModel.wrongAt(I)I -/
theorem dX7_wrongAt_0 : decode cX7_wrongAt 0 = .ok (.aload_n 0, 1) := by decide +kernel
theorem dX7_wrongAt_1 : decode cX7_wrongAt 1 = .ok (.iload_n 1, 1) := by decide +kernel
theorem dX7_wrongAt_2 : decode cX7_wrongAt 2 = .ok (.invokevirtual 136, 3) := by decide +kernel
theorem dX7_wrongAt_5 : decode cX7_wrongAt 5 = .ok (.ifCond .eq 7, 3) := by decide +kernel
theorem dX7_wrongAt_8 : decode cX7_wrongAt 8 = .ok (.iconst 0, 1) := by decide +kernel
theorem dX7_wrongAt_9 : decode cX7_wrongAt 9 = .ok (.goto 9, 3) := by decide +kernel
theorem dX7_wrongAt_12 : decode cX7_wrongAt 12 = .ok (.aload_n 0, 1) := by decide +kernel
theorem dX7_wrongAt_13 : decode cX7_wrongAt 13 = .ok (.iload_n 1, 1) := by decide +kernel
theorem dX7_wrongAt_14 : decode cX7_wrongAt 14 = .ok (.iconst 0, 1) := by decide +kernel
theorem dX7_wrongAt_15 : decode cX7_wrongAt 15 = .ok (.invokevirtual 176, 3) := by decide +kernel
theorem dX7_wrongAt_18 : decode cX7_wrongAt 18 = .ok (.ireturn, 1) := by decide +kernel
def wp_X7_wrongAt (x1 : Int32) (σ : Nat → Int32) (α : Nat → Nat → Int32) (post : Int32 → (Nat → Int32) → (Nat → Nat → Int32) → Prop) : Prop := wp_X7_noType x1 σ α (fun r1 σ2 α3 => (r1 = 0 → (wp_X7_walk x1 (0 : Int32) σ2 α3 (fun r5 σ6 α7 => post r5 σ6 α7))) ∧ (¬ r1 = 0 → (post (0 : Int32) σ2 α3)))
set_option maxHeartbeats 4000000 in
set_option maxRecDepth 100000 in
theorem c_X7_wrongAt (l : Launch) (G : gG) (A : Nat → Prop) {mm : Nat} {rf : Nat → Nat} (hMO : MOk mm rf) (μ0 : Mm) (x1 : Int32) (σ : Nat → Int32) (α : Nat → Nat → Int32) (post : Int32 → (Nat → Int32) → (Nat → Nat → Int32) → Prop) (h : wp_X7_wrongAt x1 σ α post) : Met l yX7_wrongAt (.code yX7_wrongAt cX7_wrongAt 2 (some .int) :: wsA) (rmL (5) 0 0) (PcG G A (mset μ0 mm rf σ α) [.ref mm, .int x1]) (QG G A (pI (pMi μ0 mm rf post))) 0 0 A := by
  refine met_J (loc := [(0, .ref mm), (1, .int x1)]) (by decide +kernel) (Nat.le_of_ble_eq_true rfl) rfl ?_
  intro p e s m args below meth c X hin
  have X : Cx p l s m args meth c cX7_wrongAt 2 (some .int) RX7 G A := X
  have hw := h
  unfold wp_X7_wrongAt at hw
  refine j_aload_n X (pc' := 1) (kk := 0) (i := 0) 0 rfl rfl dX7_wrongAt_0 rfl ?_
  refine j_iload_n X (pc' := 2) (kk := 1) (i := 1) 1 rfl rfl dX7_wrongAt_1 rfl ?_
  refine j_callVi (As := [.int x1]) (rest := []) X (pc' := 5) (cells' := 0) (slots' := 0) (c_X7_noType l G A hMO μ0 x1 σ α _ hw) (gk_X7_noType wt_4_110) hd_X7_noType (rmL_fit (k1 := 2) (k := 5) (by omega) (by decide)) mset_o rfl rfl rfl (Nat.le_of_ble_eq_true rfl) dX7_wrongAt_2 rfl ⟨Nat.le_of_ble_eq_true rfl, Nat.le_of_ble_eq_true rfl⟩ rfl rfl (fun r1 μ11 hw1 => ?_)
  obtain ⟨σ2, α3, rfl, hw2⟩ := hw1
  refine j_if_eq X (pc' := 8) (tgt := 12) dX7_wrongAt_5 rfl (by decide) (fun c4 => ?_) (fun c4 => ?_)
  · have hw3 := hw2.1 c4
    refine j_aload_n X (pc' := 13) (kk := 0) (i := 0) 0 rfl rfl dX7_wrongAt_12 rfl ?_
    refine j_iload_n X (pc' := 14) (kk := 1) (i := 1) 1 rfl rfl dX7_wrongAt_13 rfl ?_
    refine j_iconst X (pc' := 15) (v := 0) (by decide) dX7_wrongAt_14 rfl ?_
    refine j_callVi (As := [.int x1, .int (0 : Int32)]) (rest := []) X (pc' := 18) (cells' := 0) (slots' := 0) (c_X7_walk l G A hMO μ0 x1 (0 : Int32) σ2 α3 _ hw3) (gk_X7_walk wt_4_138) hd_X7_walk (rmL_fit (k1 := 4) (k := 5) (by omega) (by decide)) mset_o rfl rfl rfl (Nat.le_of_ble_eq_true rfl) dX7_wrongAt_15 rfl ⟨Nat.le_of_ble_eq_true rfl, Nat.le_of_ble_eq_true rfl⟩ rfl rfl (fun r5 μ9 hw4 => ?_)
    obtain ⟨σ6, α7, rfl, hw5⟩ := hw4
    exact j_iret X ⟨_, rfl, _, _, rfl, hw5⟩ (Nat.le_of_ble_eq_true rfl) (Nat.le_of_ble_eq_true rfl) dX7_wrongAt_18
  · have hw6 := hw2.2 c4
    refine j_iconst X (pc' := 9) (v := 0) (by decide) dX7_wrongAt_8 rfl ?_
    refine j_goto X (tgt := 18) dX7_wrongAt_9 (by decide) ?_
    exact j_iret X ⟨_, rfl, _, _, rfl, hw6⟩ (Nat.le_of_ble_eq_true rfl) (Nat.le_of_ble_eq_true rfl) dX7_wrongAt_18
/-! BitNotationModel.write(I)I -/
theorem dX7_write_0 : decode cX7_write 0 = .ok (.aload_n 0, 1) := by decide +kernel
theorem dX7_write_1 : decode cX7_write 1 = .ok (.aload_n 0, 1) := by decide +kernel
theorem dX7_write_2 : decode cX7_write 2 = .ok (.iload_n 1, 1) := by decide +kernel
theorem dX7_write_3 : decode cX7_write 3 = .ok (.invokevirtual 120, 3) := by decide +kernel
theorem dX7_write_6 : decode cX7_write 6 = .ok (.ifCond .ne 7, 3) := by decide +kernel
theorem dX7_write_9 : decode cX7_write 9 = .ok (.iconst 1, 1) := by decide +kernel
theorem dX7_write_10 : decode cX7_write 10 = .ok (.goto 17, 3) := by decide +kernel
theorem dX7_write_13 : decode cX7_write 13 = .ok (.aload_n 0, 1) := by decide +kernel
theorem dX7_write_14 : decode cX7_write 14 = .ok (.iload_n 1, 1) := by decide +kernel
theorem dX7_write_15 : decode cX7_write 15 = .ok (.iconst 0, 1) := by decide +kernel
theorem dX7_write_16 : decode cX7_write 16 = .ok (.invokevirtual 176, 3) := by decide +kernel
theorem dX7_write_19 : decode cX7_write 19 = .ok (.ifCond .lt 7, 3) := by decide +kernel
theorem dX7_write_22 : decode cX7_write 22 = .ok (.iconst 2, 1) := by decide +kernel
theorem dX7_write_23 : decode cX7_write 23 = .ok (.goto 4, 3) := by decide +kernel
theorem dX7_write_26 : decode cX7_write 26 = .ok (.iconst 0, 1) := by decide +kernel
theorem dX7_write_27 : decode cX7_write 27 = .ok (.invokevirtual 109, 3) := by decide +kernel
theorem dX7_write_30 : decode cX7_write 30 = .ok (.ifCond .eq 5, 3) := by decide +kernel
theorem dX7_write_33 : decode cX7_write 33 = .ok (.iconst 0, 1) := by decide +kernel
theorem dX7_write_34 : decode cX7_write 34 = .ok (.ireturn, 1) := by decide +kernel
theorem dX7_write_35 : decode cX7_write 35 = .ok (.aload_n 0, 1) := by decide +kernel
theorem dX7_write_36 : decode cX7_write 36 = .ok (.iconst 0, 1) := by decide +kernel
theorem dX7_write_37 : decode cX7_write 37 = .ok (.putfield 145, 3) := by decide +kernel
theorem dX7_write_40 : decode cX7_write 40 = .ok (.aload_n 0, 1) := by decide +kernel
theorem dX7_write_41 : decode cX7_write 41 = .ok (.iload_n 1, 1) := by decide +kernel
theorem dX7_write_42 : decode cX7_write 42 = .ok (.iconst 1, 1) := by decide +kernel
theorem dX7_write_43 : decode cX7_write 43 = .ok (.invokevirtual 176, 3) := by decide +kernel
theorem dX7_write_46 : decode cX7_write 46 = .ok (.pop, 1) := by decide +kernel
theorem dX7_write_47 : decode cX7_write 47 = .ok (.aload_n 0, 1) := by decide +kernel
theorem dX7_write_48 : decode cX7_write 48 = .ok (.getfield 145, 3) := by decide +kernel
theorem dX7_write_51 : decode cX7_write 51 = .ok (.ireturn, 1) := by decide +kernel
def wb_X7_write_27 (post : Int32 → (Nat → Int32) → (Nat → Nat → Int32) → Prop)  (v1 : Int32) (s0 : Int32) (σ : Nat → Int32) (α : Nat → Nat → Int32) : Prop := wp_X7_refused s0 σ α (fun r13 σ14 α15 => (r13 = 0 → (∀ σ17, σ17 = upd σ14 16 (0 : Int32) → wp_X7_walk v1 (1 : Int32) σ17 α15 (fun r19 σ20 α21 => post (σ20 16) σ20 α21))) ∧ (¬ r13 = 0 → (post (0 : Int32) σ14 α15)))
set_option maxHeartbeats 4000000 in
set_option maxRecDepth 100000 in
theorem tb_X7_write_27 {p : Program} {l : Launch} {e : Env} {s : State} {m : MethodId} {args : Array Value} {below : List Frame} {meth : Method} {c : Code} {G : gG} {A : Nat → Prop} {μ0 : Mm} {mm : Nat} {rf : Nat → Nat} {post : Int32 → (Nat → Int32) → (Nat → Nat → Int32) → Prop} (X : Cx p l s m args meth c cX7_write 2 (some .int) RX7 G A) (hMO : MOk mm rf) : ∀ (v1 : Int32) (s0 : Int32) (σ : Nat → Int32) (α : Nat → Nat → Int32), wb_X7_write_27 post v1 s0 σ α → J p l e (rmL (5) 0 0) s m args below meth c 2 G A (MQ below (QG G A (pI (pMi μ0 mm rf post))) args s 0 0 A) 0 0 27 [(0, .ref mm), (1, .int v1)] [.int s0, .ref mm] (mset μ0 mm rf σ α) := by
  intro v1 s0 σ α hw
  unfold wb_X7_write_27 at hw
  refine j_callVi (As := [.int s0]) (rest := []) X (pc' := 30) (cells' := 0) (slots' := 0) (c_X7_refused l G A hMO μ0 s0 σ α _ hw) (gk_X7_refused wt_4_27) hd_X7_refused (rmL_fit (k1 := 0) (k := 5) (by omega) (by decide)) mset_o rfl rfl rfl (Nat.le_of_ble_eq_true rfl) dX7_write_27 rfl ⟨Nat.le_of_ble_eq_true rfl, Nat.le_of_ble_eq_true rfl⟩ rfl rfl (fun r13 μ25 hw1 => ?_)
  obtain ⟨σ14, α15, rfl, hw2⟩ := hw1
  refine j_if_eq X (pc' := 33) (tgt := 35) dX7_write_30 rfl (by decide) (fun c16 => ?_) (fun c16 => ?_)
  · have hw3 := hw2.1 c16
    refine j_aload_n X (pc' := 36) (kk := 0) (i := 0) 0 rfl rfl dX7_write_35 rfl ?_
    refine j_iconst X (pc' := 37) (v := 0) (by decide) dX7_write_36 rfl ?_
    refine jm_putf X (pc' := 40) 16 (mF_set_16 _ _ _) (by decide) rfl wt_3_181 (by decide +kernel) dX7_write_37 rfl (fun σ17 e18 => ?_)
    have hw4 := hw3 σ17 e18
    refine j_aload_n X (pc' := 41) (kk := 0) (i := 0) 0 rfl rfl dX7_write_40 rfl ?_
    refine j_iload_n X (pc' := 42) (kk := 1) (i := 1) 1 rfl rfl dX7_write_41 rfl ?_
    refine j_iconst X (pc' := 43) (v := 1) (by decide) dX7_write_42 rfl ?_
    refine j_callVi (As := [.int v1, .int (1 : Int32)]) (rest := []) X (pc' := 46) (cells' := 0) (slots' := 0) (c_X7_walk l G A hMO μ0 v1 (1 : Int32) σ17 α15 _ hw4) (gk_X7_walk wt_4_138) hd_X7_walk (rmL_fit (k1 := 4) (k := 5) (by omega) (by decide)) mset_o rfl rfl rfl (Nat.le_of_ble_eq_true rfl) dX7_write_43 rfl ⟨Nat.le_of_ble_eq_true rfl, Nat.le_of_ble_eq_true rfl⟩ rfl rfl (fun r19 μ23 hw5 => ?_)
    obtain ⟨σ20, α21, rfl, hw6⟩ := hw5
    refine j_pop X (pc' := 47) rfl dX7_write_46 rfl ?_
    refine j_aload_n X (pc' := 48) (kk := 0) (i := 0) 0 rfl rfl dX7_write_47 rfl ?_
    refine j_getf X (pc' := 51) mset_o 16 rfl rfl fw_TX7 (by decide) wt_3_181 dX7_write_48 rfl ?_
    exact j_iret X ⟨_, rfl, _, _, rfl, hw6⟩ (Nat.le_of_ble_eq_true rfl) (Nat.le_of_ble_eq_true rfl) dX7_write_51
  · have hw7 := hw2.2 c16
    refine j_iconst X (pc' := 34) (v := 0) (by decide) dX7_write_33 rfl ?_
    exact j_iret X ⟨_, rfl, _, _, rfl, hw7⟩ (Nat.le_of_ble_eq_true rfl) (Nat.le_of_ble_eq_true rfl) dX7_write_34
def wp_X7_write (x1 : Int32) (σ : Nat → Int32) (α : Nat → Nat → Int32) (post : Int32 → (Nat → Int32) → (Nat → Nat → Int32) → Prop) : Prop := wp_X7_isType x1 σ α (fun r1 σ2 α3 => (¬ r1 = 0 → (wp_X7_walk x1 (0 : Int32) σ2 α3 (fun r5 σ6 α7 => (r5 < 0 → (wb_X7_write_27 post x1 (0 : Int32) σ6 α7)) ∧ (¬ r5 < 0 → (wb_X7_write_27 post x1 (2 : Int32) σ6 α7))))) ∧ (r1 = 0 → (wb_X7_write_27 post x1 (1 : Int32) σ2 α3)))
set_option maxHeartbeats 4000000 in
set_option maxRecDepth 100000 in
theorem c_X7_write (l : Launch) (G : gG) (A : Nat → Prop) {mm : Nat} {rf : Nat → Nat} (hMO : MOk mm rf) (μ0 : Mm) (x1 : Int32) (σ : Nat → Int32) (α : Nat → Nat → Int32) (post : Int32 → (Nat → Int32) → (Nat → Nat → Int32) → Prop) (h : wp_X7_write x1 σ α post) : Met l yX7_write (.code yX7_write cX7_write 2 (some .int) :: wsA) (rmL (5) 0 0) (PcG G A (mset μ0 mm rf σ α) [.ref mm, .int x1]) (QG G A (pI (pMi μ0 mm rf post))) 0 0 A := by
  refine met_J (loc := [(0, .ref mm), (1, .int x1)]) (by decide +kernel) (Nat.le_of_ble_eq_true rfl) rfl ?_
  intro p e s m args below meth c X hin
  have X : Cx p l s m args meth c cX7_write 2 (some .int) RX7 G A := X
  have hw := h
  unfold wp_X7_write at hw
  refine j_aload_n X (pc' := 1) (kk := 0) (i := 0) 0 rfl rfl dX7_write_0 rfl ?_
  refine j_aload_n X (pc' := 2) (kk := 0) (i := 0) 0 rfl rfl dX7_write_1 rfl ?_
  refine j_iload_n X (pc' := 3) (kk := 1) (i := 1) 1 rfl rfl dX7_write_2 rfl ?_
  refine j_callVi (As := [.int x1]) (rest := [.ref mm]) X (pc' := 6) (cells' := 0) (slots' := 0) (c_X7_isType l G A hMO μ0 x1 σ α _ hw) (gk_X7_isType wt_4_70) hd_X7_isType (rmL_fit (k1 := 1) (k := 5) (by omega) (by decide)) mset_o rfl rfl rfl (Nat.le_of_ble_eq_true rfl) dX7_write_3 rfl ⟨Nat.le_of_ble_eq_true rfl, Nat.le_of_ble_eq_true rfl⟩ rfl rfl (fun r1 μ12 hw1 => ?_)
  obtain ⟨σ2, α3, rfl, hw2⟩ := hw1
  refine j_if_ne X (pc' := 9) (tgt := 13) dX7_write_6 rfl (by decide) (fun c4 => ?_) (fun c4 => ?_)
  · have hw3 := hw2.1 c4
    refine j_aload_n X (pc' := 14) (kk := 0) (i := 0) 0 rfl rfl dX7_write_13 rfl ?_
    refine j_iload_n X (pc' := 15) (kk := 1) (i := 1) 1 rfl rfl dX7_write_14 rfl ?_
    refine j_iconst X (pc' := 16) (v := 0) (by decide) dX7_write_15 rfl ?_
    refine j_callVi (As := [.int x1, .int (0 : Int32)]) (rest := [.ref mm]) X (pc' := 19) (cells' := 0) (slots' := 0) (c_X7_walk l G A hMO μ0 x1 (0 : Int32) σ2 α3 _ hw3) (gk_X7_walk wt_4_138) hd_X7_walk (rmL_fit (k1 := 4) (k := 5) (by omega) (by decide)) mset_o rfl rfl rfl (Nat.le_of_ble_eq_true rfl) dX7_write_16 rfl ⟨Nat.le_of_ble_eq_true rfl, Nat.le_of_ble_eq_true rfl⟩ rfl rfl (fun r5 μ10 hw4 => ?_)
    obtain ⟨σ6, α7, rfl, hw5⟩ := hw4
    refine j_if_lt X (pc' := 22) (tgt := 26) dX7_write_19 rfl (by decide) (fun c8 => ?_) (fun c8 => ?_)
    · have hw6 := hw5.1 c8
      refine j_iconst X (pc' := 27) (v := 0) (by decide) dX7_write_26 rfl ?_
      exact tb_X7_write_27 X hMO _ _ _ _ hw6
    · have hw7 := hw5.2 c8
      refine j_iconst X (pc' := 23) (v := 2) (by decide) dX7_write_22 rfl ?_
      refine j_goto X (tgt := 27) dX7_write_23 (by decide) ?_
      exact tb_X7_write_27 X hMO _ _ _ _ hw7
  · have hw8 := hw2.2 c4
    refine j_iconst X (pc' := 10) (v := 1) (by decide) dX7_write_9 rfl ?_
    refine j_goto X (tgt := 27) dX7_write_10 (by decide) ?_
    exact tb_X7_write_27 X hMO _ _ _ _ hw8
/-! BitNotationModel.bits()I -/
theorem dX7_bits_0 : decode cX7_bits 0 = .ok (.aload_n 0, 1) := by decide +kernel
theorem dX7_bits_1 : decode cX7_bits 1 = .ok (.aload_n 0, 1) := by decide +kernel
theorem dX7_bits_2 : decode cX7_bits 2 = .ok (.getfield 145, 3) := by decide +kernel
theorem dX7_bits_5 : decode cX7_bits 5 = .ok (.invokevirtual 133, 3) := by decide +kernel
theorem dX7_bits_8 : decode cX7_bits 8 = .ok (.ireturn, 1) := by decide +kernel
def wp_X7_bits (σ : Nat → Int32) (α : Nat → Nat → Int32) (post : Int32 → (Nat → Int32) → (Nat → Nat → Int32) → Prop) : Prop := wp_X7_fine (σ 16) σ α (fun r1 σ2 α3 => post r1 σ2 α3)
set_option maxHeartbeats 4000000 in
set_option maxRecDepth 100000 in
theorem c_X7_bits (l : Launch) (G : gG) (A : Nat → Prop) {mm : Nat} {rf : Nat → Nat} (hMO : MOk mm rf) (μ0 : Mm) (σ : Nat → Int32) (α : Nat → Nat → Int32) (post : Int32 → (Nat → Int32) → (Nat → Nat → Int32) → Prop) (h : wp_X7_bits σ α post) : Met l yX7_bits (.code yX7_bits cX7_bits 1 (some .int) :: wsA) (rmL (1) 0 0) (PcG G A (mset μ0 mm rf σ α) [.ref mm]) (QG G A (pI (pMi μ0 mm rf post))) 0 0 A := by
  refine met_J (loc := [(0, .ref mm)]) (by decide +kernel) (Nat.le_of_ble_eq_true rfl) rfl ?_
  intro p e s m args below meth c X hin
  have X : Cx p l s m args meth c cX7_bits 1 (some .int) RX7 G A := X
  have hw := h
  unfold wp_X7_bits at hw
  refine j_aload_n X (pc' := 1) (kk := 0) (i := 0) 0 rfl rfl dX7_bits_0 rfl ?_
  refine j_aload_n X (pc' := 2) (kk := 0) (i := 0) 0 rfl rfl dX7_bits_1 rfl ?_
  refine j_getf X (pc' := 5) mset_o 16 rfl rfl fw_TX7 (by decide) wt_3_181 dX7_bits_2 rfl ?_
  refine j_callVi (As := [.int (σ 16)]) (rest := []) X (pc' := 8) (cells' := 0) (slots' := 0) (c_X7_fine l G A hMO μ0 (σ 16) σ α _ hw) (gk_X7_fine wt_4_102) hd_X7_fine (rmL_fit (k1 := 0) (k := 1) (by omega) (by decide)) mset_o rfl rfl rfl (Nat.le_of_ble_eq_true rfl) dX7_bits_5 rfl ⟨Nat.le_of_ble_eq_true rfl, Nat.le_of_ble_eq_true rfl⟩ rfl rfl (fun r1 μ5 hw1 => ?_)
  obtain ⟨σ2, α3, rfl, hw2⟩ := hw1
  exact j_iret X ⟨_, rfl, _, _, rfl, hw2⟩ (Nat.le_of_ble_eq_true rfl) (Nat.le_of_ble_eq_true rfl) dX7_bits_8
/-! BitNotationModel.noBit(I)Z -/
theorem dX7_noBit_0 : decode cX7_noBit 0 = .ok (.aload_n 0, 1) := by decide +kernel
theorem dX7_noBit_1 : decode cX7_noBit 1 = .ok (.iload_n 1, 1) := by decide +kernel
theorem dX7_noBit_2 : decode cX7_noBit 2 = .ok (.iconst 0, 1) := by decide +kernel
theorem dX7_noBit_3 : decode cX7_noBit 3 = .ok (.aload_n 0, 1) := by decide +kernel
theorem dX7_noBit_4 : decode cX7_noBit 4 = .ok (.getfield 145, 3) := by decide +kernel
theorem dX7_noBit_7 : decode cX7_noBit 7 = .ok (.iconst 1, 1) := by decide +kernel
theorem dX7_noBit_8 : decode cX7_noBit 8 = .ok (.isub, 1) := by decide +kernel
theorem dX7_noBit_9 : decode cX7_noBit 9 = .ok (.invokestatic 80, 3) := by decide +kernel
theorem dX7_noBit_12 : decode cX7_noBit 12 = .ok (.ifCond .eq 7, 3) := by decide +kernel
theorem dX7_noBit_15 : decode cX7_noBit 15 = .ok (.iconst 0, 1) := by decide +kernel
theorem dX7_noBit_16 : decode cX7_noBit 16 = .ok (.goto 4, 3) := by decide +kernel
theorem dX7_noBit_19 : decode cX7_noBit 19 = .ok (.iconst 1, 1) := by decide +kernel
theorem dX7_noBit_20 : decode cX7_noBit 20 = .ok (.invokevirtual 109, 3) := by decide +kernel
theorem dX7_noBit_23 : decode cX7_noBit 23 = .ok (.ireturn, 1) := by decide +kernel
def wb_X7_noBit_20 (post : Int32 → (Nat → Int32) → (Nat → Nat → Int32) → Prop)  (s0 : Int32) (σ : Nat → Int32) (α : Nat → Nat → Int32) : Prop := wp_X7_refused s0 σ α (fun r4 σ5 α6 => (r4 = 0 ∨ r4 = 1) ∧ post r4 σ5 α6)
set_option maxHeartbeats 4000000 in
set_option maxRecDepth 100000 in
theorem tb_X7_noBit_20 {p : Program} {l : Launch} {e : Env} {s : State} {m : MethodId} {args : Array Value} {below : List Frame} {meth : Method} {c : Code} {G : gG} {A : Nat → Prop} {μ0 : Mm} {mm : Nat} {rf : Nat → Nat} {post : Int32 → (Nat → Int32) → (Nat → Nat → Int32) → Prop} (X : Cx p l s m args meth c cX7_noBit 2 (some .boolean) RX7 G A) (hMO : MOk mm rf) : ∀ (s0 : Int32) (σ : Nat → Int32) (α : Nat → Nat → Int32), wb_X7_noBit_20 post s0 σ α → J p l e (rmL (1) 0 0) s m args below meth c 2 G A (MQ below (QG G A (pI (pMi μ0 mm rf post))) args s 0 0 A) 0 0 20 [(0, .ref mm)] [.int s0, .ref mm] (mset μ0 mm rf σ α) := by
  intro s0 σ α hw
  unfold wb_X7_noBit_20 at hw
  refine j_callVi (As := [.int s0]) (rest := []) X (pc' := 23) (cells' := 0) (slots' := 0) (c_X7_refused l G A hMO μ0 s0 σ α _ hw) (gk_X7_refused wt_4_27) hd_X7_refused (rmL_fit (k1 := 0) (k := 1) (by omega) (by decide)) mset_o rfl rfl rfl (Nat.le_of_ble_eq_true rfl) dX7_noBit_20 rfl ⟨Nat.le_of_ble_eq_true rfl, Nat.le_of_ble_eq_true rfl⟩ rfl rfl (fun r4 μ8 hw1 => ?_)
  obtain ⟨σ5, α6, rfl, hw2⟩ := hw1
  have hb := hw2.1
  have hw3 := hw2.2
  exact j_zret X hb ⟨_, rfl, _, _, rfl, hw3⟩ (Nat.le_of_ble_eq_true rfl) (Nat.le_of_ble_eq_true rfl) dX7_noBit_23
def wp_X7_noBit (x1 : Int32) (σ : Nat → Int32) (α : Nat → Nat → Int32) (post : Int32 → (Nat → Int32) → (Nat → Nat → Int32) → Prop) : Prop := wp_X7_in x1 (0 : Int32) ((σ 16) - (1 : Int32)) (fun r1 => (r1 = 0 → (wb_X7_noBit_20 post (1 : Int32) σ α)) ∧ (¬ r1 = 0 → (wb_X7_noBit_20 post (0 : Int32) σ α)))
set_option maxHeartbeats 4000000 in
set_option maxRecDepth 100000 in
theorem c_X7_noBit (l : Launch) (G : gG) (A : Nat → Prop) {mm : Nat} {rf : Nat → Nat} (hMO : MOk mm rf) (μ0 : Mm) (x1 : Int32) (σ : Nat → Int32) (α : Nat → Nat → Int32) (post : Int32 → (Nat → Int32) → (Nat → Nat → Int32) → Prop) (h : wp_X7_noBit x1 σ α post) : Met l yX7_noBit (.code yX7_noBit cX7_noBit 2 (some .boolean) :: wsA) (rmL (1) 0 0) (PcG G A (mset μ0 mm rf σ α) [.ref mm, .int x1]) (QG G A (pI (pMi μ0 mm rf post))) 0 0 A := by
  refine met_J (loc := [(0, .ref mm), (1, .int x1)]) (by decide +kernel) (Nat.le_of_ble_eq_true rfl) rfl ?_
  intro p e s m args below meth c X hin
  have X : Cx p l s m args meth c cX7_noBit 2 (some .boolean) RX7 G A := X
  have hw := h
  unfold wp_X7_noBit at hw
  refine j_aload_n X (pc' := 1) (kk := 0) (i := 0) 0 rfl rfl dX7_noBit_0 rfl ?_
  refine j_iload_n X (pc' := 2) (kk := 1) (i := 1) 1 rfl rfl dX7_noBit_1 rfl ?_
  refine j_iconst X (pc' := 3) (v := 0) (by decide) dX7_noBit_2 rfl ?_
  refine j_aload_n X (pc' := 4) (kk := 0) (i := 0) 0 rfl rfl dX7_noBit_3 rfl ?_
  refine j_getf X (pc' := 7) mset_o 16 rfl rfl fw_TX7 (by decide) wt_3_181 dX7_noBit_4 rfl ?_
  refine j_iconst X (pc' := 8) (v := 1) (by decide) dX7_noBit_7 rfl ?_
  refine j_isub X (pc' := 9) dX7_noBit_8 rfl ?_
  refine j_callSp (As := [.int x1, .int (0 : Int32), .int ((σ 16) - (1 : Int32))]) (rest := [.ref mm]) X (pc' := 12) (cells' := 0) (slots' := 0) (c_X7_in l G A (mset μ0 mm rf σ α) x1 (0 : Int32) ((σ 16) - (1 : Int32)) _ hw) (gk_X7_in wt_4_24) hd_X7_in (rmL_fit (k1 := 0) (k := 1) (by omega) (by decide)) rfl rfl (Nat.le_of_ble_eq_true rfl) dX7_noBit_9 rfl ⟨Nat.le_of_ble_eq_true rfl, Nat.le_of_ble_eq_true rfl⟩ rfl rfl (fun r1 hw1 => ?_)
  refine j_if_eq X (pc' := 15) (tgt := 19) dX7_noBit_12 rfl (by decide) (fun c2 => ?_) (fun c2 => ?_)
  · have hw2 := hw1.1 c2
    refine j_iconst X (pc' := 20) (v := 1) (by decide) dX7_noBit_19 rfl ?_
    refine j_loc [0] rfl ?_
    exact tb_X7_noBit_20 X hMO _ _ _ hw2
  · have hw3 := hw1.2 c2
    refine j_iconst X (pc' := 16) (v := 0) (by decide) dX7_noBit_15 rfl ?_
    refine j_goto X (tgt := 20) dX7_noBit_16 (by decide) ?_
    refine j_loc [0] rfl ?_
    exact tb_X7_noBit_20 X hMO _ _ _ hw3
/-! BitNotationModel.bit(I)I -/
theorem dX7_bit_0 : decode cX7_bit 0 = .ok (.aload_n 0, 1) := by decide +kernel
theorem dX7_bit_1 : decode cX7_bit 1 = .ok (.iload_n 1, 1) := by decide +kernel
theorem dX7_bit_2 : decode cX7_bit 2 = .ok (.invokevirtual 180, 3) := by decide +kernel
theorem dX7_bit_5 : decode cX7_bit 5 = .ok (.ifCond .eq 7, 3) := by decide +kernel
theorem dX7_bit_8 : decode cX7_bit 8 = .ok (.iconst 0, 1) := by decide +kernel
theorem dX7_bit_9 : decode cX7_bit 9 = .ok (.goto 9, 3) := by decide +kernel
theorem dX7_bit_12 : decode cX7_bit 12 = .ok (.aload_n 0, 1) := by decide +kernel
theorem dX7_bit_13 : decode cX7_bit 13 = .ok (.getfield 46, 3) := by decide +kernel
theorem dX7_bit_16 : decode cX7_bit 16 = .ok (.iload_n 1, 1) := by decide +kernel
theorem dX7_bit_17 : decode cX7_bit 17 = .ok (.iaload, 1) := by decide +kernel
theorem dX7_bit_18 : decode cX7_bit 18 = .ok (.ireturn, 1) := by decide +kernel
def wp_X7_bit (x1 : Int32) (σ : Nat → Int32) (α : Nat → Nat → Int32) (post : Int32 → (Nat → Int32) → (Nat → Nat → Int32) → Prop) : Prop := wp_X7_noBit x1 σ α (fun r1 σ2 α3 => (r1 = 0 → (vp_in x1 300 ∧ post (α3 17 x1.toNatClampNeg) σ2 α3)) ∧ (¬ r1 = 0 → (post (0 : Int32) σ2 α3)))
set_option maxHeartbeats 4000000 in
set_option maxRecDepth 100000 in
theorem c_X7_bit (l : Launch) (G : gG) (A : Nat → Prop) {mm : Nat} {rf : Nat → Nat} (hMO : MOk mm rf) (μ0 : Mm) (x1 : Int32) (σ : Nat → Int32) (α : Nat → Nat → Int32) (post : Int32 → (Nat → Int32) → (Nat → Nat → Int32) → Prop) (h : wp_X7_bit x1 σ α post) : Met l yX7_bit (.code yX7_bit cX7_bit 2 (some .int) :: wsA) (rmL (2) 0 0) (PcG G A (mset μ0 mm rf σ α) [.ref mm, .int x1]) (QG G A (pI (pMi μ0 mm rf post))) 0 0 A := by
  refine met_J (loc := [(0, .ref mm), (1, .int x1)]) (by decide +kernel) (Nat.le_of_ble_eq_true rfl) rfl ?_
  intro p e s m args below meth c X hin
  have X : Cx p l s m args meth c cX7_bit 2 (some .int) RX7 G A := X
  have hw := h
  unfold wp_X7_bit at hw
  refine j_aload_n X (pc' := 1) (kk := 0) (i := 0) 0 rfl rfl dX7_bit_0 rfl ?_
  refine j_iload_n X (pc' := 2) (kk := 1) (i := 1) 1 rfl rfl dX7_bit_1 rfl ?_
  refine j_callVi (As := [.int x1]) (rest := []) X (pc' := 5) (cells' := 0) (slots' := 0) (c_X7_noBit l G A hMO μ0 x1 σ α _ hw) (gk_X7_noBit wt_4_178) hd_X7_noBit (rmL_fit (k1 := 1) (k := 2) (by omega) (by decide)) mset_o rfl rfl rfl (Nat.le_of_ble_eq_true rfl) dX7_bit_2 rfl ⟨Nat.le_of_ble_eq_true rfl, Nat.le_of_ble_eq_true rfl⟩ rfl rfl (fun r1 μ7 hw1 => ?_)
  obtain ⟨σ2, α3, rfl, hw2⟩ := hw1
  refine j_if_eq X (pc' := 8) (tgt := 12) dX7_bit_5 rfl (by decide) (fun c4 => ?_) (fun c4 => ?_)
  · have hw3 := hw2.1 c4
    refine j_aload_n X (pc' := 13) (kk := 0) (i := 0) 0 rfl rfl dX7_bit_12 rfl ?_
    refine j_getf X (pc' := 16) mset_o 17 rfl rfl fw_TX7 (by decide) wt_3_182 dX7_bit_13 rfl ?_
    refine j_iload_n X (pc' := 17) (kk := 1) (i := 1) 1 rfl rfl dX7_bit_16 rfl ?_
    have h5 := hw3.1
    have hw4 := hw3.2
    refine j_iald X (pc' := 18) (mset_a hMO 17 (by decide)) h5 dX7_bit_17 rfl ?_
    exact j_iret X ⟨_, rfl, _, _, rfl, hw4⟩ (Nat.le_of_ble_eq_true rfl) (Nat.le_of_ble_eq_true rfl) dX7_bit_18
  · have hw5 := hw2.2 c4
    refine j_iconst X (pc' := 9) (v := 0) (by decide) dX7_bit_8 rfl ?_
    refine j_goto X (tgt := 18) dX7_bit_9 (by decide) ?_
    exact j_iret X ⟨_, rfl, _, _, rfl, hw5⟩ (Nat.le_of_ble_eq_true rfl) (Nat.le_of_ble_eq_true rfl) dX7_bit_18
/-! BitNotationModel.flip(I)I -/
theorem dX7_flip_0 : decode cX7_flip 0 = .ok (.aload_n 0, 1) := by decide +kernel
theorem dX7_flip_1 : decode cX7_flip 1 = .ok (.iload_n 1, 1) := by decide +kernel
theorem dX7_flip_2 : decode cX7_flip 2 = .ok (.invokevirtual 180, 3) := by decide +kernel
theorem dX7_flip_5 : decode cX7_flip 5 = .ok (.ifCond .eq 5, 3) := by decide +kernel
theorem dX7_flip_8 : decode cX7_flip 8 = .ok (.iconst 0, 1) := by decide +kernel
theorem dX7_flip_9 : decode cX7_flip 9 = .ok (.ireturn, 1) := by decide +kernel
theorem dX7_flip_10 : decode cX7_flip 10 = .ok (.aload_n 0, 1) := by decide +kernel
theorem dX7_flip_11 : decode cX7_flip 11 = .ok (.getfield 46, 3) := by decide +kernel
theorem dX7_flip_14 : decode cX7_flip 14 = .ok (.iload_n 1, 1) := by decide +kernel
theorem dX7_flip_15 : decode cX7_flip 15 = .ok (.iconst 1, 1) := by decide +kernel
theorem dX7_flip_16 : decode cX7_flip 16 = .ok (.aload_n 0, 1) := by decide +kernel
theorem dX7_flip_17 : decode cX7_flip 17 = .ok (.getfield 46, 3) := by decide +kernel
theorem dX7_flip_20 : decode cX7_flip 20 = .ok (.iload_n 1, 1) := by decide +kernel
theorem dX7_flip_21 : decode cX7_flip 21 = .ok (.iaload, 1) := by decide +kernel
theorem dX7_flip_22 : decode cX7_flip 22 = .ok (.isub, 1) := by decide +kernel
theorem dX7_flip_23 : decode cX7_flip 23 = .ok (.iastore, 1) := by decide +kernel
theorem dX7_flip_24 : decode cX7_flip 24 = .ok (.aload_n 0, 1) := by decide +kernel
theorem dX7_flip_25 : decode cX7_flip 25 = .ok (.getfield 46, 3) := by decide +kernel
theorem dX7_flip_28 : decode cX7_flip 28 = .ok (.iload_n 1, 1) := by decide +kernel
theorem dX7_flip_29 : decode cX7_flip 29 = .ok (.iaload, 1) := by decide +kernel
theorem dX7_flip_30 : decode cX7_flip 30 = .ok (.ireturn, 1) := by decide +kernel
def wp_X7_flip (x1 : Int32) (σ : Nat → Int32) (α : Nat → Nat → Int32) (post : Int32 → (Nat → Int32) → (Nat → Nat → Int32) → Prop) : Prop := wp_X7_noBit x1 σ α (fun r1 σ2 α3 => (r1 = 0 → (vp_in x1 300 ∧ vp_in x1 300 ∧ ∀ α7, α7 = upA α3 17 (upd (α3 17) x1.toNatClampNeg ((1 : Int32) - (α3 17 x1.toNatClampNeg))) → vp_in x1 300 ∧ post (α7 17 x1.toNatClampNeg) σ2 α7)) ∧ (¬ r1 = 0 → (post (0 : Int32) σ2 α3)))
set_option maxHeartbeats 4000000 in
set_option maxRecDepth 100000 in
theorem c_X7_flip (l : Launch) (G : gG) (A : Nat → Prop) {mm : Nat} {rf : Nat → Nat} (hMO : MOk mm rf) (μ0 : Mm) (x1 : Int32) (σ : Nat → Int32) (α : Nat → Nat → Int32) (post : Int32 → (Nat → Int32) → (Nat → Nat → Int32) → Prop) (h : wp_X7_flip x1 σ α post) : Met l yX7_flip (.code yX7_flip cX7_flip 2 (some .int) :: wsA) (rmL (2) 0 0) (PcG G A (mset μ0 mm rf σ α) [.ref mm, .int x1]) (QG G A (pI (pMi μ0 mm rf post))) 0 0 A := by
  refine met_J (loc := [(0, .ref mm), (1, .int x1)]) (by decide +kernel) (Nat.le_of_ble_eq_true rfl) rfl ?_
  intro p e s m args below meth c X hin
  have X : Cx p l s m args meth c cX7_flip 2 (some .int) RX7 G A := X
  have hw := h
  unfold wp_X7_flip at hw
  refine j_aload_n X (pc' := 1) (kk := 0) (i := 0) 0 rfl rfl dX7_flip_0 rfl ?_
  refine j_iload_n X (pc' := 2) (kk := 1) (i := 1) 1 rfl rfl dX7_flip_1 rfl ?_
  refine j_callVi (As := [.int x1]) (rest := []) X (pc' := 5) (cells' := 0) (slots' := 0) (c_X7_noBit l G A hMO μ0 x1 σ α _ hw) (gk_X7_noBit wt_4_178) hd_X7_noBit (rmL_fit (k1 := 1) (k := 2) (by omega) (by decide)) mset_o rfl rfl rfl (Nat.le_of_ble_eq_true rfl) dX7_flip_2 rfl ⟨Nat.le_of_ble_eq_true rfl, Nat.le_of_ble_eq_true rfl⟩ rfl rfl (fun r1 μ11 hw1 => ?_)
  obtain ⟨σ2, α3, rfl, hw2⟩ := hw1
  refine j_if_eq X (pc' := 8) (tgt := 10) dX7_flip_5 rfl (by decide) (fun c4 => ?_) (fun c4 => ?_)
  · have hw3 := hw2.1 c4
    refine j_aload_n X (pc' := 11) (kk := 0) (i := 0) 0 rfl rfl dX7_flip_10 rfl ?_
    refine j_getf X (pc' := 14) mset_o 17 rfl rfl fw_TX7 (by decide) wt_3_182 dX7_flip_11 rfl ?_
    refine j_iload_n X (pc' := 15) (kk := 1) (i := 1) 1 rfl rfl dX7_flip_14 rfl ?_
    refine j_iconst X (pc' := 16) (v := 1) (by decide) dX7_flip_15 rfl ?_
    refine j_aload_n X (pc' := 17) (kk := 0) (i := 0) 0 rfl rfl dX7_flip_16 rfl ?_
    refine j_getf X (pc' := 20) mset_o 17 rfl rfl fw_TX7 (by decide) wt_3_182 dX7_flip_17 rfl ?_
    refine j_iload_n X (pc' := 21) (kk := 1) (i := 1) 1 rfl rfl dX7_flip_20 rfl ?_
    have h5 := hw3.1
    have hw4 := hw3.2
    refine j_iald X (pc' := 22) (mset_a hMO 17 (by decide)) h5 dX7_flip_21 rfl ?_
    refine j_isub X (pc' := 23) dX7_flip_22 rfl ?_
    have h6 := hw4.1
    have hw5 := hw4.2
    refine jm_iast X (pc' := 24) hMO 17 (by decide) h6 dX7_flip_23 rfl (fun α7 e8 => ?_)
    have hw6 := hw5 α7 e8
    refine j_aload_n X (pc' := 25) (kk := 0) (i := 0) 0 rfl rfl dX7_flip_24 rfl ?_
    refine j_getf X (pc' := 28) mset_o 17 rfl rfl fw_TX7 (by decide) wt_3_182 dX7_flip_25 rfl ?_
    refine j_iload_n X (pc' := 29) (kk := 1) (i := 1) 1 rfl rfl dX7_flip_28 rfl ?_
    have h9 := hw6.1
    have hw7 := hw6.2
    refine j_iald X (pc' := 30) (mset_a hMO 17 (by decide)) h9 dX7_flip_29 rfl ?_
    exact j_iret X ⟨_, rfl, _, _, rfl, hw7⟩ (Nat.le_of_ble_eq_true rfl) (Nat.le_of_ble_eq_true rfl) dX7_flip_30
  · have hw8 := hw2.2 c4
    refine j_iconst X (pc' := 9) (v := 0) (by decide) dX7_flip_8 rfl ?_
    exact j_iret X ⟨_, rfl, _, _, rfl, hw8⟩ (Nat.le_of_ble_eq_true rfl) (Nat.le_of_ble_eq_true rfl) dX7_flip_9
/-! BitNotationModel.cut(I)I -/
theorem dX7_cut_0 : decode cX7_cut 0 = .ok (.aload_n 0, 1) := by decide +kernel
theorem dX7_cut_1 : decode cX7_cut 1 = .ok (.iload_n 1, 1) := by decide +kernel
theorem dX7_cut_2 : decode cX7_cut 2 = .ok (.iconst 0, 1) := by decide +kernel
theorem dX7_cut_3 : decode cX7_cut 3 = .ok (.aload_n 0, 1) := by decide +kernel
theorem dX7_cut_4 : decode cX7_cut 4 = .ok (.getfield 145, 3) := by decide +kernel
theorem dX7_cut_7 : decode cX7_cut 7 = .ok (.invokestatic 80, 3) := by decide +kernel
theorem dX7_cut_10 : decode cX7_cut 10 = .ok (.ifCond .eq 7, 3) := by decide +kernel
theorem dX7_cut_13 : decode cX7_cut 13 = .ok (.iconst 0, 1) := by decide +kernel
theorem dX7_cut_14 : decode cX7_cut 14 = .ok (.goto 4, 3) := by decide +kernel
theorem dX7_cut_17 : decode cX7_cut 17 = .ok (.iconst 1, 1) := by decide +kernel
theorem dX7_cut_18 : decode cX7_cut 18 = .ok (.invokevirtual 109, 3) := by decide +kernel
theorem dX7_cut_21 : decode cX7_cut 21 = .ok (.ifCond .eq 5, 3) := by decide +kernel
theorem dX7_cut_24 : decode cX7_cut 24 = .ok (.iconst 0, 1) := by decide +kernel
theorem dX7_cut_25 : decode cX7_cut 25 = .ok (.ireturn, 1) := by decide +kernel
theorem dX7_cut_26 : decode cX7_cut 26 = .ok (.aload_n 0, 1) := by decide +kernel
theorem dX7_cut_27 : decode cX7_cut 27 = .ok (.getfield 145, 3) := by decide +kernel
theorem dX7_cut_30 : decode cX7_cut 30 = .ok (.iload_n 1, 1) := by decide +kernel
theorem dX7_cut_31 : decode cX7_cut 31 = .ok (.isub, 1) := by decide +kernel
theorem dX7_cut_32 : decode cX7_cut 32 = .ok (.istore_n 2, 1) := by decide +kernel
theorem dX7_cut_33 : decode cX7_cut 33 = .ok (.aload_n 0, 1) := by decide +kernel
theorem dX7_cut_34 : decode cX7_cut 34 = .ok (.iload_n 1, 1) := by decide +kernel
theorem dX7_cut_35 : decode cX7_cut 35 = .ok (.putfield 145, 3) := by decide +kernel
theorem dX7_cut_38 : decode cX7_cut 38 = .ok (.iload_n 2, 1) := by decide +kernel
theorem dX7_cut_39 : decode cX7_cut 39 = .ok (.ireturn, 1) := by decide +kernel
def wb_X7_cut_18 (post : Int32 → (Nat → Int32) → (Nat → Nat → Int32) → Prop)  (v1 : Int32) (s0 : Int32) (σ : Nat → Int32) (α : Nat → Nat → Int32) : Prop := wp_X7_refused s0 σ α (fun r4 σ5 α6 => (r4 = 0 → (∀ σ8, σ8 = upd σ5 16 v1 → post ((σ5 16) - v1) σ8 α6)) ∧ (¬ r4 = 0 → (post (0 : Int32) σ5 α6)))
set_option maxHeartbeats 4000000 in
set_option maxRecDepth 100000 in
theorem tb_X7_cut_18 {p : Program} {l : Launch} {e : Env} {s : State} {m : MethodId} {args : Array Value} {below : List Frame} {meth : Method} {c : Code} {G : gG} {A : Nat → Prop} {μ0 : Mm} {mm : Nat} {rf : Nat → Nat} {post : Int32 → (Nat → Int32) → (Nat → Nat → Int32) → Prop} (X : Cx p l s m args meth c cX7_cut 3 (some .int) RX7 G A) (hMO : MOk mm rf) : ∀ (v1 : Int32) (s0 : Int32) (σ : Nat → Int32) (α : Nat → Nat → Int32), wb_X7_cut_18 post v1 s0 σ α → J p l e (rmL (1) 0 0) s m args below meth c 3 G A (MQ below (QG G A (pI (pMi μ0 mm rf post))) args s 0 0 A) 0 0 18 [(0, .ref mm), (1, .int v1)] [.int s0, .ref mm] (mset μ0 mm rf σ α) := by
  intro v1 s0 σ α hw
  unfold wb_X7_cut_18 at hw
  refine j_callVi (As := [.int s0]) (rest := []) X (pc' := 21) (cells' := 0) (slots' := 0) (c_X7_refused l G A hMO μ0 s0 σ α _ hw) (gk_X7_refused wt_4_27) hd_X7_refused (rmL_fit (k1 := 0) (k := 1) (by omega) (by decide)) mset_o rfl rfl rfl (Nat.le_of_ble_eq_true rfl) dX7_cut_18 rfl ⟨Nat.le_of_ble_eq_true rfl, Nat.le_of_ble_eq_true rfl⟩ rfl rfl (fun r4 μ11 hw1 => ?_)
  obtain ⟨σ5, α6, rfl, hw2⟩ := hw1
  refine j_if_eq X (pc' := 24) (tgt := 26) dX7_cut_21 rfl (by decide) (fun c7 => ?_) (fun c7 => ?_)
  · have hw3 := hw2.1 c7
    refine j_aload_n X (pc' := 27) (kk := 0) (i := 0) 0 rfl rfl dX7_cut_26 rfl ?_
    refine j_getf X (pc' := 30) mset_o 16 rfl rfl fw_TX7 (by decide) wt_3_181 dX7_cut_27 rfl ?_
    refine j_iload_n X (pc' := 31) (kk := 1) (i := 1) 1 rfl rfl dX7_cut_30 rfl ?_
    refine j_isub X (pc' := 32) dX7_cut_31 rfl ?_
    refine j_istore_n X (pc' := 33) (kk := 2) (i := 2) (loc' := [(2, .int ((σ5 16) - v1)), (0, .ref mm), (1, .int v1)]) dX7_cut_32 rfl rfl (by decide) rfl ?_
    refine j_aload_n X (pc' := 34) (kk := 0) (i := 0) 1 rfl rfl dX7_cut_33 rfl ?_
    refine j_iload_n X (pc' := 35) (kk := 1) (i := 1) 2 rfl rfl dX7_cut_34 rfl ?_
    refine jm_putf X (pc' := 38) 16 (mF_set_16 _ _ _) (by decide) rfl wt_3_181 (by decide +kernel) dX7_cut_35 rfl (fun σ8 e9 => ?_)
    have hw4 := hw3 σ8 e9
    refine j_iload_n X (pc' := 39) (kk := 2) (i := 2) 0 rfl rfl dX7_cut_38 rfl ?_
    exact j_iret X ⟨_, rfl, _, _, rfl, hw4⟩ (Nat.le_of_ble_eq_true rfl) (Nat.le_of_ble_eq_true rfl) dX7_cut_39
  · have hw5 := hw2.2 c7
    refine j_iconst X (pc' := 25) (v := 0) (by decide) dX7_cut_24 rfl ?_
    exact j_iret X ⟨_, rfl, _, _, rfl, hw5⟩ (Nat.le_of_ble_eq_true rfl) (Nat.le_of_ble_eq_true rfl) dX7_cut_25
def wp_X7_cut (x1 : Int32) (σ : Nat → Int32) (α : Nat → Nat → Int32) (post : Int32 → (Nat → Int32) → (Nat → Nat → Int32) → Prop) : Prop := wp_X7_in x1 (0 : Int32) (σ 16) (fun r1 => (r1 = 0 → (wb_X7_cut_18 post x1 (1 : Int32) σ α)) ∧ (¬ r1 = 0 → (wb_X7_cut_18 post x1 (0 : Int32) σ α)))
set_option maxHeartbeats 4000000 in
set_option maxRecDepth 100000 in
theorem c_X7_cut (l : Launch) (G : gG) (A : Nat → Prop) {mm : Nat} {rf : Nat → Nat} (hMO : MOk mm rf) (μ0 : Mm) (x1 : Int32) (σ : Nat → Int32) (α : Nat → Nat → Int32) (post : Int32 → (Nat → Int32) → (Nat → Nat → Int32) → Prop) (h : wp_X7_cut x1 σ α post) : Met l yX7_cut (.code yX7_cut cX7_cut 3 (some .int) :: wsA) (rmL (1) 0 0) (PcG G A (mset μ0 mm rf σ α) [.ref mm, .int x1]) (QG G A (pI (pMi μ0 mm rf post))) 0 0 A := by
  refine met_J (loc := [(0, .ref mm), (1, .int x1)]) (by decide +kernel) (Nat.le_of_ble_eq_true rfl) rfl ?_
  intro p e s m args below meth c X hin
  have X : Cx p l s m args meth c cX7_cut 3 (some .int) RX7 G A := X
  have hw := h
  unfold wp_X7_cut at hw
  refine j_aload_n X (pc' := 1) (kk := 0) (i := 0) 0 rfl rfl dX7_cut_0 rfl ?_
  refine j_iload_n X (pc' := 2) (kk := 1) (i := 1) 1 rfl rfl dX7_cut_1 rfl ?_
  refine j_iconst X (pc' := 3) (v := 0) (by decide) dX7_cut_2 rfl ?_
  refine j_aload_n X (pc' := 4) (kk := 0) (i := 0) 0 rfl rfl dX7_cut_3 rfl ?_
  refine j_getf X (pc' := 7) mset_o 16 rfl rfl fw_TX7 (by decide) wt_3_181 dX7_cut_4 rfl ?_
  refine j_callSp (As := [.int x1, .int (0 : Int32), .int (σ 16)]) (rest := [.ref mm]) X (pc' := 10) (cells' := 0) (slots' := 0) (c_X7_in l G A (mset μ0 mm rf σ α) x1 (0 : Int32) (σ 16) _ hw) (gk_X7_in wt_4_24) hd_X7_in (rmL_fit (k1 := 0) (k := 1) (by omega) (by decide)) rfl rfl (Nat.le_of_ble_eq_true rfl) dX7_cut_7 rfl ⟨Nat.le_of_ble_eq_true rfl, Nat.le_of_ble_eq_true rfl⟩ rfl rfl (fun r1 hw1 => ?_)
  refine j_if_eq X (pc' := 13) (tgt := 17) dX7_cut_10 rfl (by decide) (fun c2 => ?_) (fun c2 => ?_)
  · have hw2 := hw1.1 c2
    refine j_iconst X (pc' := 18) (v := 1) (by decide) dX7_cut_17 rfl ?_
    exact tb_X7_cut_18 X hMO _ _ _ _ hw2
  · have hw3 := hw1.2 c2
    refine j_iconst X (pc' := 14) (v := 0) (by decide) dX7_cut_13 rfl ?_
    refine j_goto X (tgt := 18) dX7_cut_14 (by decide) ?_
    exact tb_X7_cut_18 X hMO _ _ _ _ hw3
/-! BitNotationModel.take(I)I -/
theorem dX7_take_0 : decode cX7_take 0 = .ok (.aload_n 0, 1) := by decide +kernel
theorem dX7_take_1 : decode cX7_take 1 = .ok (.getfield 151, 3) := by decide +kernel
theorem dX7_take_4 : decode cX7_take 4 = .ok (.ifCond .lt 5, 3) := by decide +kernel
theorem dX7_take_7 : decode cX7_take 7 = .ok (.iconst 0, 1) := by decide +kernel
theorem dX7_take_8 : decode cX7_take 8 = .ok (.ireturn, 1) := by decide +kernel
theorem dX7_take_9 : decode cX7_take 9 = .ok (.aload_n 0, 1) := by decide +kernel
theorem dX7_take_10 : decode cX7_take 10 = .ok (.getfield 148, 3) := by decide +kernel
theorem dX7_take_13 : decode cX7_take 13 = .ok (.iload_n 1, 1) := by decide +kernel
theorem dX7_take_14 : decode cX7_take 14 = .ok (.iadd, 1) := by decide +kernel
theorem dX7_take_15 : decode cX7_take 15 = .ok (.aload_n 0, 1) := by decide +kernel
theorem dX7_take_16 : decode cX7_take 16 = .ok (.getfield 145, 3) := by decide +kernel
theorem dX7_take_19 : decode cX7_take 19 = .ok (.if_icmp .le 13, 3) := by decide +kernel
theorem dX7_take_22 : decode cX7_take 22 = .ok (.aload_n 0, 1) := by decide +kernel
theorem dX7_take_23 : decode cX7_take 23 = .ok (.aload_n 0, 1) := by decide +kernel
theorem dX7_take_24 : decode cX7_take 24 = .ok (.getfield 145, 3) := by decide +kernel
theorem dX7_take_27 : decode cX7_take 27 = .ok (.putfield 151, 3) := by decide +kernel
theorem dX7_take_30 : decode cX7_take 30 = .ok (.iconst 0, 1) := by decide +kernel
theorem dX7_take_31 : decode cX7_take 31 = .ok (.ireturn, 1) := by decide +kernel
theorem dX7_take_32 : decode cX7_take 32 = .ok (.iconst 0, 1) := by decide +kernel
theorem dX7_take_33 : decode cX7_take 33 = .ok (.istore_n 2, 1) := by decide +kernel
theorem dX7_take_34 : decode cX7_take 34 = .ok (.iconst 0, 1) := by decide +kernel
theorem dX7_take_35 : decode cX7_take 35 = .ok (.istore_n 3, 1) := by decide +kernel
theorem dX7_take_36 : decode cX7_take 36 = .ok (.iload_n 3, 1) := by decide +kernel
theorem dX7_take_37 : decode cX7_take 37 = .ok (.iload_n 1, 1) := by decide +kernel
theorem dX7_take_38 : decode cX7_take 38 = .ok (.if_icmp .ge 33, 3) := by decide +kernel
theorem dX7_take_41 : decode cX7_take 41 = .ok (.iconst 2, 1) := by decide +kernel
theorem dX7_take_42 : decode cX7_take 42 = .ok (.iload_n 2, 1) := by decide +kernel
theorem dX7_take_43 : decode cX7_take 43 = .ok (.imul, 1) := by decide +kernel
theorem dX7_take_44 : decode cX7_take 44 = .ok (.aload_n 0, 1) := by decide +kernel
theorem dX7_take_45 : decode cX7_take 45 = .ok (.getfield 46, 3) := by decide +kernel
theorem dX7_take_48 : decode cX7_take 48 = .ok (.aload_n 0, 1) := by decide +kernel
theorem dX7_take_49 : decode cX7_take 49 = .ok (.getfield 148, 3) := by decide +kernel
theorem dX7_take_52 : decode cX7_take 52 = .ok (.iaload, 1) := by decide +kernel
theorem dX7_take_53 : decode cX7_take 53 = .ok (.iadd, 1) := by decide +kernel
theorem dX7_take_54 : decode cX7_take 54 = .ok (.istore_n 2, 1) := by decide +kernel
theorem dX7_take_55 : decode cX7_take 55 = .ok (.aload_n 0, 1) := by decide +kernel
theorem dX7_take_56 : decode cX7_take 56 = .ok (.dup, 1) := by decide +kernel
theorem dX7_take_57 : decode cX7_take 57 = .ok (.getfield 148, 3) := by decide +kernel
theorem dX7_take_60 : decode cX7_take 60 = .ok (.iconst 1, 1) := by decide +kernel
theorem dX7_take_61 : decode cX7_take 61 = .ok (.iadd, 1) := by decide +kernel
theorem dX7_take_62 : decode cX7_take 62 = .ok (.putfield 148, 3) := by decide +kernel
theorem dX7_take_65 : decode cX7_take 65 = .ok (.iinc 3 1, 3) := by decide +kernel
theorem dX7_take_68 : decode cX7_take 68 = .ok (.goto (-32), 3) := by decide +kernel
theorem dX7_take_71 : decode cX7_take 71 = .ok (.iload_n 2, 1) := by decide +kernel
theorem dX7_take_72 : decode cX7_take 72 = .ok (.ireturn, 1) := by decide +kernel
def wb_X7_take_36 (post : Int32 → (Nat → Int32) → (Nat → Nat → Int32) → Prop)  : Nat → Int32 → Int32 → Int32 → (Nat → Int32) → (Nat → Nat → Int32) → Prop
  | 0 => fun _ _ _ _ _ => False
  | n + 1 => fun v1 v2 v3 σ α => (v1 ≤ v3 → (post v2 σ α)) ∧ (¬ v1 ≤ v3 → (vp_in (σ 28) 300 ∧ ∀ σ7, σ7 = upd σ 28 ((σ 28) + (1 : Int32)) → wb_X7_take_36 post n v1 (((2 : Int32) * v2) + (α 17 (σ 28).toNatClampNeg)) (v3 + 1) σ7 α))
set_option maxHeartbeats 4000000 in
set_option maxRecDepth 100000 in
theorem tb_X7_take_36 {p : Program} {l : Launch} {e : Env} {s : State} {m : MethodId} {args : Array Value} {below : List Frame} {meth : Method} {c : Code} {G : gG} {A : Nat → Prop} {μ0 : Mm} {mm : Nat} {rf : Nat → Nat} {post : Int32 → (Nat → Int32) → (Nat → Nat → Int32) → Prop} (X : Cx p l s m args meth c cX7_take 4 (some .int) RX7 G A) (hMO : MOk mm rf) : ∀ (n : Nat) (v1 : Int32) (v2 : Int32) (v3 : Int32) (σ : Nat → Int32) (α : Nat → Nat → Int32), wb_X7_take_36 post n v1 v2 v3 σ α → J p l e (rmL (0) 0 0) s m args below meth c 4 G A (MQ below (QG G A (pI (pMi μ0 mm rf post))) args s 0 0 A) 0 0 36 [(0, .ref mm), (1, .int v1), (2, .int v2), (3, .int v3)] [] (mset μ0 mm rf σ α) := by
  intro n
  induction n with
  | zero => intro v1 v2 v3 σ α hw; exact hw.elim
  | succ n ih =>
    intro v1 v2 v3 σ α hw
    rw [wb_X7_take_36] at hw
    refine j_iload_n X (pc' := 37) (kk := 3) (i := 3) 3 rfl rfl dX7_take_36 rfl ?_
    refine j_iload_n X (pc' := 38) (kk := 1) (i := 1) 1 rfl rfl dX7_take_37 rfl ?_
    refine j_icmp_ge X (pc' := 41) (tgt := 71) dX7_take_38 rfl (by decide) (fun c5 => ?_) (fun c5 => ?_)
    · have hw1 := hw.1 c5
      refine j_iload_n X (pc' := 72) (kk := 2) (i := 2) 2 rfl rfl dX7_take_71 rfl ?_
      exact j_iret X ⟨_, rfl, _, _, rfl, hw1⟩ (Nat.le_of_ble_eq_true rfl) (Nat.le_of_ble_eq_true rfl) dX7_take_72
    · have hw2 := hw.2 c5
      refine j_iconst X (pc' := 42) (v := 2) (by decide) dX7_take_41 rfl ?_
      refine j_iload_n X (pc' := 43) (kk := 2) (i := 2) 2 rfl rfl dX7_take_42 rfl ?_
      refine j_imul X (pc' := 44) dX7_take_43 rfl ?_
      refine j_aload_n X (pc' := 45) (kk := 0) (i := 0) 0 rfl rfl dX7_take_44 rfl ?_
      refine j_getf X (pc' := 48) mset_o 17 rfl rfl fw_TX7 (by decide) wt_3_182 dX7_take_45 rfl ?_
      refine j_aload_n X (pc' := 49) (kk := 0) (i := 0) 0 rfl rfl dX7_take_48 rfl ?_
      refine j_getf X (pc' := 52) mset_o 28 rfl rfl fw_TX7 (by decide) wt_3_193 dX7_take_49 rfl ?_
      have h6 := hw2.1
      have hw3 := hw2.2
      refine j_iald X (pc' := 53) (mset_a hMO 17 (by decide)) h6 dX7_take_52 rfl ?_
      refine j_iadd X (pc' := 54) dX7_take_53 rfl ?_
      refine j_istore_n X (pc' := 55) (kk := 2) (i := 2) (loc' := [(2, .int (((2 : Int32) * v2) + (α 17 (σ 28).toNatClampNeg))), (0, .ref mm), (1, .int v1), (3, .int v3)]) dX7_take_54 rfl rfl (by decide) rfl ?_
      refine j_aload_n X (pc' := 56) (kk := 0) (i := 0) 1 rfl rfl dX7_take_55 rfl ?_
      refine j_dup X (pc' := 57) rfl dX7_take_56 rfl ?_
      refine j_getf X (pc' := 60) mset_o 28 rfl rfl fw_TX7 (by decide) wt_3_193 dX7_take_57 rfl ?_
      refine j_iconst X (pc' := 61) (v := 1) (by decide) dX7_take_60 rfl ?_
      refine j_iadd X (pc' := 62) dX7_take_61 rfl ?_
      refine jm_putf X (pc' := 65) 28 (mF_set_28 _ _ _) (by decide) rfl wt_3_193 (by decide +kernel) dX7_take_62 rfl (fun σ7 e8 => ?_)
      have hw4 := hw3 σ7 e8
      refine j_iinc X (pc' := 68) (i := 3) (v := v3 + 1) (loc' := [(3, .int (v3 + 1)), (2, .int (((2 : Int32) * v2) + (α 17 (σ 28).toNatClampNeg))), (0, .ref mm), (1, .int v1)]) 3 rfl rfl dX7_take_65 rfl (by decide) rfl ?_
      refine j_goto X (tgt := 36) dX7_take_68 (by decide) ?_
      refine j_loc [2, 3, 1, 0] rfl ?_
      exact ih _ _ _ _ _ hw4
def wp_X7_take (x1 : Int32) (σ : Nat → Int32) (α : Nat → Nat → Int32) (post : Int32 → (Nat → Int32) → (Nat → Nat → Int32) → Prop) : Prop := ((σ 29) < 0 → ((((σ 28) + x1) ≤ (σ 16) → (∃ n, wb_X7_take_36 post n x1 (0 : Int32) (0 : Int32) σ α)) ∧ (¬ ((σ 28) + x1) ≤ (σ 16) → (∀ σ3, σ3 = upd σ 29 (σ 16) → post (0 : Int32) σ3 α)))) ∧ (¬ (σ 29) < 0 → (post (0 : Int32) σ α))
set_option maxHeartbeats 4000000 in
set_option maxRecDepth 100000 in
theorem c_X7_take (l : Launch) (G : gG) (A : Nat → Prop) {mm : Nat} {rf : Nat → Nat} (hMO : MOk mm rf) (μ0 : Mm) (x1 : Int32) (σ : Nat → Int32) (α : Nat → Nat → Int32) (post : Int32 → (Nat → Int32) → (Nat → Nat → Int32) → Prop) (h : wp_X7_take x1 σ α post) : Met l yX7_take (.code yX7_take cX7_take 4 (some .int) :: wsA) (rmL (0) 0 0) (PcG G A (mset μ0 mm rf σ α) [.ref mm, .int x1]) (QG G A (pI (pMi μ0 mm rf post))) 0 0 A := by
  refine met_J (loc := [(0, .ref mm), (1, .int x1)]) (by decide +kernel) (Nat.le_of_ble_eq_true rfl) rfl ?_
  intro p e s m args below meth c X hin
  have X : Cx p l s m args meth c cX7_take 4 (some .int) RX7 G A := X
  have hw := h
  unfold wp_X7_take at hw
  refine j_aload_n X (pc' := 1) (kk := 0) (i := 0) 0 rfl rfl dX7_take_0 rfl ?_
  refine j_getf X (pc' := 4) mset_o 29 rfl rfl fw_TX7 (by decide) wt_3_194 dX7_take_1 rfl ?_
  refine j_if_lt X (pc' := 7) (tgt := 9) dX7_take_4 rfl (by decide) (fun c1 => ?_) (fun c1 => ?_)
  · have hw1 := hw.1 c1
    refine j_aload_n X (pc' := 10) (kk := 0) (i := 0) 0 rfl rfl dX7_take_9 rfl ?_
    refine j_getf X (pc' := 13) mset_o 28 rfl rfl fw_TX7 (by decide) wt_3_193 dX7_take_10 rfl ?_
    refine j_iload_n X (pc' := 14) (kk := 1) (i := 1) 1 rfl rfl dX7_take_13 rfl ?_
    refine j_iadd X (pc' := 15) dX7_take_14 rfl ?_
    refine j_aload_n X (pc' := 16) (kk := 0) (i := 0) 0 rfl rfl dX7_take_15 rfl ?_
    refine j_getf X (pc' := 19) mset_o 16 rfl rfl fw_TX7 (by decide) wt_3_181 dX7_take_16 rfl ?_
    refine j_icmp_le X (pc' := 22) (tgt := 32) dX7_take_19 rfl (by decide) (fun c2 => ?_) (fun c2 => ?_)
    · have hw2 := hw1.1 c2
      refine j_iconst X (pc' := 33) (v := 0) (by decide) dX7_take_32 rfl ?_
      refine j_istore_n X (pc' := 34) (kk := 2) (i := 2) (loc' := [(2, .int ((0 : Int32))), (0, .ref mm), (1, .int x1)]) dX7_take_33 rfl rfl (by decide) rfl ?_
      refine j_iconst X (pc' := 35) (v := 0) (by decide) dX7_take_34 rfl ?_
      refine j_istore_n X (pc' := 36) (kk := 3) (i := 3) (loc' := [(3, .int ((0 : Int32))), (2, .int ((0 : Int32))), (0, .ref mm), (1, .int x1)]) dX7_take_35 rfl rfl (by decide) rfl ?_
      obtain ⟨n0, hw3⟩ := hw2
      refine j_loc [2, 3, 1, 0] rfl ?_
      exact tb_X7_take_36 X hMO n0 _ _ _ _ _ hw3
    · have hw4 := hw1.2 c2
      refine j_aload_n X (pc' := 23) (kk := 0) (i := 0) 0 rfl rfl dX7_take_22 rfl ?_
      refine j_aload_n X (pc' := 24) (kk := 0) (i := 0) 0 rfl rfl dX7_take_23 rfl ?_
      refine j_getf X (pc' := 27) mset_o 16 rfl rfl fw_TX7 (by decide) wt_3_181 dX7_take_24 rfl ?_
      refine jm_putf X (pc' := 30) 29 (mF_set_29 _ _ _) (by decide) rfl wt_3_194 (by decide +kernel) dX7_take_27 rfl (fun σ3 e4 => ?_)
      have hw5 := hw4 σ3 e4
      refine j_iconst X (pc' := 31) (v := 0) (by decide) dX7_take_30 rfl ?_
      exact j_iret X ⟨_, rfl, _, _, rfl, hw5⟩ (Nat.le_of_ble_eq_true rfl) (Nat.le_of_ble_eq_true rfl) dX7_take_31
  · have hw6 := hw.2 c1
    refine j_iconst X (pc' := 8) (v := 0) (by decide) dX7_take_7 rfl ?_
    exact j_iret X ⟨_, rfl, _, _, rfl, hw6⟩ (Nat.le_of_ble_eq_true rfl) (Nat.le_of_ble_eq_true rfl) dX7_take_8
/-! BitNotationModel.takeBelow(II)I -/
theorem dX7_takeBelow_0 : decode cX7_takeBelow 0 = .ok (.aload_n 0, 1) := by decide +kernel
theorem dX7_takeBelow_1 : decode cX7_takeBelow 1 = .ok (.getfield 148, 3) := by decide +kernel
theorem dX7_takeBelow_4 : decode cX7_takeBelow 4 = .ok (.istore_n 3, 1) := by decide +kernel
theorem dX7_takeBelow_5 : decode cX7_takeBelow 5 = .ok (.aload_n 0, 1) := by decide +kernel
theorem dX7_takeBelow_6 : decode cX7_takeBelow 6 = .ok (.iload_n 1, 1) := by decide +kernel
theorem dX7_takeBelow_7 : decode cX7_takeBelow 7 = .ok (.invokevirtual 183, 3) := by decide +kernel
theorem dX7_takeBelow_10 : decode cX7_takeBelow 10 = .ok (.istore 4, 2) := by decide +kernel
theorem dX7_takeBelow_12 : decode cX7_takeBelow 12 = .ok (.aload_n 0, 1) := by decide +kernel
theorem dX7_takeBelow_13 : decode cX7_takeBelow 13 = .ok (.aload_n 0, 1) := by decide +kernel
theorem dX7_takeBelow_14 : decode cX7_takeBelow 14 = .ok (.getfield 151, 3) := by decide +kernel
theorem dX7_takeBelow_17 : decode cX7_takeBelow 17 = .ok (.ifCond .ge 13, 3) := by decide +kernel
theorem dX7_takeBelow_20 : decode cX7_takeBelow 20 = .ok (.iload 4, 2) := by decide +kernel
theorem dX7_takeBelow_22 : decode cX7_takeBelow 22 = .ok (.iload_n 2, 1) := by decide +kernel
theorem dX7_takeBelow_23 : decode cX7_takeBelow 23 = .ok (.if_icmp .lt 7, 3) := by decide +kernel
theorem dX7_takeBelow_26 : decode cX7_takeBelow 26 = .ok (.iload_n 3, 1) := by decide +kernel
theorem dX7_takeBelow_27 : decode cX7_takeBelow 27 = .ok (.goto 7, 3) := by decide +kernel
theorem dX7_takeBelow_30 : decode cX7_takeBelow 30 = .ok (.aload_n 0, 1) := by decide +kernel
theorem dX7_takeBelow_31 : decode cX7_takeBelow 31 = .ok (.getfield 151, 3) := by decide +kernel
theorem dX7_takeBelow_34 : decode cX7_takeBelow 34 = .ok (.putfield 151, 3) := by decide +kernel
theorem dX7_takeBelow_37 : decode cX7_takeBelow 37 = .ok (.aload_n 0, 1) := by decide +kernel
theorem dX7_takeBelow_38 : decode cX7_takeBelow 38 = .ok (.getfield 151, 3) := by decide +kernel
theorem dX7_takeBelow_41 : decode cX7_takeBelow 41 = .ok (.ifCond .lt 7, 3) := by decide +kernel
theorem dX7_takeBelow_44 : decode cX7_takeBelow 44 = .ok (.iconst 0, 1) := by decide +kernel
theorem dX7_takeBelow_45 : decode cX7_takeBelow 45 = .ok (.goto 5, 3) := by decide +kernel
theorem dX7_takeBelow_48 : decode cX7_takeBelow 48 = .ok (.iload 4, 2) := by decide +kernel
theorem dX7_takeBelow_50 : decode cX7_takeBelow 50 = .ok (.ireturn, 1) := by decide +kernel
def wb_X7_takeBelow_34 (post : Int32 → (Nat → Int32) → (Nat → Nat → Int32) → Prop)  (v4 : Int32) (s0 : Int32) (σ : Nat → Int32) (α : Nat → Nat → Int32) : Prop := ∀ σ8, σ8 = upd σ 29 s0 → ((σ8 29) < 0 → (post v4 σ8 α)) ∧ (¬ (σ8 29) < 0 → (post (0 : Int32) σ8 α))
set_option maxHeartbeats 4000000 in
set_option maxRecDepth 100000 in
theorem tb_X7_takeBelow_34 {p : Program} {l : Launch} {e : Env} {s : State} {m : MethodId} {args : Array Value} {below : List Frame} {meth : Method} {c : Code} {G : gG} {A : Nat → Prop} {μ0 : Mm} {mm : Nat} {rf : Nat → Nat} {post : Int32 → (Nat → Int32) → (Nat → Nat → Int32) → Prop} (X : Cx p l s m args meth c cX7_takeBelow 5 (some .int) RX7 G A) (hMO : MOk mm rf) : ∀ (v4 : Int32) (s0 : Int32) (σ : Nat → Int32) (α : Nat → Nat → Int32), wb_X7_takeBelow_34 post v4 s0 σ α → J p l e (rmL (1) 0 0) s m args below meth c 5 G A (MQ below (QG G A (pI (pMi μ0 mm rf post))) args s 0 0 A) 0 0 34 [(0, .ref mm), (4, .int v4)] [.int s0, .ref mm] (mset μ0 mm rf σ α) := by
  intro v4 s0 σ α hw
  unfold wb_X7_takeBelow_34 at hw
  refine jm_putf X (pc' := 37) 29 (mF_set_29 _ _ _) (by decide) rfl wt_3_194 (by decide +kernel) dX7_takeBelow_34 rfl (fun σ8 e9 => ?_)
  have hw1 := hw σ8 e9
  refine j_aload_n X (pc' := 38) (kk := 0) (i := 0) 0 rfl rfl dX7_takeBelow_37 rfl ?_
  refine j_getf X (pc' := 41) mset_o 29 rfl rfl fw_TX7 (by decide) wt_3_194 dX7_takeBelow_38 rfl ?_
  refine j_if_lt X (pc' := 44) (tgt := 48) dX7_takeBelow_41 rfl (by decide) (fun c10 => ?_) (fun c10 => ?_)
  · have hw2 := hw1.1 c10
    refine j_iload X (pc' := 50) (i := 4) 1 rfl dX7_takeBelow_48 rfl ?_
    exact j_iret X ⟨_, rfl, _, _, rfl, hw2⟩ (Nat.le_of_ble_eq_true rfl) (Nat.le_of_ble_eq_true rfl) dX7_takeBelow_50
  · have hw3 := hw1.2 c10
    refine j_iconst X (pc' := 45) (v := 0) (by decide) dX7_takeBelow_44 rfl ?_
    refine j_goto X (tgt := 50) dX7_takeBelow_45 (by decide) ?_
    exact j_iret X ⟨_, rfl, _, _, rfl, hw3⟩ (Nat.le_of_ble_eq_true rfl) (Nat.le_of_ble_eq_true rfl) dX7_takeBelow_50
def wb_X7_takeBelow_30 (post : Int32 → (Nat → Int32) → (Nat → Nat → Int32) → Prop)  (v4 : Int32) (σ : Nat → Int32) (α : Nat → Nat → Int32) : Prop := wb_X7_takeBelow_34 post v4 (σ 29) σ α
set_option maxHeartbeats 4000000 in
set_option maxRecDepth 100000 in
theorem tb_X7_takeBelow_30 {p : Program} {l : Launch} {e : Env} {s : State} {m : MethodId} {args : Array Value} {below : List Frame} {meth : Method} {c : Code} {G : gG} {A : Nat → Prop} {μ0 : Mm} {mm : Nat} {rf : Nat → Nat} {post : Int32 → (Nat → Int32) → (Nat → Nat → Int32) → Prop} (X : Cx p l s m args meth c cX7_takeBelow 5 (some .int) RX7 G A) (hMO : MOk mm rf) : ∀ (v4 : Int32) (σ : Nat → Int32) (α : Nat → Nat → Int32), wb_X7_takeBelow_30 post v4 σ α → J p l e (rmL (1) 0 0) s m args below meth c 5 G A (MQ below (QG G A (pI (pMi μ0 mm rf post))) args s 0 0 A) 0 0 30 [(0, .ref mm), (4, .int v4)] [.ref mm] (mset μ0 mm rf σ α) := by
  intro v4 σ α hw
  unfold wb_X7_takeBelow_30 at hw
  refine j_aload_n X (pc' := 31) (kk := 0) (i := 0) 0 rfl rfl dX7_takeBelow_30 rfl ?_
  refine j_getf X (pc' := 34) mset_o 29 rfl rfl fw_TX7 (by decide) wt_3_194 dX7_takeBelow_31 rfl ?_
  exact tb_X7_takeBelow_34 X hMO _ _ _ _ hw
def wp_X7_takeBelow (x1 : Int32) (x2 : Int32) (σ : Nat → Int32) (α : Nat → Nat → Int32) (post : Int32 → (Nat → Int32) → (Nat → Nat → Int32) → Prop) : Prop := wp_X7_take x1 σ α (fun r1 σ2 α3 => (0 ≤ (σ2 29) → (wb_X7_takeBelow_30 post r1 σ2 α3)) ∧ (¬ 0 ≤ (σ2 29) → ((r1 < x2 → (wb_X7_takeBelow_30 post r1 σ2 α3)) ∧ (¬ r1 < x2 → (wb_X7_takeBelow_34 post r1 (σ 28) σ2 α3)))))
set_option maxHeartbeats 4000000 in
set_option maxRecDepth 100000 in
theorem c_X7_takeBelow (l : Launch) (G : gG) (A : Nat → Prop) {mm : Nat} {rf : Nat → Nat} (hMO : MOk mm rf) (μ0 : Mm) (x1 : Int32) (x2 : Int32) (σ : Nat → Int32) (α : Nat → Nat → Int32) (post : Int32 → (Nat → Int32) → (Nat → Nat → Int32) → Prop) (h : wp_X7_takeBelow x1 x2 σ α post) : Met l yX7_takeBelow (.code yX7_takeBelow cX7_takeBelow 5 (some .int) :: wsA) (rmL (1) 0 0) (PcG G A (mset μ0 mm rf σ α) [.ref mm, .int x1, .int x2]) (QG G A (pI (pMi μ0 mm rf post))) 0 0 A := by
  refine met_J (loc := [(0, .ref mm), (1, .int x1), (2, .int x2)]) (by decide +kernel) (Nat.le_of_ble_eq_true rfl) rfl ?_
  intro p e s m args below meth c X hin
  have X : Cx p l s m args meth c cX7_takeBelow 5 (some .int) RX7 G A := X
  have hw := h
  unfold wp_X7_takeBelow at hw
  refine j_aload_n X (pc' := 1) (kk := 0) (i := 0) 0 rfl rfl dX7_takeBelow_0 rfl ?_
  refine j_getf X (pc' := 4) mset_o 28 rfl rfl fw_TX7 (by decide) wt_3_193 dX7_takeBelow_1 rfl ?_
  refine j_istore_n X (pc' := 5) (kk := 3) (i := 3) (loc' := [(3, .int (σ 28)), (0, .ref mm), (1, .int x1), (2, .int x2)]) dX7_takeBelow_4 rfl rfl (by decide) rfl ?_
  refine j_aload_n X (pc' := 6) (kk := 0) (i := 0) 1 rfl rfl dX7_takeBelow_5 rfl ?_
  refine j_iload_n X (pc' := 7) (kk := 1) (i := 1) 2 rfl rfl dX7_takeBelow_6 rfl ?_
  refine j_callVi (As := [.int x1]) (rest := []) X (pc' := 10) (cells' := 0) (slots' := 0) (c_X7_take l G A hMO μ0 x1 σ α _ hw) (gk_X7_take wt_4_206) hd_X7_take (rmL_fit (k1 := 0) (k := 1) (by omega) (by decide)) mset_o rfl rfl rfl (Nat.le_of_ble_eq_true rfl) dX7_takeBelow_7 rfl ⟨Nat.le_of_ble_eq_true rfl, Nat.le_of_ble_eq_true rfl⟩ rfl rfl (fun r1 μ7 hw1 => ?_)
  obtain ⟨σ2, α3, rfl, hw2⟩ := hw1
  refine j_istore X (pc' := 12) (i := 4) (loc' := [(4, .int r1), (3, .int (σ 28)), (0, .ref mm), (1, .int x1), (2, .int x2)]) dX7_takeBelow_10 rfl (by decide) rfl ?_
  refine j_aload_n X (pc' := 13) (kk := 0) (i := 0) 2 rfl rfl dX7_takeBelow_12 rfl ?_
  refine j_aload_n X (pc' := 14) (kk := 0) (i := 0) 2 rfl rfl dX7_takeBelow_13 rfl ?_
  refine j_getf X (pc' := 17) mset_o 29 rfl rfl fw_TX7 (by decide) wt_3_194 dX7_takeBelow_14 rfl ?_
  refine j_if_ge X (pc' := 20) (tgt := 30) dX7_takeBelow_17 rfl (by decide) (fun c4 => ?_) (fun c4 => ?_)
  · have hw3 := hw2.1 c4
    refine j_loc [2, 0] rfl ?_
    exact tb_X7_takeBelow_30 X hMO _ _ _ hw3
  · have hw4 := hw2.2 c4
    refine j_iload X (pc' := 22) (i := 4) 0 rfl dX7_takeBelow_20 rfl ?_
    refine j_iload_n X (pc' := 23) (kk := 2) (i := 2) 4 rfl rfl dX7_takeBelow_22 rfl ?_
    refine j_icmp_lt X (pc' := 26) (tgt := 30) dX7_takeBelow_23 rfl (by decide) (fun c5 => ?_) (fun c5 => ?_)
    · have hw5 := hw4.1 c5
      refine j_loc [2, 0] rfl ?_
      exact tb_X7_takeBelow_30 X hMO _ _ _ hw5
    · have hw6 := hw4.2 c5
      refine j_iload_n X (pc' := 27) (kk := 3) (i := 3) 1 rfl rfl dX7_takeBelow_26 rfl ?_
      refine j_goto X (tgt := 34) dX7_takeBelow_27 (by decide) ?_
      refine j_loc [2, 0] rfl ?_
      exact tb_X7_takeBelow_34 X hMO _ _ _ _ hw6
/-! BitNotationModel.note(I)V -/
theorem dX7_note_0 : decode cX7_note 0 = .ok (.aload_n 0, 1) := by decide +kernel
theorem dX7_note_1 : decode cX7_note 1 = .ok (.getfield 49, 3) := by decide +kernel
theorem dX7_note_4 : decode cX7_note 4 = .ok (.aload_n 0, 1) := by decide +kernel
theorem dX7_note_5 : decode cX7_note 5 = .ok (.getfield 186, 3) := by decide +kernel
theorem dX7_note_8 : decode cX7_note 8 = .ok (.iload_n 1, 1) := by decide +kernel
theorem dX7_note_9 : decode cX7_note 9 = .ok (.iastore, 1) := by decide +kernel
theorem dX7_note_10 : decode cX7_note 10 = .ok (.aload_n 0, 1) := by decide +kernel
theorem dX7_note_11 : decode cX7_note 11 = .ok (.dup, 1) := by decide +kernel
theorem dX7_note_12 : decode cX7_note 12 = .ok (.getfield 186, 3) := by decide +kernel
theorem dX7_note_15 : decode cX7_note 15 = .ok (.iconst 1, 1) := by decide +kernel
theorem dX7_note_16 : decode cX7_note 16 = .ok (.iadd, 1) := by decide +kernel
theorem dX7_note_17 : decode cX7_note 17 = .ok (.putfield 186, 3) := by decide +kernel
theorem dX7_note_20 : decode cX7_note 20 = .ok (.return_, 1) := by decide +kernel
def wp_X7_note (x1 : Int32) (σ : Nat → Int32) (α : Nat → Nat → Int32) (post : (Nat → Int32) → (Nat → Nat → Int32) → Prop) : Prop := vp_in (σ 18) 300 ∧ ∀ α2, α2 = upA α 19 (upd (α 19) (σ 18).toNatClampNeg x1) → ∀ σ4, σ4 = upd σ 18 ((σ 18) + (1 : Int32)) → post σ4 α2
set_option maxHeartbeats 4000000 in
set_option maxRecDepth 100000 in
theorem c_X7_note (l : Launch) (G : gG) (A : Nat → Prop) {mm : Nat} {rf : Nat → Nat} (hMO : MOk mm rf) (μ0 : Mm) (x1 : Int32) (σ : Nat → Int32) (α : Nat → Nat → Int32) (post : (Nat → Int32) → (Nat → Nat → Int32) → Prop) (h : wp_X7_note x1 σ α post) : Met l yX7_note (.code yX7_note cX7_note 2 none :: wsA) (rmL (0) 0 0) (PcG G A (mset μ0 mm rf σ α) [.ref mm, .int x1]) (QG G A (pV (pMv μ0 mm rf post))) 0 0 A := by
  refine met_J (loc := [(0, .ref mm), (1, .int x1)]) (by decide +kernel) (Nat.le_of_ble_eq_true rfl) rfl ?_
  intro p e s m args below meth c X hin
  have X : Cx p l s m args meth c cX7_note 2 none RX7 G A := X
  have hw := h
  unfold wp_X7_note at hw
  refine j_aload_n X (pc' := 1) (kk := 0) (i := 0) 0 rfl rfl dX7_note_0 rfl ?_
  refine j_getf X (pc' := 4) mset_o 19 rfl rfl fw_TX7 (by decide) wt_3_184 dX7_note_1 rfl ?_
  refine j_aload_n X (pc' := 5) (kk := 0) (i := 0) 0 rfl rfl dX7_note_4 rfl ?_
  refine j_getf X (pc' := 8) mset_o 18 rfl rfl fw_TX7 (by decide) wt_3_183 dX7_note_5 rfl ?_
  refine j_iload_n X (pc' := 9) (kk := 1) (i := 1) 1 rfl rfl dX7_note_8 rfl ?_
  have h1 := hw.1
  have hw1 := hw.2
  refine jm_iast X (pc' := 10) hMO 19 (by decide) h1 dX7_note_9 rfl (fun α2 e3 => ?_)
  have hw2 := hw1 α2 e3
  refine j_aload_n X (pc' := 11) (kk := 0) (i := 0) 0 rfl rfl dX7_note_10 rfl ?_
  refine j_dup X (pc' := 12) rfl dX7_note_11 rfl ?_
  refine j_getf X (pc' := 15) mset_o 18 rfl rfl fw_TX7 (by decide) wt_3_183 dX7_note_12 rfl ?_
  refine j_iconst X (pc' := 16) (v := 1) (by decide) dX7_note_15 rfl ?_
  refine j_iadd X (pc' := 17) dX7_note_16 rfl ?_
  refine jm_putf X (pc' := 20) 18 (mF_set_18 _ _ _) (by decide) rfl wt_3_183 (by decide +kernel) dX7_note_17 rfl (fun σ4 e5 => ?_)
  have hw3 := hw2 σ4 e5
  exact j_vret X ⟨rfl, _, _, rfl, hw3⟩ (Nat.le_of_ble_eq_true rfl) (Nat.le_of_ble_eq_true rfl) dX7_note_20
/-! BitNotationModel.headOfBits(II)V -/
theorem dX7_headOfBits_0 : decode cX7_headOfBits 0 = .ok (.aload_n 0, 1) := by decide +kernel
theorem dX7_headOfBits_1 : decode cX7_headOfBits 1 = .ok (.getfield 61, 3) := by decide +kernel
theorem dX7_headOfBits_4 : decode cX7_headOfBits 4 = .ok (.iload_n 2, 1) := by decide +kernel
theorem dX7_headOfBits_5 : decode cX7_headOfBits 5 = .ok (.aload_n 0, 1) := by decide +kernel
theorem dX7_headOfBits_6 : decode cX7_headOfBits 6 = .ok (.iconst 1, 1) := by decide +kernel
theorem dX7_headOfBits_7 : decode cX7_headOfBits 7 = .ok (.invokevirtual 183, 3) := by decide +kernel
theorem dX7_headOfBits_10 : decode cX7_headOfBits 10 = .ok (.iastore, 1) := by decide +kernel
theorem dX7_headOfBits_11 : decode cX7_headOfBits 11 = .ok (.aload_n 0, 1) := by decide +kernel
theorem dX7_headOfBits_12 : decode cX7_headOfBits 12 = .ok (.getfield 58, 3) := by decide +kernel
theorem dX7_headOfBits_15 : decode cX7_headOfBits 15 = .ok (.iload_n 2, 1) := by decide +kernel
theorem dX7_headOfBits_16 : decode cX7_headOfBits 16 = .ok (.iconst 0, 1) := by decide +kernel
theorem dX7_headOfBits_17 : decode cX7_headOfBits 17 = .ok (.iastore, 1) := by decide +kernel
theorem dX7_headOfBits_18 : decode cX7_headOfBits 18 = .ok (.iconst 0, 1) := by decide +kernel
theorem dX7_headOfBits_19 : decode cX7_headOfBits 19 = .ok (.istore_n 3, 1) := by decide +kernel
theorem dX7_headOfBits_20 : decode cX7_headOfBits 20 = .ok (.iload_n 3, 1) := by decide +kernel
theorem dX7_headOfBits_21 : decode cX7_headOfBits 21 = .ok (.aload_n 0, 1) := by decide +kernel
theorem dX7_headOfBits_22 : decode cX7_headOfBits 22 = .ok (.getfield 22, 3) := by decide +kernel
theorem dX7_headOfBits_25 : decode cX7_headOfBits 25 = .ok (.iload_n 1, 1) := by decide +kernel
theorem dX7_headOfBits_26 : decode cX7_headOfBits 26 = .ok (.iaload, 1) := by decide +kernel
theorem dX7_headOfBits_27 : decode cX7_headOfBits 27 = .ok (.if_icmp .ge 57, 3) := by decide +kernel
theorem dX7_headOfBits_30 : decode cX7_headOfBits 30 = .ok (.aload_n 0, 1) := by decide +kernel
theorem dX7_headOfBits_31 : decode cX7_headOfBits 31 = .ok (.iload_n 1, 1) := by decide +kernel
theorem dX7_headOfBits_32 : decode cX7_headOfBits 32 = .ok (.iload_n 3, 1) := by decide +kernel
theorem dX7_headOfBits_33 : decode cX7_headOfBits 33 = .ok (.invokevirtual 88, 3) := by decide +kernel
theorem dX7_headOfBits_36 : decode cX7_headOfBits 36 = .ok (.istore 4, 2) := by decide +kernel
theorem dX7_headOfBits_38 : decode cX7_headOfBits 38 = .ok (.iload 4, 2) := by decide +kernel
theorem dX7_headOfBits_40 : decode cX7_headOfBits 40 = .ok (.ifCond .eq 11, 3) := by decide +kernel
theorem dX7_headOfBits_43 : decode cX7_headOfBits 43 = .ok (.aload_n 0, 1) := by decide +kernel
theorem dX7_headOfBits_44 : decode cX7_headOfBits 44 = .ok (.iconst 1, 1) := by decide +kernel
theorem dX7_headOfBits_45 : decode cX7_headOfBits 45 = .ok (.invokevirtual 183, 3) := by decide +kernel
theorem dX7_headOfBits_48 : decode cX7_headOfBits 48 = .ok (.goto 4, 3) := by decide +kernel
theorem dX7_headOfBits_51 : decode cX7_headOfBits 51 = .ok (.iconst 1, 1) := by decide +kernel
theorem dX7_headOfBits_52 : decode cX7_headOfBits 52 = .ok (.istore 5, 2) := by decide +kernel
theorem dX7_headOfBits_54 : decode cX7_headOfBits 54 = .ok (.aload_n 0, 1) := by decide +kernel
theorem dX7_headOfBits_55 : decode cX7_headOfBits 55 = .ok (.getfield 58, 3) := by decide +kernel
theorem dX7_headOfBits_58 : decode cX7_headOfBits 58 = .ok (.iload_n 2, 1) := by decide +kernel
theorem dX7_headOfBits_59 : decode cX7_headOfBits 59 = .ok (.dup2, 1) := by decide +kernel
theorem dX7_headOfBits_60 : decode cX7_headOfBits 60 = .ok (.iaload, 1) := by decide +kernel
theorem dX7_headOfBits_61 : decode cX7_headOfBits 61 = .ok (.iload 5, 2) := by decide +kernel
theorem dX7_headOfBits_63 : decode cX7_headOfBits 63 = .ok (.iload_n 3, 1) := by decide +kernel
theorem dX7_headOfBits_64 : decode cX7_headOfBits 64 = .ok (.ishl, 1) := by decide +kernel
theorem dX7_headOfBits_65 : decode cX7_headOfBits 65 = .ok (.ior, 1) := by decide +kernel
theorem dX7_headOfBits_66 : decode cX7_headOfBits 66 = .ok (.iastore, 1) := by decide +kernel
theorem dX7_headOfBits_67 : decode cX7_headOfBits 67 = .ok (.iload 4, 2) := by decide +kernel
theorem dX7_headOfBits_69 : decode cX7_headOfBits 69 = .ok (.ifCond .eq 9, 3) := by decide +kernel
theorem dX7_headOfBits_72 : decode cX7_headOfBits 72 = .ok (.aload_n 0, 1) := by decide +kernel
theorem dX7_headOfBits_73 : decode cX7_headOfBits 73 = .ok (.iload 5, 2) := by decide +kernel
theorem dX7_headOfBits_75 : decode cX7_headOfBits 75 = .ok (.invokevirtual 199, 3) := by decide +kernel
theorem dX7_headOfBits_78 : decode cX7_headOfBits 78 = .ok (.iinc 3 1, 3) := by decide +kernel
theorem dX7_headOfBits_81 : decode cX7_headOfBits 81 = .ok (.goto (-61), 3) := by decide +kernel
theorem dX7_headOfBits_84 : decode cX7_headOfBits 84 = .ok (.aload_n 0, 1) := by decide +kernel
theorem dX7_headOfBits_85 : decode cX7_headOfBits 85 = .ok (.getfield 70, 3) := by decide +kernel
theorem dX7_headOfBits_88 : decode cX7_headOfBits 88 = .ok (.iload_n 2, 1) := by decide +kernel
theorem dX7_headOfBits_89 : decode cX7_headOfBits 89 = .ok (.aload_n 0, 1) := by decide +kernel
theorem dX7_headOfBits_90 : decode cX7_headOfBits 90 = .ok (.getfield 186, 3) := by decide +kernel
theorem dX7_headOfBits_93 : decode cX7_headOfBits 93 = .ok (.iastore, 1) := by decide +kernel
theorem dX7_headOfBits_94 : decode cX7_headOfBits 94 = .ok (.aload_n 0, 1) := by decide +kernel
theorem dX7_headOfBits_95 : decode cX7_headOfBits 95 = .ok (.iconst 0, 1) := by decide +kernel
theorem dX7_headOfBits_96 : decode cX7_headOfBits 96 = .ok (.invokevirtual 199, 3) := by decide +kernel
theorem dX7_headOfBits_99 : decode cX7_headOfBits 99 = .ok (.return_, 1) := by decide +kernel
def wb_X7_headOfBits_52 (post : (Nat → Int32) → (Nat → Nat → Int32) → Prop) (K20 : Int32 → Int32 → Int32 → (Nat → Int32) → (Nat → Nat → Int32) → Prop) (v1 : Int32) (v2 : Int32) (v3 : Int32) (v4 : Int32) (s0 : Int32) (σ : Nat → Int32) (α : Nat → Nat → Int32) : Prop := vp_in v2 20 ∧ vp_in v2 20 ∧ ∀ α35, α35 = upA α 23 (upd (α 23) v2.toNatClampNeg ((α 23 v2.toNatClampNeg) ||| (s0 <<< (v3 &&& 31)))) → (v4 = 0 → (K20 v1 v2 (v3 + 1) σ α35)) ∧ (¬ v4 = 0 → (wp_X7_note s0 σ α35 (fun σ39 α40 => K20 v1 v2 (v3 + 1) σ39 α40)))
set_option maxHeartbeats 4000000 in
set_option maxRecDepth 100000 in
theorem tb_X7_headOfBits_52 {p : Program} {l : Launch} {e : Env} {s : State} {m : MethodId} {args : Array Value} {below : List Frame} {meth : Method} {c : Code} {G : gG} {A : Nat → Prop} {μ0 : Mm} {mm : Nat} {rf : Nat → Nat} {post : (Nat → Int32) → (Nat → Nat → Int32) → Prop} {K20 : Int32 → Int32 → Int32 → (Nat → Int32) → (Nat → Nat → Int32) → Prop} (X : Cx p l s m args meth c cX7_headOfBits 6 none RX7 G A) (hMO : MOk mm rf) (hK20 : ∀ (v1 : Int32) (v2 : Int32) (v3 : Int32) (σ : Nat → Int32) (α : Nat → Nat → Int32), K20 v1 v2 v3 σ α → J p l e (rmL (1) 0 0) s m args below meth c 6 G A (MQ below (QG G A (pV (pMv μ0 mm rf post))) args s 0 0 A) 0 0 20 [(0, .ref mm), (1, .int v1), (2, .int v2), (3, .int v3)] [] (mset μ0 mm rf σ α)) : ∀ (v1 : Int32) (v2 : Int32) (v3 : Int32) (v4 : Int32) (s0 : Int32) (σ : Nat → Int32) (α : Nat → Nat → Int32), wb_X7_headOfBits_52 post K20 v1 v2 v3 v4 s0 σ α → J p l e (rmL (1) 0 0) s m args below meth c 6 G A (MQ below (QG G A (pV (pMv μ0 mm rf post))) args s 0 0 A) 0 0 52 [(0, .ref mm), (1, .int v1), (2, .int v2), (3, .int v3), (4, .int v4)] [.int s0] (mset μ0 mm rf σ α) := by
  intro v1 v2 v3 v4 s0 σ α hw
  unfold wb_X7_headOfBits_52 at hw
  refine j_istore X (pc' := 54) (i := 5) (loc' := [(5, .int s0), (0, .ref mm), (1, .int v1), (2, .int v2), (3, .int v3), (4, .int v4)]) dX7_headOfBits_52 rfl (by decide) rfl ?_
  refine j_aload_n X (pc' := 55) (kk := 0) (i := 0) 1 rfl rfl dX7_headOfBits_54 rfl ?_
  refine j_getf X (pc' := 58) mset_o 23 rfl rfl fw_TX7 (by decide) wt_3_188 dX7_headOfBits_55 rfl ?_
  refine j_iload_n X (pc' := 59) (kk := 2) (i := 2) 3 rfl rfl dX7_headOfBits_58 rfl ?_
  refine j_dup2 X (pc' := 60) rfl rfl dX7_headOfBits_59 rfl ?_
  have h33 := hw.1
  have hw1 := hw.2
  refine j_iald X (pc' := 61) (mset_a hMO 23 (by decide)) h33 dX7_headOfBits_60 rfl ?_
  refine j_iload X (pc' := 63) (i := 5) 0 rfl dX7_headOfBits_61 rfl ?_
  refine j_iload_n X (pc' := 64) (kk := 3) (i := 3) 4 rfl rfl dX7_headOfBits_63 rfl ?_
  refine j_ishl X (pc' := 65) dX7_headOfBits_64 rfl ?_
  refine j_ior X (pc' := 66) dX7_headOfBits_65 rfl ?_
  have h34 := hw1.1
  have hw2 := hw1.2
  refine jm_iast X (pc' := 67) hMO 23 (by decide) h34 dX7_headOfBits_66 rfl (fun α35 e36 => ?_)
  have hw3 := hw2 α35 e36
  refine j_iload X (pc' := 69) (i := 4) 5 rfl dX7_headOfBits_67 rfl ?_
  refine j_if_eq X (pc' := 72) (tgt := 78) dX7_headOfBits_69 rfl (by decide) (fun c37 => ?_) (fun c37 => ?_)
  · have hw4 := hw3.1 c37
    refine j_iinc X (pc' := 81) (i := 3) (v := v3 + 1) (loc' := [(3, .int (v3 + 1)), (5, .int s0), (0, .ref mm), (1, .int v1), (2, .int v2), (4, .int v4)]) 4 rfl rfl dX7_headOfBits_78 rfl (by decide) rfl ?_
    refine j_goto X (tgt := 20) dX7_headOfBits_81 (by decide) ?_
    refine j_loc [2, 3, 4, 0] rfl ?_
    exact hK20 _ _ _ _ _ hw4
  · have hw5 := hw3.2 c37
    refine j_aload_n X (pc' := 73) (kk := 0) (i := 0) 1 rfl rfl dX7_headOfBits_72 rfl ?_
    refine j_iload X (pc' := 75) (i := 5) 0 rfl dX7_headOfBits_73 rfl ?_
    refine j_callVv (As := [.int s0]) (rest := []) X (pc' := 78) (cells' := 0) (slots' := 0) (c_X7_note l G A hMO μ0 s0 σ α35 _ hw5) (gk_X7_note wt_4_210) hd_X7_note (rmL_fit (k1 := 0) (k := 1) (by omega) (by decide)) mset_o rfl rfl rfl (Nat.le_of_ble_eq_true rfl) dX7_headOfBits_75 rfl ⟨Nat.le_of_ble_eq_true rfl, Nat.le_of_ble_eq_true rfl⟩ rfl rfl (fun μ42 hw6 => ?_)
    obtain ⟨σ39, α40, rfl, hw7⟩ := hw6
    refine j_iinc X (pc' := 81) (i := 3) (v := v3 + 1) (loc' := [(3, .int (v3 + 1)), (5, .int s0), (0, .ref mm), (1, .int v1), (2, .int v2), (4, .int v4)]) 4 rfl rfl dX7_headOfBits_78 rfl (by decide) rfl ?_
    refine j_goto X (tgt := 20) dX7_headOfBits_81 (by decide) ?_
    refine j_loc [2, 3, 4, 0] rfl ?_
    exact hK20 _ _ _ _ _ hw7
def wb_X7_headOfBits_20 (post : (Nat → Int32) → (Nat → Nat → Int32) → Prop)  : Nat → Int32 → Int32 → Int32 → (Nat → Int32) → (Nat → Nat → Int32) → Prop
  | 0 => fun _ _ _ _ _ => False
  | n + 1 => fun v1 v2 v3 σ α => vp_in v1 16 ∧ ((α 6 v1.toNatClampNeg) ≤ v3 → (vp_in v2 20 ∧ ∀ α15, α15 = upA α 27 (upd (α 27) v2.toNatClampNeg (σ 18)) → wp_X7_note (0 : Int32) σ α15 (fun σ18 α19 => post σ18 α19))) ∧ (¬ (α 6 v1.toNatClampNeg) ≤ v3 → (wp_X7_isOptional v1 v3 σ α (fun r22 σ23 α24 => (r22 = 0 → (wb_X7_headOfBits_52 post (wb_X7_headOfBits_20 post n) v1 v2 v3 r22 (1 : Int32) σ23 α24)) ∧ (¬ r22 = 0 → (wp_X7_take (1 : Int32) σ23 α24 (fun r26 σ27 α28 => wb_X7_headOfBits_52 post (wb_X7_headOfBits_20 post n) v1 v2 v3 r22 r26 σ27 α28))))))
set_option maxHeartbeats 4000000 in
set_option maxRecDepth 100000 in
theorem tb_X7_headOfBits_20 {p : Program} {l : Launch} {e : Env} {s : State} {m : MethodId} {args : Array Value} {below : List Frame} {meth : Method} {c : Code} {G : gG} {A : Nat → Prop} {μ0 : Mm} {mm : Nat} {rf : Nat → Nat} {post : (Nat → Int32) → (Nat → Nat → Int32) → Prop} (X : Cx p l s m args meth c cX7_headOfBits 6 none RX7 G A) (hMO : MOk mm rf) : ∀ (n : Nat) (v1 : Int32) (v2 : Int32) (v3 : Int32) (σ : Nat → Int32) (α : Nat → Nat → Int32), wb_X7_headOfBits_20 post n v1 v2 v3 σ α → J p l e (rmL (1) 0 0) s m args below meth c 6 G A (MQ below (QG G A (pV (pMv μ0 mm rf post))) args s 0 0 A) 0 0 20 [(0, .ref mm), (1, .int v1), (2, .int v2), (3, .int v3)] [] (mset μ0 mm rf σ α) := by
  intro n
  induction n with
  | zero => intro v1 v2 v3 σ α hw; exact hw.elim
  | succ n ih =>
    intro v1 v2 v3 σ α hw
    rw [wb_X7_headOfBits_20] at hw
    refine j_iload_n X (pc' := 21) (kk := 3) (i := 3) 3 rfl rfl dX7_headOfBits_20 rfl ?_
    refine j_aload_n X (pc' := 22) (kk := 0) (i := 0) 0 rfl rfl dX7_headOfBits_21 rfl ?_
    refine j_getf X (pc' := 25) mset_o 6 rfl rfl fw_TX7 (by decide) wt_3_171 dX7_headOfBits_22 rfl ?_
    refine j_iload_n X (pc' := 26) (kk := 1) (i := 1) 1 rfl rfl dX7_headOfBits_25 rfl ?_
    have h12 := hw.1
    have hw1 := hw.2
    refine j_iald X (pc' := 27) (mset_a hMO 6 (by decide)) h12 dX7_headOfBits_26 rfl ?_
    refine j_icmp_ge X (pc' := 30) (tgt := 84) dX7_headOfBits_27 rfl (by decide) (fun c13 => ?_) (fun c13 => ?_)
    · have hw2 := hw1.1 c13
      refine j_aload_n X (pc' := 85) (kk := 0) (i := 0) 0 rfl rfl dX7_headOfBits_84 rfl ?_
      refine j_getf X (pc' := 88) mset_o 27 rfl rfl fw_TX7 (by decide) wt_3_192 dX7_headOfBits_85 rfl ?_
      refine j_iload_n X (pc' := 89) (kk := 2) (i := 2) 2 rfl rfl dX7_headOfBits_88 rfl ?_
      refine j_aload_n X (pc' := 90) (kk := 0) (i := 0) 0 rfl rfl dX7_headOfBits_89 rfl ?_
      refine j_getf X (pc' := 93) mset_o 18 rfl rfl fw_TX7 (by decide) wt_3_183 dX7_headOfBits_90 rfl ?_
      have h14 := hw2.1
      have hw3 := hw2.2
      refine jm_iast X (pc' := 94) hMO 27 (by decide) h14 dX7_headOfBits_93 rfl (fun α15 e16 => ?_)
      have hw4 := hw3 α15 e16
      refine j_aload_n X (pc' := 95) (kk := 0) (i := 0) 0 rfl rfl dX7_headOfBits_94 rfl ?_
      refine j_iconst X (pc' := 96) (v := 0) (by decide) dX7_headOfBits_95 rfl ?_
      refine j_callVv (As := [.int (0 : Int32)]) (rest := []) X (pc' := 99) (cells' := 0) (slots' := 0) (c_X7_note l G A hMO μ0 (0 : Int32) σ α15 _ hw4) (gk_X7_note wt_4_210) hd_X7_note (rmL_fit (k1 := 0) (k := 1) (by omega) (by decide)) mset_o rfl rfl rfl (Nat.le_of_ble_eq_true rfl) dX7_headOfBits_96 rfl ⟨Nat.le_of_ble_eq_true rfl, Nat.le_of_ble_eq_true rfl⟩ rfl rfl (fun μ21 hw5 => ?_)
      obtain ⟨σ18, α19, rfl, hw6⟩ := hw5
      exact j_vret X ⟨rfl, _, _, rfl, hw6⟩ (Nat.le_of_ble_eq_true rfl) (Nat.le_of_ble_eq_true rfl) dX7_headOfBits_99
    · have hw7 := hw1.2 c13
      refine j_aload_n X (pc' := 31) (kk := 0) (i := 0) 0 rfl rfl dX7_headOfBits_30 rfl ?_
      refine j_iload_n X (pc' := 32) (kk := 1) (i := 1) 1 rfl rfl dX7_headOfBits_31 rfl ?_
      refine j_iload_n X (pc' := 33) (kk := 3) (i := 3) 3 rfl rfl dX7_headOfBits_32 rfl ?_
      refine j_callVi (As := [.int v1, .int v3]) (rest := []) X (pc' := 36) (cells' := 0) (slots' := 0) (c_X7_isOptional l G A hMO μ0 v1 v3 σ α _ hw7) (gk_X7_isOptional wt_4_47) hd_X7_isOptional (rmL_fit (k1 := 0) (k := 1) (by omega) (by decide)) mset_o rfl rfl rfl (Nat.le_of_ble_eq_true rfl) dX7_headOfBits_33 rfl ⟨Nat.le_of_ble_eq_true rfl, Nat.le_of_ble_eq_true rfl⟩ rfl rfl (fun r22 μ32 hw8 => ?_)
      obtain ⟨σ23, α24, rfl, hw9⟩ := hw8
      refine j_istore X (pc' := 38) (i := 4) (loc' := [(4, .int r22), (0, .ref mm), (1, .int v1), (2, .int v2), (3, .int v3)]) dX7_headOfBits_36 rfl (by decide) rfl ?_
      refine j_iload X (pc' := 40) (i := 4) 0 rfl dX7_headOfBits_38 rfl ?_
      refine j_if_eq X (pc' := 43) (tgt := 51) dX7_headOfBits_40 rfl (by decide) (fun c25 => ?_) (fun c25 => ?_)
      · have hw10 := hw9.1 c25
        refine j_iconst X (pc' := 52) (v := 1) (by decide) dX7_headOfBits_51 rfl ?_
        refine j_loc [1, 2, 3, 4, 0] rfl ?_
        exact tb_X7_headOfBits_52 X hMO ih _ _ _ _ _ _ _ hw10
      · have hw11 := hw9.2 c25
        refine j_aload_n X (pc' := 44) (kk := 0) (i := 0) 1 rfl rfl dX7_headOfBits_43 rfl ?_
        refine j_iconst X (pc' := 45) (v := 1) (by decide) dX7_headOfBits_44 rfl ?_
        refine j_callVi (As := [.int (1 : Int32)]) (rest := []) X (pc' := 48) (cells' := 0) (slots' := 0) (c_X7_take l G A hMO μ0 (1 : Int32) σ23 α24 _ hw11) (gk_X7_take wt_4_206) hd_X7_take (rmL_fit (k1 := 0) (k := 1) (by omega) (by decide)) mset_o rfl rfl rfl (Nat.le_of_ble_eq_true rfl) dX7_headOfBits_45 rfl ⟨Nat.le_of_ble_eq_true rfl, Nat.le_of_ble_eq_true rfl⟩ rfl rfl (fun r26 μ30 hw12 => ?_)
        obtain ⟨σ27, α28, rfl, hw13⟩ := hw12
        refine j_goto X (tgt := 52) dX7_headOfBits_48 (by decide) ?_
        refine j_loc [1, 2, 3, 4, 0] rfl ?_
        exact tb_X7_headOfBits_52 X hMO ih _ _ _ _ _ _ _ hw13
def wp_X7_headOfBits (x1 : Int32) (x2 : Int32) (σ : Nat → Int32) (α : Nat → Nat → Int32) (post : (Nat → Int32) → (Nat → Nat → Int32) → Prop) : Prop := wp_X7_take (1 : Int32) σ α (fun r1 σ2 α3 => vp_in x2 20 ∧ ∀ α5, α5 = upA α3 24 (upd (α3 24) x2.toNatClampNeg r1) → vp_in x2 20 ∧ ∀ α8, α8 = upA α5 23 (upd (α5 23) x2.toNatClampNeg (0 : Int32)) → ∃ n, wb_X7_headOfBits_20 post n x1 x2 (0 : Int32) σ2 α8)
set_option maxHeartbeats 4000000 in
set_option maxRecDepth 100000 in
theorem c_X7_headOfBits (l : Launch) (G : gG) (A : Nat → Prop) {mm : Nat} {rf : Nat → Nat} (hMO : MOk mm rf) (μ0 : Mm) (x1 : Int32) (x2 : Int32) (σ : Nat → Int32) (α : Nat → Nat → Int32) (post : (Nat → Int32) → (Nat → Nat → Int32) → Prop) (h : wp_X7_headOfBits x1 x2 σ α post) : Met l yX7_headOfBits (.code yX7_headOfBits cX7_headOfBits 6 none :: wsA) (rmL (1) 0 0) (PcG G A (mset μ0 mm rf σ α) [.ref mm, .int x1, .int x2]) (QG G A (pV (pMv μ0 mm rf post))) 0 0 A := by
  refine met_J (loc := [(0, .ref mm), (1, .int x1), (2, .int x2)]) (by decide +kernel) (Nat.le_of_ble_eq_true rfl) rfl ?_
  intro p e s m args below meth c X hin
  have X : Cx p l s m args meth c cX7_headOfBits 6 none RX7 G A := X
  have hw := h
  unfold wp_X7_headOfBits at hw
  refine j_aload_n X (pc' := 1) (kk := 0) (i := 0) 0 rfl rfl dX7_headOfBits_0 rfl ?_
  refine j_getf X (pc' := 4) mset_o 24 rfl rfl fw_TX7 (by decide) wt_3_189 dX7_headOfBits_1 rfl ?_
  refine j_iload_n X (pc' := 5) (kk := 2) (i := 2) 2 rfl rfl dX7_headOfBits_4 rfl ?_
  refine j_aload_n X (pc' := 6) (kk := 0) (i := 0) 0 rfl rfl dX7_headOfBits_5 rfl ?_
  refine j_iconst X (pc' := 7) (v := 1) (by decide) dX7_headOfBits_6 rfl ?_
  refine j_callVi (As := [.int (1 : Int32)]) (rest := [.int x2, .ref (rf 24)]) X (pc' := 10) (cells' := 0) (slots' := 0) (c_X7_take l G A hMO μ0 (1 : Int32) σ α _ hw) (gk_X7_take wt_4_206) hd_X7_take (rmL_fit (k1 := 0) (k := 1) (by omega) (by decide)) mset_o rfl rfl rfl (Nat.le_of_ble_eq_true rfl) dX7_headOfBits_7 rfl ⟨Nat.le_of_ble_eq_true rfl, Nat.le_of_ble_eq_true rfl⟩ rfl rfl (fun r1 μ11 hw1 => ?_)
  obtain ⟨σ2, α3, rfl, hw2⟩ := hw1
  have h4 := hw2.1
  have hw3 := hw2.2
  refine jm_iast X (pc' := 11) hMO 24 (by decide) h4 dX7_headOfBits_10 rfl (fun α5 e6 => ?_)
  have hw4 := hw3 α5 e6
  refine j_aload_n X (pc' := 12) (kk := 0) (i := 0) 0 rfl rfl dX7_headOfBits_11 rfl ?_
  refine j_getf X (pc' := 15) mset_o 23 rfl rfl fw_TX7 (by decide) wt_3_188 dX7_headOfBits_12 rfl ?_
  refine j_iload_n X (pc' := 16) (kk := 2) (i := 2) 2 rfl rfl dX7_headOfBits_15 rfl ?_
  refine j_iconst X (pc' := 17) (v := 0) (by decide) dX7_headOfBits_16 rfl ?_
  have h7 := hw4.1
  have hw5 := hw4.2
  refine jm_iast X (pc' := 18) hMO 23 (by decide) h7 dX7_headOfBits_17 rfl (fun α8 e9 => ?_)
  have hw6 := hw5 α8 e9
  refine j_iconst X (pc' := 19) (v := 0) (by decide) dX7_headOfBits_18 rfl ?_
  refine j_istore_n X (pc' := 20) (kk := 3) (i := 3) (loc' := [(3, .int ((0 : Int32))), (0, .ref mm), (1, .int x1), (2, .int x2)]) dX7_headOfBits_19 rfl rfl (by decide) rfl ?_
  obtain ⟨n0, hw7⟩ := hw6
  refine j_loc [1, 2, 3, 0] rfl ?_
  exact tb_X7_headOfBits_20 X hMO n0 _ _ _ _ _ hw7
/-! BitNotationModel.skip(I)V -/
theorem dX7_skip_0 : decode cX7_skip 0 = .ok (.aload_n 0, 1) := by decide +kernel
theorem dX7_skip_1 : decode cX7_skip 1 = .ok (.getfield 151, 3) := by decide +kernel
theorem dX7_skip_4 : decode cX7_skip 4 = .ok (.ifCond .ge 24, 3) := by decide +kernel
theorem dX7_skip_7 : decode cX7_skip 7 = .ok (.aload_n 0, 1) := by decide +kernel
theorem dX7_skip_8 : decode cX7_skip 8 = .ok (.getfield 148, 3) := by decide +kernel
theorem dX7_skip_11 : decode cX7_skip 11 = .ok (.iload_n 1, 1) := by decide +kernel
theorem dX7_skip_12 : decode cX7_skip 12 = .ok (.iadd, 1) := by decide +kernel
theorem dX7_skip_13 : decode cX7_skip 13 = .ok (.aload_n 0, 1) := by decide +kernel
theorem dX7_skip_14 : decode cX7_skip 14 = .ok (.getfield 145, 3) := by decide +kernel
theorem dX7_skip_17 : decode cX7_skip 17 = .ok (.if_icmp .le 11, 3) := by decide +kernel
theorem dX7_skip_20 : decode cX7_skip 20 = .ok (.aload_n 0, 1) := by decide +kernel
theorem dX7_skip_21 : decode cX7_skip 21 = .ok (.aload_n 0, 1) := by decide +kernel
theorem dX7_skip_22 : decode cX7_skip 22 = .ok (.getfield 145, 3) := by decide +kernel
theorem dX7_skip_25 : decode cX7_skip 25 = .ok (.putfield 151, 3) := by decide +kernel
theorem dX7_skip_28 : decode cX7_skip 28 = .ok (.aload_n 0, 1) := by decide +kernel
theorem dX7_skip_29 : decode cX7_skip 29 = .ok (.dup, 1) := by decide +kernel
theorem dX7_skip_30 : decode cX7_skip 30 = .ok (.getfield 148, 3) := by decide +kernel
theorem dX7_skip_33 : decode cX7_skip 33 = .ok (.aload_n 0, 1) := by decide +kernel
theorem dX7_skip_34 : decode cX7_skip 34 = .ok (.getfield 151, 3) := by decide +kernel
theorem dX7_skip_37 : decode cX7_skip 37 = .ok (.ifCond .ge 7, 3) := by decide +kernel
theorem dX7_skip_40 : decode cX7_skip 40 = .ok (.iload_n 1, 1) := by decide +kernel
theorem dX7_skip_41 : decode cX7_skip 41 = .ok (.goto 4, 3) := by decide +kernel
theorem dX7_skip_44 : decode cX7_skip 44 = .ok (.iconst 0, 1) := by decide +kernel
theorem dX7_skip_45 : decode cX7_skip 45 = .ok (.iadd, 1) := by decide +kernel
theorem dX7_skip_46 : decode cX7_skip 46 = .ok (.putfield 148, 3) := by decide +kernel
theorem dX7_skip_49 : decode cX7_skip 49 = .ok (.return_, 1) := by decide +kernel
def wb_X7_skip_45 (post : (Nat → Int32) → (Nat → Nat → Int32) → Prop)  (s0 : Int32) (s1 : Int32) (σ : Nat → Int32) (α : Nat → Nat → Int32) : Prop := ∀ σ6, σ6 = upd σ 28 (s1 + s0) → post σ6 α
set_option maxHeartbeats 4000000 in
set_option maxRecDepth 100000 in
theorem tb_X7_skip_45 {p : Program} {l : Launch} {e : Env} {s : State} {m : MethodId} {args : Array Value} {below : List Frame} {meth : Method} {c : Code} {G : gG} {A : Nat → Prop} {μ0 : Mm} {mm : Nat} {rf : Nat → Nat} {post : (Nat → Int32) → (Nat → Nat → Int32) → Prop} (X : Cx p l s m args meth c cX7_skip 2 none RX7 G A) (hMO : MOk mm rf) : ∀ (s0 : Int32) (s1 : Int32) (σ : Nat → Int32) (α : Nat → Nat → Int32), wb_X7_skip_45 post s0 s1 σ α → J p l e (rmL (0) 0 0) s m args below meth c 2 G A (MQ below (QG G A (pV (pMv μ0 mm rf post))) args s 0 0 A) 0 0 45 [(0, .ref mm)] [.int s0, .int s1, .ref mm] (mset μ0 mm rf σ α) := by
  intro s0 s1 σ α hw
  unfold wb_X7_skip_45 at hw
  refine j_iadd X (pc' := 46) dX7_skip_45 rfl ?_
  refine jm_putf X (pc' := 49) 28 (mF_set_28 _ _ _) (by decide) rfl wt_3_193 (by decide +kernel) dX7_skip_46 rfl (fun σ6 e7 => ?_)
  have hw1 := hw σ6 e7
  exact j_vret X ⟨rfl, _, _, rfl, hw1⟩ (Nat.le_of_ble_eq_true rfl) (Nat.le_of_ble_eq_true rfl) dX7_skip_49
def wb_X7_skip_28 (post : (Nat → Int32) → (Nat → Nat → Int32) → Prop)  (v1 : Int32) (σ : Nat → Int32) (α : Nat → Nat → Int32) : Prop := (0 ≤ (σ 29) → (wb_X7_skip_45 post (0 : Int32) (σ 28) σ α)) ∧ (¬ 0 ≤ (σ 29) → (wb_X7_skip_45 post v1 (σ 28) σ α))
set_option maxHeartbeats 4000000 in
set_option maxRecDepth 100000 in
theorem tb_X7_skip_28 {p : Program} {l : Launch} {e : Env} {s : State} {m : MethodId} {args : Array Value} {below : List Frame} {meth : Method} {c : Code} {G : gG} {A : Nat → Prop} {μ0 : Mm} {mm : Nat} {rf : Nat → Nat} {post : (Nat → Int32) → (Nat → Nat → Int32) → Prop} (X : Cx p l s m args meth c cX7_skip 2 none RX7 G A) (hMO : MOk mm rf) : ∀ (v1 : Int32) (σ : Nat → Int32) (α : Nat → Nat → Int32), wb_X7_skip_28 post v1 σ α → J p l e (rmL (0) 0 0) s m args below meth c 2 G A (MQ below (QG G A (pV (pMv μ0 mm rf post))) args s 0 0 A) 0 0 28 [(0, .ref mm), (1, .int v1)] [] (mset μ0 mm rf σ α) := by
  intro v1 σ α hw
  unfold wb_X7_skip_28 at hw
  refine j_aload_n X (pc' := 29) (kk := 0) (i := 0) 0 rfl rfl dX7_skip_28 rfl ?_
  refine j_dup X (pc' := 30) rfl dX7_skip_29 rfl ?_
  refine j_getf X (pc' := 33) mset_o 28 rfl rfl fw_TX7 (by decide) wt_3_193 dX7_skip_30 rfl ?_
  refine j_aload_n X (pc' := 34) (kk := 0) (i := 0) 0 rfl rfl dX7_skip_33 rfl ?_
  refine j_getf X (pc' := 37) mset_o 29 rfl rfl fw_TX7 (by decide) wt_3_194 dX7_skip_34 rfl ?_
  refine j_if_ge X (pc' := 40) (tgt := 44) dX7_skip_37 rfl (by decide) (fun c5 => ?_) (fun c5 => ?_)
  · have hw1 := hw.1 c5
    refine j_iconst X (pc' := 45) (v := 0) (by decide) dX7_skip_44 rfl ?_
    refine j_loc [0] rfl ?_
    exact tb_X7_skip_45 X hMO _ _ _ _ hw1
  · have hw2 := hw.2 c5
    refine j_iload_n X (pc' := 41) (kk := 1) (i := 1) 1 rfl rfl dX7_skip_40 rfl ?_
    refine j_goto X (tgt := 45) dX7_skip_41 (by decide) ?_
    refine j_loc [0] rfl ?_
    exact tb_X7_skip_45 X hMO _ _ _ _ hw2
def wp_X7_skip (x1 : Int32) (σ : Nat → Int32) (α : Nat → Nat → Int32) (post : (Nat → Int32) → (Nat → Nat → Int32) → Prop) : Prop := (0 ≤ (σ 29) → (wb_X7_skip_28 post x1 σ α)) ∧ (¬ 0 ≤ (σ 29) → ((((σ 28) + x1) ≤ (σ 16) → (wb_X7_skip_28 post x1 σ α)) ∧ (¬ ((σ 28) + x1) ≤ (σ 16) → (∀ σ3, σ3 = upd σ 29 (σ 16) → wb_X7_skip_28 post x1 σ3 α))))
set_option maxHeartbeats 4000000 in
set_option maxRecDepth 100000 in
theorem c_X7_skip (l : Launch) (G : gG) (A : Nat → Prop) {mm : Nat} {rf : Nat → Nat} (hMO : MOk mm rf) (μ0 : Mm) (x1 : Int32) (σ : Nat → Int32) (α : Nat → Nat → Int32) (post : (Nat → Int32) → (Nat → Nat → Int32) → Prop) (h : wp_X7_skip x1 σ α post) : Met l yX7_skip (.code yX7_skip cX7_skip 2 none :: wsA) (rmL (0) 0 0) (PcG G A (mset μ0 mm rf σ α) [.ref mm, .int x1]) (QG G A (pV (pMv μ0 mm rf post))) 0 0 A := by
  refine met_J (loc := [(0, .ref mm), (1, .int x1)]) (by decide +kernel) (Nat.le_of_ble_eq_true rfl) rfl ?_
  intro p e s m args below meth c X hin
  have X : Cx p l s m args meth c cX7_skip 2 none RX7 G A := X
  have hw := h
  unfold wp_X7_skip at hw
  refine j_aload_n X (pc' := 1) (kk := 0) (i := 0) 0 rfl rfl dX7_skip_0 rfl ?_
  refine j_getf X (pc' := 4) mset_o 29 rfl rfl fw_TX7 (by decide) wt_3_194 dX7_skip_1 rfl ?_
  refine j_if_ge X (pc' := 7) (tgt := 28) dX7_skip_4 rfl (by decide) (fun c1 => ?_) (fun c1 => ?_)
  · have hw1 := hw.1 c1
    exact tb_X7_skip_28 X hMO _ _ _ hw1
  · have hw2 := hw.2 c1
    refine j_aload_n X (pc' := 8) (kk := 0) (i := 0) 0 rfl rfl dX7_skip_7 rfl ?_
    refine j_getf X (pc' := 11) mset_o 28 rfl rfl fw_TX7 (by decide) wt_3_193 dX7_skip_8 rfl ?_
    refine j_iload_n X (pc' := 12) (kk := 1) (i := 1) 1 rfl rfl dX7_skip_11 rfl ?_
    refine j_iadd X (pc' := 13) dX7_skip_12 rfl ?_
    refine j_aload_n X (pc' := 14) (kk := 0) (i := 0) 0 rfl rfl dX7_skip_13 rfl ?_
    refine j_getf X (pc' := 17) mset_o 16 rfl rfl fw_TX7 (by decide) wt_3_181 dX7_skip_14 rfl ?_
    refine j_icmp_le X (pc' := 20) (tgt := 28) dX7_skip_17 rfl (by decide) (fun c2 => ?_) (fun c2 => ?_)
    · have hw3 := hw2.1 c2
      exact tb_X7_skip_28 X hMO _ _ _ hw3
    · have hw4 := hw2.2 c2
      refine j_aload_n X (pc' := 21) (kk := 0) (i := 0) 0 rfl rfl dX7_skip_20 rfl ?_
      refine j_aload_n X (pc' := 22) (kk := 0) (i := 0) 0 rfl rfl dX7_skip_21 rfl ?_
      refine j_getf X (pc' := 25) mset_o 16 rfl rfl fw_TX7 (by decide) wt_3_181 dX7_skip_22 rfl ?_
      refine jm_putf X (pc' := 28) 29 (mF_set_29 _ _ _) (by decide) rfl wt_3_194 (by decide +kernel) dX7_skip_25 rfl (fun σ3 e4 => ?_)
      have hw5 := hw4 σ3 e4
      exact tb_X7_skip_28 X hMO _ _ _ hw5
/-! BitNotationModel.sequenceOfBits(IIII)V -/
theorem dX7_sequenceOfBits_0 : decode cX7_sequenceOfBits 0 = .ok (.aload_n 0, 1) := by decide +kernel
theorem dX7_sequenceOfBits_1 : decode cX7_sequenceOfBits 1 = .ok (.getfield 64, 3) := by decide +kernel
theorem dX7_sequenceOfBits_4 : decode cX7_sequenceOfBits 4 = .ok (.iload_n 2, 1) := by decide +kernel
theorem dX7_sequenceOfBits_5 : decode cX7_sequenceOfBits 5 = .ok (.iaload, 1) := by decide +kernel
theorem dX7_sequenceOfBits_6 : decode cX7_sequenceOfBits 6 = .ok (.ifCond .lt 34, 3) := by decide +kernel
theorem dX7_sequenceOfBits_9 : decode cX7_sequenceOfBits 9 = .ok (.aload_n 0, 1) := by decide +kernel
theorem dX7_sequenceOfBits_10 : decode cX7_sequenceOfBits 10 = .ok (.getfield 148, 3) := by decide +kernel
theorem dX7_sequenceOfBits_13 : decode cX7_sequenceOfBits 13 = .ok (.aload_n 0, 1) := by decide +kernel
theorem dX7_sequenceOfBits_14 : decode cX7_sequenceOfBits 14 = .ok (.getfield 64, 3) := by decide +kernel
theorem dX7_sequenceOfBits_17 : decode cX7_sequenceOfBits 17 = .ok (.iload_n 2, 1) := by decide +kernel
theorem dX7_sequenceOfBits_18 : decode cX7_sequenceOfBits 18 = .ok (.iaload, 1) := by decide +kernel
theorem dX7_sequenceOfBits_19 : decode cX7_sequenceOfBits 19 = .ok (.isub, 1) := by decide +kernel
theorem dX7_sequenceOfBits_20 : decode cX7_sequenceOfBits 20 = .ok (.aload_n 0, 1) := by decide +kernel
theorem dX7_sequenceOfBits_21 : decode cX7_sequenceOfBits 21 = .ok (.getfield 67, 3) := by decide +kernel
theorem dX7_sequenceOfBits_24 : decode cX7_sequenceOfBits 24 = .ok (.iload_n 2, 1) := by decide +kernel
theorem dX7_sequenceOfBits_25 : decode cX7_sequenceOfBits 25 = .ok (.iaload, 1) := by decide +kernel
theorem dX7_sequenceOfBits_26 : decode cX7_sequenceOfBits 26 = .ok (.if_icmp .eq 14, 3) := by decide +kernel
theorem dX7_sequenceOfBits_29 : decode cX7_sequenceOfBits 29 = .ok (.aload_n 0, 1) := by decide +kernel
theorem dX7_sequenceOfBits_30 : decode cX7_sequenceOfBits 30 = .ok (.aload_n 0, 1) := by decide +kernel
theorem dX7_sequenceOfBits_31 : decode cX7_sequenceOfBits 31 = .ok (.getfield 64, 3) := by decide +kernel
theorem dX7_sequenceOfBits_34 : decode cX7_sequenceOfBits 34 = .ok (.iload_n 2, 1) := by decide +kernel
theorem dX7_sequenceOfBits_35 : decode cX7_sequenceOfBits 35 = .ok (.iaload, 1) := by decide +kernel
theorem dX7_sequenceOfBits_36 : decode cX7_sequenceOfBits 36 = .ok (.putfield 151, 3) := by decide +kernel
theorem dX7_sequenceOfBits_39 : decode cX7_sequenceOfBits 39 = .ok (.return_, 1) := by decide +kernel
theorem dX7_sequenceOfBits_40 : decode cX7_sequenceOfBits 40 = .ok (.aload_n 0, 1) := by decide +kernel
theorem dX7_sequenceOfBits_41 : decode cX7_sequenceOfBits 41 = .ok (.getfield 64, 3) := by decide +kernel
theorem dX7_sequenceOfBits_44 : decode cX7_sequenceOfBits 44 = .ok (.iload_n 2, 1) := by decide +kernel
theorem dX7_sequenceOfBits_45 : decode cX7_sequenceOfBits 45 = .ok (.iconst (-1), 1) := by decide +kernel
theorem dX7_sequenceOfBits_46 : decode cX7_sequenceOfBits 46 = .ok (.iastore, 1) := by decide +kernel
theorem dX7_sequenceOfBits_47 : decode cX7_sequenceOfBits 47 = .ok (.iload_n 3, 1) := by decide +kernel
theorem dX7_sequenceOfBits_48 : decode cX7_sequenceOfBits 48 = .ok (.aload_n 0, 1) := by decide +kernel
theorem dX7_sequenceOfBits_49 : decode cX7_sequenceOfBits 49 = .ok (.getfield 22, 3) := by decide +kernel
theorem dX7_sequenceOfBits_52 : decode cX7_sequenceOfBits 52 = .ok (.iload_n 1, 1) := by decide +kernel
theorem dX7_sequenceOfBits_53 : decode cX7_sequenceOfBits 53 = .ok (.iaload, 1) := by decide +kernel
theorem dX7_sequenceOfBits_54 : decode cX7_sequenceOfBits 54 = .ok (.if_icmp .ge 28, 3) := by decide +kernel
theorem dX7_sequenceOfBits_57 : decode cX7_sequenceOfBits 57 = .ok (.aload_n 0, 1) := by decide +kernel
theorem dX7_sequenceOfBits_58 : decode cX7_sequenceOfBits 58 = .ok (.getfield 58, 3) := by decide +kernel
theorem dX7_sequenceOfBits_61 : decode cX7_sequenceOfBits 61 = .ok (.iload_n 2, 1) := by decide +kernel
theorem dX7_sequenceOfBits_62 : decode cX7_sequenceOfBits 62 = .ok (.iaload, 1) := by decide +kernel
theorem dX7_sequenceOfBits_63 : decode cX7_sequenceOfBits 63 = .ok (.iload_n 3, 1) := by decide +kernel
theorem dX7_sequenceOfBits_64 : decode cX7_sequenceOfBits 64 = .ok (.ishr, 1) := by decide +kernel
theorem dX7_sequenceOfBits_65 : decode cX7_sequenceOfBits 65 = .ok (.iconst 1, 1) := by decide +kernel
theorem dX7_sequenceOfBits_66 : decode cX7_sequenceOfBits 66 = .ok (.iand, 1) := by decide +kernel
theorem dX7_sequenceOfBits_67 : decode cX7_sequenceOfBits 67 = .ok (.iconst 1, 1) := by decide +kernel
theorem dX7_sequenceOfBits_68 : decode cX7_sequenceOfBits 68 = .ok (.if_icmp .ne 13, 3) := by decide +kernel
theorem dX7_sequenceOfBits_71 : decode cX7_sequenceOfBits 71 = .ok (.aload_n 0, 1) := by decide +kernel
theorem dX7_sequenceOfBits_72 : decode cX7_sequenceOfBits 72 = .ok (.aload_n 0, 1) := by decide +kernel
theorem dX7_sequenceOfBits_73 : decode cX7_sequenceOfBits 73 = .ok (.iload_n 1, 1) := by decide +kernel
theorem dX7_sequenceOfBits_74 : decode cX7_sequenceOfBits 74 = .ok (.iload_n 3, 1) := by decide +kernel
theorem dX7_sequenceOfBits_75 : decode cX7_sequenceOfBits 75 = .ok (.invokevirtual 95, 3) := by decide +kernel
theorem dX7_sequenceOfBits_78 : decode cX7_sequenceOfBits 78 = .ok (.invokevirtual 169, 3) := by decide +kernel
theorem dX7_sequenceOfBits_81 : decode cX7_sequenceOfBits 81 = .ok (.return_, 1) := by decide +kernel
theorem dX7_sequenceOfBits_82 : decode cX7_sequenceOfBits 82 = .ok (.iload_n 3, 1) := by decide +kernel
theorem dX7_sequenceOfBits_83 : decode cX7_sequenceOfBits 83 = .ok (.aload_n 0, 1) := by decide +kernel
theorem dX7_sequenceOfBits_84 : decode cX7_sequenceOfBits 84 = .ok (.getfield 22, 3) := by decide +kernel
theorem dX7_sequenceOfBits_87 : decode cX7_sequenceOfBits 87 = .ok (.iload_n 1, 1) := by decide +kernel
theorem dX7_sequenceOfBits_88 : decode cX7_sequenceOfBits 88 = .ok (.iaload, 1) := by decide +kernel
theorem dX7_sequenceOfBits_89 : decode cX7_sequenceOfBits 89 = .ok (.isub, 1) := by decide +kernel
theorem dX7_sequenceOfBits_90 : decode cX7_sequenceOfBits 90 = .ok (.istore 5, 2) := by decide +kernel
theorem dX7_sequenceOfBits_92 : decode cX7_sequenceOfBits 92 = .ok (.iload 5, 2) := by decide +kernel
theorem dX7_sequenceOfBits_94 : decode cX7_sequenceOfBits 94 = .ok (.ifCond .ne 64, 3) := by decide +kernel
theorem dX7_sequenceOfBits_97 : decode cX7_sequenceOfBits 97 = .ok (.aload_n 0, 1) := by decide +kernel
theorem dX7_sequenceOfBits_98 : decode cX7_sequenceOfBits 98 = .ok (.getfield 61, 3) := by decide +kernel
theorem dX7_sequenceOfBits_101 : decode cX7_sequenceOfBits 101 = .ok (.iload_n 2, 1) := by decide +kernel
theorem dX7_sequenceOfBits_102 : decode cX7_sequenceOfBits 102 = .ok (.iaload, 1) := by decide +kernel
theorem dX7_sequenceOfBits_103 : decode cX7_sequenceOfBits 103 = .ok (.ifCond .le 55, 3) := by decide +kernel
theorem dX7_sequenceOfBits_106 : decode cX7_sequenceOfBits 106 = .ok (.aload_n 0, 1) := by decide +kernel
theorem dX7_sequenceOfBits_107 : decode cX7_sequenceOfBits 107 = .ok (.getfield 61, 3) := by decide +kernel
theorem dX7_sequenceOfBits_110 : decode cX7_sequenceOfBits 110 = .ok (.iload_n 2, 1) := by decide +kernel
theorem dX7_sequenceOfBits_111 : decode cX7_sequenceOfBits 111 = .ok (.aload_n 0, 1) := by decide +kernel
theorem dX7_sequenceOfBits_112 : decode cX7_sequenceOfBits 112 = .ok (.iconst 2, 1) := by decide +kernel
theorem dX7_sequenceOfBits_113 : decode cX7_sequenceOfBits 113 = .ok (.aload_n 0, 1) := by decide +kernel
theorem dX7_sequenceOfBits_114 : decode cX7_sequenceOfBits 114 = .ok (.getfield 28, 3) := by decide +kernel
theorem dX7_sequenceOfBits_117 : decode cX7_sequenceOfBits 117 = .ok (.iload_n 1, 1) := by decide +kernel
theorem dX7_sequenceOfBits_118 : decode cX7_sequenceOfBits 118 = .ok (.iaload, 1) := by decide +kernel
theorem dX7_sequenceOfBits_119 : decode cX7_sequenceOfBits 119 = .ok (.invokevirtual 196, 3) := by decide +kernel
theorem dX7_sequenceOfBits_122 : decode cX7_sequenceOfBits 122 = .ok (.iconst 1, 1) := by decide +kernel
theorem dX7_sequenceOfBits_123 : decode cX7_sequenceOfBits 123 = .ok (.iadd, 1) := by decide +kernel
theorem dX7_sequenceOfBits_124 : decode cX7_sequenceOfBits 124 = .ok (.iastore, 1) := by decide +kernel
theorem dX7_sequenceOfBits_125 : decode cX7_sequenceOfBits 125 = .ok (.aload_n 0, 1) := by decide +kernel
theorem dX7_sequenceOfBits_126 : decode cX7_sequenceOfBits 126 = .ok (.getfield 49, 3) := by decide +kernel
theorem dX7_sequenceOfBits_129 : decode cX7_sequenceOfBits 129 = .ok (.aload_n 0, 1) := by decide +kernel
theorem dX7_sequenceOfBits_130 : decode cX7_sequenceOfBits 130 = .ok (.getfield 70, 3) := by decide +kernel
theorem dX7_sequenceOfBits_133 : decode cX7_sequenceOfBits 133 = .ok (.iload_n 2, 1) := by decide +kernel
theorem dX7_sequenceOfBits_134 : decode cX7_sequenceOfBits 134 = .ok (.iaload, 1) := by decide +kernel
theorem dX7_sequenceOfBits_135 : decode cX7_sequenceOfBits 135 = .ok (.aload_n 0, 1) := by decide +kernel
theorem dX7_sequenceOfBits_136 : decode cX7_sequenceOfBits 136 = .ok (.getfield 61, 3) := by decide +kernel
theorem dX7_sequenceOfBits_139 : decode cX7_sequenceOfBits 139 = .ok (.iload_n 2, 1) := by decide +kernel
theorem dX7_sequenceOfBits_140 : decode cX7_sequenceOfBits 140 = .ok (.iaload, 1) := by decide +kernel
theorem dX7_sequenceOfBits_141 : decode cX7_sequenceOfBits 141 = .ok (.iload 4, 2) := by decide +kernel
theorem dX7_sequenceOfBits_143 : decode cX7_sequenceOfBits 143 = .ok (.if_icmp .ge 12, 3) := by decide +kernel
theorem dX7_sequenceOfBits_146 : decode cX7_sequenceOfBits 146 = .ok (.aload_n 0, 1) := by decide +kernel
theorem dX7_sequenceOfBits_147 : decode cX7_sequenceOfBits 147 = .ok (.getfield 61, 3) := by decide +kernel
theorem dX7_sequenceOfBits_150 : decode cX7_sequenceOfBits 150 = .ok (.iload_n 2, 1) := by decide +kernel
theorem dX7_sequenceOfBits_151 : decode cX7_sequenceOfBits 151 = .ok (.iaload, 1) := by decide +kernel
theorem dX7_sequenceOfBits_152 : decode cX7_sequenceOfBits 152 = .ok (.goto 5, 3) := by decide +kernel
theorem dX7_sequenceOfBits_155 : decode cX7_sequenceOfBits 155 = .ok (.iload 4, 2) := by decide +kernel
theorem dX7_sequenceOfBits_157 : decode cX7_sequenceOfBits 157 = .ok (.iastore, 1) := by decide +kernel
theorem dX7_sequenceOfBits_158 : decode cX7_sequenceOfBits 158 = .ok (.iload 5, 2) := by decide +kernel
theorem dX7_sequenceOfBits_160 : decode cX7_sequenceOfBits 160 = .ok (.aload_n 0, 1) := by decide +kernel
theorem dX7_sequenceOfBits_161 : decode cX7_sequenceOfBits 161 = .ok (.getfield 61, 3) := by decide +kernel
theorem dX7_sequenceOfBits_164 : decode cX7_sequenceOfBits 164 = .ok (.iload_n 2, 1) := by decide +kernel
theorem dX7_sequenceOfBits_165 : decode cX7_sequenceOfBits 165 = .ok (.iaload, 1) := by decide +kernel
theorem dX7_sequenceOfBits_166 : decode cX7_sequenceOfBits 166 = .ok (.if_icmp .ge 10, 3) := by decide +kernel
theorem dX7_sequenceOfBits_169 : decode cX7_sequenceOfBits 169 = .ok (.aload_n 0, 1) := by decide +kernel
theorem dX7_sequenceOfBits_170 : decode cX7_sequenceOfBits 170 = .ok (.getfield 151, 3) := by decide +kernel
theorem dX7_sequenceOfBits_173 : decode cX7_sequenceOfBits 173 = .ok (.ifCond .lt 14, 3) := by decide +kernel
theorem dX7_sequenceOfBits_176 : decode cX7_sequenceOfBits 176 = .ok (.aload_n 0, 1) := by decide +kernel
theorem dX7_sequenceOfBits_177 : decode cX7_sequenceOfBits 177 = .ok (.dup, 1) := by decide +kernel
theorem dX7_sequenceOfBits_178 : decode cX7_sequenceOfBits 178 = .ok (.getfield 142, 3) := by decide +kernel
theorem dX7_sequenceOfBits_181 : decode cX7_sequenceOfBits 181 = .ok (.iconst 1, 1) := by decide +kernel
theorem dX7_sequenceOfBits_182 : decode cX7_sequenceOfBits 182 = .ok (.isub, 1) := by decide +kernel
theorem dX7_sequenceOfBits_183 : decode cX7_sequenceOfBits 183 = .ok (.putfield 142, 3) := by decide +kernel
theorem dX7_sequenceOfBits_186 : decode cX7_sequenceOfBits 186 = .ok (.return_, 1) := by decide +kernel
theorem dX7_sequenceOfBits_187 : decode cX7_sequenceOfBits 187 = .ok (.aload_n 0, 1) := by decide +kernel
theorem dX7_sequenceOfBits_188 : decode cX7_sequenceOfBits 188 = .ok (.bipush 8, 2) := by decide +kernel
theorem dX7_sequenceOfBits_190 : decode cX7_sequenceOfBits 190 = .ok (.invokevirtual 183, 3) := by decide +kernel
theorem dX7_sequenceOfBits_193 : decode cX7_sequenceOfBits 193 = .ok (.istore 6, 2) := by decide +kernel
theorem dX7_sequenceOfBits_195 : decode cX7_sequenceOfBits 195 = .ok (.iload 5, 2) := by decide +kernel
theorem dX7_sequenceOfBits_197 : decode cX7_sequenceOfBits 197 = .ok (.iload 4, 2) := by decide +kernel
theorem dX7_sequenceOfBits_199 : decode cX7_sequenceOfBits 199 = .ok (.if_icmp .ge 39, 3) := by decide +kernel
theorem dX7_sequenceOfBits_202 : decode cX7_sequenceOfBits 202 = .ok (.aload_n 0, 1) := by decide +kernel
theorem dX7_sequenceOfBits_203 : decode cX7_sequenceOfBits 203 = .ok (.getfield 64, 3) := by decide +kernel
theorem dX7_sequenceOfBits_206 : decode cX7_sequenceOfBits 206 = .ok (.iload_n 2, 1) := by decide +kernel
theorem dX7_sequenceOfBits_207 : decode cX7_sequenceOfBits 207 = .ok (.aload_n 0, 1) := by decide +kernel
theorem dX7_sequenceOfBits_208 : decode cX7_sequenceOfBits 208 = .ok (.getfield 148, 3) := by decide +kernel
theorem dX7_sequenceOfBits_211 : decode cX7_sequenceOfBits 211 = .ok (.iastore, 1) := by decide +kernel
theorem dX7_sequenceOfBits_212 : decode cX7_sequenceOfBits 212 = .ok (.aload_n 0, 1) := by decide +kernel
theorem dX7_sequenceOfBits_213 : decode cX7_sequenceOfBits 213 = .ok (.getfield 67, 3) := by decide +kernel
theorem dX7_sequenceOfBits_216 : decode cX7_sequenceOfBits 216 = .ok (.iload_n 2, 1) := by decide +kernel
theorem dX7_sequenceOfBits_217 : decode cX7_sequenceOfBits 217 = .ok (.iload 6, 2) := by decide +kernel
theorem dX7_sequenceOfBits_219 : decode cX7_sequenceOfBits 219 = .ok (.iastore, 1) := by decide +kernel
theorem dX7_sequenceOfBits_220 : decode cX7_sequenceOfBits 220 = .ok (.aload_n 0, 1) := by decide +kernel
theorem dX7_sequenceOfBits_221 : decode cX7_sequenceOfBits 221 = .ok (.aload_n 0, 1) := by decide +kernel
theorem dX7_sequenceOfBits_222 : decode cX7_sequenceOfBits 222 = .ok (.getfield 25, 3) := by decide +kernel
theorem dX7_sequenceOfBits_225 : decode cX7_sequenceOfBits 225 = .ok (.iconst 3, 1) := by decide +kernel
theorem dX7_sequenceOfBits_226 : decode cX7_sequenceOfBits 226 = .ok (.iload_n 1, 1) := by decide +kernel
theorem dX7_sequenceOfBits_227 : decode cX7_sequenceOfBits 227 = .ok (.imul, 1) := by decide +kernel
theorem dX7_sequenceOfBits_228 : decode cX7_sequenceOfBits 228 = .ok (.iload 5, 2) := by decide +kernel
theorem dX7_sequenceOfBits_230 : decode cX7_sequenceOfBits 230 = .ok (.iadd, 1) := by decide +kernel
theorem dX7_sequenceOfBits_231 : decode cX7_sequenceOfBits 231 = .ok (.iaload, 1) := by decide +kernel
theorem dX7_sequenceOfBits_232 : decode cX7_sequenceOfBits 232 = .ok (.invokevirtual 169, 3) := by decide +kernel
theorem dX7_sequenceOfBits_235 : decode cX7_sequenceOfBits 235 = .ok (.goto 9, 3) := by decide +kernel
theorem dX7_sequenceOfBits_238 : decode cX7_sequenceOfBits 238 = .ok (.aload_n 0, 1) := by decide +kernel
theorem dX7_sequenceOfBits_239 : decode cX7_sequenceOfBits 239 = .ok (.iload 6, 2) := by decide +kernel
theorem dX7_sequenceOfBits_241 : decode cX7_sequenceOfBits 241 = .ok (.invokevirtual 202, 3) := by decide +kernel
theorem dX7_sequenceOfBits_244 : decode cX7_sequenceOfBits 244 = .ok (.return_, 1) := by decide +kernel
def wb_X7_sequenceOfBits_176 (post : (Nat → Int32) → (Nat → Nat → Int32) → Prop)   (σ : Nat → Int32) (α : Nat → Nat → Int32) : Prop := ∀ σ72, σ72 = upd σ 20 ((σ 20) - (1 : Int32)) → post σ72 α
set_option maxHeartbeats 4000000 in
set_option maxRecDepth 100000 in
theorem tb_X7_sequenceOfBits_176 {p : Program} {l : Launch} {e : Env} {s : State} {m : MethodId} {args : Array Value} {below : List Frame} {meth : Method} {c : Code} {G : gG} {A : Nat → Prop} {μ0 : Mm} {mm : Nat} {rf : Nat → Nat} {post : (Nat → Int32) → (Nat → Nat → Int32) → Prop} (X : Cx p l s m args meth c cX7_sequenceOfBits 7 none RX7 G A) (hMO : MOk mm rf) : ∀ (σ : Nat → Int32) (α : Nat → Nat → Int32), wb_X7_sequenceOfBits_176 post σ α → J p l e (rmL (2) 0 0) s m args below meth c 7 G A (MQ below (QG G A (pV (pMv μ0 mm rf post))) args s 0 0 A) 0 0 176 [(0, .ref mm)] [] (mset μ0 mm rf σ α) := by
  intro σ α hw
  unfold wb_X7_sequenceOfBits_176 at hw
  refine j_aload_n X (pc' := 177) (kk := 0) (i := 0) 0 rfl rfl dX7_sequenceOfBits_176 rfl ?_
  refine j_dup X (pc' := 178) rfl dX7_sequenceOfBits_177 rfl ?_
  refine j_getf X (pc' := 181) mset_o 20 rfl rfl fw_TX7 (by decide) wt_3_185 dX7_sequenceOfBits_178 rfl ?_
  refine j_iconst X (pc' := 182) (v := 1) (by decide) dX7_sequenceOfBits_181 rfl ?_
  refine j_isub X (pc' := 183) dX7_sequenceOfBits_182 rfl ?_
  refine jm_putf X (pc' := 186) 20 (mF_set_20 _ _ _) (by decide) rfl wt_3_185 (by decide +kernel) dX7_sequenceOfBits_183 rfl (fun σ72 e73 => ?_)
  have hw1 := hw σ72 e73
  exact j_vret X ⟨rfl, _, _, rfl, hw1⟩ (Nat.le_of_ble_eq_true rfl) (Nat.le_of_ble_eq_true rfl) dX7_sequenceOfBits_186
def wb_X7_sequenceOfBits_158 (post : (Nat → Int32) → (Nat → Nat → Int32) → Prop)  (v1 : Int32) (v2 : Int32) (v4 : Int32) (v5 : Int32) (σ : Nat → Int32) (α : Nat → Nat → Int32) : Prop := vp_in v2 20 ∧ ((α 24 v2.toNatClampNeg) ≤ v5 → (wb_X7_sequenceOfBits_176 post σ α)) ∧ (¬ (α 24 v2.toNatClampNeg) ≤ v5 → (((σ 29) < 0 → (wp_X7_take (8 : Int32) σ α (fun r46 σ47 α48 => (v4 ≤ v5 → (wp_X7_skip r46 σ47 α48 (fun σ51 α52 => post σ51 α52))) ∧ (¬ v4 ≤ v5 → (vp_in v2 20 ∧ ∀ α56, α56 = upA α48 25 (upd (α48 25) v2.toNatClampNeg (σ47 28)) → vp_in v2 20 ∧ ∀ α59, α59 = upA α56 26 (upd (α56 26) v2.toNatClampNeg r46) → vp_in (((3 : Int32) * v1) + v5) 48 ∧ wp_X7_push (α59 7 (((3 : Int32) * v1) + v5).toNatClampNeg) σ47 α59 (fun σ63 α64 => post σ63 α64)))))) ∧ (¬ (σ 29) < 0 → (wb_X7_sequenceOfBits_176 post σ α))))
set_option maxHeartbeats 4000000 in
set_option maxRecDepth 100000 in
theorem tb_X7_sequenceOfBits_158 {p : Program} {l : Launch} {e : Env} {s : State} {m : MethodId} {args : Array Value} {below : List Frame} {meth : Method} {c : Code} {G : gG} {A : Nat → Prop} {μ0 : Mm} {mm : Nat} {rf : Nat → Nat} {post : (Nat → Int32) → (Nat → Nat → Int32) → Prop} (X : Cx p l s m args meth c cX7_sequenceOfBits 7 none RX7 G A) (hMO : MOk mm rf) : ∀ (v1 : Int32) (v2 : Int32) (v4 : Int32) (v5 : Int32) (σ : Nat → Int32) (α : Nat → Nat → Int32), wb_X7_sequenceOfBits_158 post v1 v2 v4 v5 σ α → J p l e (rmL (2) 0 0) s m args below meth c 7 G A (MQ below (QG G A (pV (pMv μ0 mm rf post))) args s 0 0 A) 0 0 158 [(0, .ref mm), (1, .int v1), (2, .int v2), (4, .int v4), (5, .int v5)] [] (mset μ0 mm rf σ α) := by
  intro v1 v2 v4 v5 σ α hw
  unfold wb_X7_sequenceOfBits_158 at hw
  refine j_iload X (pc' := 160) (i := 5) 4 rfl dX7_sequenceOfBits_158 rfl ?_
  refine j_aload_n X (pc' := 161) (kk := 0) (i := 0) 0 rfl rfl dX7_sequenceOfBits_160 rfl ?_
  refine j_getf X (pc' := 164) mset_o 24 rfl rfl fw_TX7 (by decide) wt_3_189 dX7_sequenceOfBits_161 rfl ?_
  refine j_iload_n X (pc' := 165) (kk := 2) (i := 2) 2 rfl rfl dX7_sequenceOfBits_164 rfl ?_
  have h43 := hw.1
  have hw1 := hw.2
  refine j_iald X (pc' := 166) (mset_a hMO 24 (by decide)) h43 dX7_sequenceOfBits_165 rfl ?_
  refine j_icmp_ge X (pc' := 169) (tgt := 176) dX7_sequenceOfBits_166 rfl (by decide) (fun c44 => ?_) (fun c44 => ?_)
  · have hw2 := hw1.1 c44
    refine j_loc [0] rfl ?_
    exact tb_X7_sequenceOfBits_176 X hMO  _ _ hw2
  · have hw3 := hw1.2 c44
    refine j_aload_n X (pc' := 170) (kk := 0) (i := 0) 0 rfl rfl dX7_sequenceOfBits_169 rfl ?_
    refine j_getf X (pc' := 173) mset_o 29 rfl rfl fw_TX7 (by decide) wt_3_194 dX7_sequenceOfBits_170 rfl ?_
    refine j_if_lt X (pc' := 176) (tgt := 187) dX7_sequenceOfBits_173 rfl (by decide) (fun c45 => ?_) (fun c45 => ?_)
    · have hw4 := hw3.1 c45
      refine j_aload_n X (pc' := 188) (kk := 0) (i := 0) 0 rfl rfl dX7_sequenceOfBits_187 rfl ?_
      refine j_bipush X (pc' := 190) (v := 8) (by decide) dX7_sequenceOfBits_188 rfl ?_
      refine j_callVi (As := [.int (8 : Int32)]) (rest := []) X (pc' := 193) (cells' := 0) (slots' := 0) (c_X7_take l G A hMO μ0 (8 : Int32) σ α _ hw4) (gk_X7_take wt_4_206) hd_X7_take (rmL_fit (k1 := 0) (k := 2) (by omega) (by decide)) mset_o rfl rfl rfl (Nat.le_of_ble_eq_true rfl) dX7_sequenceOfBits_190 rfl ⟨Nat.le_of_ble_eq_true rfl, Nat.le_of_ble_eq_true rfl⟩ rfl rfl (fun r46 μ68 hw5 => ?_)
      obtain ⟨σ47, α48, rfl, hw6⟩ := hw5
      refine j_istore X (pc' := 195) (i := 6) (loc' := [(6, .int r46), (0, .ref mm), (1, .int v1), (2, .int v2), (4, .int v4), (5, .int v5)]) dX7_sequenceOfBits_193 rfl (by decide) rfl ?_
      refine j_iload X (pc' := 197) (i := 5) 5 rfl dX7_sequenceOfBits_195 rfl ?_
      refine j_iload X (pc' := 199) (i := 4) 4 rfl dX7_sequenceOfBits_197 rfl ?_
      refine j_icmp_ge X (pc' := 202) (tgt := 238) dX7_sequenceOfBits_199 rfl (by decide) (fun c49 => ?_) (fun c49 => ?_)
      · have hw7 := hw6.1 c49
        refine j_aload_n X (pc' := 239) (kk := 0) (i := 0) 1 rfl rfl dX7_sequenceOfBits_238 rfl ?_
        refine j_iload X (pc' := 241) (i := 6) 0 rfl dX7_sequenceOfBits_239 rfl ?_
        refine j_callVv (As := [.int r46]) (rest := []) X (pc' := 244) (cells' := 0) (slots' := 0) (c_X7_skip l G A hMO μ0 r46 σ47 α48 _ hw7) (gk_X7_skip wt_4_222) hd_X7_skip (rmL_fit (k1 := 0) (k := 2) (by omega) (by decide)) mset_o rfl rfl rfl (Nat.le_of_ble_eq_true rfl) dX7_sequenceOfBits_241 rfl ⟨Nat.le_of_ble_eq_true rfl, Nat.le_of_ble_eq_true rfl⟩ rfl rfl (fun μ54 hw8 => ?_)
        obtain ⟨σ51, α52, rfl, hw9⟩ := hw8
        exact j_vret X ⟨rfl, _, _, rfl, hw9⟩ (Nat.le_of_ble_eq_true rfl) (Nat.le_of_ble_eq_true rfl) dX7_sequenceOfBits_244
      · have hw10 := hw6.2 c49
        refine j_aload_n X (pc' := 203) (kk := 0) (i := 0) 1 rfl rfl dX7_sequenceOfBits_202 rfl ?_
        refine j_getf X (pc' := 206) mset_o 25 rfl rfl fw_TX7 (by decide) wt_3_190 dX7_sequenceOfBits_203 rfl ?_
        refine j_iload_n X (pc' := 207) (kk := 2) (i := 2) 3 rfl rfl dX7_sequenceOfBits_206 rfl ?_
        refine j_aload_n X (pc' := 208) (kk := 0) (i := 0) 1 rfl rfl dX7_sequenceOfBits_207 rfl ?_
        refine j_getf X (pc' := 211) mset_o 28 rfl rfl fw_TX7 (by decide) wt_3_193 dX7_sequenceOfBits_208 rfl ?_
        have h55 := hw10.1
        have hw11 := hw10.2
        refine jm_iast X (pc' := 212) hMO 25 (by decide) h55 dX7_sequenceOfBits_211 rfl (fun α56 e57 => ?_)
        have hw12 := hw11 α56 e57
        refine j_aload_n X (pc' := 213) (kk := 0) (i := 0) 1 rfl rfl dX7_sequenceOfBits_212 rfl ?_
        refine j_getf X (pc' := 216) mset_o 26 rfl rfl fw_TX7 (by decide) wt_3_191 dX7_sequenceOfBits_213 rfl ?_
        refine j_iload_n X (pc' := 217) (kk := 2) (i := 2) 3 rfl rfl dX7_sequenceOfBits_216 rfl ?_
        refine j_iload X (pc' := 219) (i := 6) 0 rfl dX7_sequenceOfBits_217 rfl ?_
        have h58 := hw12.1
        have hw13 := hw12.2
        refine jm_iast X (pc' := 220) hMO 26 (by decide) h58 dX7_sequenceOfBits_219 rfl (fun α59 e60 => ?_)
        have hw14 := hw13 α59 e60
        refine j_aload_n X (pc' := 221) (kk := 0) (i := 0) 1 rfl rfl dX7_sequenceOfBits_220 rfl ?_
        refine j_aload_n X (pc' := 222) (kk := 0) (i := 0) 1 rfl rfl dX7_sequenceOfBits_221 rfl ?_
        refine j_getf X (pc' := 225) mset_o 7 rfl rfl fw_TX7 (by decide) wt_3_172 dX7_sequenceOfBits_222 rfl ?_
        refine j_iconst X (pc' := 226) (v := 3) (by decide) dX7_sequenceOfBits_225 rfl ?_
        refine j_iload_n X (pc' := 227) (kk := 1) (i := 1) 2 rfl rfl dX7_sequenceOfBits_226 rfl ?_
        refine j_imul X (pc' := 228) dX7_sequenceOfBits_227 rfl ?_
        refine j_iload X (pc' := 230) (i := 5) 5 rfl dX7_sequenceOfBits_228 rfl ?_
        refine j_iadd X (pc' := 231) dX7_sequenceOfBits_230 rfl ?_
        have h61 := hw14.1
        have hw15 := hw14.2
        refine j_iald X (pc' := 232) (mset_a hMO 7 (by decide)) h61 dX7_sequenceOfBits_231 rfl ?_
        refine j_callVv (As := [.int (α59 7 (((3 : Int32) * v1) + v5).toNatClampNeg)]) (rest := []) X (pc' := 235) (cells' := 0) (slots' := 0) (c_X7_push l G A hMO μ0 (α59 7 (((3 : Int32) * v1) + v5).toNatClampNeg) σ47 α59 _ hw15) (gk_X7_push wt_4_142) hd_X7_push (rmL_fit (k1 := 0) (k := 2) (by omega) (by decide)) mset_o rfl rfl rfl (Nat.le_of_ble_eq_true rfl) dX7_sequenceOfBits_232 rfl ⟨Nat.le_of_ble_eq_true rfl, Nat.le_of_ble_eq_true rfl⟩ rfl rfl (fun μ66 hw16 => ?_)
        obtain ⟨σ63, α64, rfl, hw17⟩ := hw16
        refine j_goto X (tgt := 244) dX7_sequenceOfBits_235 (by decide) ?_
        exact j_vret X ⟨rfl, _, _, rfl, hw17⟩ (Nat.le_of_ble_eq_true rfl) (Nat.le_of_ble_eq_true rfl) dX7_sequenceOfBits_244
    · have hw18 := hw3.2 c45
      refine j_loc [0] rfl ?_
      exact tb_X7_sequenceOfBits_176 X hMO  _ _ hw18
def wb_X7_sequenceOfBits_157 (post : (Nat → Int32) → (Nat → Nat → Int32) → Prop)  (v1 : Int32) (v2 : Int32) (v4 : Int32) (v5 : Int32) (s0 : Int32) (s1 : Int32) (σ : Nat → Int32) (α : Nat → Nat → Int32) : Prop := vp_in s1 300 ∧ ∀ α70, α70 = upA α 19 (upd (α 19) s1.toNatClampNeg s0) → wb_X7_sequenceOfBits_158 post v1 v2 v4 v5 σ α70
set_option maxHeartbeats 4000000 in
set_option maxRecDepth 100000 in
theorem tb_X7_sequenceOfBits_157 {p : Program} {l : Launch} {e : Env} {s : State} {m : MethodId} {args : Array Value} {below : List Frame} {meth : Method} {c : Code} {G : gG} {A : Nat → Prop} {μ0 : Mm} {mm : Nat} {rf : Nat → Nat} {post : (Nat → Int32) → (Nat → Nat → Int32) → Prop} (X : Cx p l s m args meth c cX7_sequenceOfBits 7 none RX7 G A) (hMO : MOk mm rf) : ∀ (v1 : Int32) (v2 : Int32) (v4 : Int32) (v5 : Int32) (s0 : Int32) (s1 : Int32) (σ : Nat → Int32) (α : Nat → Nat → Int32), wb_X7_sequenceOfBits_157 post v1 v2 v4 v5 s0 s1 σ α → J p l e (rmL (2) 0 0) s m args below meth c 7 G A (MQ below (QG G A (pV (pMv μ0 mm rf post))) args s 0 0 A) 0 0 157 [(0, .ref mm), (1, .int v1), (2, .int v2), (4, .int v4), (5, .int v5)] [.int s0, .int s1, .ref (rf 19)] (mset μ0 mm rf σ α) := by
  intro v1 v2 v4 v5 s0 s1 σ α hw
  unfold wb_X7_sequenceOfBits_157 at hw
  have h69 := hw.1
  have hw1 := hw.2
  refine jm_iast X (pc' := 158) hMO 19 (by decide) h69 dX7_sequenceOfBits_157 rfl (fun α70 e71 => ?_)
  have hw2 := hw1 α70 e71
  exact tb_X7_sequenceOfBits_158 X hMO _ _ _ _ _ _ hw2
def wb_X7_sequenceOfBits_40 (post : (Nat → Int32) → (Nat → Nat → Int32) → Prop)  (v1 : Int32) (v2 : Int32) (v3 : Int32) (v4 : Int32) (σ : Nat → Int32) (α : Nat → Nat → Int32) : Prop := vp_in v2 20 ∧ ∀ α10, α10 = upA α 25 (upd (α 25) v2.toNatClampNeg (-1 : Int32)) → vp_in v1 16 ∧ ((α10 6 v1.toNatClampNeg) ≤ v3 → (vp_in v1 16 ∧ (¬ (v3 - (α10 6 v1.toNatClampNeg)) = 0 → (wb_X7_sequenceOfBits_158 post v1 v2 v4 (v3 - (α10 6 v1.toNatClampNeg)) σ α10)) ∧ ((v3 - (α10 6 v1.toNatClampNeg)) = 0 → (vp_in v2 20 ∧ ((α10 24 v2.toNatClampNeg) ≤ 0 → (wb_X7_sequenceOfBits_158 post v1 v2 v4 (v3 - (α10 6 v1.toNatClampNeg)) σ α10)) ∧ (¬ (α10 24 v2.toNatClampNeg) ≤ 0 → (vp_in v1 16 ∧ wp_X7_takeBelow (2 : Int32) (α10 8 v1.toNatClampNeg) σ α10 (fun r19 σ20 α21 => vp_in v2 20 ∧ ∀ α23, α23 = upA α21 24 (upd (α21 24) v2.toNatClampNeg (r19 + (1 : Int32))) → vp_in v2 20 ∧ vp_in v2 20 ∧ (v4 ≤ (α23 24 v2.toNatClampNeg) → (wb_X7_sequenceOfBits_157 post v1 v2 v4 (v3 - (α10 6 v1.toNatClampNeg)) v4 (α23 27 v2.toNatClampNeg) σ20 α23)) ∧ (¬ v4 ≤ (α23 24 v2.toNatClampNeg) → (vp_in v2 20 ∧ wb_X7_sequenceOfBits_157 post v1 v2 v4 (v3 - (α10 6 v1.toNatClampNeg)) (α23 24 v2.toNatClampNeg) (α23 27 v2.toNatClampNeg) σ20 α23))))))))) ∧ (¬ (α10 6 v1.toNatClampNeg) ≤ v3 → (vp_in v2 20 ∧ (¬ (((α10 23 v2.toNatClampNeg) >>> (v3 &&& 31)) &&& (1 : Int32)) = (1 : Int32) → (post σ α10)) ∧ ((((α10 23 v2.toNatClampNeg) >>> (v3 &&& 31)) &&& (1 : Int32)) = (1 : Int32) → (wp_X7_partOf v1 v3 σ α10 (fun r33 σ34 α35 => wp_X7_push r33 σ34 α35 (fun σ37 α38 => post σ37 α38))))))
set_option maxHeartbeats 4000000 in
set_option maxRecDepth 100000 in
theorem tb_X7_sequenceOfBits_40 {p : Program} {l : Launch} {e : Env} {s : State} {m : MethodId} {args : Array Value} {below : List Frame} {meth : Method} {c : Code} {G : gG} {A : Nat → Prop} {μ0 : Mm} {mm : Nat} {rf : Nat → Nat} {post : (Nat → Int32) → (Nat → Nat → Int32) → Prop} (X : Cx p l s m args meth c cX7_sequenceOfBits 7 none RX7 G A) (hMO : MOk mm rf) : ∀ (v1 : Int32) (v2 : Int32) (v3 : Int32) (v4 : Int32) (σ : Nat → Int32) (α : Nat → Nat → Int32), wb_X7_sequenceOfBits_40 post v1 v2 v3 v4 σ α → J p l e (rmL (2) 0 0) s m args below meth c 7 G A (MQ below (QG G A (pV (pMv μ0 mm rf post))) args s 0 0 A) 0 0 40 [(0, .ref mm), (1, .int v1), (2, .int v2), (3, .int v3), (4, .int v4)] [] (mset μ0 mm rf σ α) := by
  intro v1 v2 v3 v4 σ α hw
  unfold wb_X7_sequenceOfBits_40 at hw
  refine j_aload_n X (pc' := 41) (kk := 0) (i := 0) 0 rfl rfl dX7_sequenceOfBits_40 rfl ?_
  refine j_getf X (pc' := 44) mset_o 25 rfl rfl fw_TX7 (by decide) wt_3_190 dX7_sequenceOfBits_41 rfl ?_
  refine j_iload_n X (pc' := 45) (kk := 2) (i := 2) 2 rfl rfl dX7_sequenceOfBits_44 rfl ?_
  refine j_iconst X (pc' := 46) (v := (-1)) (by decide) dX7_sequenceOfBits_45 rfl ?_
  have h9 := hw.1
  have hw1 := hw.2
  refine jm_iast X (pc' := 47) hMO 25 (by decide) h9 dX7_sequenceOfBits_46 rfl (fun α10 e11 => ?_)
  have hw2 := hw1 α10 e11
  refine j_iload_n X (pc' := 48) (kk := 3) (i := 3) 3 rfl rfl dX7_sequenceOfBits_47 rfl ?_
  refine j_aload_n X (pc' := 49) (kk := 0) (i := 0) 0 rfl rfl dX7_sequenceOfBits_48 rfl ?_
  refine j_getf X (pc' := 52) mset_o 6 rfl rfl fw_TX7 (by decide) wt_3_171 dX7_sequenceOfBits_49 rfl ?_
  refine j_iload_n X (pc' := 53) (kk := 1) (i := 1) 1 rfl rfl dX7_sequenceOfBits_52 rfl ?_
  have h12 := hw2.1
  have hw3 := hw2.2
  refine j_iald X (pc' := 54) (mset_a hMO 6 (by decide)) h12 dX7_sequenceOfBits_53 rfl ?_
  refine j_icmp_ge X (pc' := 57) (tgt := 82) dX7_sequenceOfBits_54 rfl (by decide) (fun c13 => ?_) (fun c13 => ?_)
  · have hw4 := hw3.1 c13
    refine j_iload_n X (pc' := 83) (kk := 3) (i := 3) 3 rfl rfl dX7_sequenceOfBits_82 rfl ?_
    refine j_aload_n X (pc' := 84) (kk := 0) (i := 0) 0 rfl rfl dX7_sequenceOfBits_83 rfl ?_
    refine j_getf X (pc' := 87) mset_o 6 rfl rfl fw_TX7 (by decide) wt_3_171 dX7_sequenceOfBits_84 rfl ?_
    refine j_iload_n X (pc' := 88) (kk := 1) (i := 1) 1 rfl rfl dX7_sequenceOfBits_87 rfl ?_
    have h14 := hw4.1
    have hw5 := hw4.2
    refine j_iald X (pc' := 89) (mset_a hMO 6 (by decide)) h14 dX7_sequenceOfBits_88 rfl ?_
    refine j_isub X (pc' := 90) dX7_sequenceOfBits_89 rfl ?_
    refine j_istore X (pc' := 92) (i := 5) (loc' := [(5, .int (v3 - (α10 6 v1.toNatClampNeg))), (0, .ref mm), (1, .int v1), (2, .int v2), (3, .int v3), (4, .int v4)]) dX7_sequenceOfBits_90 rfl (by decide) rfl ?_
    refine j_iload X (pc' := 94) (i := 5) 0 rfl dX7_sequenceOfBits_92 rfl ?_
    refine j_if_ne X (pc' := 97) (tgt := 158) dX7_sequenceOfBits_94 rfl (by decide) (fun c15 => ?_) (fun c15 => ?_)
    · have hw6 := hw5.1 c15
      refine j_loc [1, 2, 3, 5, 0] rfl ?_
      exact tb_X7_sequenceOfBits_158 X hMO _ _ _ _ _ _ hw6
    · have hw7 := hw5.2 c15
      refine j_aload_n X (pc' := 98) (kk := 0) (i := 0) 1 rfl rfl dX7_sequenceOfBits_97 rfl ?_
      refine j_getf X (pc' := 101) mset_o 24 rfl rfl fw_TX7 (by decide) wt_3_189 dX7_sequenceOfBits_98 rfl ?_
      refine j_iload_n X (pc' := 102) (kk := 2) (i := 2) 3 rfl rfl dX7_sequenceOfBits_101 rfl ?_
      have h16 := hw7.1
      have hw8 := hw7.2
      refine j_iald X (pc' := 103) (mset_a hMO 24 (by decide)) h16 dX7_sequenceOfBits_102 rfl ?_
      refine j_if_le X (pc' := 106) (tgt := 158) dX7_sequenceOfBits_103 rfl (by decide) (fun c17 => ?_) (fun c17 => ?_)
      · have hw9 := hw8.1 c17
        refine j_loc [1, 2, 3, 5, 0] rfl ?_
        exact tb_X7_sequenceOfBits_158 X hMO _ _ _ _ _ _ hw9
      · have hw10 := hw8.2 c17
        refine j_aload_n X (pc' := 107) (kk := 0) (i := 0) 1 rfl rfl dX7_sequenceOfBits_106 rfl ?_
        refine j_getf X (pc' := 110) mset_o 24 rfl rfl fw_TX7 (by decide) wt_3_189 dX7_sequenceOfBits_107 rfl ?_
        refine j_iload_n X (pc' := 111) (kk := 2) (i := 2) 3 rfl rfl dX7_sequenceOfBits_110 rfl ?_
        refine j_aload_n X (pc' := 112) (kk := 0) (i := 0) 1 rfl rfl dX7_sequenceOfBits_111 rfl ?_
        refine j_iconst X (pc' := 113) (v := 2) (by decide) dX7_sequenceOfBits_112 rfl ?_
        refine j_aload_n X (pc' := 114) (kk := 0) (i := 0) 1 rfl rfl dX7_sequenceOfBits_113 rfl ?_
        refine j_getf X (pc' := 117) mset_o 8 rfl rfl fw_TX7 (by decide) wt_3_173 dX7_sequenceOfBits_114 rfl ?_
        refine j_iload_n X (pc' := 118) (kk := 1) (i := 1) 2 rfl rfl dX7_sequenceOfBits_117 rfl ?_
        have h18 := hw10.1
        have hw11 := hw10.2
        refine j_iald X (pc' := 119) (mset_a hMO 8 (by decide)) h18 dX7_sequenceOfBits_118 rfl ?_
        refine j_callVi (As := [.int (2 : Int32), .int (α10 8 v1.toNatClampNeg)]) (rest := [.int v2, .ref (rf 24)]) X (pc' := 122) (cells' := 0) (slots' := 0) (c_X7_takeBelow l G A hMO μ0 (2 : Int32) (α10 8 v1.toNatClampNeg) σ α10 _ hw11) (gk_X7_takeBelow wt_4_218) hd_X7_takeBelow (rmL_fit (k1 := 1) (k := 2) (by omega) (by decide)) mset_o rfl rfl rfl (Nat.le_of_ble_eq_true rfl) dX7_sequenceOfBits_119 rfl ⟨Nat.le_of_ble_eq_true rfl, Nat.le_of_ble_eq_true rfl⟩ rfl rfl (fun r19 μ30 hw12 => ?_)
        obtain ⟨σ20, α21, rfl, hw13⟩ := hw12
        refine j_iconst X (pc' := 123) (v := 1) (by decide) dX7_sequenceOfBits_122 rfl ?_
        refine j_iadd X (pc' := 124) dX7_sequenceOfBits_123 rfl ?_
        have h22 := hw13.1
        have hw14 := hw13.2
        refine jm_iast X (pc' := 125) hMO 24 (by decide) h22 dX7_sequenceOfBits_124 rfl (fun α23 e24 => ?_)
        have hw15 := hw14 α23 e24
        refine j_aload_n X (pc' := 126) (kk := 0) (i := 0) 1 rfl rfl dX7_sequenceOfBits_125 rfl ?_
        refine j_getf X (pc' := 129) mset_o 19 rfl rfl fw_TX7 (by decide) wt_3_184 dX7_sequenceOfBits_126 rfl ?_
        refine j_aload_n X (pc' := 130) (kk := 0) (i := 0) 1 rfl rfl dX7_sequenceOfBits_129 rfl ?_
        refine j_getf X (pc' := 133) mset_o 27 rfl rfl fw_TX7 (by decide) wt_3_192 dX7_sequenceOfBits_130 rfl ?_
        refine j_iload_n X (pc' := 134) (kk := 2) (i := 2) 3 rfl rfl dX7_sequenceOfBits_133 rfl ?_
        have h25 := hw15.1
        have hw16 := hw15.2
        refine j_iald X (pc' := 135) (mset_a hMO 27 (by decide)) h25 dX7_sequenceOfBits_134 rfl ?_
        refine j_aload_n X (pc' := 136) (kk := 0) (i := 0) 1 rfl rfl dX7_sequenceOfBits_135 rfl ?_
        refine j_getf X (pc' := 139) mset_o 24 rfl rfl fw_TX7 (by decide) wt_3_189 dX7_sequenceOfBits_136 rfl ?_
        refine j_iload_n X (pc' := 140) (kk := 2) (i := 2) 3 rfl rfl dX7_sequenceOfBits_139 rfl ?_
        have h26 := hw16.1
        have hw17 := hw16.2
        refine j_iald X (pc' := 141) (mset_a hMO 24 (by decide)) h26 dX7_sequenceOfBits_140 rfl ?_
        refine j_iload X (pc' := 143) (i := 4) 5 rfl dX7_sequenceOfBits_141 rfl ?_
        refine j_icmp_ge X (pc' := 146) (tgt := 155) dX7_sequenceOfBits_143 rfl (by decide) (fun c27 => ?_) (fun c27 => ?_)
        · have hw18 := hw17.1 c27
          refine j_iload X (pc' := 157) (i := 4) 5 rfl dX7_sequenceOfBits_155 rfl ?_
          refine j_loc [1, 2, 3, 5, 0] rfl ?_
          exact tb_X7_sequenceOfBits_157 X hMO _ _ _ _ _ _ _ _ hw18
        · have hw19 := hw17.2 c27
          refine j_aload_n X (pc' := 147) (kk := 0) (i := 0) 1 rfl rfl dX7_sequenceOfBits_146 rfl ?_
          refine j_getf X (pc' := 150) mset_o 24 rfl rfl fw_TX7 (by decide) wt_3_189 dX7_sequenceOfBits_147 rfl ?_
          refine j_iload_n X (pc' := 151) (kk := 2) (i := 2) 3 rfl rfl dX7_sequenceOfBits_150 rfl ?_
          have h28 := hw19.1
          have hw20 := hw19.2
          refine j_iald X (pc' := 152) (mset_a hMO 24 (by decide)) h28 dX7_sequenceOfBits_151 rfl ?_
          refine j_goto X (tgt := 157) dX7_sequenceOfBits_152 (by decide) ?_
          refine j_loc [1, 2, 3, 5, 0] rfl ?_
          exact tb_X7_sequenceOfBits_157 X hMO _ _ _ _ _ _ _ _ hw20
  · have hw21 := hw3.2 c13
    refine j_aload_n X (pc' := 58) (kk := 0) (i := 0) 0 rfl rfl dX7_sequenceOfBits_57 rfl ?_
    refine j_getf X (pc' := 61) mset_o 23 rfl rfl fw_TX7 (by decide) wt_3_188 dX7_sequenceOfBits_58 rfl ?_
    refine j_iload_n X (pc' := 62) (kk := 2) (i := 2) 2 rfl rfl dX7_sequenceOfBits_61 rfl ?_
    have h31 := hw21.1
    have hw22 := hw21.2
    refine j_iald X (pc' := 63) (mset_a hMO 23 (by decide)) h31 dX7_sequenceOfBits_62 rfl ?_
    refine j_iload_n X (pc' := 64) (kk := 3) (i := 3) 3 rfl rfl dX7_sequenceOfBits_63 rfl ?_
    refine j_ishr X (pc' := 65) dX7_sequenceOfBits_64 rfl ?_
    refine j_iconst X (pc' := 66) (v := 1) (by decide) dX7_sequenceOfBits_65 rfl ?_
    refine j_iand X (pc' := 67) dX7_sequenceOfBits_66 rfl ?_
    refine j_iconst X (pc' := 68) (v := 1) (by decide) dX7_sequenceOfBits_67 rfl ?_
    refine j_icmp_ne X (pc' := 71) (tgt := 81) dX7_sequenceOfBits_68 rfl (by decide) (fun c32 => ?_) (fun c32 => ?_)
    · have hw23 := hw22.1 c32
      exact j_vret X ⟨rfl, _, _, rfl, hw23⟩ (Nat.le_of_ble_eq_true rfl) (Nat.le_of_ble_eq_true rfl) dX7_sequenceOfBits_81
    · have hw24 := hw22.2 c32
      refine j_aload_n X (pc' := 72) (kk := 0) (i := 0) 0 rfl rfl dX7_sequenceOfBits_71 rfl ?_
      refine j_aload_n X (pc' := 73) (kk := 0) (i := 0) 0 rfl rfl dX7_sequenceOfBits_72 rfl ?_
      refine j_iload_n X (pc' := 74) (kk := 1) (i := 1) 1 rfl rfl dX7_sequenceOfBits_73 rfl ?_
      refine j_iload_n X (pc' := 75) (kk := 3) (i := 3) 3 rfl rfl dX7_sequenceOfBits_74 rfl ?_
      refine j_callVi (As := [.int v1, .int v3]) (rest := [.ref mm]) X (pc' := 78) (cells' := 0) (slots' := 0) (c_X7_partOf l G A hMO μ0 v1 v3 σ α10 _ hw24) (gk_X7_partOf wt_4_51) hd_X7_partOf (rmL_fit (k1 := 0) (k := 2) (by omega) (by decide)) mset_o rfl rfl rfl (Nat.le_of_ble_eq_true rfl) dX7_sequenceOfBits_75 rfl ⟨Nat.le_of_ble_eq_true rfl, Nat.le_of_ble_eq_true rfl⟩ rfl rfl (fun r33 μ42 hw25 => ?_)
      obtain ⟨σ34, α35, rfl, hw26⟩ := hw25
      refine j_callVv (As := [.int r33]) (rest := []) X (pc' := 81) (cells' := 0) (slots' := 0) (c_X7_push l G A hMO μ0 r33 σ34 α35 _ hw26) (gk_X7_push wt_4_142) hd_X7_push (rmL_fit (k1 := 0) (k := 2) (by omega) (by decide)) mset_o rfl rfl rfl (Nat.le_of_ble_eq_true rfl) dX7_sequenceOfBits_78 rfl ⟨Nat.le_of_ble_eq_true rfl, Nat.le_of_ble_eq_true rfl⟩ rfl rfl (fun μ40 hw27 => ?_)
      obtain ⟨σ37, α38, rfl, hw28⟩ := hw27
      exact j_vret X ⟨rfl, _, _, rfl, hw28⟩ (Nat.le_of_ble_eq_true rfl) (Nat.le_of_ble_eq_true rfl) dX7_sequenceOfBits_81
def wp_X7_sequenceOfBits (x1 : Int32) (x2 : Int32) (x3 : Int32) (x4 : Int32) (σ : Nat → Int32) (α : Nat → Nat → Int32) (post : (Nat → Int32) → (Nat → Nat → Int32) → Prop) : Prop := vp_in x2 20 ∧ ((α 25 x2.toNatClampNeg) < 0 → (wb_X7_sequenceOfBits_40 post x1 x2 x3 x4 σ α)) ∧ (¬ (α 25 x2.toNatClampNeg) < 0 → (vp_in x2 20 ∧ vp_in x2 20 ∧ (((σ 28) - (α 25 x2.toNatClampNeg)) = (α 26 x2.toNatClampNeg) → (wb_X7_sequenceOfBits_40 post x1 x2 x3 x4 σ α)) ∧ (¬ ((σ 28) - (α 25 x2.toNatClampNeg)) = (α 26 x2.toNatClampNeg) → (vp_in x2 20 ∧ ∀ σ7, σ7 = upd σ 29 (α 25 x2.toNatClampNeg) → post σ7 α))))
set_option maxHeartbeats 4000000 in
set_option maxRecDepth 100000 in
theorem c_X7_sequenceOfBits (l : Launch) (G : gG) (A : Nat → Prop) {mm : Nat} {rf : Nat → Nat} (hMO : MOk mm rf) (μ0 : Mm) (x1 : Int32) (x2 : Int32) (x3 : Int32) (x4 : Int32) (σ : Nat → Int32) (α : Nat → Nat → Int32) (post : (Nat → Int32) → (Nat → Nat → Int32) → Prop) (h : wp_X7_sequenceOfBits x1 x2 x3 x4 σ α post) : Met l yX7_sequenceOfBits (.code yX7_sequenceOfBits cX7_sequenceOfBits 7 none :: wsA) (rmL (2) 0 0) (PcG G A (mset μ0 mm rf σ α) [.ref mm, .int x1, .int x2, .int x3, .int x4]) (QG G A (pV (pMv μ0 mm rf post))) 0 0 A := by
  refine met_J (loc := [(0, .ref mm), (1, .int x1), (2, .int x2), (3, .int x3), (4, .int x4)]) (by decide +kernel) (Nat.le_of_ble_eq_true rfl) rfl ?_
  intro p e s m args below meth c X hin
  have X : Cx p l s m args meth c cX7_sequenceOfBits 7 none RX7 G A := X
  have hw := h
  unfold wp_X7_sequenceOfBits at hw
  refine j_aload_n X (pc' := 1) (kk := 0) (i := 0) 0 rfl rfl dX7_sequenceOfBits_0 rfl ?_
  refine j_getf X (pc' := 4) mset_o 25 rfl rfl fw_TX7 (by decide) wt_3_190 dX7_sequenceOfBits_1 rfl ?_
  refine j_iload_n X (pc' := 5) (kk := 2) (i := 2) 2 rfl rfl dX7_sequenceOfBits_4 rfl ?_
  have h1 := hw.1
  have hw1 := hw.2
  refine j_iald X (pc' := 6) (mset_a hMO 25 (by decide)) h1 dX7_sequenceOfBits_5 rfl ?_
  refine j_if_lt X (pc' := 9) (tgt := 40) dX7_sequenceOfBits_6 rfl (by decide) (fun c2 => ?_) (fun c2 => ?_)
  · have hw2 := hw1.1 c2
    exact tb_X7_sequenceOfBits_40 X hMO _ _ _ _ _ _ hw2
  · have hw3 := hw1.2 c2
    refine j_aload_n X (pc' := 10) (kk := 0) (i := 0) 0 rfl rfl dX7_sequenceOfBits_9 rfl ?_
    refine j_getf X (pc' := 13) mset_o 28 rfl rfl fw_TX7 (by decide) wt_3_193 dX7_sequenceOfBits_10 rfl ?_
    refine j_aload_n X (pc' := 14) (kk := 0) (i := 0) 0 rfl rfl dX7_sequenceOfBits_13 rfl ?_
    refine j_getf X (pc' := 17) mset_o 25 rfl rfl fw_TX7 (by decide) wt_3_190 dX7_sequenceOfBits_14 rfl ?_
    refine j_iload_n X (pc' := 18) (kk := 2) (i := 2) 2 rfl rfl dX7_sequenceOfBits_17 rfl ?_
    have h3 := hw3.1
    have hw4 := hw3.2
    refine j_iald X (pc' := 19) (mset_a hMO 25 (by decide)) h3 dX7_sequenceOfBits_18 rfl ?_
    refine j_isub X (pc' := 20) dX7_sequenceOfBits_19 rfl ?_
    refine j_aload_n X (pc' := 21) (kk := 0) (i := 0) 0 rfl rfl dX7_sequenceOfBits_20 rfl ?_
    refine j_getf X (pc' := 24) mset_o 26 rfl rfl fw_TX7 (by decide) wt_3_191 dX7_sequenceOfBits_21 rfl ?_
    refine j_iload_n X (pc' := 25) (kk := 2) (i := 2) 2 rfl rfl dX7_sequenceOfBits_24 rfl ?_
    have h4 := hw4.1
    have hw5 := hw4.2
    refine j_iald X (pc' := 26) (mset_a hMO 26 (by decide)) h4 dX7_sequenceOfBits_25 rfl ?_
    refine j_icmp_eq X (pc' := 29) (tgt := 40) dX7_sequenceOfBits_26 rfl (by decide) (fun c5 => ?_) (fun c5 => ?_)
    · have hw6 := hw5.1 c5
      exact tb_X7_sequenceOfBits_40 X hMO _ _ _ _ _ _ hw6
    · have hw7 := hw5.2 c5
      refine j_aload_n X (pc' := 30) (kk := 0) (i := 0) 0 rfl rfl dX7_sequenceOfBits_29 rfl ?_
      refine j_aload_n X (pc' := 31) (kk := 0) (i := 0) 0 rfl rfl dX7_sequenceOfBits_30 rfl ?_
      refine j_getf X (pc' := 34) mset_o 25 rfl rfl fw_TX7 (by decide) wt_3_190 dX7_sequenceOfBits_31 rfl ?_
      refine j_iload_n X (pc' := 35) (kk := 2) (i := 2) 2 rfl rfl dX7_sequenceOfBits_34 rfl ?_
      have h6 := hw7.1
      have hw8 := hw7.2
      refine j_iald X (pc' := 36) (mset_a hMO 25 (by decide)) h6 dX7_sequenceOfBits_35 rfl ?_
      refine jm_putf X (pc' := 39) 29 (mF_set_29 _ _ _) (by decide) rfl wt_3_194 (by decide +kernel) dX7_sequenceOfBits_36 rfl (fun σ7 e8 => ?_)
      have hw9 := hw8 σ7 e8
      exact j_vret X ⟨rfl, _, _, rfl, hw9⟩ (Nat.le_of_ble_eq_true rfl) (Nat.le_of_ble_eq_true rfl) dX7_sequenceOfBits_39
/-! BitNotationModel.goOverBits(I)V -/
theorem dX7_goOverBits_0 : decode cX7_goOverBits 0 = .ok (.aload_n 0, 1) := by decide +kernel
theorem dX7_goOverBits_1 : decode cX7_goOverBits 1 = .ok (.getfield 142, 3) := by decide +kernel
theorem dX7_goOverBits_4 : decode cX7_goOverBits 4 = .ok (.iconst 1, 1) := by decide +kernel
theorem dX7_goOverBits_5 : decode cX7_goOverBits 5 = .ok (.isub, 1) := by decide +kernel
theorem dX7_goOverBits_6 : decode cX7_goOverBits 6 = .ok (.istore_n 2, 1) := by decide +kernel
theorem dX7_goOverBits_7 : decode cX7_goOverBits 7 = .ok (.aload_n 0, 1) := by decide +kernel
theorem dX7_goOverBits_8 : decode cX7_goOverBits 8 = .ok (.getfield 52, 3) := by decide +kernel
theorem dX7_goOverBits_11 : decode cX7_goOverBits 11 = .ok (.iload_n 2, 1) := by decide +kernel
theorem dX7_goOverBits_12 : decode cX7_goOverBits 12 = .ok (.iaload, 1) := by decide +kernel
theorem dX7_goOverBits_13 : decode cX7_goOverBits 13 = .ok (.istore_n 3, 1) := by decide +kernel
theorem dX7_goOverBits_14 : decode cX7_goOverBits 14 = .ok (.aload_n 0, 1) := by decide +kernel
theorem dX7_goOverBits_15 : decode cX7_goOverBits 15 = .ok (.getfield 55, 3) := by decide +kernel
theorem dX7_goOverBits_18 : decode cX7_goOverBits 18 = .ok (.iload_n 2, 1) := by decide +kernel
theorem dX7_goOverBits_19 : decode cX7_goOverBits 19 = .ok (.iaload, 1) := by decide +kernel
theorem dX7_goOverBits_20 : decode cX7_goOverBits 20 = .ok (.istore 4, 2) := by decide +kernel
theorem dX7_goOverBits_22 : decode cX7_goOverBits 22 = .ok (.aload_n 0, 1) := by decide +kernel
theorem dX7_goOverBits_23 : decode cX7_goOverBits 23 = .ok (.getfield 55, 3) := by decide +kernel
theorem dX7_goOverBits_26 : decode cX7_goOverBits 26 = .ok (.iload_n 2, 1) := by decide +kernel
theorem dX7_goOverBits_27 : decode cX7_goOverBits 27 = .ok (.dup2, 1) := by decide +kernel
theorem dX7_goOverBits_28 : decode cX7_goOverBits 28 = .ok (.iaload, 1) := by decide +kernel
theorem dX7_goOverBits_29 : decode cX7_goOverBits 29 = .ok (.iconst 1, 1) := by decide +kernel
theorem dX7_goOverBits_30 : decode cX7_goOverBits 30 = .ok (.iadd, 1) := by decide +kernel
theorem dX7_goOverBits_31 : decode cX7_goOverBits 31 = .ok (.iastore, 1) := by decide +kernel
theorem dX7_goOverBits_32 : decode cX7_goOverBits 32 = .ok (.aload_n 0, 1) := by decide +kernel
theorem dX7_goOverBits_33 : decode cX7_goOverBits 33 = .ok (.getfield 7, 3) := by decide +kernel
theorem dX7_goOverBits_36 : decode cX7_goOverBits 36 = .ok (.iload_n 3, 1) := by decide +kernel
theorem dX7_goOverBits_37 : decode cX7_goOverBits 37 = .ok (.iaload, 1) := by decide +kernel
theorem dX7_goOverBits_38 : decode cX7_goOverBits 38 = .ok (.iconst 2, 1) := by decide +kernel
theorem dX7_goOverBits_39 : decode cX7_goOverBits 39 = .ok (.if_icmp .ne 29, 3) := by decide +kernel
theorem dX7_goOverBits_42 : decode cX7_goOverBits 42 = .ok (.iload 4, 2) := by decide +kernel
theorem dX7_goOverBits_44 : decode cX7_goOverBits 44 = .ok (.ifCond .ne 12, 3) := by decide +kernel
theorem dX7_goOverBits_47 : decode cX7_goOverBits 47 = .ok (.aload_n 0, 1) := by decide +kernel
theorem dX7_goOverBits_48 : decode cX7_goOverBits 48 = .ok (.iload_n 3, 1) := by decide +kernel
theorem dX7_goOverBits_49 : decode cX7_goOverBits 49 = .ok (.iload_n 2, 1) := by decide +kernel
theorem dX7_goOverBits_50 : decode cX7_goOverBits 50 = .ok (.invokevirtual 189, 3) := by decide +kernel
theorem dX7_goOverBits_53 : decode cX7_goOverBits 53 = .ok (.goto 14, 3) := by decide +kernel
theorem dX7_goOverBits_56 : decode cX7_goOverBits 56 = .ok (.aload_n 0, 1) := by decide +kernel
theorem dX7_goOverBits_57 : decode cX7_goOverBits 57 = .ok (.iload_n 3, 1) := by decide +kernel
theorem dX7_goOverBits_58 : decode cX7_goOverBits 58 = .ok (.iload_n 2, 1) := by decide +kernel
theorem dX7_goOverBits_59 : decode cX7_goOverBits 59 = .ok (.iload 4, 2) := by decide +kernel
theorem dX7_goOverBits_61 : decode cX7_goOverBits 61 = .ok (.iconst 1, 1) := by decide +kernel
theorem dX7_goOverBits_62 : decode cX7_goOverBits 62 = .ok (.isub, 1) := by decide +kernel
theorem dX7_goOverBits_63 : decode cX7_goOverBits 63 = .ok (.iload_n 1, 1) := by decide +kernel
theorem dX7_goOverBits_64 : decode cX7_goOverBits 64 = .ok (.invokevirtual 193, 3) := by decide +kernel
theorem dX7_goOverBits_67 : decode cX7_goOverBits 67 = .ok (.return_, 1) := by decide +kernel
theorem dX7_goOverBits_68 : decode cX7_goOverBits 68 = .ok (.aload_n 0, 1) := by decide +kernel
theorem dX7_goOverBits_69 : decode cX7_goOverBits 69 = .ok (.getfield 7, 3) := by decide +kernel
theorem dX7_goOverBits_72 : decode cX7_goOverBits 72 = .ok (.iload_n 3, 1) := by decide +kernel
theorem dX7_goOverBits_73 : decode cX7_goOverBits 73 = .ok (.iaload, 1) := by decide +kernel
theorem dX7_goOverBits_74 : decode cX7_goOverBits 74 = .ok (.iconst 3, 1) := by decide +kernel
theorem dX7_goOverBits_75 : decode cX7_goOverBits 75 = .ok (.if_icmp .ne 7, 3) := by decide +kernel
theorem dX7_goOverBits_78 : decode cX7_goOverBits 78 = .ok (.iconst 1, 1) := by decide +kernel
theorem dX7_goOverBits_79 : decode cX7_goOverBits 79 = .ok (.goto 4, 3) := by decide +kernel
theorem dX7_goOverBits_82 : decode cX7_goOverBits 82 = .ok (.iconst 0, 1) := by decide +kernel
theorem dX7_goOverBits_83 : decode cX7_goOverBits 83 = .ok (.istore 5, 2) := by decide +kernel
theorem dX7_goOverBits_85 : decode cX7_goOverBits 85 = .ok (.iload 4, 2) := by decide +kernel
theorem dX7_goOverBits_87 : decode cX7_goOverBits 87 = .ok (.ifCond .ne 78, 3) := by decide +kernel
theorem dX7_goOverBits_90 : decode cX7_goOverBits 90 = .ok (.aload_n 0, 1) := by decide +kernel
theorem dX7_goOverBits_91 : decode cX7_goOverBits 91 = .ok (.aload_n 0, 1) := by decide +kernel
theorem dX7_goOverBits_92 : decode cX7_goOverBits 92 = .ok (.iload_n 3, 1) := by decide +kernel
theorem dX7_goOverBits_93 : decode cX7_goOverBits 93 = .ok (.invokevirtual 99, 3) := by decide +kernel
theorem dX7_goOverBits_96 : decode cX7_goOverBits 96 = .ok (.iload 5, 2) := by decide +kernel
theorem dX7_goOverBits_98 : decode cX7_goOverBits 98 = .ok (.ifCond .eq 12, 3) := by decide +kernel
theorem dX7_goOverBits_101 : decode cX7_goOverBits 101 = .ok (.aload_n 0, 1) := by decide +kernel
theorem dX7_goOverBits_102 : decode cX7_goOverBits 102 = .ok (.getfield 22, 3) := by decide +kernel
theorem dX7_goOverBits_105 : decode cX7_goOverBits 105 = .ok (.iload_n 3, 1) := by decide +kernel
theorem dX7_goOverBits_106 : decode cX7_goOverBits 106 = .ok (.iaload, 1) := by decide +kernel
theorem dX7_goOverBits_107 : decode cX7_goOverBits 107 = .ok (.goto 18, 3) := by decide +kernel
theorem dX7_goOverBits_110 : decode cX7_goOverBits 110 = .ok (.aload_n 0, 1) := by decide +kernel
theorem dX7_goOverBits_111 : decode cX7_goOverBits 111 = .ok (.getfield 16, 3) := by decide +kernel
theorem dX7_goOverBits_114 : decode cX7_goOverBits 114 = .ok (.iload_n 3, 1) := by decide +kernel
theorem dX7_goOverBits_115 : decode cX7_goOverBits 115 = .ok (.iaload, 1) := by decide +kernel
theorem dX7_goOverBits_116 : decode cX7_goOverBits 116 = .ok (.aload_n 0, 1) := by decide +kernel
theorem dX7_goOverBits_117 : decode cX7_goOverBits 117 = .ok (.getfield 13, 3) := by decide +kernel
theorem dX7_goOverBits_120 : decode cX7_goOverBits 120 = .ok (.iload_n 3, 1) := by decide +kernel
theorem dX7_goOverBits_121 : decode cX7_goOverBits 121 = .ok (.iaload, 1) := by decide +kernel
theorem dX7_goOverBits_122 : decode cX7_goOverBits 122 = .ok (.isub, 1) := by decide +kernel
theorem dX7_goOverBits_123 : decode cX7_goOverBits 123 = .ok (.iconst 1, 1) := by decide +kernel
theorem dX7_goOverBits_124 : decode cX7_goOverBits 124 = .ok (.iadd, 1) := by decide +kernel
theorem dX7_goOverBits_125 : decode cX7_goOverBits 125 = .ok (.invokevirtual 196, 3) := by decide +kernel
theorem dX7_goOverBits_128 : decode cX7_goOverBits 128 = .ok (.istore 6, 2) := by decide +kernel
theorem dX7_goOverBits_130 : decode cX7_goOverBits 130 = .ok (.aload_n 0, 1) := by decide +kernel
theorem dX7_goOverBits_131 : decode cX7_goOverBits 131 = .ok (.getfield 58, 3) := by decide +kernel
theorem dX7_goOverBits_134 : decode cX7_goOverBits 134 = .ok (.iload_n 2, 1) := by decide +kernel
theorem dX7_goOverBits_135 : decode cX7_goOverBits 135 = .ok (.iload 5, 2) := by decide +kernel
theorem dX7_goOverBits_137 : decode cX7_goOverBits 137 = .ok (.ifCond .eq 8, 3) := by decide +kernel
theorem dX7_goOverBits_140 : decode cX7_goOverBits 140 = .ok (.iload 6, 2) := by decide +kernel
theorem dX7_goOverBits_142 : decode cX7_goOverBits 142 = .ok (.goto 12, 3) := by decide +kernel
theorem dX7_goOverBits_145 : decode cX7_goOverBits 145 = .ok (.iload 6, 2) := by decide +kernel
theorem dX7_goOverBits_147 : decode cX7_goOverBits 147 = .ok (.aload_n 0, 1) := by decide +kernel
theorem dX7_goOverBits_148 : decode cX7_goOverBits 148 = .ok (.getfield 13, 3) := by decide +kernel
theorem dX7_goOverBits_151 : decode cX7_goOverBits 151 = .ok (.iload_n 3, 1) := by decide +kernel
theorem dX7_goOverBits_152 : decode cX7_goOverBits 152 = .ok (.iaload, 1) := by decide +kernel
theorem dX7_goOverBits_153 : decode cX7_goOverBits 153 = .ok (.iadd, 1) := by decide +kernel
theorem dX7_goOverBits_154 : decode cX7_goOverBits 154 = .ok (.iastore, 1) := by decide +kernel
theorem dX7_goOverBits_155 : decode cX7_goOverBits 155 = .ok (.aload_n 0, 1) := by decide +kernel
theorem dX7_goOverBits_156 : decode cX7_goOverBits 156 = .ok (.aload_n 0, 1) := by decide +kernel
theorem dX7_goOverBits_157 : decode cX7_goOverBits 157 = .ok (.getfield 58, 3) := by decide +kernel
theorem dX7_goOverBits_160 : decode cX7_goOverBits 160 = .ok (.iload_n 2, 1) := by decide +kernel
theorem dX7_goOverBits_161 : decode cX7_goOverBits 161 = .ok (.iaload, 1) := by decide +kernel
theorem dX7_goOverBits_162 : decode cX7_goOverBits 162 = .ok (.invokevirtual 199, 3) := by decide +kernel
theorem dX7_goOverBits_165 : decode cX7_goOverBits 165 = .ok (.aload_n 0, 1) := by decide +kernel
theorem dX7_goOverBits_166 : decode cX7_goOverBits 166 = .ok (.getfield 7, 3) := by decide +kernel
theorem dX7_goOverBits_169 : decode cX7_goOverBits 169 = .ok (.iload_n 3, 1) := by decide +kernel
theorem dX7_goOverBits_170 : decode cX7_goOverBits 170 = .ok (.iaload, 1) := by decide +kernel
theorem dX7_goOverBits_171 : decode cX7_goOverBits 171 = .ok (.iconst 1, 1) := by decide +kernel
theorem dX7_goOverBits_172 : decode cX7_goOverBits 172 = .ok (.if_icmp .ne 27, 3) := by decide +kernel
theorem dX7_goOverBits_175 : decode cX7_goOverBits 175 = .ok (.iload 4, 2) := by decide +kernel
theorem dX7_goOverBits_177 : decode cX7_goOverBits 177 = .ok (.aload_n 0, 1) := by decide +kernel
theorem dX7_goOverBits_178 : decode cX7_goOverBits 178 = .ok (.getfield 58, 3) := by decide +kernel
theorem dX7_goOverBits_181 : decode cX7_goOverBits 181 = .ok (.iload_n 2, 1) := by decide +kernel
theorem dX7_goOverBits_182 : decode cX7_goOverBits 182 = .ok (.iaload, 1) := by decide +kernel
theorem dX7_goOverBits_183 : decode cX7_goOverBits 183 = .ok (.if_icmp .ge 16, 3) := by decide +kernel
theorem dX7_goOverBits_186 : decode cX7_goOverBits 186 = .ok (.aload_n 0, 1) := by decide +kernel
theorem dX7_goOverBits_187 : decode cX7_goOverBits 187 = .ok (.aload_n 0, 1) := by decide +kernel
theorem dX7_goOverBits_188 : decode cX7_goOverBits 188 = .ok (.iload_n 3, 1) := by decide +kernel
theorem dX7_goOverBits_189 : decode cX7_goOverBits 189 = .ok (.iconst 0, 1) := by decide +kernel
theorem dX7_goOverBits_190 : decode cX7_goOverBits 190 = .ok (.invokevirtual 95, 3) := by decide +kernel
theorem dX7_goOverBits_193 : decode cX7_goOverBits 193 = .ok (.invokevirtual 169, 3) := by decide +kernel
theorem dX7_goOverBits_196 : decode cX7_goOverBits 196 = .ok (.goto 41, 3) := by decide +kernel
theorem dX7_goOverBits_199 : decode cX7_goOverBits 199 = .ok (.iload 5, 2) := by decide +kernel
theorem dX7_goOverBits_201 : decode cX7_goOverBits 201 = .ok (.ifCond .eq 26, 3) := by decide +kernel
theorem dX7_goOverBits_204 : decode cX7_goOverBits 204 = .ok (.iload 4, 2) := by decide +kernel
theorem dX7_goOverBits_206 : decode cX7_goOverBits 206 = .ok (.ifCond .ne 21, 3) := by decide +kernel
theorem dX7_goOverBits_209 : decode cX7_goOverBits 209 = .ok (.aload_n 0, 1) := by decide +kernel
theorem dX7_goOverBits_210 : decode cX7_goOverBits 210 = .ok (.aload_n 0, 1) := by decide +kernel
theorem dX7_goOverBits_211 : decode cX7_goOverBits 211 = .ok (.iload_n 3, 1) := by decide +kernel
theorem dX7_goOverBits_212 : decode cX7_goOverBits 212 = .ok (.aload_n 0, 1) := by decide +kernel
theorem dX7_goOverBits_213 : decode cX7_goOverBits 213 = .ok (.getfield 58, 3) := by decide +kernel
theorem dX7_goOverBits_216 : decode cX7_goOverBits 216 = .ok (.iload_n 2, 1) := by decide +kernel
theorem dX7_goOverBits_217 : decode cX7_goOverBits 217 = .ok (.iaload, 1) := by decide +kernel
theorem dX7_goOverBits_218 : decode cX7_goOverBits 218 = .ok (.invokevirtual 95, 3) := by decide +kernel
theorem dX7_goOverBits_221 : decode cX7_goOverBits 221 = .ok (.invokevirtual 169, 3) := by decide +kernel
theorem dX7_goOverBits_224 : decode cX7_goOverBits 224 = .ok (.goto 13, 3) := by decide +kernel
theorem dX7_goOverBits_227 : decode cX7_goOverBits 227 = .ok (.aload_n 0, 1) := by decide +kernel
theorem dX7_goOverBits_228 : decode cX7_goOverBits 228 = .ok (.dup, 1) := by decide +kernel
theorem dX7_goOverBits_229 : decode cX7_goOverBits 229 = .ok (.getfield 142, 3) := by decide +kernel
theorem dX7_goOverBits_232 : decode cX7_goOverBits 232 = .ok (.iconst 1, 1) := by decide +kernel
theorem dX7_goOverBits_233 : decode cX7_goOverBits 233 = .ok (.isub, 1) := by decide +kernel
theorem dX7_goOverBits_234 : decode cX7_goOverBits 234 = .ok (.putfield 142, 3) := by decide +kernel
theorem dX7_goOverBits_237 : decode cX7_goOverBits 237 = .ok (.return_, 1) := by decide +kernel
def wb_X7_goOverBits_227 (post : (Nat → Int32) → (Nat → Nat → Int32) → Prop)   (σ : Nat → Int32) (α : Nat → Nat → Int32) : Prop := ∀ σ75, σ75 = upd σ 20 ((σ 20) - (1 : Int32)) → post σ75 α
set_option maxHeartbeats 4000000 in
set_option maxRecDepth 100000 in
theorem tb_X7_goOverBits_227 {p : Program} {l : Launch} {e : Env} {s : State} {m : MethodId} {args : Array Value} {below : List Frame} {meth : Method} {c : Code} {G : gG} {A : Nat → Prop} {μ0 : Mm} {mm : Nat} {rf : Nat → Nat} {post : (Nat → Int32) → (Nat → Nat → Int32) → Prop} (X : Cx p l s m args meth c cX7_goOverBits 7 none RX7 G A) (hMO : MOk mm rf) : ∀ (σ : Nat → Int32) (α : Nat → Nat → Int32), wb_X7_goOverBits_227 post σ α → J p l e (rmL (3) 0 0) s m args below meth c 7 G A (MQ below (QG G A (pV (pMv μ0 mm rf post))) args s 0 0 A) 0 0 227 [(0, .ref mm)] [] (mset μ0 mm rf σ α) := by
  intro σ α hw
  unfold wb_X7_goOverBits_227 at hw
  refine j_aload_n X (pc' := 228) (kk := 0) (i := 0) 0 rfl rfl dX7_goOverBits_227 rfl ?_
  refine j_dup X (pc' := 229) rfl dX7_goOverBits_228 rfl ?_
  refine j_getf X (pc' := 232) mset_o 20 rfl rfl fw_TX7 (by decide) wt_3_185 dX7_goOverBits_229 rfl ?_
  refine j_iconst X (pc' := 233) (v := 1) (by decide) dX7_goOverBits_232 rfl ?_
  refine j_isub X (pc' := 234) dX7_goOverBits_233 rfl ?_
  refine jm_putf X (pc' := 237) 20 (mF_set_20 _ _ _) (by decide) rfl wt_3_185 (by decide +kernel) dX7_goOverBits_234 rfl (fun σ75 e76 => ?_)
  have hw1 := hw σ75 e76
  exact j_vret X ⟨rfl, _, _, rfl, hw1⟩ (Nat.le_of_ble_eq_true rfl) (Nat.le_of_ble_eq_true rfl) dX7_goOverBits_237
def wb_X7_goOverBits_199 (post : (Nat → Int32) → (Nat → Nat → Int32) → Prop)  (v2 : Int32) (v3 : Int32) (v4 : Int32) (v5 : Int32) (σ : Nat → Int32) (α : Nat → Nat → Int32) : Prop := (v5 = 0 → (wb_X7_goOverBits_227 post σ α)) ∧ (¬ v5 = 0 → ((¬ v4 = 0 → (wb_X7_goOverBits_227 post σ α)) ∧ (v4 = 0 → (vp_in v2 20 ∧ wp_X7_partOf v3 (α 23 v2.toNatClampNeg) σ α (fun r56 σ57 α58 => wp_X7_push r56 σ57 α58 (fun σ60 α61 => post σ60 α61))))))
set_option maxHeartbeats 4000000 in
set_option maxRecDepth 100000 in
theorem tb_X7_goOverBits_199 {p : Program} {l : Launch} {e : Env} {s : State} {m : MethodId} {args : Array Value} {below : List Frame} {meth : Method} {c : Code} {G : gG} {A : Nat → Prop} {μ0 : Mm} {mm : Nat} {rf : Nat → Nat} {post : (Nat → Int32) → (Nat → Nat → Int32) → Prop} (X : Cx p l s m args meth c cX7_goOverBits 7 none RX7 G A) (hMO : MOk mm rf) : ∀ (v2 : Int32) (v3 : Int32) (v4 : Int32) (v5 : Int32) (σ : Nat → Int32) (α : Nat → Nat → Int32), wb_X7_goOverBits_199 post v2 v3 v4 v5 σ α → J p l e (rmL (3) 0 0) s m args below meth c 7 G A (MQ below (QG G A (pV (pMv μ0 mm rf post))) args s 0 0 A) 0 0 199 [(0, .ref mm), (2, .int v2), (3, .int v3), (4, .int v4), (5, .int v5)] [] (mset μ0 mm rf σ α) := by
  intro v2 v3 v4 v5 σ α hw
  unfold wb_X7_goOverBits_199 at hw
  refine j_iload X (pc' := 201) (i := 5) 4 rfl dX7_goOverBits_199 rfl ?_
  refine j_if_eq X (pc' := 204) (tgt := 227) dX7_goOverBits_201 rfl (by decide) (fun c53 => ?_) (fun c53 => ?_)
  · have hw1 := hw.1 c53
    refine j_loc [0] rfl ?_
    exact tb_X7_goOverBits_227 X hMO  _ _ hw1
  · have hw2 := hw.2 c53
    refine j_iload X (pc' := 206) (i := 4) 3 rfl dX7_goOverBits_204 rfl ?_
    refine j_if_ne X (pc' := 209) (tgt := 227) dX7_goOverBits_206 rfl (by decide) (fun c54 => ?_) (fun c54 => ?_)
    · have hw3 := hw2.1 c54
      refine j_loc [0] rfl ?_
      exact tb_X7_goOverBits_227 X hMO  _ _ hw3
    · have hw4 := hw2.2 c54
      refine j_aload_n X (pc' := 210) (kk := 0) (i := 0) 0 rfl rfl dX7_goOverBits_209 rfl ?_
      refine j_aload_n X (pc' := 211) (kk := 0) (i := 0) 0 rfl rfl dX7_goOverBits_210 rfl ?_
      refine j_iload_n X (pc' := 212) (kk := 3) (i := 3) 2 rfl rfl dX7_goOverBits_211 rfl ?_
      refine j_aload_n X (pc' := 213) (kk := 0) (i := 0) 0 rfl rfl dX7_goOverBits_212 rfl ?_
      refine j_getf X (pc' := 216) mset_o 23 rfl rfl fw_TX7 (by decide) wt_3_188 dX7_goOverBits_213 rfl ?_
      refine j_iload_n X (pc' := 217) (kk := 2) (i := 2) 1 rfl rfl dX7_goOverBits_216 rfl ?_
      have h55 := hw4.1
      have hw5 := hw4.2
      refine j_iald X (pc' := 218) (mset_a hMO 23 (by decide)) h55 dX7_goOverBits_217 rfl ?_
      refine j_callVi (As := [.int v3, .int (α 23 v2.toNatClampNeg)]) (rest := [.ref mm]) X (pc' := 221) (cells' := 0) (slots' := 0) (c_X7_partOf l G A hMO μ0 v3 (α 23 v2.toNatClampNeg) σ α _ hw5) (gk_X7_partOf wt_4_51) hd_X7_partOf (rmL_fit (k1 := 0) (k := 3) (by omega) (by decide)) mset_o rfl rfl rfl (Nat.le_of_ble_eq_true rfl) dX7_goOverBits_218 rfl ⟨Nat.le_of_ble_eq_true rfl, Nat.le_of_ble_eq_true rfl⟩ rfl rfl (fun r56 μ65 hw6 => ?_)
      obtain ⟨σ57, α58, rfl, hw7⟩ := hw6
      refine j_callVv (As := [.int r56]) (rest := []) X (pc' := 224) (cells' := 0) (slots' := 0) (c_X7_push l G A hMO μ0 r56 σ57 α58 _ hw7) (gk_X7_push wt_4_142) hd_X7_push (rmL_fit (k1 := 0) (k := 3) (by omega) (by decide)) mset_o rfl rfl rfl (Nat.le_of_ble_eq_true rfl) dX7_goOverBits_221 rfl ⟨Nat.le_of_ble_eq_true rfl, Nat.le_of_ble_eq_true rfl⟩ rfl rfl (fun μ63 hw8 => ?_)
      obtain ⟨σ60, α61, rfl, hw9⟩ := hw8
      refine j_goto X (tgt := 237) dX7_goOverBits_224 (by decide) ?_
      exact j_vret X ⟨rfl, _, _, rfl, hw9⟩ (Nat.le_of_ble_eq_true rfl) (Nat.le_of_ble_eq_true rfl) dX7_goOverBits_237
def wb_X7_goOverBits_165 (post : (Nat → Int32) → (Nat → Nat → Int32) → Prop)  (v2 : Int32) (v3 : Int32) (v4 : Int32) (v5 : Int32) (σ : Nat → Int32) (α : Nat → Nat → Int32) : Prop := vp_in v3 16 ∧ (¬ (α 2 v3.toNatClampNeg) = (1 : Int32) → (wb_X7_goOverBits_199 post v2 v3 v4 v5 σ α)) ∧ ((α 2 v3.toNatClampNeg) = (1 : Int32) → (vp_in v2 20 ∧ ((α 23 v2.toNatClampNeg) ≤ v4 → (wb_X7_goOverBits_199 post v2 v3 v4 v5 σ α)) ∧ (¬ (α 23 v2.toNatClampNeg) ≤ v4 → (wp_X7_partOf v3 (0 : Int32) σ α (fun r36 σ37 α38 => wp_X7_push r36 σ37 α38 (fun σ40 α41 => post σ40 α41))))))
set_option maxHeartbeats 4000000 in
set_option maxRecDepth 100000 in
theorem tb_X7_goOverBits_165 {p : Program} {l : Launch} {e : Env} {s : State} {m : MethodId} {args : Array Value} {below : List Frame} {meth : Method} {c : Code} {G : gG} {A : Nat → Prop} {μ0 : Mm} {mm : Nat} {rf : Nat → Nat} {post : (Nat → Int32) → (Nat → Nat → Int32) → Prop} (X : Cx p l s m args meth c cX7_goOverBits 7 none RX7 G A) (hMO : MOk mm rf) : ∀ (v2 : Int32) (v3 : Int32) (v4 : Int32) (v5 : Int32) (σ : Nat → Int32) (α : Nat → Nat → Int32), wb_X7_goOverBits_165 post v2 v3 v4 v5 σ α → J p l e (rmL (3) 0 0) s m args below meth c 7 G A (MQ below (QG G A (pV (pMv μ0 mm rf post))) args s 0 0 A) 0 0 165 [(0, .ref mm), (2, .int v2), (3, .int v3), (4, .int v4), (5, .int v5)] [] (mset μ0 mm rf σ α) := by
  intro v2 v3 v4 v5 σ α hw
  unfold wb_X7_goOverBits_165 at hw
  refine j_aload_n X (pc' := 166) (kk := 0) (i := 0) 0 rfl rfl dX7_goOverBits_165 rfl ?_
  refine j_getf X (pc' := 169) mset_o 2 rfl rfl fw_TX7 (by decide) wt_3_167 dX7_goOverBits_166 rfl ?_
  refine j_iload_n X (pc' := 170) (kk := 3) (i := 3) 2 rfl rfl dX7_goOverBits_169 rfl ?_
  have h32 := hw.1
  have hw1 := hw.2
  refine j_iald X (pc' := 171) (mset_a hMO 2 (by decide)) h32 dX7_goOverBits_170 rfl ?_
  refine j_iconst X (pc' := 172) (v := 1) (by decide) dX7_goOverBits_171 rfl ?_
  refine j_icmp_ne X (pc' := 175) (tgt := 199) dX7_goOverBits_172 rfl (by decide) (fun c33 => ?_) (fun c33 => ?_)
  · have hw2 := hw1.1 c33
    exact tb_X7_goOverBits_199 X hMO _ _ _ _ _ _ hw2
  · have hw3 := hw1.2 c33
    refine j_iload X (pc' := 177) (i := 4) 3 rfl dX7_goOverBits_175 rfl ?_
    refine j_aload_n X (pc' := 178) (kk := 0) (i := 0) 0 rfl rfl dX7_goOverBits_177 rfl ?_
    refine j_getf X (pc' := 181) mset_o 23 rfl rfl fw_TX7 (by decide) wt_3_188 dX7_goOverBits_178 rfl ?_
    refine j_iload_n X (pc' := 182) (kk := 2) (i := 2) 1 rfl rfl dX7_goOverBits_181 rfl ?_
    have h34 := hw3.1
    have hw4 := hw3.2
    refine j_iald X (pc' := 183) (mset_a hMO 23 (by decide)) h34 dX7_goOverBits_182 rfl ?_
    refine j_icmp_ge X (pc' := 186) (tgt := 199) dX7_goOverBits_183 rfl (by decide) (fun c35 => ?_) (fun c35 => ?_)
    · have hw5 := hw4.1 c35
      exact tb_X7_goOverBits_199 X hMO _ _ _ _ _ _ hw5
    · have hw6 := hw4.2 c35
      refine j_aload_n X (pc' := 187) (kk := 0) (i := 0) 0 rfl rfl dX7_goOverBits_186 rfl ?_
      refine j_aload_n X (pc' := 188) (kk := 0) (i := 0) 0 rfl rfl dX7_goOverBits_187 rfl ?_
      refine j_iload_n X (pc' := 189) (kk := 3) (i := 3) 2 rfl rfl dX7_goOverBits_188 rfl ?_
      refine j_iconst X (pc' := 190) (v := 0) (by decide) dX7_goOverBits_189 rfl ?_
      refine j_callVi (As := [.int v3, .int (0 : Int32)]) (rest := [.ref mm]) X (pc' := 193) (cells' := 0) (slots' := 0) (c_X7_partOf l G A hMO μ0 v3 (0 : Int32) σ α _ hw6) (gk_X7_partOf wt_4_51) hd_X7_partOf (rmL_fit (k1 := 0) (k := 3) (by omega) (by decide)) mset_o rfl rfl rfl (Nat.le_of_ble_eq_true rfl) dX7_goOverBits_190 rfl ⟨Nat.le_of_ble_eq_true rfl, Nat.le_of_ble_eq_true rfl⟩ rfl rfl (fun r36 μ45 hw7 => ?_)
      obtain ⟨σ37, α38, rfl, hw8⟩ := hw7
      refine j_callVv (As := [.int r36]) (rest := []) X (pc' := 196) (cells' := 0) (slots' := 0) (c_X7_push l G A hMO μ0 r36 σ37 α38 _ hw8) (gk_X7_push wt_4_142) hd_X7_push (rmL_fit (k1 := 0) (k := 3) (by omega) (by decide)) mset_o rfl rfl rfl (Nat.le_of_ble_eq_true rfl) dX7_goOverBits_193 rfl ⟨Nat.le_of_ble_eq_true rfl, Nat.le_of_ble_eq_true rfl⟩ rfl rfl (fun μ43 hw9 => ?_)
      obtain ⟨σ40, α41, rfl, hw10⟩ := hw9
      refine j_goto X (tgt := 237) dX7_goOverBits_196 (by decide) ?_
      exact j_vret X ⟨rfl, _, _, rfl, hw10⟩ (Nat.le_of_ble_eq_true rfl) (Nat.le_of_ble_eq_true rfl) dX7_goOverBits_237
def wb_X7_goOverBits_154 (post : (Nat → Int32) → (Nat → Nat → Int32) → Prop)  (v2 : Int32) (v3 : Int32) (v4 : Int32) (v5 : Int32) (s0 : Int32) (s1 : Int32) (σ : Nat → Int32) (α : Nat → Nat → Int32) : Prop := vp_in s1 20 ∧ ∀ α67, α67 = upA α 23 (upd (α 23) s1.toNatClampNeg s0) → vp_in v2 20 ∧ wp_X7_note (α67 23 v2.toNatClampNeg) σ α67 (fun σ71 α72 => wb_X7_goOverBits_165 post v2 v3 v4 v5 σ71 α72)
set_option maxHeartbeats 4000000 in
set_option maxRecDepth 100000 in
theorem tb_X7_goOverBits_154 {p : Program} {l : Launch} {e : Env} {s : State} {m : MethodId} {args : Array Value} {below : List Frame} {meth : Method} {c : Code} {G : gG} {A : Nat → Prop} {μ0 : Mm} {mm : Nat} {rf : Nat → Nat} {post : (Nat → Int32) → (Nat → Nat → Int32) → Prop} (X : Cx p l s m args meth c cX7_goOverBits 7 none RX7 G A) (hMO : MOk mm rf) : ∀ (v2 : Int32) (v3 : Int32) (v4 : Int32) (v5 : Int32) (s0 : Int32) (s1 : Int32) (σ : Nat → Int32) (α : Nat → Nat → Int32), wb_X7_goOverBits_154 post v2 v3 v4 v5 s0 s1 σ α → J p l e (rmL (3) 0 0) s m args below meth c 7 G A (MQ below (QG G A (pV (pMv μ0 mm rf post))) args s 0 0 A) 0 0 154 [(0, .ref mm), (2, .int v2), (3, .int v3), (4, .int v4), (5, .int v5)] [.int s0, .int s1, .ref (rf 23)] (mset μ0 mm rf σ α) := by
  intro v2 v3 v4 v5 s0 s1 σ α hw
  unfold wb_X7_goOverBits_154 at hw
  have h66 := hw.1
  have hw1 := hw.2
  refine jm_iast X (pc' := 155) hMO 23 (by decide) h66 dX7_goOverBits_154 rfl (fun α67 e68 => ?_)
  have hw2 := hw1 α67 e68
  refine j_aload_n X (pc' := 156) (kk := 0) (i := 0) 0 rfl rfl dX7_goOverBits_155 rfl ?_
  refine j_aload_n X (pc' := 157) (kk := 0) (i := 0) 0 rfl rfl dX7_goOverBits_156 rfl ?_
  refine j_getf X (pc' := 160) mset_o 23 rfl rfl fw_TX7 (by decide) wt_3_188 dX7_goOverBits_157 rfl ?_
  refine j_iload_n X (pc' := 161) (kk := 2) (i := 2) 1 rfl rfl dX7_goOverBits_160 rfl ?_
  have h69 := hw2.1
  have hw3 := hw2.2
  refine j_iald X (pc' := 162) (mset_a hMO 23 (by decide)) h69 dX7_goOverBits_161 rfl ?_
  refine j_callVv (As := [.int (α67 23 v2.toNatClampNeg)]) (rest := []) X (pc' := 165) (cells' := 0) (slots' := 0) (c_X7_note l G A hMO μ0 (α67 23 v2.toNatClampNeg) σ α67 _ hw3) (gk_X7_note wt_4_210) hd_X7_note (rmL_fit (k1 := 0) (k := 3) (by omega) (by decide)) mset_o rfl rfl rfl (Nat.le_of_ble_eq_true rfl) dX7_goOverBits_162 rfl ⟨Nat.le_of_ble_eq_true rfl, Nat.le_of_ble_eq_true rfl⟩ rfl rfl (fun μ74 hw4 => ?_)
  obtain ⟨σ71, α72, rfl, hw5⟩ := hw4
  exact tb_X7_goOverBits_165 X hMO _ _ _ _ _ _ hw5
def wb_X7_goOverBits_125 (post : (Nat → Int32) → (Nat → Nat → Int32) → Prop)  (v2 : Int32) (v3 : Int32) (v4 : Int32) (v5 : Int32) (s0 : Int32) (s1 : Int32) (σ : Nat → Int32) (α : Nat → Nat → Int32) : Prop := wp_X7_takeBelow s1 s0 σ α (fun r46 σ47 α48 => (v5 = 0 → (vp_in v3 16 ∧ wb_X7_goOverBits_154 post v2 v3 v4 v5 (r46 + (α48 3 v3.toNatClampNeg)) v2 σ47 α48)) ∧ (¬ v5 = 0 → (wb_X7_goOverBits_154 post v2 v3 v4 v5 r46 v2 σ47 α48)))
set_option maxHeartbeats 4000000 in
set_option maxRecDepth 100000 in
theorem tb_X7_goOverBits_125 {p : Program} {l : Launch} {e : Env} {s : State} {m : MethodId} {args : Array Value} {below : List Frame} {meth : Method} {c : Code} {G : gG} {A : Nat → Prop} {μ0 : Mm} {mm : Nat} {rf : Nat → Nat} {post : (Nat → Int32) → (Nat → Nat → Int32) → Prop} (X : Cx p l s m args meth c cX7_goOverBits 7 none RX7 G A) (hMO : MOk mm rf) : ∀ (v2 : Int32) (v3 : Int32) (v4 : Int32) (v5 : Int32) (s0 : Int32) (s1 : Int32) (σ : Nat → Int32) (α : Nat → Nat → Int32), wb_X7_goOverBits_125 post v2 v3 v4 v5 s0 s1 σ α → J p l e (rmL (3) 0 0) s m args below meth c 7 G A (MQ below (QG G A (pV (pMv μ0 mm rf post))) args s 0 0 A) 0 0 125 [(0, .ref mm), (2, .int v2), (3, .int v3), (4, .int v4), (5, .int v5)] [.int s0, .int s1, .ref mm] (mset μ0 mm rf σ α) := by
  intro v2 v3 v4 v5 s0 s1 σ α hw
  unfold wb_X7_goOverBits_125 at hw
  refine j_callVi (As := [.int s1, .int s0]) (rest := []) X (pc' := 128) (cells' := 0) (slots' := 0) (c_X7_takeBelow l G A hMO μ0 s1 s0 σ α _ hw) (gk_X7_takeBelow wt_4_218) hd_X7_takeBelow (rmL_fit (k1 := 1) (k := 3) (by omega) (by decide)) mset_o rfl rfl rfl (Nat.le_of_ble_eq_true rfl) dX7_goOverBits_125 rfl ⟨Nat.le_of_ble_eq_true rfl, Nat.le_of_ble_eq_true rfl⟩ rfl rfl (fun r46 μ52 hw1 => ?_)
  obtain ⟨σ47, α48, rfl, hw2⟩ := hw1
  refine j_istore X (pc' := 130) (i := 6) (loc' := [(6, .int r46), (0, .ref mm), (2, .int v2), (3, .int v3), (4, .int v4), (5, .int v5)]) dX7_goOverBits_128 rfl (by decide) rfl ?_
  refine j_aload_n X (pc' := 131) (kk := 0) (i := 0) 1 rfl rfl dX7_goOverBits_130 rfl ?_
  refine j_getf X (pc' := 134) mset_o 23 rfl rfl fw_TX7 (by decide) wt_3_188 dX7_goOverBits_131 rfl ?_
  refine j_iload_n X (pc' := 135) (kk := 2) (i := 2) 2 rfl rfl dX7_goOverBits_134 rfl ?_
  refine j_iload X (pc' := 137) (i := 5) 5 rfl dX7_goOverBits_135 rfl ?_
  refine j_if_eq X (pc' := 140) (tgt := 145) dX7_goOverBits_137 rfl (by decide) (fun c49 => ?_) (fun c49 => ?_)
  · have hw3 := hw2.1 c49
    refine j_iload X (pc' := 147) (i := 6) 0 rfl dX7_goOverBits_145 rfl ?_
    refine j_aload_n X (pc' := 148) (kk := 0) (i := 0) 1 rfl rfl dX7_goOverBits_147 rfl ?_
    refine j_getf X (pc' := 151) mset_o 3 rfl rfl fw_TX7 (by decide) wt_3_168 dX7_goOverBits_148 rfl ?_
    refine j_iload_n X (pc' := 152) (kk := 3) (i := 3) 3 rfl rfl dX7_goOverBits_151 rfl ?_
    have h50 := hw3.1
    have hw4 := hw3.2
    refine j_iald X (pc' := 153) (mset_a hMO 3 (by decide)) h50 dX7_goOverBits_152 rfl ?_
    refine j_iadd X (pc' := 154) dX7_goOverBits_153 rfl ?_
    refine j_loc [1, 2, 3, 4, 5] rfl ?_
    exact tb_X7_goOverBits_154 X hMO _ _ _ _ _ _ _ _ hw4
  · have hw5 := hw2.2 c49
    refine j_iload X (pc' := 142) (i := 6) 0 rfl dX7_goOverBits_140 rfl ?_
    refine j_goto X (tgt := 154) dX7_goOverBits_142 (by decide) ?_
    refine j_loc [1, 2, 3, 4, 5] rfl ?_
    exact tb_X7_goOverBits_154 X hMO _ _ _ _ _ _ _ _ hw5
def wb_X7_goOverBits_83 (post : (Nat → Int32) → (Nat → Nat → Int32) → Prop)  (v2 : Int32) (v3 : Int32) (v4 : Int32) (s0 : Int32) (σ : Nat → Int32) (α : Nat → Nat → Int32) : Prop := (¬ v4 = 0 → (wb_X7_goOverBits_165 post v2 v3 v4 s0 σ α)) ∧ (v4 = 0 → (wp_X7_widthOf v3 σ α (fun r23 σ24 α25 => (s0 = 0 → (vp_in v3 16 ∧ vp_in v3 16 ∧ wb_X7_goOverBits_125 post v2 v3 v4 s0 (((α25 4 v3.toNatClampNeg) - (α25 3 v3.toNatClampNeg)) + (1 : Int32)) r23 σ24 α25)) ∧ (¬ s0 = 0 → (vp_in v3 16 ∧ wb_X7_goOverBits_125 post v2 v3 v4 s0 (α25 6 v3.toNatClampNeg) r23 σ24 α25)))))
set_option maxHeartbeats 4000000 in
set_option maxRecDepth 100000 in
theorem tb_X7_goOverBits_83 {p : Program} {l : Launch} {e : Env} {s : State} {m : MethodId} {args : Array Value} {below : List Frame} {meth : Method} {c : Code} {G : gG} {A : Nat → Prop} {μ0 : Mm} {mm : Nat} {rf : Nat → Nat} {post : (Nat → Int32) → (Nat → Nat → Int32) → Prop} (X : Cx p l s m args meth c cX7_goOverBits 7 none RX7 G A) (hMO : MOk mm rf) : ∀ (v2 : Int32) (v3 : Int32) (v4 : Int32) (s0 : Int32) (σ : Nat → Int32) (α : Nat → Nat → Int32), wb_X7_goOverBits_83 post v2 v3 v4 s0 σ α → J p l e (rmL (3) 0 0) s m args below meth c 7 G A (MQ below (QG G A (pV (pMv μ0 mm rf post))) args s 0 0 A) 0 0 83 [(0, .ref mm), (2, .int v2), (3, .int v3), (4, .int v4)] [.int s0] (mset μ0 mm rf σ α) := by
  intro v2 v3 v4 s0 σ α hw
  unfold wb_X7_goOverBits_83 at hw
  refine j_istore X (pc' := 85) (i := 5) (loc' := [(5, .int s0), (0, .ref mm), (2, .int v2), (3, .int v3), (4, .int v4)]) dX7_goOverBits_83 rfl (by decide) rfl ?_
  refine j_iload X (pc' := 87) (i := 4) 4 rfl dX7_goOverBits_85 rfl ?_
  refine j_if_ne X (pc' := 90) (tgt := 165) dX7_goOverBits_87 rfl (by decide) (fun c22 => ?_) (fun c22 => ?_)
  · have hw1 := hw.1 c22
    refine j_loc [1, 2, 3, 4, 0] rfl ?_
    exact tb_X7_goOverBits_165 X hMO _ _ _ _ _ _ hw1
  · have hw2 := hw.2 c22
    refine j_aload_n X (pc' := 91) (kk := 0) (i := 0) 1 rfl rfl dX7_goOverBits_90 rfl ?_
    refine j_aload_n X (pc' := 92) (kk := 0) (i := 0) 1 rfl rfl dX7_goOverBits_91 rfl ?_
    refine j_iload_n X (pc' := 93) (kk := 3) (i := 3) 3 rfl rfl dX7_goOverBits_92 rfl ?_
    refine j_callVi (As := [.int v3]) (rest := [.ref mm]) X (pc' := 96) (cells' := 0) (slots' := 0) (c_X7_widthOf l G A hMO μ0 v3 σ α _ hw2) (gk_X7_widthOf wt_4_59) hd_X7_widthOf (rmL_fit (k1 := 1) (k := 3) (by omega) (by decide)) mset_o rfl rfl rfl (Nat.le_of_ble_eq_true rfl) dX7_goOverBits_93 rfl ⟨Nat.le_of_ble_eq_true rfl, Nat.le_of_ble_eq_true rfl⟩ rfl rfl (fun r23 μ31 hw3 => ?_)
    obtain ⟨σ24, α25, rfl, hw4⟩ := hw3
    refine j_iload X (pc' := 98) (i := 5) 0 rfl dX7_goOverBits_96 rfl ?_
    refine j_if_eq X (pc' := 101) (tgt := 110) dX7_goOverBits_98 rfl (by decide) (fun c26 => ?_) (fun c26 => ?_)
    · have hw5 := hw4.1 c26
      refine j_aload_n X (pc' := 111) (kk := 0) (i := 0) 1 rfl rfl dX7_goOverBits_110 rfl ?_
      refine j_getf X (pc' := 114) mset_o 4 rfl rfl fw_TX7 (by decide) wt_3_169 dX7_goOverBits_111 rfl ?_
      refine j_iload_n X (pc' := 115) (kk := 3) (i := 3) 3 rfl rfl dX7_goOverBits_114 rfl ?_
      have h27 := hw5.1
      have hw6 := hw5.2
      refine j_iald X (pc' := 116) (mset_a hMO 4 (by decide)) h27 dX7_goOverBits_115 rfl ?_
      refine j_aload_n X (pc' := 117) (kk := 0) (i := 0) 1 rfl rfl dX7_goOverBits_116 rfl ?_
      refine j_getf X (pc' := 120) mset_o 3 rfl rfl fw_TX7 (by decide) wt_3_168 dX7_goOverBits_117 rfl ?_
      refine j_iload_n X (pc' := 121) (kk := 3) (i := 3) 3 rfl rfl dX7_goOverBits_120 rfl ?_
      have h28 := hw6.1
      have hw7 := hw6.2
      refine j_iald X (pc' := 122) (mset_a hMO 3 (by decide)) h28 dX7_goOverBits_121 rfl ?_
      refine j_isub X (pc' := 123) dX7_goOverBits_122 rfl ?_
      refine j_iconst X (pc' := 124) (v := 1) (by decide) dX7_goOverBits_123 rfl ?_
      refine j_iadd X (pc' := 125) dX7_goOverBits_124 rfl ?_
      refine j_loc [1, 2, 3, 4, 0] rfl ?_
      exact tb_X7_goOverBits_125 X hMO _ _ _ _ _ _ _ _ hw7
    · have hw8 := hw4.2 c26
      refine j_aload_n X (pc' := 102) (kk := 0) (i := 0) 1 rfl rfl dX7_goOverBits_101 rfl ?_
      refine j_getf X (pc' := 105) mset_o 6 rfl rfl fw_TX7 (by decide) wt_3_171 dX7_goOverBits_102 rfl ?_
      refine j_iload_n X (pc' := 106) (kk := 3) (i := 3) 3 rfl rfl dX7_goOverBits_105 rfl ?_
      have h29 := hw8.1
      have hw9 := hw8.2
      refine j_iald X (pc' := 107) (mset_a hMO 6 (by decide)) h29 dX7_goOverBits_106 rfl ?_
      refine j_goto X (tgt := 125) dX7_goOverBits_107 (by decide) ?_
      refine j_loc [1, 2, 3, 4, 0] rfl ?_
      exact tb_X7_goOverBits_125 X hMO _ _ _ _ _ _ _ _ hw9
def wp_X7_goOverBits (x1 : Int32) (σ : Nat → Int32) (α : Nat → Nat → Int32) (post : (Nat → Int32) → (Nat → Nat → Int32) → Prop) : Prop := vp_in ((σ 20) - (1 : Int32)) 20 ∧ vp_in ((σ 20) - (1 : Int32)) 20 ∧ vp_in ((σ 20) - (1 : Int32)) 20 ∧ vp_in ((σ 20) - (1 : Int32)) 20 ∧ ∀ α5, α5 = upA α 22 (upd (α 22) ((σ 20) - (1 : Int32)).toNatClampNeg ((α 22 ((σ 20) - (1 : Int32)).toNatClampNeg) + (1 : Int32))) → vp_in (α 21 ((σ 20) - (1 : Int32)).toNatClampNeg) 16 ∧ (¬ (α5 2 (α 21 ((σ 20) - (1 : Int32)).toNatClampNeg).toNatClampNeg) = (2 : Int32) → (vp_in (α 21 ((σ 20) - (1 : Int32)).toNatClampNeg) 16 ∧ (¬ (α5 2 (α 21 ((σ 20) - (1 : Int32)).toNatClampNeg).toNatClampNeg) = (3 : Int32) → (wb_X7_goOverBits_83 post ((σ 20) - (1 : Int32)) (α 21 ((σ 20) - (1 : Int32)).toNatClampNeg) (α 22 ((σ 20) - (1 : Int32)).toNatClampNeg) (0 : Int32) σ α5)) ∧ ((α5 2 (α 21 ((σ 20) - (1 : Int32)).toNatClampNeg).toNatClampNeg) = (3 : Int32) → (wb_X7_goOverBits_83 post ((σ 20) - (1 : Int32)) (α 21 ((σ 20) - (1 : Int32)).toNatClampNeg) (α 22 ((σ 20) - (1 : Int32)).toNatClampNeg) (1 : Int32) σ α5)))) ∧ ((α5 2 (α 21 ((σ 20) - (1 : Int32)).toNatClampNeg).toNatClampNeg) = (2 : Int32) → ((¬ (α 22 ((σ 20) - (1 : Int32)).toNatClampNeg) = 0 → (wp_X7_sequenceOfBits (α 21 ((σ 20) - (1 : Int32)).toNatClampNeg) ((σ 20) - (1 : Int32)) ((α 22 ((σ 20) - (1 : Int32)).toNatClampNeg) - (1 : Int32)) x1 σ α5 (fun σ13 α14 => post σ13 α14))) ∧ ((α 22 ((σ 20) - (1 : Int32)).toNatClampNeg) = 0 → (wp_X7_headOfBits (α 21 ((σ 20) - (1 : Int32)).toNatClampNeg) ((σ 20) - (1 : Int32)) σ α5 (fun σ18 α19 => post σ18 α19)))))
set_option maxHeartbeats 4000000 in
set_option maxRecDepth 100000 in
theorem c_X7_goOverBits (l : Launch) (G : gG) (A : Nat → Prop) {mm : Nat} {rf : Nat → Nat} (hMO : MOk mm rf) (μ0 : Mm) (x1 : Int32) (σ : Nat → Int32) (α : Nat → Nat → Int32) (post : (Nat → Int32) → (Nat → Nat → Int32) → Prop) (h : wp_X7_goOverBits x1 σ α post) : Met l yX7_goOverBits (.code yX7_goOverBits cX7_goOverBits 7 none :: wsA) (rmL (3) 0 0) (PcG G A (mset μ0 mm rf σ α) [.ref mm, .int x1]) (QG G A (pV (pMv μ0 mm rf post))) 0 0 A := by
  refine met_J (loc := [(0, .ref mm), (1, .int x1)]) (by decide +kernel) (Nat.le_of_ble_eq_true rfl) rfl ?_
  intro p e s m args below meth c X hin
  have X : Cx p l s m args meth c cX7_goOverBits 7 none RX7 G A := X
  have hw := h
  unfold wp_X7_goOverBits at hw
  refine j_aload_n X (pc' := 1) (kk := 0) (i := 0) 0 rfl rfl dX7_goOverBits_0 rfl ?_
  refine j_getf X (pc' := 4) mset_o 20 rfl rfl fw_TX7 (by decide) wt_3_185 dX7_goOverBits_1 rfl ?_
  refine j_iconst X (pc' := 5) (v := 1) (by decide) dX7_goOverBits_4 rfl ?_
  refine j_isub X (pc' := 6) dX7_goOverBits_5 rfl ?_
  refine j_istore_n X (pc' := 7) (kk := 2) (i := 2) (loc' := [(2, .int ((σ 20) - (1 : Int32))), (0, .ref mm), (1, .int x1)]) dX7_goOverBits_6 rfl rfl (by decide) rfl ?_
  refine j_aload_n X (pc' := 8) (kk := 0) (i := 0) 1 rfl rfl dX7_goOverBits_7 rfl ?_
  refine j_getf X (pc' := 11) mset_o 21 rfl rfl fw_TX7 (by decide) wt_3_186 dX7_goOverBits_8 rfl ?_
  refine j_iload_n X (pc' := 12) (kk := 2) (i := 2) 0 rfl rfl dX7_goOverBits_11 rfl ?_
  have h1 := hw.1
  have hw1 := hw.2
  refine j_iald X (pc' := 13) (mset_a hMO 21 (by decide)) h1 dX7_goOverBits_12 rfl ?_
  refine j_istore_n X (pc' := 14) (kk := 3) (i := 3) (loc' := [(3, .int (α 21 ((σ 20) - (1 : Int32)).toNatClampNeg)), (2, .int ((σ 20) - (1 : Int32))), (0, .ref mm), (1, .int x1)]) dX7_goOverBits_13 rfl rfl (by decide) rfl ?_
  refine j_aload_n X (pc' := 15) (kk := 0) (i := 0) 2 rfl rfl dX7_goOverBits_14 rfl ?_
  refine j_getf X (pc' := 18) mset_o 22 rfl rfl fw_TX7 (by decide) wt_3_187 dX7_goOverBits_15 rfl ?_
  refine j_iload_n X (pc' := 19) (kk := 2) (i := 2) 1 rfl rfl dX7_goOverBits_18 rfl ?_
  have h2 := hw1.1
  have hw2 := hw1.2
  refine j_iald X (pc' := 20) (mset_a hMO 22 (by decide)) h2 dX7_goOverBits_19 rfl ?_
  refine j_istore X (pc' := 22) (i := 4) (loc' := [(4, .int (α 22 ((σ 20) - (1 : Int32)).toNatClampNeg)), (3, .int (α 21 ((σ 20) - (1 : Int32)).toNatClampNeg)), (2, .int ((σ 20) - (1 : Int32))), (0, .ref mm), (1, .int x1)]) dX7_goOverBits_20 rfl (by decide) rfl ?_
  refine j_aload_n X (pc' := 23) (kk := 0) (i := 0) 3 rfl rfl dX7_goOverBits_22 rfl ?_
  refine j_getf X (pc' := 26) mset_o 22 rfl rfl fw_TX7 (by decide) wt_3_187 dX7_goOverBits_23 rfl ?_
  refine j_iload_n X (pc' := 27) (kk := 2) (i := 2) 2 rfl rfl dX7_goOverBits_26 rfl ?_
  refine j_dup2 X (pc' := 28) rfl rfl dX7_goOverBits_27 rfl ?_
  have h3 := hw2.1
  have hw3 := hw2.2
  refine j_iald X (pc' := 29) (mset_a hMO 22 (by decide)) h3 dX7_goOverBits_28 rfl ?_
  refine j_iconst X (pc' := 30) (v := 1) (by decide) dX7_goOverBits_29 rfl ?_
  refine j_iadd X (pc' := 31) dX7_goOverBits_30 rfl ?_
  have h4 := hw3.1
  have hw4 := hw3.2
  refine jm_iast X (pc' := 32) hMO 22 (by decide) h4 dX7_goOverBits_31 rfl (fun α5 e6 => ?_)
  have hw5 := hw4 α5 e6
  refine j_aload_n X (pc' := 33) (kk := 0) (i := 0) 3 rfl rfl dX7_goOverBits_32 rfl ?_
  refine j_getf X (pc' := 36) mset_o 2 rfl rfl fw_TX7 (by decide) wt_3_167 dX7_goOverBits_33 rfl ?_
  refine j_iload_n X (pc' := 37) (kk := 3) (i := 3) 1 rfl rfl dX7_goOverBits_36 rfl ?_
  have h7 := hw5.1
  have hw6 := hw5.2
  refine j_iald X (pc' := 38) (mset_a hMO 2 (by decide)) h7 dX7_goOverBits_37 rfl ?_
  refine j_iconst X (pc' := 39) (v := 2) (by decide) dX7_goOverBits_38 rfl ?_
  refine j_icmp_ne X (pc' := 42) (tgt := 68) dX7_goOverBits_39 rfl (by decide) (fun c8 => ?_) (fun c8 => ?_)
  · have hw7 := hw6.1 c8
    refine j_aload_n X (pc' := 69) (kk := 0) (i := 0) 3 rfl rfl dX7_goOverBits_68 rfl ?_
    refine j_getf X (pc' := 72) mset_o 2 rfl rfl fw_TX7 (by decide) wt_3_167 dX7_goOverBits_69 rfl ?_
    refine j_iload_n X (pc' := 73) (kk := 3) (i := 3) 1 rfl rfl dX7_goOverBits_72 rfl ?_
    have h9 := hw7.1
    have hw8 := hw7.2
    refine j_iald X (pc' := 74) (mset_a hMO 2 (by decide)) h9 dX7_goOverBits_73 rfl ?_
    refine j_iconst X (pc' := 75) (v := 3) (by decide) dX7_goOverBits_74 rfl ?_
    refine j_icmp_ne X (pc' := 78) (tgt := 82) dX7_goOverBits_75 rfl (by decide) (fun c10 => ?_) (fun c10 => ?_)
    · have hw9 := hw8.1 c10
      refine j_iconst X (pc' := 83) (v := 0) (by decide) dX7_goOverBits_82 rfl ?_
      refine j_loc [3, 2, 1, 0] rfl ?_
      exact tb_X7_goOverBits_83 X hMO _ _ _ _ _ _ hw9
    · have hw10 := hw8.2 c10
      refine j_iconst X (pc' := 79) (v := 1) (by decide) dX7_goOverBits_78 rfl ?_
      refine j_goto X (tgt := 83) dX7_goOverBits_79 (by decide) ?_
      refine j_loc [3, 2, 1, 0] rfl ?_
      exact tb_X7_goOverBits_83 X hMO _ _ _ _ _ _ hw10
  · have hw11 := hw6.2 c8
    refine j_iload X (pc' := 44) (i := 4) 0 rfl dX7_goOverBits_42 rfl ?_
    refine j_if_ne X (pc' := 47) (tgt := 56) dX7_goOverBits_44 rfl (by decide) (fun c11 => ?_) (fun c11 => ?_)
    · have hw12 := hw11.1 c11
      refine j_aload_n X (pc' := 57) (kk := 0) (i := 0) 3 rfl rfl dX7_goOverBits_56 rfl ?_
      refine j_iload_n X (pc' := 58) (kk := 3) (i := 3) 1 rfl rfl dX7_goOverBits_57 rfl ?_
      refine j_iload_n X (pc' := 59) (kk := 2) (i := 2) 2 rfl rfl dX7_goOverBits_58 rfl ?_
      refine j_iload X (pc' := 61) (i := 4) 0 rfl dX7_goOverBits_59 rfl ?_
      refine j_iconst X (pc' := 62) (v := 1) (by decide) dX7_goOverBits_61 rfl ?_
      refine j_isub X (pc' := 63) dX7_goOverBits_62 rfl ?_
      refine j_iload_n X (pc' := 64) (kk := 1) (i := 1) 4 rfl rfl dX7_goOverBits_63 rfl ?_
      refine j_callVv (As := [.int (α 21 ((σ 20) - (1 : Int32)).toNatClampNeg), .int ((σ 20) - (1 : Int32)), .int ((α 22 ((σ 20) - (1 : Int32)).toNatClampNeg) - (1 : Int32)), .int x1]) (rest := []) X (pc' := 67) (cells' := 0) (slots' := 0) (c_X7_sequenceOfBits l G A hMO μ0 (α 21 ((σ 20) - (1 : Int32)).toNatClampNeg) ((σ 20) - (1 : Int32)) ((α 22 ((σ 20) - (1 : Int32)).toNatClampNeg) - (1 : Int32)) x1 σ α5 _ hw12) (gk_X7_sequenceOfBits wt_4_214) hd_X7_sequenceOfBits (rmL_fit (k1 := 2) (k := 3) (by omega) (by decide)) mset_o rfl rfl rfl (Nat.le_of_ble_eq_true rfl) dX7_goOverBits_64 rfl ⟨Nat.le_of_ble_eq_true rfl, Nat.le_of_ble_eq_true rfl⟩ rfl rfl (fun μ16 hw13 => ?_)
      obtain ⟨σ13, α14, rfl, hw14⟩ := hw13
      exact j_vret X ⟨rfl, _, _, rfl, hw14⟩ (Nat.le_of_ble_eq_true rfl) (Nat.le_of_ble_eq_true rfl) dX7_goOverBits_67
    · have hw15 := hw11.2 c11
      refine j_aload_n X (pc' := 48) (kk := 0) (i := 0) 3 rfl rfl dX7_goOverBits_47 rfl ?_
      refine j_iload_n X (pc' := 49) (kk := 3) (i := 3) 1 rfl rfl dX7_goOverBits_48 rfl ?_
      refine j_iload_n X (pc' := 50) (kk := 2) (i := 2) 2 rfl rfl dX7_goOverBits_49 rfl ?_
      refine j_callVv (As := [.int (α 21 ((σ 20) - (1 : Int32)).toNatClampNeg), .int ((σ 20) - (1 : Int32))]) (rest := []) X (pc' := 53) (cells' := 0) (slots' := 0) (c_X7_headOfBits l G A hMO μ0 (α 21 ((σ 20) - (1 : Int32)).toNatClampNeg) ((σ 20) - (1 : Int32)) σ α5 _ hw15) (gk_X7_headOfBits wt_4_202) hd_X7_headOfBits (rmL_fit (k1 := 1) (k := 3) (by omega) (by decide)) mset_o rfl rfl rfl (Nat.le_of_ble_eq_true rfl) dX7_goOverBits_50 rfl ⟨Nat.le_of_ble_eq_true rfl, Nat.le_of_ble_eq_true rfl⟩ rfl rfl (fun μ21 hw16 => ?_)
      obtain ⟨σ18, α19, rfl, hw17⟩ := hw16
      refine j_goto X (tgt := 67) dX7_goOverBits_53 (by decide) ?_
      exact j_vret X ⟨rfl, _, _, rfl, hw17⟩ (Nat.le_of_ble_eq_true rfl) (Nat.le_of_ble_eq_true rfl) dX7_goOverBits_67
/-! BitNotationModel.walkBits(II)I -/
theorem dX7_walkBits_0 : decode cX7_walkBits 0 = .ok (.aload_n 0, 1) := by decide +kernel
theorem dX7_walkBits_1 : decode cX7_walkBits 1 = .ok (.iconst 0, 1) := by decide +kernel
theorem dX7_walkBits_2 : decode cX7_walkBits 2 = .ok (.putfield 142, 3) := by decide +kernel
theorem dX7_walkBits_5 : decode cX7_walkBits 5 = .ok (.aload_n 0, 1) := by decide +kernel
theorem dX7_walkBits_6 : decode cX7_walkBits 6 = .ok (.iconst 0, 1) := by decide +kernel
theorem dX7_walkBits_7 : decode cX7_walkBits 7 = .ok (.putfield 148, 3) := by decide +kernel
theorem dX7_walkBits_10 : decode cX7_walkBits 10 = .ok (.aload_n 0, 1) := by decide +kernel
theorem dX7_walkBits_11 : decode cX7_walkBits 11 = .ok (.iconst (-1), 1) := by decide +kernel
theorem dX7_walkBits_12 : decode cX7_walkBits 12 = .ok (.putfield 151, 3) := by decide +kernel
theorem dX7_walkBits_15 : decode cX7_walkBits 15 = .ok (.aload_n 0, 1) := by decide +kernel
theorem dX7_walkBits_16 : decode cX7_walkBits 16 = .ok (.iconst 0, 1) := by decide +kernel
theorem dX7_walkBits_17 : decode cX7_walkBits 17 = .ok (.putfield 186, 3) := by decide +kernel
theorem dX7_walkBits_20 : decode cX7_walkBits 20 = .ok (.aload_n 0, 1) := by decide +kernel
theorem dX7_walkBits_21 : decode cX7_walkBits 21 = .ok (.iload_n 1, 1) := by decide +kernel
theorem dX7_walkBits_22 : decode cX7_walkBits 22 = .ok (.invokevirtual 169, 3) := by decide +kernel
theorem dX7_walkBits_25 : decode cX7_walkBits 25 = .ok (.aload_n 0, 1) := by decide +kernel
theorem dX7_walkBits_26 : decode cX7_walkBits 26 = .ok (.getfield 142, 3) := by decide +kernel
theorem dX7_walkBits_29 : decode cX7_walkBits 29 = .ok (.ifCond .le 18, 3) := by decide +kernel
theorem dX7_walkBits_32 : decode cX7_walkBits 32 = .ok (.aload_n 0, 1) := by decide +kernel
theorem dX7_walkBits_33 : decode cX7_walkBits 33 = .ok (.getfield 151, 3) := by decide +kernel
theorem dX7_walkBits_36 : decode cX7_walkBits 36 = .ok (.ifCond .ge 11, 3) := by decide +kernel
theorem dX7_walkBits_39 : decode cX7_walkBits 39 = .ok (.aload_n 0, 1) := by decide +kernel
theorem dX7_walkBits_40 : decode cX7_walkBits 40 = .ok (.iload_n 2, 1) := by decide +kernel
theorem dX7_walkBits_41 : decode cX7_walkBits 41 = .ok (.invokevirtual 205, 3) := by decide +kernel
theorem dX7_walkBits_44 : decode cX7_walkBits 44 = .ok (.goto (-19), 3) := by decide +kernel
theorem dX7_walkBits_47 : decode cX7_walkBits 47 = .ok (.aload_n 0, 1) := by decide +kernel
theorem dX7_walkBits_48 : decode cX7_walkBits 48 = .ok (.getfield 151, 3) := by decide +kernel
theorem dX7_walkBits_51 : decode cX7_walkBits 51 = .ok (.ifCond .lt 10, 3) := by decide +kernel
theorem dX7_walkBits_54 : decode cX7_walkBits 54 = .ok (.aload_n 0, 1) := by decide +kernel
theorem dX7_walkBits_55 : decode cX7_walkBits 55 = .ok (.getfield 151, 3) := by decide +kernel
theorem dX7_walkBits_58 : decode cX7_walkBits 58 = .ok (.goto 22, 3) := by decide +kernel
theorem dX7_walkBits_61 : decode cX7_walkBits 61 = .ok (.aload_n 0, 1) := by decide +kernel
theorem dX7_walkBits_62 : decode cX7_walkBits 62 = .ok (.getfield 148, 3) := by decide +kernel
theorem dX7_walkBits_65 : decode cX7_walkBits 65 = .ok (.aload_n 0, 1) := by decide +kernel
theorem dX7_walkBits_66 : decode cX7_walkBits 66 = .ok (.getfield 145, 3) := by decide +kernel
theorem dX7_walkBits_69 : decode cX7_walkBits 69 = .ok (.if_icmp .ge 10, 3) := by decide +kernel
theorem dX7_walkBits_72 : decode cX7_walkBits 72 = .ok (.aload_n 0, 1) := by decide +kernel
theorem dX7_walkBits_73 : decode cX7_walkBits 73 = .ok (.getfield 148, 3) := by decide +kernel
theorem dX7_walkBits_76 : decode cX7_walkBits 76 = .ok (.goto 4, 3) := by decide +kernel
theorem dX7_walkBits_79 : decode cX7_walkBits 79 = .ok (.iconst (-1), 1) := by decide +kernel
theorem dX7_walkBits_80 : decode cX7_walkBits 80 = .ok (.ireturn, 1) := by decide +kernel
def wb_X7_walkBits_47 (post : Int32 → (Nat → Int32) → (Nat → Nat → Int32) → Prop)   (σ : Nat → Int32) (α : Nat → Nat → Int32) : Prop := ((σ 29) < 0 → (((σ 16) ≤ (σ 28) → (post (-1 : Int32) σ α)) ∧ (¬ (σ 16) ≤ (σ 28) → (post (σ 28) σ α)))) ∧ (¬ (σ 29) < 0 → (post (σ 29) σ α))
set_option maxHeartbeats 4000000 in
set_option maxRecDepth 100000 in
theorem tb_X7_walkBits_47 {p : Program} {l : Launch} {e : Env} {s : State} {m : MethodId} {args : Array Value} {below : List Frame} {meth : Method} {c : Code} {G : gG} {A : Nat → Prop} {μ0 : Mm} {mm : Nat} {rf : Nat → Nat} {post : Int32 → (Nat → Int32) → (Nat → Nat → Int32) → Prop} (X : Cx p l s m args meth c cX7_walkBits 3 (some .int) RX7 G A) (hMO : MOk mm rf) : ∀ (σ : Nat → Int32) (α : Nat → Nat → Int32), wb_X7_walkBits_47 post σ α → J p l e (rmL (4) 0 0) s m args below meth c 3 G A (MQ below (QG G A (pI (pMi μ0 mm rf post))) args s 0 0 A) 0 0 47 [(0, .ref mm)] [] (mset μ0 mm rf σ α) := by
  intro σ α hw
  unfold wb_X7_walkBits_47 at hw
  refine j_aload_n X (pc' := 48) (kk := 0) (i := 0) 0 rfl rfl dX7_walkBits_47 rfl ?_
  refine j_getf X (pc' := 51) mset_o 29 rfl rfl fw_TX7 (by decide) wt_3_194 dX7_walkBits_48 rfl ?_
  refine j_if_lt X (pc' := 54) (tgt := 61) dX7_walkBits_51 rfl (by decide) (fun c21 => ?_) (fun c21 => ?_)
  · have hw1 := hw.1 c21
    refine j_aload_n X (pc' := 62) (kk := 0) (i := 0) 0 rfl rfl dX7_walkBits_61 rfl ?_
    refine j_getf X (pc' := 65) mset_o 28 rfl rfl fw_TX7 (by decide) wt_3_193 dX7_walkBits_62 rfl ?_
    refine j_aload_n X (pc' := 66) (kk := 0) (i := 0) 0 rfl rfl dX7_walkBits_65 rfl ?_
    refine j_getf X (pc' := 69) mset_o 16 rfl rfl fw_TX7 (by decide) wt_3_181 dX7_walkBits_66 rfl ?_
    refine j_icmp_ge X (pc' := 72) (tgt := 79) dX7_walkBits_69 rfl (by decide) (fun c22 => ?_) (fun c22 => ?_)
    · have hw2 := hw1.1 c22
      refine j_iconst X (pc' := 80) (v := (-1)) (by decide) dX7_walkBits_79 rfl ?_
      exact j_iret X ⟨_, rfl, _, _, rfl, hw2⟩ (Nat.le_of_ble_eq_true rfl) (Nat.le_of_ble_eq_true rfl) dX7_walkBits_80
    · have hw3 := hw1.2 c22
      refine j_aload_n X (pc' := 73) (kk := 0) (i := 0) 0 rfl rfl dX7_walkBits_72 rfl ?_
      refine j_getf X (pc' := 76) mset_o 28 rfl rfl fw_TX7 (by decide) wt_3_193 dX7_walkBits_73 rfl ?_
      refine j_goto X (tgt := 80) dX7_walkBits_76 (by decide) ?_
      exact j_iret X ⟨_, rfl, _, _, rfl, hw3⟩ (Nat.le_of_ble_eq_true rfl) (Nat.le_of_ble_eq_true rfl) dX7_walkBits_80
  · have hw4 := hw.2 c21
    refine j_aload_n X (pc' := 55) (kk := 0) (i := 0) 0 rfl rfl dX7_walkBits_54 rfl ?_
    refine j_getf X (pc' := 58) mset_o 29 rfl rfl fw_TX7 (by decide) wt_3_194 dX7_walkBits_55 rfl ?_
    refine j_goto X (tgt := 80) dX7_walkBits_58 (by decide) ?_
    exact j_iret X ⟨_, rfl, _, _, rfl, hw4⟩ (Nat.le_of_ble_eq_true rfl) (Nat.le_of_ble_eq_true rfl) dX7_walkBits_80
def wb_X7_walkBits_25 (post : Int32 → (Nat → Int32) → (Nat → Nat → Int32) → Prop)  : Nat → Int32 → (Nat → Int32) → (Nat → Nat → Int32) → Prop
  | 0 => fun _ _ _ => False
  | n + 1 => fun v2 σ α => ((σ 20) ≤ 0 → (wb_X7_walkBits_47 post σ α)) ∧ (¬ (σ 20) ≤ 0 → ((0 ≤ (σ 29) → (wb_X7_walkBits_47 post σ α)) ∧ (¬ 0 ≤ (σ 29) → (wp_X7_goOverBits v2 σ α (fun σ17 α18 => wb_X7_walkBits_25 post n v2 σ17 α18)))))
set_option maxHeartbeats 4000000 in
set_option maxRecDepth 100000 in
theorem tb_X7_walkBits_25 {p : Program} {l : Launch} {e : Env} {s : State} {m : MethodId} {args : Array Value} {below : List Frame} {meth : Method} {c : Code} {G : gG} {A : Nat → Prop} {μ0 : Mm} {mm : Nat} {rf : Nat → Nat} {post : Int32 → (Nat → Int32) → (Nat → Nat → Int32) → Prop} (X : Cx p l s m args meth c cX7_walkBits 3 (some .int) RX7 G A) (hMO : MOk mm rf) : ∀ (n : Nat) (v2 : Int32) (σ : Nat → Int32) (α : Nat → Nat → Int32), wb_X7_walkBits_25 post n v2 σ α → J p l e (rmL (4) 0 0) s m args below meth c 3 G A (MQ below (QG G A (pI (pMi μ0 mm rf post))) args s 0 0 A) 0 0 25 [(0, .ref mm), (2, .int v2)] [] (mset μ0 mm rf σ α) := by
  intro n
  induction n with
  | zero => intro v2 σ α hw; exact hw.elim
  | succ n ih =>
    intro v2 σ α hw
    rw [wb_X7_walkBits_25] at hw
    refine j_aload_n X (pc' := 26) (kk := 0) (i := 0) 0 rfl rfl dX7_walkBits_25 rfl ?_
    refine j_getf X (pc' := 29) mset_o 20 rfl rfl fw_TX7 (by decide) wt_3_185 dX7_walkBits_26 rfl ?_
    refine j_if_le X (pc' := 32) (tgt := 47) dX7_walkBits_29 rfl (by decide) (fun c14 => ?_) (fun c14 => ?_)
    · have hw1 := hw.1 c14
      refine j_loc [0] rfl ?_
      exact tb_X7_walkBits_47 X hMO  _ _ hw1
    · have hw2 := hw.2 c14
      refine j_aload_n X (pc' := 33) (kk := 0) (i := 0) 0 rfl rfl dX7_walkBits_32 rfl ?_
      refine j_getf X (pc' := 36) mset_o 29 rfl rfl fw_TX7 (by decide) wt_3_194 dX7_walkBits_33 rfl ?_
      refine j_if_ge X (pc' := 39) (tgt := 47) dX7_walkBits_36 rfl (by decide) (fun c15 => ?_) (fun c15 => ?_)
      · have hw3 := hw2.1 c15
        refine j_loc [0] rfl ?_
        exact tb_X7_walkBits_47 X hMO  _ _ hw3
      · have hw4 := hw2.2 c15
        refine j_aload_n X (pc' := 40) (kk := 0) (i := 0) 0 rfl rfl dX7_walkBits_39 rfl ?_
        refine j_iload_n X (pc' := 41) (kk := 2) (i := 2) 1 rfl rfl dX7_walkBits_40 rfl ?_
        refine j_callVv (As := [.int v2]) (rest := []) X (pc' := 44) (cells' := 0) (slots' := 0) (c_X7_goOverBits l G A hMO μ0 v2 σ α _ hw4) (gk_X7_goOverBits wt_4_198) hd_X7_goOverBits (rmL_fit (k1 := 3) (k := 4) (by omega) (by decide)) mset_o rfl rfl rfl (Nat.le_of_ble_eq_true rfl) dX7_walkBits_41 rfl ⟨Nat.le_of_ble_eq_true rfl, Nat.le_of_ble_eq_true rfl⟩ rfl rfl (fun μ20 hw5 => ?_)
        obtain ⟨σ17, α18, rfl, hw6⟩ := hw5
        refine j_goto X (tgt := 25) dX7_walkBits_44 (by decide) ?_
        exact ih _ _ _ hw6
def wp_X7_walkBits (x1 : Int32) (x2 : Int32) (σ : Nat → Int32) (α : Nat → Nat → Int32) (post : Int32 → (Nat → Int32) → (Nat → Nat → Int32) → Prop) : Prop := ∀ σ1, σ1 = upd σ 20 (0 : Int32) → ∀ σ3, σ3 = upd σ1 28 (0 : Int32) → ∀ σ5, σ5 = upd σ3 29 (-1 : Int32) → ∀ σ7, σ7 = upd σ5 18 (0 : Int32) → wp_X7_push x1 σ7 α (fun σ10 α11 => ∃ n, wb_X7_walkBits_25 post n x2 σ10 α11)
set_option maxHeartbeats 4000000 in
set_option maxRecDepth 100000 in
theorem c_X7_walkBits (l : Launch) (G : gG) (A : Nat → Prop) {mm : Nat} {rf : Nat → Nat} (hMO : MOk mm rf) (μ0 : Mm) (x1 : Int32) (x2 : Int32) (σ : Nat → Int32) (α : Nat → Nat → Int32) (post : Int32 → (Nat → Int32) → (Nat → Nat → Int32) → Prop) (h : wp_X7_walkBits x1 x2 σ α post) : Met l yX7_walkBits (.code yX7_walkBits cX7_walkBits 3 (some .int) :: wsA) (rmL (4) 0 0) (PcG G A (mset μ0 mm rf σ α) [.ref mm, .int x1, .int x2]) (QG G A (pI (pMi μ0 mm rf post))) 0 0 A := by
  refine met_J (loc := [(0, .ref mm), (1, .int x1), (2, .int x2)]) (by decide +kernel) (Nat.le_of_ble_eq_true rfl) rfl ?_
  intro p e s m args below meth c X hin
  have X : Cx p l s m args meth c cX7_walkBits 3 (some .int) RX7 G A := X
  have hw := h
  unfold wp_X7_walkBits at hw
  refine j_aload_n X (pc' := 1) (kk := 0) (i := 0) 0 rfl rfl dX7_walkBits_0 rfl ?_
  refine j_iconst X (pc' := 2) (v := 0) (by decide) dX7_walkBits_1 rfl ?_
  refine jm_putf X (pc' := 5) 20 (mF_set_20 _ _ _) (by decide) rfl wt_3_185 (by decide +kernel) dX7_walkBits_2 rfl (fun σ1 e2 => ?_)
  have hw1 := hw σ1 e2
  refine j_aload_n X (pc' := 6) (kk := 0) (i := 0) 0 rfl rfl dX7_walkBits_5 rfl ?_
  refine j_iconst X (pc' := 7) (v := 0) (by decide) dX7_walkBits_6 rfl ?_
  refine jm_putf X (pc' := 10) 28 (mF_set_28 _ _ _) (by decide) rfl wt_3_193 (by decide +kernel) dX7_walkBits_7 rfl (fun σ3 e4 => ?_)
  have hw2 := hw1 σ3 e4
  refine j_aload_n X (pc' := 11) (kk := 0) (i := 0) 0 rfl rfl dX7_walkBits_10 rfl ?_
  refine j_iconst X (pc' := 12) (v := (-1)) (by decide) dX7_walkBits_11 rfl ?_
  refine jm_putf X (pc' := 15) 29 (mF_set_29 _ _ _) (by decide) rfl wt_3_194 (by decide +kernel) dX7_walkBits_12 rfl (fun σ5 e6 => ?_)
  have hw3 := hw2 σ5 e6
  refine j_aload_n X (pc' := 16) (kk := 0) (i := 0) 0 rfl rfl dX7_walkBits_15 rfl ?_
  refine j_iconst X (pc' := 17) (v := 0) (by decide) dX7_walkBits_16 rfl ?_
  refine jm_putf X (pc' := 20) 18 (mF_set_18 _ _ _) (by decide) rfl wt_3_183 (by decide +kernel) dX7_walkBits_17 rfl (fun σ7 e8 => ?_)
  have hw4 := hw3 σ7 e8
  refine j_aload_n X (pc' := 21) (kk := 0) (i := 0) 0 rfl rfl dX7_walkBits_20 rfl ?_
  refine j_iload_n X (pc' := 22) (kk := 1) (i := 1) 1 rfl rfl dX7_walkBits_21 rfl ?_
  refine j_callVv (As := [.int x1]) (rest := []) X (pc' := 25) (cells' := 0) (slots' := 0) (c_X7_push l G A hMO μ0 x1 σ7 α _ hw4) (gk_X7_push wt_4_142) hd_X7_push (rmL_fit (k1 := 0) (k := 4) (by omega) (by decide)) mset_o rfl rfl rfl (Nat.le_of_ble_eq_true rfl) dX7_walkBits_22 rfl ⟨Nat.le_of_ble_eq_true rfl, Nat.le_of_ble_eq_true rfl⟩ rfl rfl (fun μ13 hw5 => ?_)
  obtain ⟨σ10, α11, rfl, hw6⟩ := hw5
  obtain ⟨n0, hw7⟩ := hw6
  refine j_loc [0, 2] rfl ?_
  exact tb_X7_walkBits_25 X hMO n0 _ _ _ hw7
/-! BitNotationModel.read(II)I -/
theorem dX7_read_0 : decode cX7_read 0 = .ok (.iload_n 2, 1) := by decide +kernel
theorem dX7_read_1 : decode cX7_read 1 = .ok (.iconst 0, 1) := by decide +kernel
theorem dX7_read_2 : decode cX7_read 2 = .ok (.iconst 3, 1) := by decide +kernel
theorem dX7_read_3 : decode cX7_read 3 = .ok (.invokestatic 80, 3) := by decide +kernel
theorem dX7_read_6 : decode cX7_read 6 = .ok (.istore_n 3, 1) := by decide +kernel
theorem dX7_read_7 : decode cX7_read 7 = .ok (.aload_n 0, 1) := by decide +kernel
theorem dX7_read_8 : decode cX7_read 8 = .ok (.aload_n 0, 1) := by decide +kernel
theorem dX7_read_9 : decode cX7_read 9 = .ok (.iload_n 1, 1) := by decide +kernel
theorem dX7_read_10 : decode cX7_read 10 = .ok (.invokevirtual 120, 3) := by decide +kernel
theorem dX7_read_13 : decode cX7_read 13 = .ok (.ifCond .ne 7, 3) := by decide +kernel
theorem dX7_read_16 : decode cX7_read 16 = .ok (.iconst 1, 1) := by decide +kernel
theorem dX7_read_17 : decode cX7_read 17 = .ok (.goto 25, 3) := by decide +kernel
theorem dX7_read_20 : decode cX7_read 20 = .ok (.iload_n 3, 1) := by decide +kernel
theorem dX7_read_21 : decode cX7_read 21 = .ok (.ifCond .ne 7, 3) := by decide +kernel
theorem dX7_read_24 : decode cX7_read 24 = .ok (.iconst 2, 1) := by decide +kernel
theorem dX7_read_25 : decode cX7_read 25 = .ok (.goto 17, 3) := by decide +kernel
theorem dX7_read_28 : decode cX7_read 28 = .ok (.aload_n 0, 1) := by decide +kernel
theorem dX7_read_29 : decode cX7_read 29 = .ok (.iload_n 1, 1) := by decide +kernel
theorem dX7_read_30 : decode cX7_read 30 = .ok (.iload_n 2, 1) := by decide +kernel
theorem dX7_read_31 : decode cX7_read 31 = .ok (.invokevirtual 208, 3) := by decide +kernel
theorem dX7_read_34 : decode cX7_read 34 = .ok (.ifCond .lt 7, 3) := by decide +kernel
theorem dX7_read_37 : decode cX7_read 37 = .ok (.iconst 3, 1) := by decide +kernel
theorem dX7_read_38 : decode cX7_read 38 = .ok (.goto 4, 3) := by decide +kernel
theorem dX7_read_41 : decode cX7_read 41 = .ok (.iconst 0, 1) := by decide +kernel
theorem dX7_read_42 : decode cX7_read 42 = .ok (.invokevirtual 109, 3) := by decide +kernel
theorem dX7_read_45 : decode cX7_read 45 = .ok (.ifCond .eq 5, 3) := by decide +kernel
theorem dX7_read_48 : decode cX7_read 48 = .ok (.iconst 0, 1) := by decide +kernel
theorem dX7_read_49 : decode cX7_read 49 = .ok (.ireturn, 1) := by decide +kernel
theorem dX7_read_50 : decode cX7_read 50 = .ok (.iconst 0, 1) := by decide +kernel
theorem dX7_read_51 : decode cX7_read 51 = .ok (.istore 4, 2) := by decide +kernel
theorem dX7_read_53 : decode cX7_read 53 = .ok (.iload 4, 2) := by decide +kernel
theorem dX7_read_55 : decode cX7_read 55 = .ok (.aload_n 0, 1) := by decide +kernel
theorem dX7_read_56 : decode cX7_read 56 = .ok (.getfield 186, 3) := by decide +kernel
theorem dX7_read_59 : decode cX7_read 59 = .ok (.if_icmp .ge 23, 3) := by decide +kernel
theorem dX7_read_62 : decode cX7_read 62 = .ok (.aload_n 0, 1) := by decide +kernel
theorem dX7_read_63 : decode cX7_read 63 = .ok (.getfield 43, 3) := by decide +kernel
theorem dX7_read_66 : decode cX7_read 66 = .ok (.iload 4, 2) := by decide +kernel
theorem dX7_read_68 : decode cX7_read 68 = .ok (.aload_n 0, 1) := by decide +kernel
theorem dX7_read_69 : decode cX7_read 69 = .ok (.getfield 49, 3) := by decide +kernel
theorem dX7_read_72 : decode cX7_read 72 = .ok (.iload 4, 2) := by decide +kernel
theorem dX7_read_74 : decode cX7_read 74 = .ok (.iaload, 1) := by decide +kernel
theorem dX7_read_75 : decode cX7_read 75 = .ok (.iastore, 1) := by decide +kernel
theorem dX7_read_76 : decode cX7_read 76 = .ok (.iinc 4 1, 3) := by decide +kernel
theorem dX7_read_79 : decode cX7_read 79 = .ok (.goto (-26), 3) := by decide +kernel
theorem dX7_read_82 : decode cX7_read 82 = .ok (.aload_n 0, 1) := by decide +kernel
theorem dX7_read_83 : decode cX7_read 83 = .ok (.aload_n 0, 1) := by decide +kernel
theorem dX7_read_84 : decode cX7_read 84 = .ok (.getfield 186, 3) := by decide +kernel
theorem dX7_read_87 : decode cX7_read 87 = .ok (.putfield 139, 3) := by decide +kernel
theorem dX7_read_90 : decode cX7_read 90 = .ok (.aload_n 0, 1) := by decide +kernel
theorem dX7_read_91 : decode cX7_read 91 = .ok (.getfield 139, 3) := by decide +kernel
theorem dX7_read_94 : decode cX7_read 94 = .ok (.ireturn, 1) := by decide +kernel
def wb_X7_read_53 (post : Int32 → (Nat → Int32) → (Nat → Nat → Int32) → Prop)  : Nat → Int32 → (Nat → Int32) → (Nat → Nat → Int32) → Prop
  | 0 => fun _ _ _ => False
  | n + 1 => fun v4 σ α => ((σ 18) ≤ v4 → (∀ σ23, σ23 = upd σ 14 (σ 18) → post (σ23 14) σ23 α)) ∧ (¬ (σ 18) ≤ v4 → (vp_in v4 300 ∧ vp_in v4 300 ∧ ∀ α27, α27 = upA α 15 (upd (α 15) v4.toNatClampNeg (α 19 v4.toNatClampNeg)) → wb_X7_read_53 post n (v4 + 1) σ α27))
set_option maxHeartbeats 4000000 in
set_option maxRecDepth 100000 in
theorem tb_X7_read_53 {p : Program} {l : Launch} {e : Env} {s : State} {m : MethodId} {args : Array Value} {below : List Frame} {meth : Method} {c : Code} {G : gG} {A : Nat → Prop} {μ0 : Mm} {mm : Nat} {rf : Nat → Nat} {post : Int32 → (Nat → Int32) → (Nat → Nat → Int32) → Prop} (X : Cx p l s m args meth c cX7_read 5 (some .int) RX7 G A) (hMO : MOk mm rf) : ∀ (n : Nat) (v4 : Int32) (σ : Nat → Int32) (α : Nat → Nat → Int32), wb_X7_read_53 post n v4 σ α → J p l e (rmL (5) 0 0) s m args below meth c 5 G A (MQ below (QG G A (pI (pMi μ0 mm rf post))) args s 0 0 A) 0 0 53 [(0, .ref mm), (4, .int v4)] [] (mset μ0 mm rf σ α) := by
  intro n
  induction n with
  | zero => intro v4 σ α hw; exact hw.elim
  | succ n ih =>
    intro v4 σ α hw
    rw [wb_X7_read_53] at hw
    refine j_iload X (pc' := 55) (i := 4) 1 rfl dX7_read_53 rfl ?_
    refine j_aload_n X (pc' := 56) (kk := 0) (i := 0) 0 rfl rfl dX7_read_55 rfl ?_
    refine j_getf X (pc' := 59) mset_o 18 rfl rfl fw_TX7 (by decide) wt_3_183 dX7_read_56 rfl ?_
    refine j_icmp_ge X (pc' := 62) (tgt := 82) dX7_read_59 rfl (by decide) (fun c22 => ?_) (fun c22 => ?_)
    · have hw1 := hw.1 c22
      refine j_aload_n X (pc' := 83) (kk := 0) (i := 0) 0 rfl rfl dX7_read_82 rfl ?_
      refine j_aload_n X (pc' := 84) (kk := 0) (i := 0) 0 rfl rfl dX7_read_83 rfl ?_
      refine j_getf X (pc' := 87) mset_o 18 rfl rfl fw_TX7 (by decide) wt_3_183 dX7_read_84 rfl ?_
      refine jm_putf X (pc' := 90) 14 (mF_set_14 _ _ _) (by decide) rfl wt_3_179 (by decide +kernel) dX7_read_87 rfl (fun σ23 e24 => ?_)
      have hw2 := hw1 σ23 e24
      refine j_aload_n X (pc' := 91) (kk := 0) (i := 0) 0 rfl rfl dX7_read_90 rfl ?_
      refine j_getf X (pc' := 94) mset_o 14 rfl rfl fw_TX7 (by decide) wt_3_179 dX7_read_91 rfl ?_
      exact j_iret X ⟨_, rfl, _, _, rfl, hw2⟩ (Nat.le_of_ble_eq_true rfl) (Nat.le_of_ble_eq_true rfl) dX7_read_94
    · have hw3 := hw.2 c22
      refine j_aload_n X (pc' := 63) (kk := 0) (i := 0) 0 rfl rfl dX7_read_62 rfl ?_
      refine j_getf X (pc' := 66) mset_o 15 rfl rfl fw_TX7 (by decide) wt_3_180 dX7_read_63 rfl ?_
      refine j_iload X (pc' := 68) (i := 4) 1 rfl dX7_read_66 rfl ?_
      refine j_aload_n X (pc' := 69) (kk := 0) (i := 0) 0 rfl rfl dX7_read_68 rfl ?_
      refine j_getf X (pc' := 72) mset_o 19 rfl rfl fw_TX7 (by decide) wt_3_184 dX7_read_69 rfl ?_
      refine j_iload X (pc' := 74) (i := 4) 1 rfl dX7_read_72 rfl ?_
      have h25 := hw3.1
      have hw4 := hw3.2
      refine j_iald X (pc' := 75) (mset_a hMO 19 (by decide)) h25 dX7_read_74 rfl ?_
      have h26 := hw4.1
      have hw5 := hw4.2
      refine jm_iast X (pc' := 76) hMO 15 (by decide) h26 dX7_read_75 rfl (fun α27 e28 => ?_)
      have hw6 := hw5 α27 e28
      refine j_iinc X (pc' := 79) (i := 4) (v := v4 + 1) (loc' := [(4, .int (v4 + 1)), (0, .ref mm)]) 1 rfl rfl dX7_read_76 rfl (by decide) rfl ?_
      refine j_goto X (tgt := 53) dX7_read_79 (by decide) ?_
      refine j_loc [1, 0] rfl ?_
      exact ih _ _ _ hw6
def wb_X7_read_42 (post : Int32 → (Nat → Int32) → (Nat → Nat → Int32) → Prop)  (s0 : Int32) (σ : Nat → Int32) (α : Nat → Nat → Int32) : Prop := wp_X7_refused s0 σ α (fun r16 σ17 α18 => (r16 = 0 → (∃ n, wb_X7_read_53 post n (0 : Int32) σ17 α18)) ∧ (¬ r16 = 0 → (post (0 : Int32) σ17 α18)))
set_option maxHeartbeats 4000000 in
set_option maxRecDepth 100000 in
theorem tb_X7_read_42 {p : Program} {l : Launch} {e : Env} {s : State} {m : MethodId} {args : Array Value} {below : List Frame} {meth : Method} {c : Code} {G : gG} {A : Nat → Prop} {μ0 : Mm} {mm : Nat} {rf : Nat → Nat} {post : Int32 → (Nat → Int32) → (Nat → Nat → Int32) → Prop} (X : Cx p l s m args meth c cX7_read 5 (some .int) RX7 G A) (hMO : MOk mm rf) : ∀ (s0 : Int32) (σ : Nat → Int32) (α : Nat → Nat → Int32), wb_X7_read_42 post s0 σ α → J p l e (rmL (5) 0 0) s m args below meth c 5 G A (MQ below (QG G A (pI (pMi μ0 mm rf post))) args s 0 0 A) 0 0 42 [(0, .ref mm)] [.int s0, .ref mm] (mset μ0 mm rf σ α) := by
  intro s0 σ α hw
  unfold wb_X7_read_42 at hw
  refine j_callVi (As := [.int s0]) (rest := []) X (pc' := 45) (cells' := 0) (slots' := 0) (c_X7_refused l G A hMO μ0 s0 σ α _ hw) (gk_X7_refused wt_4_27) hd_X7_refused (rmL_fit (k1 := 0) (k := 5) (by omega) (by decide)) mset_o rfl rfl rfl (Nat.le_of_ble_eq_true rfl) dX7_read_42 rfl ⟨Nat.le_of_ble_eq_true rfl, Nat.le_of_ble_eq_true rfl⟩ rfl rfl (fun r16 μ21 hw1 => ?_)
  obtain ⟨σ17, α18, rfl, hw2⟩ := hw1
  refine j_if_eq X (pc' := 48) (tgt := 50) dX7_read_45 rfl (by decide) (fun c19 => ?_) (fun c19 => ?_)
  · have hw3 := hw2.1 c19
    refine j_iconst X (pc' := 51) (v := 0) (by decide) dX7_read_50 rfl ?_
    refine j_istore X (pc' := 53) (i := 4) (loc' := [(4, .int ((0 : Int32))), (0, .ref mm)]) dX7_read_51 rfl (by decide) rfl ?_
    obtain ⟨n0, hw4⟩ := hw3
    refine j_loc [1, 0] rfl ?_
    exact tb_X7_read_53 X hMO n0 _ _ _ hw4
  · have hw5 := hw2.2 c19
    refine j_iconst X (pc' := 49) (v := 0) (by decide) dX7_read_48 rfl ?_
    exact j_iret X ⟨_, rfl, _, _, rfl, hw5⟩ (Nat.le_of_ble_eq_true rfl) (Nat.le_of_ble_eq_true rfl) dX7_read_49
def wp_X7_read (x1 : Int32) (x2 : Int32) (σ : Nat → Int32) (α : Nat → Nat → Int32) (post : Int32 → (Nat → Int32) → (Nat → Nat → Int32) → Prop) : Prop := wp_X7_in x2 (0 : Int32) (3 : Int32) (fun r1 => wp_X7_isType x1 σ α (fun r2 σ3 α4 => (¬ r2 = 0 → ((¬ r1 = 0 → (wp_X7_walkBits x1 x2 σ3 α4 (fun r7 σ8 α9 => (r7 < 0 → (wb_X7_read_42 post (0 : Int32) σ8 α9)) ∧ (¬ r7 < 0 → (wb_X7_read_42 post (3 : Int32) σ8 α9))))) ∧ (r1 = 0 → (wb_X7_read_42 post (2 : Int32) σ3 α4)))) ∧ (r2 = 0 → (wb_X7_read_42 post (1 : Int32) σ3 α4))))
set_option maxHeartbeats 4000000 in
set_option maxRecDepth 100000 in
theorem c_X7_read (l : Launch) (G : gG) (A : Nat → Prop) {mm : Nat} {rf : Nat → Nat} (hMO : MOk mm rf) (μ0 : Mm) (x1 : Int32) (x2 : Int32) (σ : Nat → Int32) (α : Nat → Nat → Int32) (post : Int32 → (Nat → Int32) → (Nat → Nat → Int32) → Prop) (h : wp_X7_read x1 x2 σ α post) : Met l yX7_read (.code yX7_read cX7_read 5 (some .int) :: wsA) (rmL (5) 0 0) (PcG G A (mset μ0 mm rf σ α) [.ref mm, .int x1, .int x2]) (QG G A (pI (pMi μ0 mm rf post))) 0 0 A := by
  refine met_J (loc := [(0, .ref mm), (1, .int x1), (2, .int x2)]) (by decide +kernel) (Nat.le_of_ble_eq_true rfl) rfl ?_
  intro p e s m args below meth c X hin
  have X : Cx p l s m args meth c cX7_read 5 (some .int) RX7 G A := X
  have hw := h
  unfold wp_X7_read at hw
  refine j_iload_n X (pc' := 1) (kk := 2) (i := 2) 2 rfl rfl dX7_read_0 rfl ?_
  refine j_iconst X (pc' := 2) (v := 0) (by decide) dX7_read_1 rfl ?_
  refine j_iconst X (pc' := 3) (v := 3) (by decide) dX7_read_2 rfl ?_
  refine j_callSp (As := [.int x2, .int (0 : Int32), .int (3 : Int32)]) (rest := []) X (pc' := 6) (cells' := 0) (slots' := 0) (c_X7_in l G A (mset μ0 mm rf σ α) x2 (0 : Int32) (3 : Int32) _ hw) (gk_X7_in wt_4_24) hd_X7_in (rmL_fit (k1 := 0) (k := 5) (by omega) (by decide)) rfl rfl (Nat.le_of_ble_eq_true rfl) dX7_read_3 rfl ⟨Nat.le_of_ble_eq_true rfl, Nat.le_of_ble_eq_true rfl⟩ rfl rfl (fun r1 hw1 => ?_)
  refine j_istore_n X (pc' := 7) (kk := 3) (i := 3) (loc' := [(3, .int r1), (0, .ref mm), (1, .int x1), (2, .int x2)]) dX7_read_6 rfl rfl (by decide) rfl ?_
  refine j_aload_n X (pc' := 8) (kk := 0) (i := 0) 1 rfl rfl dX7_read_7 rfl ?_
  refine j_aload_n X (pc' := 9) (kk := 0) (i := 0) 1 rfl rfl dX7_read_8 rfl ?_
  refine j_iload_n X (pc' := 10) (kk := 1) (i := 1) 2 rfl rfl dX7_read_9 rfl ?_
  refine j_callVi (As := [.int x1]) (rest := [.ref mm]) X (pc' := 13) (cells' := 0) (slots' := 0) (c_X7_isType l G A hMO μ0 x1 σ α _ hw1) (gk_X7_isType wt_4_70) hd_X7_isType (rmL_fit (k1 := 1) (k := 5) (by omega) (by decide)) mset_o rfl rfl rfl (Nat.le_of_ble_eq_true rfl) dX7_read_10 rfl ⟨Nat.le_of_ble_eq_true rfl, Nat.le_of_ble_eq_true rfl⟩ rfl rfl (fun r2 μ14 hw2 => ?_)
  obtain ⟨σ3, α4, rfl, hw3⟩ := hw2
  refine j_if_ne X (pc' := 16) (tgt := 20) dX7_read_13 rfl (by decide) (fun c5 => ?_) (fun c5 => ?_)
  · have hw4 := hw3.1 c5
    refine j_iload_n X (pc' := 21) (kk := 3) (i := 3) 0 rfl rfl dX7_read_20 rfl ?_
    refine j_if_ne X (pc' := 24) (tgt := 28) dX7_read_21 rfl (by decide) (fun c6 => ?_) (fun c6 => ?_)
    · have hw5 := hw4.1 c6
      refine j_aload_n X (pc' := 29) (kk := 0) (i := 0) 1 rfl rfl dX7_read_28 rfl ?_
      refine j_iload_n X (pc' := 30) (kk := 1) (i := 1) 2 rfl rfl dX7_read_29 rfl ?_
      refine j_iload_n X (pc' := 31) (kk := 2) (i := 2) 3 rfl rfl dX7_read_30 rfl ?_
      refine j_callVi (As := [.int x1, .int x2]) (rest := [.ref mm]) X (pc' := 34) (cells' := 0) (slots' := 0) (c_X7_walkBits l G A hMO μ0 x1 x2 σ3 α4 _ hw5) (gk_X7_walkBits wt_4_194) hd_X7_walkBits (rmL_fit (k1 := 4) (k := 5) (by omega) (by decide)) mset_o rfl rfl rfl (Nat.le_of_ble_eq_true rfl) dX7_read_31 rfl ⟨Nat.le_of_ble_eq_true rfl, Nat.le_of_ble_eq_true rfl⟩ rfl rfl (fun r7 μ12 hw6 => ?_)
      obtain ⟨σ8, α9, rfl, hw7⟩ := hw6
      refine j_if_lt X (pc' := 37) (tgt := 41) dX7_read_34 rfl (by decide) (fun c10 => ?_) (fun c10 => ?_)
      · have hw8 := hw7.1 c10
        refine j_iconst X (pc' := 42) (v := 0) (by decide) dX7_read_41 rfl ?_
        refine j_loc [1] rfl ?_
        exact tb_X7_read_42 X hMO _ _ _ hw8
      · have hw9 := hw7.2 c10
        refine j_iconst X (pc' := 38) (v := 3) (by decide) dX7_read_37 rfl ?_
        refine j_goto X (tgt := 42) dX7_read_38 (by decide) ?_
        refine j_loc [1] rfl ?_
        exact tb_X7_read_42 X hMO _ _ _ hw9
    · have hw10 := hw4.2 c6
      refine j_iconst X (pc' := 25) (v := 2) (by decide) dX7_read_24 rfl ?_
      refine j_goto X (tgt := 42) dX7_read_25 (by decide) ?_
      refine j_loc [1] rfl ?_
      exact tb_X7_read_42 X hMO _ _ _ hw10
  · have hw11 := hw3.2 c5
    refine j_iconst X (pc' := 17) (v := 1) (by decide) dX7_read_16 rfl ?_
    refine j_goto X (tgt := 42) dX7_read_17 (by decide) ?_
    refine j_loc [1] rfl ?_
    exact tb_X7_read_42 X hMO _ _ _ hw11
/-! BitNotationModel.faultAt(II)I -/
theorem dX7_faultAt_0 : decode cX7_faultAt 0 = .ok (.aload_n 0, 1) := by decide +kernel
theorem dX7_faultAt_1 : decode cX7_faultAt 1 = .ok (.aload_n 0, 1) := by decide +kernel
theorem dX7_faultAt_2 : decode cX7_faultAt 2 = .ok (.iload_n 1, 1) := by decide +kernel
theorem dX7_faultAt_3 : decode cX7_faultAt 3 = .ok (.invokevirtual 120, 3) := by decide +kernel
theorem dX7_faultAt_6 : decode cX7_faultAt 6 = .ok (.ifCond .ne 7, 3) := by decide +kernel
theorem dX7_faultAt_9 : decode cX7_faultAt 9 = .ok (.iconst 1, 1) := by decide +kernel
theorem dX7_faultAt_10 : decode cX7_faultAt 10 = .ok (.goto 17, 3) := by decide +kernel
theorem dX7_faultAt_13 : decode cX7_faultAt 13 = .ok (.iload_n 2, 1) := by decide +kernel
theorem dX7_faultAt_14 : decode cX7_faultAt 14 = .ok (.iconst 0, 1) := by decide +kernel
theorem dX7_faultAt_15 : decode cX7_faultAt 15 = .ok (.iconst 3, 1) := by decide +kernel
theorem dX7_faultAt_16 : decode cX7_faultAt 16 = .ok (.invokestatic 80, 3) := by decide +kernel
theorem dX7_faultAt_19 : decode cX7_faultAt 19 = .ok (.ifCond .eq 7, 3) := by decide +kernel
theorem dX7_faultAt_22 : decode cX7_faultAt 22 = .ok (.iconst 0, 1) := by decide +kernel
theorem dX7_faultAt_23 : decode cX7_faultAt 23 = .ok (.goto 4, 3) := by decide +kernel
theorem dX7_faultAt_26 : decode cX7_faultAt 26 = .ok (.iconst 2, 1) := by decide +kernel
theorem dX7_faultAt_27 : decode cX7_faultAt 27 = .ok (.invokevirtual 109, 3) := by decide +kernel
theorem dX7_faultAt_30 : decode cX7_faultAt 30 = .ok (.ifCond .eq 7, 3) := by decide +kernel
theorem dX7_faultAt_33 : decode cX7_faultAt 33 = .ok (.iconst 0, 1) := by decide +kernel
theorem dX7_faultAt_34 : decode cX7_faultAt 34 = .ok (.goto 9, 3) := by decide +kernel
theorem dX7_faultAt_37 : decode cX7_faultAt 37 = .ok (.aload_n 0, 1) := by decide +kernel
theorem dX7_faultAt_38 : decode cX7_faultAt 38 = .ok (.iload_n 1, 1) := by decide +kernel
theorem dX7_faultAt_39 : decode cX7_faultAt 39 = .ok (.iload_n 2, 1) := by decide +kernel
theorem dX7_faultAt_40 : decode cX7_faultAt 40 = .ok (.invokevirtual 208, 3) := by decide +kernel
theorem dX7_faultAt_43 : decode cX7_faultAt 43 = .ok (.ireturn, 1) := by decide +kernel
def wb_X7_faultAt_27 (post : Int32 → (Nat → Int32) → (Nat → Nat → Int32) → Prop)  (v1 : Int32) (v2 : Int32) (s0 : Int32) (σ : Nat → Int32) (α : Nat → Nat → Int32) : Prop := wp_X7_refused s0 σ α (fun r10 σ11 α12 => (r10 = 0 → (wp_X7_walkBits v1 v2 σ11 α12 (fun r14 σ15 α16 => post r14 σ15 α16))) ∧ (¬ r10 = 0 → (post (0 : Int32) σ11 α12)))
set_option maxHeartbeats 4000000 in
set_option maxRecDepth 100000 in
theorem tb_X7_faultAt_27 {p : Program} {l : Launch} {e : Env} {s : State} {m : MethodId} {args : Array Value} {below : List Frame} {meth : Method} {c : Code} {G : gG} {A : Nat → Prop} {μ0 : Mm} {mm : Nat} {rf : Nat → Nat} {post : Int32 → (Nat → Int32) → (Nat → Nat → Int32) → Prop} (X : Cx p l s m args meth c cX7_faultAt 3 (some .int) RX7 G A) (hMO : MOk mm rf) : ∀ (v1 : Int32) (v2 : Int32) (s0 : Int32) (σ : Nat → Int32) (α : Nat → Nat → Int32), wb_X7_faultAt_27 post v1 v2 s0 σ α → J p l e (rmL (5) 0 0) s m args below meth c 3 G A (MQ below (QG G A (pI (pMi μ0 mm rf post))) args s 0 0 A) 0 0 27 [(0, .ref mm), (1, .int v1), (2, .int v2)] [.int s0, .ref mm] (mset μ0 mm rf σ α) := by
  intro v1 v2 s0 σ α hw
  unfold wb_X7_faultAt_27 at hw
  refine j_callVi (As := [.int s0]) (rest := []) X (pc' := 30) (cells' := 0) (slots' := 0) (c_X7_refused l G A hMO μ0 s0 σ α _ hw) (gk_X7_refused wt_4_27) hd_X7_refused (rmL_fit (k1 := 0) (k := 5) (by omega) (by decide)) mset_o rfl rfl rfl (Nat.le_of_ble_eq_true rfl) dX7_faultAt_27 rfl ⟨Nat.le_of_ble_eq_true rfl, Nat.le_of_ble_eq_true rfl⟩ rfl rfl (fun r10 μ20 hw1 => ?_)
  obtain ⟨σ11, α12, rfl, hw2⟩ := hw1
  refine j_if_eq X (pc' := 33) (tgt := 37) dX7_faultAt_30 rfl (by decide) (fun c13 => ?_) (fun c13 => ?_)
  · have hw3 := hw2.1 c13
    refine j_aload_n X (pc' := 38) (kk := 0) (i := 0) 0 rfl rfl dX7_faultAt_37 rfl ?_
    refine j_iload_n X (pc' := 39) (kk := 1) (i := 1) 1 rfl rfl dX7_faultAt_38 rfl ?_
    refine j_iload_n X (pc' := 40) (kk := 2) (i := 2) 2 rfl rfl dX7_faultAt_39 rfl ?_
    refine j_callVi (As := [.int v1, .int v2]) (rest := []) X (pc' := 43) (cells' := 0) (slots' := 0) (c_X7_walkBits l G A hMO μ0 v1 v2 σ11 α12 _ hw3) (gk_X7_walkBits wt_4_194) hd_X7_walkBits (rmL_fit (k1 := 4) (k := 5) (by omega) (by decide)) mset_o rfl rfl rfl (Nat.le_of_ble_eq_true rfl) dX7_faultAt_40 rfl ⟨Nat.le_of_ble_eq_true rfl, Nat.le_of_ble_eq_true rfl⟩ rfl rfl (fun r14 μ18 hw4 => ?_)
    obtain ⟨σ15, α16, rfl, hw5⟩ := hw4
    exact j_iret X ⟨_, rfl, _, _, rfl, hw5⟩ (Nat.le_of_ble_eq_true rfl) (Nat.le_of_ble_eq_true rfl) dX7_faultAt_43
  · have hw6 := hw2.2 c13
    refine j_iconst X (pc' := 34) (v := 0) (by decide) dX7_faultAt_33 rfl ?_
    refine j_goto X (tgt := 43) dX7_faultAt_34 (by decide) ?_
    exact j_iret X ⟨_, rfl, _, _, rfl, hw6⟩ (Nat.le_of_ble_eq_true rfl) (Nat.le_of_ble_eq_true rfl) dX7_faultAt_43
def wp_X7_faultAt (x1 : Int32) (x2 : Int32) (σ : Nat → Int32) (α : Nat → Nat → Int32) (post : Int32 → (Nat → Int32) → (Nat → Nat → Int32) → Prop) : Prop := wp_X7_isType x1 σ α (fun r1 σ2 α3 => (¬ r1 = 0 → (wp_X7_in x2 (0 : Int32) (3 : Int32) (fun r5 => (r5 = 0 → (wb_X7_faultAt_27 post x1 x2 (2 : Int32) σ2 α3)) ∧ (¬ r5 = 0 → (wb_X7_faultAt_27 post x1 x2 (0 : Int32) σ2 α3))))) ∧ (r1 = 0 → (wb_X7_faultAt_27 post x1 x2 (1 : Int32) σ2 α3)))
set_option maxHeartbeats 4000000 in
set_option maxRecDepth 100000 in
theorem c_X7_faultAt (l : Launch) (G : gG) (A : Nat → Prop) {mm : Nat} {rf : Nat → Nat} (hMO : MOk mm rf) (μ0 : Mm) (x1 : Int32) (x2 : Int32) (σ : Nat → Int32) (α : Nat → Nat → Int32) (post : Int32 → (Nat → Int32) → (Nat → Nat → Int32) → Prop) (h : wp_X7_faultAt x1 x2 σ α post) : Met l yX7_faultAt (.code yX7_faultAt cX7_faultAt 3 (some .int) :: wsA) (rmL (5) 0 0) (PcG G A (mset μ0 mm rf σ α) [.ref mm, .int x1, .int x2]) (QG G A (pI (pMi μ0 mm rf post))) 0 0 A := by
  refine met_J (loc := [(0, .ref mm), (1, .int x1), (2, .int x2)]) (by decide +kernel) (Nat.le_of_ble_eq_true rfl) rfl ?_
  intro p e s m args below meth c X hin
  have X : Cx p l s m args meth c cX7_faultAt 3 (some .int) RX7 G A := X
  have hw := h
  unfold wp_X7_faultAt at hw
  refine j_aload_n X (pc' := 1) (kk := 0) (i := 0) 0 rfl rfl dX7_faultAt_0 rfl ?_
  refine j_aload_n X (pc' := 2) (kk := 0) (i := 0) 0 rfl rfl dX7_faultAt_1 rfl ?_
  refine j_iload_n X (pc' := 3) (kk := 1) (i := 1) 1 rfl rfl dX7_faultAt_2 rfl ?_
  refine j_callVi (As := [.int x1]) (rest := [.ref mm]) X (pc' := 6) (cells' := 0) (slots' := 0) (c_X7_isType l G A hMO μ0 x1 σ α _ hw) (gk_X7_isType wt_4_70) hd_X7_isType (rmL_fit (k1 := 1) (k := 5) (by omega) (by decide)) mset_o rfl rfl rfl (Nat.le_of_ble_eq_true rfl) dX7_faultAt_3 rfl ⟨Nat.le_of_ble_eq_true rfl, Nat.le_of_ble_eq_true rfl⟩ rfl rfl (fun r1 μ9 hw1 => ?_)
  obtain ⟨σ2, α3, rfl, hw2⟩ := hw1
  refine j_if_ne X (pc' := 9) (tgt := 13) dX7_faultAt_6 rfl (by decide) (fun c4 => ?_) (fun c4 => ?_)
  · have hw3 := hw2.1 c4
    refine j_iload_n X (pc' := 14) (kk := 2) (i := 2) 2 rfl rfl dX7_faultAt_13 rfl ?_
    refine j_iconst X (pc' := 15) (v := 0) (by decide) dX7_faultAt_14 rfl ?_
    refine j_iconst X (pc' := 16) (v := 3) (by decide) dX7_faultAt_15 rfl ?_
    refine j_callSp (As := [.int x2, .int (0 : Int32), .int (3 : Int32)]) (rest := [.ref mm]) X (pc' := 19) (cells' := 0) (slots' := 0) (c_X7_in l G A (mset μ0 mm rf σ2 α3) x2 (0 : Int32) (3 : Int32) _ hw3) (gk_X7_in wt_4_24) hd_X7_in (rmL_fit (k1 := 0) (k := 5) (by omega) (by decide)) rfl rfl (Nat.le_of_ble_eq_true rfl) dX7_faultAt_16 rfl ⟨Nat.le_of_ble_eq_true rfl, Nat.le_of_ble_eq_true rfl⟩ rfl rfl (fun r5 hw4 => ?_)
    refine j_if_eq X (pc' := 22) (tgt := 26) dX7_faultAt_19 rfl (by decide) (fun c6 => ?_) (fun c6 => ?_)
    · have hw5 := hw4.1 c6
      refine j_iconst X (pc' := 27) (v := 2) (by decide) dX7_faultAt_26 rfl ?_
      exact tb_X7_faultAt_27 X hMO _ _ _ _ _ hw5
    · have hw6 := hw4.2 c6
      refine j_iconst X (pc' := 23) (v := 0) (by decide) dX7_faultAt_22 rfl ?_
      refine j_goto X (tgt := 27) dX7_faultAt_23 (by decide) ?_
      exact tb_X7_faultAt_27 X hMO _ _ _ _ _ hw6
  · have hw7 := hw2.2 c4
    refine j_iconst X (pc' := 10) (v := 1) (by decide) dX7_faultAt_9 rfl ?_
    refine j_goto X (tgt := 27) dX7_faultAt_10 (by decide) ?_
    exact tb_X7_faultAt_27 X hMO _ _ _ _ _ hw7
