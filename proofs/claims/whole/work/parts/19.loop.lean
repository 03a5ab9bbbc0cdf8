/-! the law's loop, its entry -/
section JLoop
variable {p : Program} {l : Launch} {e : Env} {s : State} {m : MethodId} {below : List Frame} {meth : Method} {c : Code} {G : gG} {kd : Nat → Nat} {b0 L : Nat} {xs : Nat → Int32}
theorem j_lawret {cells slots : Nat} {loc : List (Nat × Value)} {μ : Mm} (X : Cx p l s m #[.ref b0] meth c code 7 (some .boolean) RL G (fun q => s.heap.size ≤ q)) (hc : cells ≤ 709538) (hs : slots ≤ 6967491) {pc : Nat} (hdg : decode code pc = .ok (.ireturn, 1)) : J p l e room_1 s m #[.ref b0] below meth c 7 G (fun q => s.heap.size ≤ q) (lw_Z below #[.ref b0] s) cells slots pc loc [.int 1] μ := by
  intro H locs ls hB hS hl
  exact va_forget (fun q hq => hS.2.2 q hq) (W.widen hc hs (lw_ret X.1 X.2.1 X.2.2.1 X.2.2.2.2.2.2.1 hdg))
theorem law_next {L i : Nat} (hL : L ≤ 2048) (hi : i ≤ 2052) : (nI L - 4 < nI i → L < i + 4) ∧ (¬ nI L - 4 < nI i → i + 4 ≤ L) := by
  have h1 : (nI L - 4).toInt = (L : Int) - 4 := pk_sub_toInt (a := L) (b := 4) (by omega) (by omega)
  have h2 : (nI i).toInt = (i : Int) := nI_toInt (by omega)
  rw [Int32.lt_iff_toInt_lt, h1, h2]
  omega
theorem law_idx {L i k : Nat} {v4 : Int32} (hL : L ≤ 2048) (hv : v4 = nI i) (h : i + k < L) : vp_in (v4 + nI k) L := by
  subst hv
  rw [nI_add]
  exact vp_in_nI h (by omega)
set_option maxHeartbeats 4000000 in
set_option maxRecDepth 100000 in
theorem law_loop {x mm out : Nat} {rf : Nat → Nat} {I : Mm → (Nat → Int32) → (Nat → Nat → Int32) → Prop} (X : Cx p l s m #[.ref b0] meth c code 7 (some .boolean) RL G (fun q => s.heap.size ≤ q)) (hl0 : l.stackTraces = false) (hkd : G.2.2 = kd) (hMO : MOk mm rf) (hX : va_X b0 L xs s s.heap) (hbl : b0 < s.heap.size) (hL : L ≤ 2048) (hlaw : lawI kd x out I) :
    ∀ (n i c0 s0 : Nat) (v4 : Int32) (μc : Mm) (σ : Nat → Int32) (α : Nat → Nat → Int32), v4 = nI i → L ≤ i + 4 * n + 3 → i ≤ 2052 → c0 ≤ 100 + 5 * i → s0 ≤ 4000 + 25 * i → disM μc (mset mN mm rf σ α) → I μc σ α →
      J p l e room_1 s m #[.ref b0] below meth c 7 G (fun q => s.heap.size ≤ q) (lw_Z below #[.ref b0] s) c0 s0 23 [(0, .ref b0), (1, .ref x), (2, .ref mm), (3, .ref out), (4, .int v4)] [] (joinM μc (mset mN mm rf σ α)) := by
  have hbA : ¬ (fun q : Nat => s.heap.size ≤ q) b0 := Nat.not_le.mpr hbl
  obtain ⟨o0, o1, o2, o3, o4, o5, o6, o7, o8, o9, o10, o11, o12, o13, o14, o15, o16, o17, o18, o19, o20⟩ := hlaw
  intro n
  induction n with
  | zero =>
    intro i c0 s0 v4 μc σ α hv hn hi hc hs hdis hI
    refine j_iload X (pc' := 25) (i := 4) 4 rfl dL_law_23 rfl ?_
    refine j_aload_n X (pc' := 26) (kk := 0) (i := 0) 0 rfl rfl dL_law_25 rfl ?_
    refine j_slen X (pc' := 27) hX hbl hbA dL_law_26 rfl ?_
    refine j_iconst X (pc' := 28) (v := 4) (by decide) dL_law_27 rfl ?_
    refine j_isub X (pc' := 29) dL_law_28 rfl ?_
    refine j_icmp_gt X (pc' := 32) (tgt := 1222) dL_law_29 rfl (by decide) (fun c1 => ?_) (fun c1 => ?_)
    · refine j_iconst X (pc' := 1223) (v := 1) (by decide) dL_law_1222 rfl ?_
      exact j_lawret X (by omega) (by omega) dL_law_1223
    · rw [hv] at c1
      exact absurd ((law_next hL hi).2 c1) (by omega)
  | succ n ih =>
    intro i c0 s0 v4 μc σ α hv hn hi hc hs hdis hI
    refine j_iload X (pc' := 25) (i := 4) 4 rfl dL_law_23 rfl ?_
    refine j_aload_n X (pc' := 26) (kk := 0) (i := 0) 0 rfl rfl dL_law_25 rfl ?_
    refine j_slen X (pc' := 27) hX hbl hbA dL_law_26 rfl ?_
    refine j_iconst X (pc' := 28) (v := 4) (by decide) dL_law_27 rfl ?_
    refine j_isub X (pc' := 29) dL_law_28 rfl ?_
    refine j_icmp_gt X (pc' := 32) (tgt := 1222) dL_law_29 rfl (by decide) (fun c1 => ?_) (fun c1 => ?_)
    · refine j_iconst X (pc' := 1223) (v := 1) (by decide) dL_law_1222 rfl ?_
      exact j_lawret X (by omega) (by omega) dL_law_1223
    have hi4 : i + 4 ≤ L := by rw [hv] at c1; exact (law_next hL hi).2 c1
    have K : ∀ (μ' : Mm) (σ' : Nat → Int32) (α' : Nat → Nat → Int32) (c1 s1 : Nat), disM μ' (mset mN mm rf σ' α') → I μ' σ' α' → c1 ≤ c0 + 20 → s1 ≤ s0 + 100 → J p l e room_1 s m #[.ref b0] below meth c 7 G (fun q => s.heap.size ≤ q) (lw_Z below #[.ref b0] s) c1 s1 1216 [(0, .ref b0), (1, .ref x), (2, .ref mm), (3, .ref out), (4, .int v4)] [] (joinM μ' (mset mN mm rf σ' α')) := by
      intro μ' σ' α' c1 s1 hd' hI' hc' hs'
      refine j_iinc X (pc' := 1219) (i := 4) (v := v4 + 4) (loc' := [(4, .int (v4 + 4)), (0, .ref b0), (1, .ref x), (2, .ref mm), (3, .ref out)]) 4 rfl rfl dL_law_1216 rfl (by decide) rfl ?_
      refine j_goto X (tgt := 23) dL_law_1219 (by decide) ?_
      refine j_loc [1, 2, 3, 4, 0] rfl ?_
      exact ih (i + 4) c1 s1 (v4 + 4) μ' σ' α' (by rw [hv]; exact nI_add i 4) (by omega) (by omega) (by omega) (by omega) hd' hI'
    have hy0 : vp_in v4 L := by rw [hv]; exact vp_in_nI (by omega) (by omega)
    have hy1 : vp_in (v4 + 1) L ∧ xs (v4 + 1).toNatClampNeg = xs (v4 + 1).toNatClampNeg := ⟨law_idx (k := 1) hL hv (by omega), rfl⟩
    have hy2 : vp_in (v4 + 2) L ∧ xs (v4 + 2).toNatClampNeg = xs (v4 + 2).toNatClampNeg := ⟨law_idx (k := 2) hL hv (by omega), rfl⟩
    have hy3 : vp_in (v4 + 3) L ∧ xs (v4 + 3).toNatClampNeg = xs (v4 + 3).toNatClampNeg := ⟨law_idx (k := 3) hL hv (by omega), rfl⟩
    refine j_aload_n X (pc' := 33) (kk := 0) (i := 0) 0 rfl rfl dL_law_32 rfl ?_
    refine j_iload X (pc' := 35) (i := 4) 4 rfl dL_law_33 rfl ?_
    refine j_sld X (pc' := 36) hX hbl hbA hy0 dL_law_35 rfl ?_
    refine j_bipush X (pc' := 38) (v := 31) (by decide) dL_law_36 rfl ?_
    refine j_iand X (pc' := 39) dL_law_38 rfl ?_
    obtain ⟨j, hj, ej⟩ := pk_andE (xs v4.toNatClampNeg) (m := 31) 5 (by decide)
    rw [ej]
    have hc4 : c0 ≤ 400000 := by omega
    have hs4 : s0 ≤ 4000000 := by omega
    rcases (show j = 0 ∨ j = 1 ∨ j = 2 ∨ j = 3 ∨ j = 4 ∨ j = 5 ∨ j = 6 ∨ j = 7 ∨ j = 8 ∨ j = 9 ∨ j = 10 ∨ j = 11 ∨ j = 12 ∨ j = 13 ∨ j = 14 ∨ j = 15 ∨ j = 16 ∨ j = 17 ∨ j = 18 ∨ j = 19 ∨ j = 20 ∨ 21 ≤ j by omega) with rfl | rfl | rfl | rfl | rfl | rfl | rfl | rfl | rfl | rfl | rfl | rfl | rfl | rfl | rfl | rfl | rfl | rfl | rfl | rfl | rfl | h21
    · exact j_tswIn X (tgt := 136) dL_law_39 (by decide) (by decide) (by rfl) (by decide) (law_case_0 (y0 := 0) X hl0 hkd hMO hX hbl hbA hy1 hy2 hy3 o0 hdis hI hc4 hs4 K)
    · exact j_tswIn X (tgt := 204) dL_law_39 (by decide) (by decide) (by rfl) (by decide) (law_case_1 (y0 := 0) X hl0 hkd hMO hX hbl hbA hy1 hy2 hy3 o1 hdis hI hc4 hs4 K)
    · exact j_tswIn X (tgt := 284) dL_law_39 (by decide) (by decide) (by rfl) (by decide) (law_case_2 (y0 := 0) X hl0 hkd hMO hX hbl hbA hy1 hy2 hy3 o2 hdis hI hc4 hs4 K)
    · exact j_tswIn X (tgt := 368) dL_law_39 (by decide) (by decide) (by rfl) (by decide) (law_case_3 (y0 := 0) X hl0 hkd hMO hX hbl hbA hy1 hy2 hy3 o3 hdis hI hc4 hs4 K)
    · exact j_tswIn X (tgt := 412) dL_law_39 (by decide) (by decide) (by rfl) (by decide) (law_case_4 (y0 := 0) X hl0 hkd hMO hX hbl hbA hy1 hy2 hy3 o4 hdis hI hc4 hs4 K)
    · exact j_tswIn X (tgt := 456) dL_law_39 (by decide) (by decide) (by rfl) (by decide) (law_case_5 (y0 := 0) X hl0 hkd hMO hX hbl hbA hy1 hy2 hy3 o5 hdis hI hc4 hs4 K)
    · exact j_tswIn X (tgt := 524) dL_law_39 (by decide) (by decide) (by rfl) (by decide) (law_case_6 (y0 := 0) X hl0 hkd hMO hX hbl hbA hy1 hy2 hy3 o6 hdis hI hc4 hs4 K)
    · exact j_tswIn X (tgt := 537) dL_law_39 (by decide) (by decide) (by rfl) (by decide) (law_case_7 (y0 := 0) X hl0 hkd hMO hX hbl hbA hy1 hy2 hy3 o7 hdis hI hc4 hs4 K)
    · exact j_tswIn X (tgt := 593) dL_law_39 (by decide) (by decide) (by rfl) (by decide) (law_case_8 (y0 := 0) X hl0 hkd hMO hX hbl hbA hy1 hy2 hy3 o8 hdis hI hc4 hs4 K)
    · exact j_tswIn X (tgt := 649) dL_law_39 (by decide) (by decide) (by rfl) (by decide) (law_case_9 (y0 := 0) X hl0 hkd hMO hX hbl hbA hy1 hy2 hy3 o9 hdis hI hc4 hs4 K)
    · exact j_tswIn X (tgt := 705) dL_law_39 (by decide) (by decide) (by rfl) (by decide) (law_case_10 (y0 := 0) X hl0 hkd hMO hX hbl hbA hy1 hy2 hy3 o10 hdis hI hc4 hs4 K)
    · exact j_tswIn X (tgt := 718) dL_law_39 (by decide) (by decide) (by rfl) (by decide) (law_case_11 (y0 := 0) X hl0 hkd hMO hX hbl hbA hy1 hy2 hy3 o11 hdis hI hc4 hs4 K)
    · exact j_tswIn X (tgt := 731) dL_law_39 (by decide) (by decide) (by rfl) (by decide) (law_case_12 (y0 := 0) X hl0 hkd hMO hX hbl hbA hy1 hy2 hy3 o12 hdis hI hc4 hs4 K)
    · exact j_tswIn X (tgt := 787) dL_law_39 (by decide) (by decide) (by rfl) (by decide) (law_case_13 (y0 := 0) X hl0 hkd hMO hX hbl hbA hy1 hy2 hy3 o13 hdis hI hc4 hs4 K)
    · exact j_tswIn X (tgt := 843) dL_law_39 (by decide) (by decide) (by rfl) (by decide) (law_case_14 (y0 := 0) X hl0 hkd hMO hX hbl hbA hy1 hy2 hy3 o14 hdis hI hc4 hs4 K)
    · exact j_tswIn X (tgt := 899) dL_law_39 (by decide) (by decide) (by rfl) (by decide) (law_case_15 (y0 := 0) X hl0 hkd hMO hX hbl hbA hy1 hy2 hy3 o15 hdis hI hc4 hs4 K)
    · exact j_tswIn X (tgt := 912) dL_law_39 (by decide) (by decide) (by rfl) (by decide) (law_case_16 (y0 := 0) X hl0 hkd hMO hX hbl hbA hy1 hy2 hy3 o16 hdis hI hc4 hs4 K)
    · exact j_tswIn X (tgt := 968) dL_law_39 (by decide) (by decide) (by rfl) (by decide) (law_case_17 (y0 := 0) X hl0 hkd hMO hX hbl hbA hy1 hy2 hy3 o17 hdis hI hc4 hs4 K)
    · exact j_tswIn X (tgt := 1024) dL_law_39 (by decide) (by decide) (by rfl) (by decide) (law_case_18 (y0 := 0) X hl0 hkd hMO hX hbl hbA hy1 hy2 hy3 o18 hdis hI hc4 hs4 K)
    · exact j_tswIn X (tgt := 1080) dL_law_39 (by decide) (by decide) (by rfl) (by decide) (law_case_19 (y0 := 0) X hl0 hkd hMO hX hbl hbA hy1 hy2 hy3 o19 hdis hI hc4 hs4 K)
    · exact j_tswIn X (tgt := 1148) dL_law_39 (by decide) (by decide) (by rfl) (by decide) (law_case_20 (y0 := 0) X hl0 hkd hMO hX hbl hbA hy1 hy2 hy3 o20 hdis hI hc4 hs4 K)
    · exact j_tswOut X (tgt := 1216) dL_law_39 (Or.inr (by rw [nI_toInt (by omega)]; omega)) (by decide) (K _ _ _ _ _ hdis hI (by omega) (by omega))
end JLoop
def initOK (kd : Nat → Nat) : Prop := ∀ x μ1, μ1 = ups mN x (.inl (5, [.null, .null, .null, .null, .null, .null, .int 0])) → wp_X6_init x μ1 (fun μ2 => ∀ mm, μ2 mm = none → ∀ μ3, μ3 = ups μ2 mm (.inl (6, [.int 0, .int 0, .null, .null, .null, .null, .null, .null, .null, .null, .null, .null, .int 0, .null, .int 0, .null, .int 0, .null, .int 0, .null, .int 0, .null, .null, .null, .null, .null, .null, .null, .int 0, .int 0])) → wp_X7_init mm μ3 (fun μ4 => ∀ out, μ4 out = none → ∀ μ5, μ5 = ups μ4 out (eL 1 (fun _ => 0)) →
    ∃ (μc : Mm) (rf : Nat → Nat) (σ : Nat → Int32) (α : Nat → Nat → Int32) (I : Mm → (Nat → Int32) → (Nat → Nat → Int32) → Prop), μ5 = joinM μc (mset mN mm rf σ α) ∧ disM μc (mset mN mm rf σ α) ∧ MOk mm rf ∧ I μc σ α ∧ lawI kd x out I))
set_option maxHeartbeats 4000000 in
set_option maxRecDepth 100000 in
/-- THE LAW, from its entry, out of what the two systems' own steps owe each other -/
theorem law_start {p : Program} {e : Env} {s : State} {m : MethodId} {below : List Frame} {meth : Method} {c : Code} (l : Launch) (hflags : l.flags = flags0) {b L : Nat} {xs : Nat → Int32} (hL : L ≤ 2048) (C0 : lw_At p s m meth c b L xs) (hpure : ∀ kd : Nat → Nat, (∀ i j, i < 4 → j < 4 → kd i = kd j → i = j) → initOK kd) : W p l e room_1 s m #[Value.ref b] below meth c s.heap [] 0 0 (lw_Z below #[Value.ref b] s) (entryFrame m ([Value.ref b] : List Value).toArray 7) := by
  obtain ⟨hx, hb, hr, hml, hown, hts, hX, hbl, hlocks, hgv⟩ := C0
  obtain ⟨G, hSK, hkinj⟩ := SK_start hts hgv
  have hl0 : l.stackTraces = false := by
    have : l.stackTraces = Launch.stackTraces l := rfl
    first | (rw [Launch.stackTraces, hflags]; decide +kernel) | (simp [Launch.stackTraces, hflags, flags0]; done) | (unfold Launch.stackTraces; rw [hflags]; rfl)
  have X : Cx p l s m #[.ref b] meth c code 7 (some .boolean) RL G (fun q => s.heap.size ≤ q) := ⟨hx, hb, hr, hml, hown, fun w hw => hts w (wsA_tbl w hw), hlocks, hSK, fun q h => h⟩
  have hP := hpure G.2.2 hkinj
  have hl := lv_entry ([.ref b]) (n := 7) (Nat.le_of_ble_eq_true rfl)
  rw [lg_entry_eq]
  have hl : lv_has ((lg_sl [Value.ref b]) ++ List.replicate (7 - (lg_sl [Value.ref b]).length) Slot.unset).toArray 7 [(0, .ref b)] := hl
  have KJ : J p l e room_1 s m #[.ref b] below meth c 7 G (fun q => s.heap.size ≤ q) (lw_Z below #[.ref b] s) 0 0 0 [(0, .ref b)] [] mN := by
    refine jp_new X (pc' := 3) (cells' := 1) (slots' := 7) (ci := 5) (fs := [.null, .null, .null, .null, .null, .null, .int 0]) rfl fw_TX6 tyX6_ok wt_1_17 wt_1_18 wt_1_1 df_X6 (Nat.le_of_ble_eq_true rfl) (Nat.le_of_ble_eq_true rfl) rfl rfl dL_law_0 rfl (fun x hq1 μ1 e1 => ?_)
    have hw := hP x μ1 e1
    refine j_dup X (pc' := 4) rfl dL_law_3 rfl ?_
    refine j_callIv (As := []) (rest := [.ref x]) X (pc' := 7) (cells' := 15) (slots' := 1068) (c_X6_init l G _ x μ1 _ hw) wt_1_19 wt_1_20 wt_1_1 wt_1_21 rfl hd_X6_init ⟨by show _ ≤ 2048; omega, by show _ ≤ 84000; omega⟩ rfl rfl (Nat.le_of_ble_eq_true rfl) dL_law_4 rfl ⟨Nat.le_of_ble_eq_true rfl, Nat.le_of_ble_eq_true rfl⟩ rfl rfl (fun μ2 hw => ?_)
    refine j_astore_n X (pc' := 8) (kk := 1) (i := 1) (loc' := [(1, .ref x), (0, .ref b)]) dL_law_7 rfl rfl (by decide) rfl ?_
    refine jp_new X (pc' := 11) (cells' := 16) (slots' := 1098) (ci := 6) (fs := [.int 0, .int 0, .null, .null, .null, .null, .null, .null, .null, .null, .null, .null, .int 0, .null, .int 0, .null, .int 0, .null, .int 0, .null, .int 0, .null, .null, .null, .null, .null, .null, .null, .int 0, .int 0]) rfl fw_TX7 tyX7_ok wt_3_159 wt_3_160 wt_1_7 df_X7 (Nat.le_of_ble_eq_true rfl) (Nat.le_of_ble_eq_true rfl) rfl rfl dL_law_8 rfl (fun mm hq2 μ3 e3 => ?_)
    have hw := hw mm hq2 μ3 e3
    refine j_dup X (pc' := 12) rfl dL_law_11 rfl ?_
    refine j_callIv (As := []) (rest := [.ref mm]) X (pc' := 15) (cells' := 37) (slots' := 2416) (c_X7_init l G _ mm μ3 _ hw) wt_3_161 wt_3_162 wt_1_7 wt_3_163 rfl hd_X7_init ⟨by show _ ≤ 2048; omega, by show _ ≤ 84000; omega⟩ rfl rfl (Nat.le_of_ble_eq_true rfl) dL_law_12 rfl ⟨Nat.le_of_ble_eq_true rfl, Nat.le_of_ble_eq_true rfl⟩ rfl rfl (fun μ4 hw => ?_)
    refine j_astore_n X (pc' := 16) (kk := 2) (i := 2) (loc' := [(2, .ref mm), (1, .ref x), (0, .ref b)]) dL_law_15 rfl rfl (by decide) rfl ?_
    refine j_iconst X (pc' := 17) (v := 1) (by decide) dL_law_16 rfl ?_
    refine jp_newL X (pc' := 19) (cells' := 38) (slots' := 2417) (N := 1) wt_4_230 (by decide) (by decide) (by decide) (Nat.le_of_ble_eq_true rfl) (Nat.le_of_ble_eq_true rfl) rfl rfl dL_law_17 rfl (fun out hq3 μ5 e5 => ?_)
    obtain ⟨μc, rf, σ, α, I, e6, hdis, hMO, hI, hlaw⟩ := hw out hq3 μ5 e5
    rw [e6]
    refine j_astore_n X (pc' := 20) (kk := 3) (i := 3) (loc' := [(3, .ref out), (2, .ref mm), (1, .ref x), (0, .ref b)]) dL_law_19 rfl rfl (by decide) rfl ?_
    refine j_iconst X (pc' := 21) (v := 0) (by decide) dL_law_20 rfl ?_
    refine j_istore X (pc' := 23) (i := 4) (loc' := [(4, .int 0), (3, .ref out), (2, .ref mm), (1, .ref x), (0, .ref b)]) dL_law_21 rfl (by decide) rfl ?_
    refine j_loc [4, 3, 2, 1, 0] rfl ?_
    exact law_loop X hl0 rfl hMO hX hbl hL hlaw L 0 38 2417 0 μc σ α rfl (by omega) (by omega) (by omega) (by omega) hdis hI
  exact KJ s.heap [] _ (fun a e0 h => by cases h) va_S.rf hl
