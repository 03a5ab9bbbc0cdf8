/-! THE CLASS'S OPERATIONS: those that make types -/
section SQ
variable {kd : Nat → Nat} {x : Nat} {S : SS} {μ : Mm}
theorem num_small {N : NT} {nt : Nat} {p1 p2 : Int32} : meM (xtN N nt 0 0 (fun _ => 0) (fun _ => 0) p1 p2) nt ≤ 240 ∧ meL (xtN N nt 0 0 (fun _ => 0) (fun _ => 0) p1 p2) nt ≤ 240 := by
  obtain ⟨x1, _⟩ := xtN_at (N := N) (nt := nt) (K := 0) (C := 0) (P := fun _ => 0) (O := fun _ => 0) (lo := p1) (hi := p2)
  unfold meM meL
  rw [x1]
  simp only []
  have : nW (xtN N nt 0 0 (fun _ => 0) (fun _ => 0) p1 p2) nt ≤ 11 := wdN_le _
  omega
theorem num_wf {N : NT} {nt : Nat} {p1 p2 : Int32} (hN : NWf N nt) (c : ((-1000 : Int32) ≤ p1 ∧ p1 ≤ 1000) ∧ p1 ≤ p2 ∧ p2 ≤ 1000) : NWf (xtN N nt 0 0 (fun _ => 0) (fun _ => 0) p1 p2) (nt + 1) := by
  have i1 := q_int c.1
  have i2 := q_int c.2
  have e1 : (-1000 : Int32).toInt = -1000 := by decide
  have e2 : (1000 : Int32).toInt = 1000 := by decide
  rw [e1] at i1
  rw [e2] at i2
  exact hN.num i1.1 i2.1 i2.2
theorem y_numbers (hkd : ∀ i j, i < 4 → j < 4 → kd i = kd j → i = j) (hV : VS S) (hK : KS kd x S μ) {p1 p2 : Int32} {post : Int32 → Mm → Prop}
    (h0 : ¬ (((-1000 : Int32) ≤ p1 ∧ p1 ≤ 1000) ∧ p1 ≤ p2 ∧ p2 ≤ 1000) → ∀ μ', KS kd x S μ' → post (-2000000002) μ')
    (h1 : (((-1000 : Int32) ≤ p1 ∧ p1 ≤ 1000) ∧ p1 ≤ p2 ∧ p2 ≤ 1000) → snt S = 16 → ∀ μ', KS kd x S μ' → post (-2000000003) μ')
    (h2 : (((-1000 : Int32) ≤ p1 ∧ p1 ≤ 1000) ∧ p1 ≤ p2 ∧ p2 ≤ 1000) → snt S < 16 → ∀ μ', KS kd x (s_new S (sdc S) (nwN (xtN (sN S) (snt S) 0 0 (fun _ => 0) (fun _ => 0) p1 p2) (snt S))) μ' → post (nI (snt S)) μ') : wp_L_numbers kd x p1 p2 μ post := by
  obtain ⟨N, ⟨nt, tn, bn, dc⟩, T, b, dp, dq⟩ := S
  obtain ⟨out, ad, C, dm, hK⟩ := hK
  have hK : KC kd x out N nt tn bn dc T b dp dq μ ad C dm := hK
  have hV : VI N nt tn bn dc b dp dq := hV
  have v1 : nt ≤ 16 := hV.1
  have v6 : tn ≤ 300 := hV.2.2.2.2.2.1
  have v7 : bn ≤ 240 := hV.2.2.2.2.2.2.1
  have v8 : ∀ i, b i ≤ 1 := hV.2.2.2.2.2.2.2.1
  have v9 : dc ≤ 6 := hV.2.2.2.2.2.2.2.2.1
  have here : KS kd x (N, (nt, tn, bn, dc), T, b, dp, dq) μ := ⟨out, hK.ki⟩
  refine ⟨⟨_, hK.cx⟩, c_out ?_⟩
  by_cases c1 : (-1000 : Int32) ≤ p1 ∧ p1 ≤ 1000
  · rw [if_pos c1]
    refine ⟨fun h => absurd rfl h, fun _ => c_out ?_⟩
    by_cases c2 : p1 ≤ p2 ∧ p2 ≤ 1000
    · rw [if_pos c2]
      refine ⟨fun _ q5 hq5 μ7 e7 q9 hq9 μ11 e11 => ?_, fun h => absurd rfl h⟩
      subst e7 e11
      obtain ⟨n95, fq9⟩ := ups_none hq9
      refine t_init (n := 0) ups_s rfl (by omega) (by omega) (fun it hit hne => ?_)
      obtain ⟨ni9, hit⟩ := ups_none hit
      obtain ⟨ni5, fit⟩ := ups_none hit
      have hN1 := num_wf hV.2.1 ⟨c1, c2⟩
      refine hK.build (K := 0) (Cn := 0) (P := fun _ => 0) (O := fun _ => 0) (pf := fun _ => none) hV hkd (by omega) (fun a v hv => ?_) hN1 (by rw [ups_n n95.symm, ups_n ni5.symm, ups_n n95.symm]; exact ups_s) ups_s (by rw [ups_n hne]; exact ups_s) (Nat.le_refl _) (by omega) (fun k hk => by omega) (fun h => by omega) hq5 fq9 fit (fun hn μ' hK' => Or.inr ⟨rfl, ?_⟩) (fun hlt hMM hLL μ' hK' => ?_)
      · exact ups_kp hv fq9 (ups_kp hv fit (ups_kp hv fq9 (ups_kp hv hq5 hv)))
      · have e16 : nt = 16 := by
          by_cases c : nt < 16
          · exact absurd num_small (hn c)
          · omega
        exact h1 ⟨c1, c2⟩ e16 _ ⟨out, hK'⟩
      · exact h2 ⟨c1, c2⟩ hlt _ ⟨out, hK'⟩
    · rw [if_neg c2]
      exact ⟨fun h => absurd h (by decide), fun _ => Or.inl ⟨rfl, h0 (fun h => c2 h.2) _ here⟩⟩
  · rw [if_neg c1]
    exact ⟨fun _ => Or.inl ⟨rfl, h0 (fun h => c1 h.1) _ here⟩, fun h => absurd h (by decide)⟩
theorem y_lists (hkd : ∀ i j, i < 4 → j < 4 → kd i = kd j → i = j) (hV : VS S) (hK : KS kd x S μ) {p1 p2 p3 : Int32} {post : Int32 → Mm → Prop}
    (h0 : (¬ ∃ t, t < snt S ∧ p1 = nI t) → ∀ μ', KS kd x S μ' → post (-2000000001) μ')
    (h1 : (∃ t, t < snt S ∧ p1 = nI t) → ¬ (((0 : Int32) ≤ p2 ∧ p2 ≤ 8) ∧ p2 ≤ p3 ∧ p3 ≤ 8) → ∀ μ', KS kd x S μ' → post (-2000000002) μ')
    (h2 : ∀ t a c, t < snt S → p1 = nI t → p2 = nI a → p3 = nI c → a ≤ c → c ≤ 8 → (snt S < 16 → ¬ (meM (xtN (sN S) (snt S) 1 1 (fun _ => t) (fun _ => 0) (nI a) (nI c)) (snt S) ≤ 240 ∧ meL (xtN (sN S) (snt S) 1 1 (fun _ => t) (fun _ => 0) (nI a) (nI c)) (snt S) ≤ 240)) → ∀ μ', KS kd x S μ' → post (-2000000003) μ')
    (h3 : ∀ t a c, t < snt S → p1 = nI t → p2 = nI a → p3 = nI c → a ≤ c → c ≤ 8 → snt S < 16 → meM (xtN (sN S) (snt S) 1 1 (fun _ => t) (fun _ => 0) (nI a) (nI c)) (snt S) ≤ 240 → meL (xtN (sN S) (snt S) 1 1 (fun _ => t) (fun _ => 0) (nI a) (nI c)) (snt S) ≤ 240 → ∀ μ', KS kd x (s_new S (sdc S) (nwN (xtN (sN S) (snt S) 1 1 (fun _ => t) (fun _ => 0) (nI a) (nI c)) (snt S))) μ' → post (nI (snt S)) μ') : wp_L_lists kd x p1 p2 p3 μ post := by
  obtain ⟨N, ⟨nt, tn, bn, dc⟩, T, b, dp, dq⟩ := S
  obtain ⟨out, ad, C, dm, hK⟩ := hK
  have hK : KC kd x out N nt tn bn dc T b dp dq μ ad C dm := hK
  have hV : VI N nt tn bn dc b dp dq := hV
  have v1 : nt ≤ 16 := hV.1
  have v6 : tn ≤ 300 := hV.2.2.2.2.2.1
  have v7 : bn ≤ 240 := hV.2.2.2.2.2.2.1
  have v8 : ∀ i, b i ≤ 1 := hV.2.2.2.2.2.2.2.1
  have v9 : dc ≤ 6 := hV.2.2.2.2.2.2.2.2.1
  have here : KS kd x (N, (nt, tn, bn, dc), T, b, dp, dq) μ := ⟨out, hK.ki⟩
  refine ⟨⟨_, hK.cx⟩, ⟨_, hK.cx⟩, hK.num v1 (fun t ht e => c_out ?_) (fun hn => Or.inl ⟨rfl, h0 hn _ here⟩)⟩
  by_cases c1 : (0 : Int32) ≤ p2 ∧ p2 ≤ 8
  · rw [if_pos c1]
    refine ⟨fun h => absurd rfl h, fun _ => c_out ?_⟩
    by_cases c2 : p2 ≤ p3 ∧ p3 ≤ 8
    · rw [if_pos c2]
      obtain ⟨a, _, ha8, ea⟩ := q_num (a := 0) (b := 8) c1.1 c1.2 (by omega) (by omega)
      rw [ea] at c2
      obtain ⟨c, hac, hc8, ec⟩ := q_num (a := a) (b := 8) c2.1 c2.2 ha8 (by omega)
      have k2 := h2 t a c ht e ea ec hac hc8
      have k3 := h3 t a c ht e ea ec hac hc8
      subst ea
      subst ec
      refine ⟨fun _ q7 hq7 μ9 e9 => ?_, fun h => absurd rfl h⟩
      subst e9
      refine t_init (n := 1) ups_s rfl (by omega) (by omega) (fun it hit hne => ?_)
      obtain ⟨ni7, fit⟩ := ups_none hit
      obtain ⟨fa, fc, om0, hty⟩ := hK.tyo ht
      have hty2 := ups_kp (e := eO 3 [.ref it, .int 0]) hty hq7 (ups_kp (e := eT 1 (fun _ => none)) hty fit (ups_kp (e := .inl (3, [.null, .int 0])) hty hq7 hty))
      refine ⟨⟨_, ups_s⟩, t_append (n := 0) ups_s (by rw [ups_n hne]; exact ups_s) hty2 (by omega) (by omega) ?_⟩
      intro q15 hq15 μ17 e17
      subst e17
      obtain ⟨n157, hq⟩ := ups_none hq15
      obtain ⟨n15i, hq⟩ := ups_none hq
      obtain ⟨_, hq⟩ := ups_none hq
      obtain ⟨_, hq⟩ := ups_none hq
      obtain ⟨_, fq15⟩ := ups_none hq
      have hN1 := hV.2.1.lst hac hc8 ht
      have hpf : ∀ k, k < 1 → va_up (fun _ => none) 0 (some (ad (20 + 5 * t))) k = some (ad (20 + 5 * (fun _ => t) k)) := fun k hk => by
        have : k = 0 := by omega
        subst this; rfl
      refine hK.build (K := 1) (Cn := 1) (P := fun _ => t) (O := fun _ => 0) hV hkd (by omega) (fun a' v hv => ?_) hN1 ups_s (by rw [ups_n n157.symm]; exact ups_s) (by rw [ups_n n15i.symm, ups_n hne]; exact ups_s) (Nat.le_refl _) (by omega) hpf (fun h => by omega) fq15 hq7 fit (fun hn μ' hK' => Or.inr (Or.inr ⟨rfl, ?_⟩)) (fun hlt hMM hLL μ' hK' => ?_)
      · exact ups_kp hv fq15 (ups_kp hv hq7 (ups_kp hv fit (ups_kp hv hq7 (ups_kp hv fit (ups_kp hv hq7 hv)))))
      · exact k2 hn _ ⟨out, hK'⟩
      · exact k3 hlt hMM hLL _ ⟨out, hK'⟩
    · rw [if_neg c2]
      exact ⟨fun h => absurd h (by decide), fun _ => Or.inr (Or.inl ⟨rfl, h1 ⟨t, ht, e⟩ (fun h => c2 h.2) _ here⟩)⟩
  · rw [if_neg c1]
    exact ⟨fun _ => Or.inr (Or.inl ⟨rfl, h1 ⟨t, ht, e⟩ (fun h => c1 h.1) _ here⟩), fun h => absurd h (by decide)⟩
theorem y_parts (hV : VS S) (hK : KS kd x S μ) {p1 p2 : Int32} {post : Int32 → Mm → Prop}
    (h0 : (¬ ∃ t, t < snt S ∧ p1 = nI t) → ∀ μ', KS kd x S μ' → post (-2000000001) μ')
    (h1 : (∃ t, t < snt S ∧ p1 = nI t) → sdc S = 6 → ∀ μ', KS kd x S μ' → post (-2000000003) μ')
    (h2 : ∀ t, t < snt S → p1 = nI t → sdc S < 6 → ∀ μ', KS kd x (s_dr S (sdc S + 1) (fun k => if k = sdc S then t else sdp S k) (fun k => if k = sdc S then (if p2 = 0 then 0 else 1) else sdq S k)) μ' → post (nI (sdc S + 1)) μ') : wp_L_parts x p1 p2 μ post := by
  obtain ⟨N, ⟨nt, tn, bn, dc⟩, T, b, dp, dq⟩ := S
  obtain ⟨out, ad, C, dm, hK⟩ := hK
  have hK : KC kd x out N nt tn bn dc T b dp dq μ ad C dm := hK
  have hV : VI N nt tn bn dc b dp dq := hV
  have v1 : nt ≤ 16 := hV.1
  have v6 : tn ≤ 300 := hV.2.2.2.2.2.1
  have v7 : bn ≤ 240 := hV.2.2.2.2.2.2.1
  have v8 : ∀ i, b i ≤ 1 := hV.2.2.2.2.2.2.2.1
  have v9 : dc ≤ 6 := hV.2.2.2.2.2.2.2.2.1
  have here : KS kd x (N, (nt, tn, bn, dc), T, b, dp, dq) μ := ⟨out, hK.ki⟩
  obtain ⟨c13, ⟨df, c14, cd⟩, cm⟩ := hK.c13
  refine ⟨⟨_, hK.cx⟩, ⟨_, hK.cx⟩, hK.num v1 (fun t ht e => ?_) (fun hn => Or.inl ⟨rfl, h0 hn _ here⟩)⟩
  refine ⟨_, _, hK.cx, rfl, ⟨_, c13⟩, t_isFull c13 c14 (by omega) (by omega) ?_⟩
  by_cases h6 : dc < 6
  · rw [if_pos h6]
    have k2 : ∀ μ', KS kd x (N, (nt, tn, bn, dc + 1), T, b, (fun k => if k = dc then t else dp k), (fun k => if k = dc then (if p2 = 0 then 0 else 1) else dq k)) μ' → post (nI (dc + 1)) μ' := h2 t ht e h6
    obtain ⟨fa, fc, om0, hty⟩ := hK.tyo ht
    -- both ways
    have go : ∀ (q : Nat) (dm' : Int32), (if p2 = 0 then 0 else 1) = q → (∀ k, k < 6 → msk dm' k = nI (if k < dc + 1 then (if k = dc then q else dq k) else 0)) → wb_X6_part_48 x (fun r1 μ2 => post r1 μ2) (fun E9 μ9 => (E9 = "java/lang/IndexOutOfBoundsException" ∧ post (-2000000001 : Int32) μ9) ∨ (E9 = "java/lang/IllegalStateException" ∧ post (-2000000003 : Int32) μ9)) (ad (20 + 5 * t)) (ups μ x (eO 5 [.ref (ad 1), .ref (ad 3), .ref (ad 5), .ref (ad 7), .ref (ad 10), .ref (ad 13), .int dm'])) := by
      intro q dm' hq hdm
      rw [hq] at k2
      have k13 : ups μ x (eO 5 [.ref (ad 1), .ref (ad 3), .ref (ad 5), .ref (ad 7), .ref (ad 10), .ref (ad 13), .int dm']) (ad 13) = some (eO 3 [.ref (ad 14), .int (nI dc)]) := by rw [ups_n (q_ne c13 hK.cx (by simp))]; exact c13
      have k14 : ups μ x (eO 5 [.ref (ad 1), .ref (ad 3), .ref (ad 5), .ref (ad 7), .ref (ad 10), .ref (ad 13), .int dm']) (ad 14) = some (eT 6 df) := by rw [ups_n (q_ne c14 hK.cx (by simp))]; exact c14
      have kty := (ups_n (e := eO 5 [.ref (ad 1), .ref (ad 3), .ref (ad 5), .ref (ad 7), .ref (ad 10), .ref (ad 13), .int dm']) (q_ne hty hK.cx (by simp))).trans hty
      refine ⟨_, _, ups_s, rfl, ⟨_, k13⟩, t_append k13 k14 kty (by omega) h6 ?_⟩
      obtain ⟨C', hK2⟩ := hK.part (t := t) (q := q) cd hdm
      exact ⟨_, _, hK2.cx, rfl, ⟨_, hK2.c13.1⟩, t_size hK2.c13.1 (k2 _ ⟨out, hK2.ki⟩)⟩
    refine ⟨fun _ => ⟨fun z => ?_, fun z => ⟨_, _, hK.cx, rfl, _, _, hK.cx, rfl, ⟨_, c13⟩, t_size c13 ⟨_, hK.cx, by simp, fun μ24 e => ?_⟩⟩⟩, fun h => absurd rfl h⟩
    · have := go 0 dm (if_pos z) (q_mask0 cm)
      rw [q_ups_id hK.cx] at this
      exact this
    · subst e
      exact go 1 (dm ||| ((1 : Int32) <<< (nI dc &&& 31))) (if_neg z) (q_mask1 h6 cm)
  · rw [if_neg h6]
    exact ⟨fun h => absurd h (by decide), fun _ => Or.inr ⟨rfl, h1 ⟨t, ht, e⟩ (show dc = 6 by omega) _ here⟩⟩
theorem y_sequences (hkd : ∀ i j, i < 4 → j < 4 → kd i = kd j → i = j) (hV : VS S) (hK : KS kd x S μ)  {post : Int32 → Mm → Prop}
    (h0 : (sdc S = 0 ∨ (snt S < 16 → ¬ (meM (xtN (sN S) (snt S) 2 (sdc S) (sdp S) (sdq S) (nI 0) (nI (if 2 = 3 then sdc S - 1 else 0))) (snt S) ≤ 240 ∧ meL (xtN (sN S) (snt S) 2 (sdc S) (sdp S) (sdq S) (nI 0) (nI (if 2 = 3 then sdc S - 1 else 0))) (snt S) ≤ 240))) → ∀ μ', KS kd x S μ' → post (-2000000003) μ')
    (h1 : 0 < sdc S → snt S < 16 → meM (xtN (sN S) (snt S) 2 (sdc S) (sdp S) (sdq S) (nI 0) (nI (if 2 = 3 then sdc S - 1 else 0))) (snt S) ≤ 240 → meL (xtN (sN S) (snt S) 2 (sdc S) (sdp S) (sdq S) (nI 0) (nI (if 2 = 3 then sdc S - 1 else 0))) (snt S) ≤ 240 → ∀ μ', KS kd x (s_new S 0 (nwN (xtN (sN S) (snt S) 2 (sdc S) (sdp S) (sdq S) (nI 0) (nI (if 2 = 3 then sdc S - 1 else 0))) (snt S))) μ' → post (nI (snt S)) μ') : wp_L_sequences kd x μ post := by
  obtain ⟨N, ⟨nt, tn, bn, dc⟩, T, b, dp, dq⟩ := S
  obtain ⟨out, ad, C, dm, hK⟩ := hK
  have hK : KC kd x out N nt tn bn dc T b dp dq μ ad C dm := hK
  have hV : VI N nt tn bn dc b dp dq := hV
  have v1 : nt ≤ 16 := hV.1
  have v6 : tn ≤ 300 := hV.2.2.2.2.2.1
  have v7 : bn ≤ 240 := hV.2.2.2.2.2.2.1
  have v8 : ∀ i, b i ≤ 1 := hV.2.2.2.2.2.2.2.1
  have v9 : dc ≤ 6 := hV.2.2.2.2.2.2.2.2.1
  have here : KS kd x (N, (nt, tn, bn, dc), T, b, dp, dq) μ := ⟨out, hK.ki⟩
  refine ⟨⟨_, hK.cx⟩, fun q1 hq1 μ3 e3 => ?_⟩
  subst e3
  have k0 := ups_keep (e := eO 2 [.null, .int 0, .int 0, .int 0, .null, .int 0, .null, .int 0, .int 0, .int 0]) hK.cx hq1
  refine ⟨_, _, k0, rfl, _, _, k0, rfl, ?_⟩
  exact hK.buildD (K := 2) (n := 1) hV hkd (Or.inl rfl) (fun _ => rfl) rfl (by omega) (fun _ => rfl) hq1 (fun hno μ' hK' => ⟨rfl, h0 hno _ ⟨out, hK'⟩⟩) (fun hd hlt hMM hLL μ' hK' => h1 hd hlt hMM hLL _ ⟨out, hK'⟩)
theorem y_choices (hkd : ∀ i j, i < 4 → j < 4 → kd i = kd j → i = j) (hV : VS S) (hK : KS kd x S μ)  {post : Int32 → Mm → Prop}
    (h0 : (sdc S = 0 ∨ (snt S < 16 → ¬ (meM (xtN (sN S) (snt S) 3 (sdc S) (sdp S) (sdq S) (nI 0) (nI (if 3 = 3 then sdc S - 1 else 0))) (snt S) ≤ 240 ∧ meL (xtN (sN S) (snt S) 3 (sdc S) (sdp S) (sdq S) (nI 0) (nI (if 3 = 3 then sdc S - 1 else 0))) (snt S) ≤ 240))) → ∀ μ', KS kd x S μ' → post (-2000000003) μ')
    (h1 : 0 < sdc S → snt S < 16 → meM (xtN (sN S) (snt S) 3 (sdc S) (sdp S) (sdq S) (nI 0) (nI (if 3 = 3 then sdc S - 1 else 0))) (snt S) ≤ 240 → meL (xtN (sN S) (snt S) 3 (sdc S) (sdp S) (sdq S) (nI 0) (nI (if 3 = 3 then sdc S - 1 else 0))) (snt S) ≤ 240 → ∀ μ', KS kd x (s_new S 0 (nwN (xtN (sN S) (snt S) 3 (sdc S) (sdp S) (sdq S) (nI 0) (nI (if 3 = 3 then sdc S - 1 else 0))) (snt S))) μ' → post (nI (snt S)) μ') : wp_L_choices kd x μ post := by
  obtain ⟨N, ⟨nt, tn, bn, dc⟩, T, b, dp, dq⟩ := S
  obtain ⟨out, ad, C, dm, hK⟩ := hK
  have hK : KC kd x out N nt tn bn dc T b dp dq μ ad C dm := hK
  have hV : VI N nt tn bn dc b dp dq := hV
  have v1 : nt ≤ 16 := hV.1
  have v6 : tn ≤ 300 := hV.2.2.2.2.2.1
  have v7 : bn ≤ 240 := hV.2.2.2.2.2.2.1
  have v8 : ∀ i, b i ≤ 1 := hV.2.2.2.2.2.2.2.1
  have v9 : dc ≤ 6 := hV.2.2.2.2.2.2.2.2.1
  have here : KS kd x (N, (nt, tn, bn, dc), T, b, dp, dq) μ := ⟨out, hK.ki⟩
  refine ⟨⟨_, hK.cx⟩, fun q1 hq1 μ3 e3 => ?_⟩
  subst e3
  have k0 := ups_keep (e := eO 2 [.null, .int 0, .int 0, .int 0, .null, .int 0, .null, .int 0, .int 0, .int 0]) hK.cx hq1
  have k13 := ups_keep (e := eO 2 [.null, .int 0, .int 0, .int 0, .null, .int 0, .null, .int 0, .int 0, .int 0]) hK.c13.1 hq1
  refine ⟨_, _, k0, rfl, ⟨_, k13⟩, t_size k13 ⟨_, _, k0, rfl, ?_⟩⟩
  have ehw : nI dc - 1 - 0 + 1 = nI dc := by
    have : ∀ d, d < 7 → nI d - 1 - 0 + 1 = nI d := by decide
    exact this dc (by omega)
  refine hK.buildD (K := 3) (n := dc) hV hkd (Or.inr rfl) (fun hd => ?_) ehw (by omega) (fun h => absurd h (by omega)) hq1 (fun hno μ' hK' => ⟨rfl, h0 hno _ ⟨out, hK'⟩⟩) (fun hd hlt hMM hLL μ' hK' => h1 hd hlt hMM hLL _ ⟨out, hK'⟩)
  rw [if_pos rfl, q_l1, q_sub (by omega)]
theorem y_extend (hkd : ∀ i j, i < 4 → j < 4 → kd i = kd j → i = j) (hV : VS S) (hK : KS kd x S μ) {p1 p2 : Int32} {post : Int32 → Mm → Prop}
    (h0 : (¬ ∃ t, t < snt S ∧ p1 = nI t) ∨ (¬ ∃ t, t < snt S ∧ p2 = nI t) → ∀ μ', KS kd x S μ' → post (-2000000001) μ')
    (h1 : ∀ s o, s < snt S → o < snt S → p1 = nI s → p2 = nI o → ¬ (nK (sN S) s = 2 ∧ o < s) → ∀ μ', KS kd x S μ' → post (-2000000002) μ')
    (h2 : ∀ s o, s < snt S → o < snt S → p1 = nI s → p2 = nI o → nK (sN S) s = 2 → o < s → nA (sN S) s = 3 → ∀ μ', KS kd x S μ' → post (-2000000003) μ')
    (h3 : ∀ s o, s < snt S → o < snt S → p1 = nI s → p2 = nI o → nK (sN S) s = 2 → o < s → nA (sN S) s < 3 → ∃ N2 t0, sameN (adN (sN S) s o) N2 ∧ NUp N2 (snt S) t0 ∧ NFM N2 t0 ∧ (t0 ≠ snt S → ∀ μ', KS kd x S μ' → post (-2000000003) μ') ∧ (t0 = snt S → ∀ μ', KS kd x (s_ext S N2) μ' → post (nI (nA (sN S) s + 1)) μ')) : wp_L_extend kd x p1 p2 μ post := by
  obtain ⟨N, ⟨nt, tn, bn, dc⟩, T, b, dp, dq⟩ := S
  obtain ⟨out, ad, C, dm, hK⟩ := hK
  have hK : KC kd x out N nt tn bn dc T b dp dq μ ad C dm := hK
  have hV : VI N nt tn bn dc b dp dq := hV
  have v1 : nt ≤ 16 := hV.1
  have v6 : tn ≤ 300 := hV.2.2.2.2.2.1
  have v7 : bn ≤ 240 := hV.2.2.2.2.2.2.1
  have v8 : ∀ i, b i ≤ 1 := hV.2.2.2.2.2.2.2.1
  have v9 : dc ≤ 6 := hV.2.2.2.2.2.2.2.2.1
  have here : KS kd x (N, (nt, tn, bn, dc), T, b, dp, dq) μ := ⟨out, hK.ki⟩
  refine ⟨⟨_, hK.cx⟩, ⟨_, hK.cx⟩, hK.num v1 (fun s hs e => ⟨⟨_, hK.cx⟩, hK.num v1 (fun o ho e2 => ?_) (fun hn => Or.inl ⟨rfl, h0 (Or.inr hn) _ here⟩)⟩) (fun hn => Or.inl ⟨rfl, h0 (Or.inl hn) _ here⟩)⟩
  have hwf := hV.2.1 s hs
  have k1 : ¬ (nK N s = 2 ∧ o < s) → ∀ μ', KS kd x (N, (nt, tn, bn, dc), T, b, dp, dq) μ' → post (-2000000002) μ' := h1 s o hs ho e e2
  have k2 : nK N s = 2 → o < s → nA N s = 3 → ∀ μ', KS kd x (N, (nt, tn, bn, dc), T, b, dp, dq) μ' → post (-2000000003) μ' := h2 s o hs ho e e2
  have k3 : nK N s = 2 → o < s → nA N s < 3 → ∃ N2 t0, sameN (adN N s o) N2 ∧ NUp N2 nt t0 ∧ NFM N2 t0 ∧ (t0 ≠ nt → ∀ μ', KS kd x (N, (nt, tn, bn, dc), T, b, dp, dq) μ' → post (-2000000003) μ') ∧ (t0 = nt → ∀ μ', KS kd x (N2, (nt, tn, bn, dc), T, b, dp, dq) μ' → post (nI (nA N s + 1)) μ') := h3 s o hs ho e e2
  obtain ⟨om, pn, pf, an, af, t1, t2, t3, t4, t5, t6, t7, t8, t9, t10, t11, t12, t13⟩ := hK.tyr hs
  have hty := hK.1.get t1
  refine ⟨_, _, hty, rfl, fun hk => ?_, fun hk => ⟨fun hlt => ?_, fun hlt => ?_⟩⟩
  · rw [q_kd hkd (by omega) (by omega)] at hk
    exact Or.inr (Or.inl ⟨rfl, k1 (fun h => hk h.1) _ here⟩)
  · rw [q_kd hkd (by omega) (by omega)] at hk
    have hos : o < s := by rw [e, e2, q_lt (by omega) (by omega)] at hlt; exact hlt
    have e3 := t12 hk
    subst e3
    refine ⟨_, _, hty, rfl, ⟨_, hK.1.get t8⟩, t_isFull (hK.1.get t8) (hK.1.get t9) (by omega) (by omega) ?_⟩
    by_cases hA : nA N s < 3
    · rw [if_pos hA]
      refine ⟨fun _ => ?_, fun h => absurd rfl h⟩
      obtain ⟨fa, fc, om0, hto⟩ := hK.tyo ho
      obtain ⟨af2, a1, a2, C1, hK1⟩ := hK.adds (o := o) hs hk hA
      refine ⟨_, _, hty, rfl, ⟨_, a2⟩, t_append a2 a1 hto (by omega) hA ?_⟩
      have hN1 : NWf (adN N s o) nt := adN_wf hV.2.1 hos hA
      obtain ⟨N2, t0, hsame, hU, hF, ko, kg⟩ := k3 hk hos hA
      have hUN : NUp N nt nt := ⟨Nat.le_refl _, hV.2.2.1, hV.2.2.2.1, fun h => absurd h (Nat.lt_irrefl _)⟩
      refine ⟨_, _, hK1.cx, rfl, ⟨_, hK1.c1⟩, hK1.all hkd hN1 v1 hsame hU (fun et μ' C' hK2 => ⟨fun _ => ?_, fun h => absurd h (by decide)⟩) (fun et μ' C' M' hsM hK2 => ⟨fun h => absurd rfl h, fun _ => ?_⟩)⟩
      · obtain ⟨om', pn', pf', an', af', s1, s2, s3, s4, s5, s6, s7, s8, s9⟩ := hK2.tyr hs
        have eA : nA N2 s = nA N s + 1 := ((hsame.f s).2.2.1).trans adN_A
        rw [eA] at s8
        exact ⟨_, _, hK2.1.get s1, rfl, ⟨_, hK2.1.get s8⟩, t_size (hK2.1.get s8) (kg et _ ⟨out, hK2.ki⟩)⟩
      · obtain ⟨om', pn', pf', an', af', s1, s2, s3, s4, s5, s6, s7, s8, s9⟩ := hK2.tyr hs
        obtain ⟨d1, C3, hK3⟩ := hK2.dropA hsM hs
        exact ⟨_, _, hK2.1.get s1, rfl, ⟨_, d1⟩, t_dropLast d1 (by omega) ⟨_, _, hK3.cx, rfl, ⟨_, hK3.c1⟩, hK3.all hkd (mxN_same.wf hV.2.1) v1 mxN_same.symm hUN (fun _ μ4 C4 hK4 => Or.inr (Or.inr ⟨rfl, ko et _ ⟨out, hK4.ki⟩⟩)) (fun h => absurd rfl h)⟩⟩
    · rw [if_neg hA]
      exact ⟨fun h => absurd h (by decide), fun _ => Or.inr (Or.inr ⟨rfl, k2 hk hos (by have := hwf.2.2.1; omega) _ here⟩)⟩
  · rw [q_kd hkd (by omega) (by omega)] at hk
    refine Or.inr (Or.inl ⟨rfl, k1 (fun h => ?_) _ here⟩)
    rw [e, e2] at hlt
    exact hlt (nI_lt h.2 (by omega))
end SQ
