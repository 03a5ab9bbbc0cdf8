/-! THE CLASS'S OPERATIONS, one by one, over a state -/
abbrev SS := NT × (Nat × Nat × Nat × Nat) × (Nat → Int32) × (Nat → Nat) × (Nat → Nat) × (Nat → Nat)
abbrev sN (S : SS) : NT := S.1
abbrev snt (S : SS) : Nat := S.2.1.1
abbrev stn (S : SS) : Nat := S.2.1.2.1
abbrev sbn (S : SS) : Nat := S.2.1.2.2.1
abbrev sdc (S : SS) : Nat := S.2.1.2.2.2
abbrev sT (S : SS) : Nat → Int32 := S.2.2.1
abbrev sb (S : SS) : Nat → Nat := S.2.2.2.1
abbrev sdp (S : SS) : Nat → Nat := S.2.2.2.2.1
abbrev sdq (S : SS) : Nat → Nat := S.2.2.2.2.2
def KS (kd : Nat → Nat) (x : Nat) (S : SS) (μ : Mm) : Prop := ∃ out, KI kd x out (sN S) (snt S) (stn S) (sbn S) (sdc S) (sT S) (sb S) (sdp S) (sdq S) μ
def VS (S : SS) : Prop := VI (sN S) (snt S) (stn S) (sbn S) (sdc S) (sb S) (sdp S) (sdq S)
abbrev s_tale (S : SS) (tn' : Nat) (T' : Nat → Int32) : SS := (sN S, (snt S, tn', sbn S, sdc S), T', sb S, sdp S, sdq S)
abbrev s_msg (S : SS) (bn' : Nat) (b' : Nat → Nat) : SS := (sN S, (snt S, stn S, bn', sdc S), sT S, b', sdp S, sdq S)
abbrev s_dr (S : SS) (dc' : Nat) (dp' dq' : Nat → Nat) : SS := (sN S, (snt S, stn S, sbn S, dc'), sT S, sb S, dp', dq')
abbrev s_new (S : SS) (dc' : Nat) (N' : NT) : SS := (N', (snt S + 1, stn S, sbn S, dc'), sT S, sb S, sdp S, sdq S)
abbrev s_ext (S : SS) (N' : NT) : SS := (N', (snt S, stn S, sbn S, sdc S), sT S, sb S, sdp S, sdq S)
abbrev nwN (N1 : NT) (nt : Nat) : NT := setM N1 nt (meF N1 nt) (meM N1 nt) (meL N1 nt)
theorem VS.tale {S : SS} (h : VS S) {tn' : Nat} {T' : Nat → Int32} (ht : tn' ≤ 300) : VS (s_tale S tn' T') := by
  obtain ⟨v1, v2, v3, v4, v5, v6, v7⟩ := h
  exact ⟨v1, v2, v3, v4, v5, ht, v7⟩
theorem VS.msg {S : SS} (h : VS S) {bn' : Nat} {b' : Nat → Nat} (hb : bn' ≤ 240) (h1 : ∀ i, b' i ≤ 1) : VS (s_msg S bn' b') := by
  obtain ⟨v1, v2, v3, v4, v5, v6, v7, v8, v9⟩ := h
  exact ⟨v1, v2, v3, v4, v5, v6, hb, h1, v9⟩
theorem VS.dr {S : SS} (h : VS S) {dc' : Nat} {dp' dq' : Nat → Nat} (hd : dc' ≤ 6) (h1 : ∀ k, k < dc' → dp' k < snt S ∧ dq' k ≤ 1) : VS (s_dr S dc' dp' dq') := by
  obtain ⟨v1, v2, v3, v4, v5, v6, v7, v8, v9⟩ := h
  exact ⟨v1, v2, v3, v4, v5, v6, v7, v8, hd, h1⟩
theorem VS.new {S : SS} (h : VS S) {N1 : NT} {dc' : Nat} (hag : agN (sN S) N1 (snt S)) (hN1 : NWf N1 (snt S + 1)) (hM : meM N1 (snt S) ≤ 240) (hL : meL N1 (snt S) ≤ 240) (hnt : snt S < 16) (hd : dc' ≤ sdc S) : VS (s_new S dc' (nwN N1 (snt S))) := by
  have h : VI (sN S) (snt S) (stn S) (sbn S) (sdc S) (sb S) (sdp S) (sdq S) := h
  obtain ⟨v1, v2, v3, v4, v5, v6, v7, v8, v9, v10⟩ := id h
  exact VI.new (dc' := dc') (dp' := sdp S) (dq' := sdq S) h hag hN1 hM hL hnt (by omega) (fun k hk => ⟨by have := (v10 k (by omega)).1; omega, (v10 k (by omega)).2⟩)
section SP
variable {kd : Nat → Nat} {x : Nat} {S : SS} {μ : Mm}
theorem KS.cx (hK : KS kd x S μ) : ∃ f, μ x = some (.inl (5, f)) := by
  obtain ⟨out, ad, C, dm, hK⟩ := hK
  have hK : KC kd x out (sN S) (snt S) (stn S) (sbn S) (sdc S) (sT S) (sb S) (sdp S) (sdq S) μ ad C dm := hK
  exact ⟨_, hK.cx⟩
theorem y_types (hV : VS S) (hK : KS kd x S μ)  {post : Int32 → Mm → Prop}
    (h : post (nI (snt S)) μ) : (∃ f, μ x = some (.inl (5, f))) ∧ wp_X6_types x μ post := by
  obtain ⟨N, ⟨nt, tn, bn, dc⟩, T, b, dp, dq⟩ := S
  obtain ⟨out, ad, C, dm, hK⟩ := hK
  have hK : KC kd x out N nt tn bn dc T b dp dq μ ad C dm := hK
  have hV : VI N nt tn bn dc b dp dq := hV
  have v1 : nt ≤ 16 := hV.1
  have v6 : tn ≤ 300 := hV.2.2.2.2.2.1
  have v7 : bn ≤ 240 := hV.2.2.2.2.2.2.1
  have v8 : ∀ i, b i ≤ 1 := hV.2.2.2.2.2.2.2.1
  have v9 : dc ≤ 6 := hV.2.2.2.2.2.2.2.2.1
  have here : KS kd x (N, (nt, tn, bn, dc), T, b, dp, dq) μ := ⟨out, hK.ki⟩
  exact ⟨⟨_, hK.cx⟩, _, _, hK.cx, rfl, ⟨_, hK.c1⟩, t_size hK.c1 h⟩
theorem y_length (hV : VS S) (hK : KS kd x S μ)  {post : Int32 → Mm → Prop}
    (h : post (nI (stn S)) μ) : (∃ f, μ x = some (.inl (5, f))) ∧ wp_X6_length x μ post := by
  obtain ⟨N, ⟨nt, tn, bn, dc⟩, T, b, dp, dq⟩ := S
  obtain ⟨out, ad, C, dm, hK⟩ := hK
  have hK : KC kd x out N nt tn bn dc T b dp dq μ ad C dm := hK
  have hV : VI N nt tn bn dc b dp dq := hV
  have v1 : nt ≤ 16 := hV.1
  have v6 : tn ≤ 300 := hV.2.2.2.2.2.1
  have v7 : bn ≤ 240 := hV.2.2.2.2.2.2.1
  have v8 : ∀ i, b i ≤ 1 := hV.2.2.2.2.2.2.2.1
  have v9 : dc ≤ 6 := hV.2.2.2.2.2.2.2.2.1
  have here : KS kd x (N, (nt, tn, bn, dc), T, b, dp, dq) μ := ⟨out, hK.ki⟩
  exact ⟨⟨_, hK.cx⟩, _, _, hK.cx, rfl, ⟨_, hK.c3⟩, k_size hK.c3 h⟩
theorem y_bits (hV : VS S) (hK : KS kd x S μ)  {post : Int32 → Mm → Prop}
    (h : post (nI (sbn S)) μ) : (∃ f, μ x = some (.inl (5, f))) ∧ wp_X6_bits x μ post := by
  obtain ⟨N, ⟨nt, tn, bn, dc⟩, T, b, dp, dq⟩ := S
  obtain ⟨out, ad, C, dm, hK⟩ := hK
  have hK : KC kd x out N nt tn bn dc T b dp dq μ ad C dm := hK
  have hV : VI N nt tn bn dc b dp dq := hV
  have v1 : nt ≤ 16 := hV.1
  have v6 : tn ≤ 300 := hV.2.2.2.2.2.1
  have v7 : bn ≤ 240 := hV.2.2.2.2.2.2.1
  have v8 : ∀ i, b i ≤ 1 := hV.2.2.2.2.2.2.2.1
  have v9 : dc ≤ 6 := hV.2.2.2.2.2.2.2.2.1
  have here : KS kd x (N, (nt, tn, bn, dc), T, b, dp, dq) μ := ⟨out, hK.ki⟩
  exact ⟨⟨_, hK.cx⟩, _, _, hK.cx, rfl, ⟨_, hK.c5⟩, k_size hK.c5 h⟩
theorem y_forget (hV : VS S) (hK : KS kd x S μ)  {post : Int32 → Mm → Prop}
    (h : ∀ μ', KS kd x (s_tale S 0 (sT S)) μ' → post (nI (stn S)) μ') : (∃ f, μ x = some (.inl (5, f))) ∧ wp_X6_forget x μ post := by
  obtain ⟨N, ⟨nt, tn, bn, dc⟩, T, b, dp, dq⟩ := S
  obtain ⟨out, ad, C, dm, hK⟩ := hK
  have hK : KC kd x out N nt tn bn dc T b dp dq μ ad C dm := hK
  have hV : VI N nt tn bn dc b dp dq := hV
  have v1 : nt ≤ 16 := hV.1
  have v6 : tn ≤ 300 := hV.2.2.2.2.2.1
  have v7 : bn ≤ 240 := hV.2.2.2.2.2.2.1
  have v8 : ∀ i, b i ≤ 1 := hV.2.2.2.2.2.2.2.1
  have v9 : dc ≤ 6 := hV.2.2.2.2.2.2.2.2.1
  have here : KS kd x (N, (nt, tn, bn, dc), T, b, dp, dq) μ := ⟨out, hK.ki⟩
  obtain ⟨C', hK2⟩ := hK.talen 0
  exact ⟨⟨_, hK.cx⟩, _, _, hK.cx, rfl, ⟨_, hK.c3⟩, k_size hK.c3 ⟨_, _, hK.cx, rfl, ⟨_, hK.c3⟩, k_keepFirst (m := 0) hK.c3 (by omega) (by omega) (h _ ⟨out, hK2.ki⟩)⟩⟩
theorem y_tells (hV : VS S) (hK : KS kd x S μ) {p1 : Int32} {post : Int32 → Mm → Prop}
    (h0 : ¬ ((-1000 : Int32) ≤ p1 ∧ p1 ≤ 1000) → ∀ μ', KS kd x S μ' → post (-2000000002) μ')
    (h1 : ((-1000 : Int32) ≤ p1 ∧ p1 ≤ 1000) → stn S = 300 → ∀ μ', KS kd x S μ' → post (-2000000003) μ')
    (h2 : ((-1000 : Int32) ≤ p1 ∧ p1 ≤ 1000) → stn S < 300 → ∀ μ', KS kd x (s_tale S (stn S + 1) (upd (sT S) (stn S) p1)) μ' → post (nI (stn S + 1)) μ') : wp_L_tells x p1 μ post := by
  obtain ⟨N, ⟨nt, tn, bn, dc⟩, T, b, dp, dq⟩ := S
  obtain ⟨out, ad, C, dm, hK⟩ := hK
  have hK : KC kd x out N nt tn bn dc T b dp dq μ ad C dm := hK
  have hV : VI N nt tn bn dc b dp dq := hV
  have v1 : nt ≤ 16 := hV.1
  have v6 : tn ≤ 300 := hV.2.2.2.2.2.1
  have v7 : bn ≤ 240 := hV.2.2.2.2.2.2.1
  have v8 : ∀ i, b i ≤ 1 := hV.2.2.2.2.2.2.2.1
  have v9 : dc ≤ 6 := hV.2.2.2.2.2.2.2.2.1
  have here : KS kd x (N, (nt, tn, bn, dc), T, b, dp, dq) μ := ⟨out, hK.ki⟩
  refine ⟨⟨_, hK.cx⟩, c_out ?_⟩
  by_cases c : ((-1000 : Int32) ≤ p1 ∧ p1 ≤ 1000)
  · rw [if_pos c]
    refine ⟨fun _ => ⟨_, _, hK.cx, rfl, ⟨_, hK.c3⟩, k_isFull hK.c3 hK.c4 (by omega) (by omega) ?_⟩, fun h => absurd rfl h⟩
    by_cases htn : tn < 300
    · rw [if_pos htn]
      refine ⟨fun _ => ⟨_, _, hK.cx, rfl, ⟨_, hK.c3⟩, k_append hK.c3 hK.c4 (by omega) htn ?_⟩, fun h => absurd rfl h⟩
      obtain ⟨C', hK2⟩ := hK.tale (tn + 1) (upd T tn p1)
      exact ⟨_, _, hK2.cx, rfl, ⟨_, hK2.c3⟩, k_size hK2.c3 (h2 c htn _ ⟨out, hK2.ki⟩)⟩
    · rw [if_neg htn]
      exact ⟨fun h => absurd h (by decide), fun _ => Or.inr ⟨rfl, h1 c (show tn = 300 by omega) _ here⟩⟩
  · rw [if_neg c]
    exact ⟨fun h => absurd h (by decide), fun _ => Or.inl ⟨rfl, h0 c _ here⟩⟩
theorem y_least (hV : VS S) (hK : KS kd x S μ) {p1 : Int32} {post : Int32 → Mm → Prop}
    (h0 : (¬ ∃ t, t < snt S ∧ p1 = nI t) → ∀ μ', KS kd x S μ' → post (-2000000001) μ')
    (h1 : ∀ t, t < snt S → p1 = nI t → ∀ μ', KS kd x S μ' → post (nI (nF (sN S) t)) μ') : wp_L_least x p1 μ post := by
  obtain ⟨N, ⟨nt, tn, bn, dc⟩, T, b, dp, dq⟩ := S
  obtain ⟨out, ad, C, dm, hK⟩ := hK
  have hK : KC kd x out N nt tn bn dc T b dp dq μ ad C dm := hK
  have hV : VI N nt tn bn dc b dp dq := hV
  have v1 : nt ≤ 16 := hV.1
  have v6 : tn ≤ 300 := hV.2.2.2.2.2.1
  have v7 : bn ≤ 240 := hV.2.2.2.2.2.2.1
  have v8 : ∀ i, b i ≤ 1 := hV.2.2.2.2.2.2.2.1
  have v9 : dc ≤ 6 := hV.2.2.2.2.2.2.2.2.1
  have here : KS kd x (N, (nt, tn, bn, dc), T, b, dp, dq) μ := ⟨out, hK.ki⟩
  refine ⟨⟨_, hK.cx⟩, ⟨_, hK.cx⟩, hK.num v1 (fun t ht e => ?_) (fun hn => ⟨rfl, h0 hn _ here⟩)⟩
  obtain ⟨a, c, om, ho⟩ := hK.tyo ht
  exact ⟨_, _, ho, rfl, h1 t ht e _ here⟩
theorem y_most (hV : VS S) (hK : KS kd x S μ) {p1 : Int32} {post : Int32 → Mm → Prop}
    (h0 : (¬ ∃ t, t < snt S ∧ p1 = nI t) → ∀ μ', KS kd x S μ' → post (-2000000001) μ')
    (h1 : ∀ t, t < snt S → p1 = nI t → ∀ μ', KS kd x S μ' → post (nI (nM (sN S) t)) μ') : wp_L_most x p1 μ post := by
  obtain ⟨N, ⟨nt, tn, bn, dc⟩, T, b, dp, dq⟩ := S
  obtain ⟨out, ad, C, dm, hK⟩ := hK
  have hK : KC kd x out N nt tn bn dc T b dp dq μ ad C dm := hK
  have hV : VI N nt tn bn dc b dp dq := hV
  have v1 : nt ≤ 16 := hV.1
  have v6 : tn ≤ 300 := hV.2.2.2.2.2.1
  have v7 : bn ≤ 240 := hV.2.2.2.2.2.2.1
  have v8 : ∀ i, b i ≤ 1 := hV.2.2.2.2.2.2.2.1
  have v9 : dc ≤ 6 := hV.2.2.2.2.2.2.2.2.1
  have here : KS kd x (N, (nt, tn, bn, dc), T, b, dp, dq) μ := ⟨out, hK.ki⟩
  refine ⟨⟨_, hK.cx⟩, ⟨_, hK.cx⟩, hK.num v1 (fun t ht e => ?_) (fun hn => ⟨rfl, h0 hn _ here⟩)⟩
  obtain ⟨a, c, om, ho⟩ := hK.tyo ht
  exact ⟨_, _, ho, rfl, h1 t ht e _ here⟩
theorem y_told (hV : VS S) (hK : KS kd x S μ) {p1 : Int32} {post : Int32 → Mm → Prop}
    (h0 : (¬ ∃ j, j < stn S ∧ p1 = nI j) → ∀ μ', KS kd x S μ' → post (-2000000001) μ')
    (h1 : ∀ j, j < stn S → p1 = nI j → ∀ μ', KS kd x S μ' → post (sT S j) μ') : wp_L_told x p1 μ post := by
  obtain ⟨N, ⟨nt, tn, bn, dc⟩, T, b, dp, dq⟩ := S
  obtain ⟨out, ad, C, dm, hK⟩ := hK
  have hK : KC kd x out N nt tn bn dc T b dp dq μ ad C dm := hK
  have hV : VI N nt tn bn dc b dp dq := hV
  have v1 : nt ≤ 16 := hV.1
  have v6 : tn ≤ 300 := hV.2.2.2.2.2.1
  have v7 : bn ≤ 240 := hV.2.2.2.2.2.2.1
  have v8 : ∀ i, b i ≤ 1 := hV.2.2.2.2.2.2.2.1
  have v9 : dc ≤ 6 := hV.2.2.2.2.2.2.2.2.1
  have here : KS kd x (N, (nt, tn, bn, dc), T, b, dp, dq) μ := ⟨out, hK.ki⟩
  refine ⟨⟨_, hK.cx⟩, _, _, hK.cx, rfl, ⟨_, hK.c3⟩, k_has hK.c3 hK.c4 v6 (by omega) (fun r hr0 hr1 => ⟨fun h => ?_, fun h => ⟨rfl, h0 (hr0 h) _ here⟩⟩)⟩
  obtain ⟨j, hj, e⟩ := hr1 h
  have hp := h1 j hj e _ here
  subst e
  exact ⟨_, _, hK.cx, rfl, ⟨_, hK.c3⟩, k_at hK.c3 hK.c4 v6 (by omega) hj hp⟩
theorem y_bit (hV : VS S) (hK : KS kd x S μ) {p1 : Int32} {post : Int32 → Mm → Prop}
    (h0 : (¬ ∃ j, j < sbn S ∧ p1 = nI j) → ∀ μ', KS kd x S μ' → post (-2000000001) μ')
    (h1 : ∀ j, j < sbn S → p1 = nI j → ∀ μ', KS kd x S μ' → post (nI (sb S j)) μ') : wp_L_bit x p1 μ post := by
  obtain ⟨N, ⟨nt, tn, bn, dc⟩, T, b, dp, dq⟩ := S
  obtain ⟨out, ad, C, dm, hK⟩ := hK
  have hK : KC kd x out N nt tn bn dc T b dp dq μ ad C dm := hK
  have hV : VI N nt tn bn dc b dp dq := hV
  have v1 : nt ≤ 16 := hV.1
  have v6 : tn ≤ 300 := hV.2.2.2.2.2.1
  have v7 : bn ≤ 240 := hV.2.2.2.2.2.2.1
  have v8 : ∀ i, b i ≤ 1 := hV.2.2.2.2.2.2.2.1
  have v9 : dc ≤ 6 := hV.2.2.2.2.2.2.2.2.1
  have here : KS kd x (N, (nt, tn, bn, dc), T, b, dp, dq) μ := ⟨out, hK.ki⟩
  obtain ⟨f, h6, hf⟩ := hK.c6
  refine ⟨⟨_, hK.cx⟩, _, _, hK.cx, rfl, ⟨_, hK.c5⟩, k_has hK.c5 h6 v7 (by omega) (fun r hr0 hr1 => ⟨fun h => ?_, fun h => ⟨rfl, h0 (hr0 h) _ here⟩⟩)⟩
  obtain ⟨j, hj, e⟩ := hr1 h
  have hp := h1 j hj e _ here
  subst e
  refine ⟨_, _, hK.cx, rfl, ⟨_, hK.c5⟩, k_at hK.c5 h6 v7 (by omega) hj ?_⟩
  rw [hf j hj]; exact hp
theorem y_flips (hV : VS S) (hK : KS kd x S μ) {p1 : Int32} {post : Int32 → Mm → Prop}
    (h0 : (¬ ∃ j, j < sbn S ∧ p1 = nI j) → ∀ μ', KS kd x S μ' → post (-2000000001) μ')
    (h1 : ∀ j, j < sbn S → p1 = nI j → ∀ μ', KS kd x (s_msg S (sbn S) (fun i => if i = j then 1 - sb S j else sb S i)) μ' → post (nI (1 - sb S j)) μ') : wp_L_flips x p1 μ post := by
  obtain ⟨N, ⟨nt, tn, bn, dc⟩, T, b, dp, dq⟩ := S
  obtain ⟨out, ad, C, dm, hK⟩ := hK
  have hK : KC kd x out N nt tn bn dc T b dp dq μ ad C dm := hK
  have hV : VI N nt tn bn dc b dp dq := hV
  have v1 : nt ≤ 16 := hV.1
  have v6 : tn ≤ 300 := hV.2.2.2.2.2.1
  have v7 : bn ≤ 240 := hV.2.2.2.2.2.2.1
  have v8 : ∀ i, b i ≤ 1 := hV.2.2.2.2.2.2.2.1
  have v9 : dc ≤ 6 := hV.2.2.2.2.2.2.2.2.1
  have here : KS kd x (N, (nt, tn, bn, dc), T, b, dp, dq) μ := ⟨out, hK.ki⟩
  obtain ⟨f, h6, hf⟩ := hK.c6
  refine ⟨⟨_, hK.cx⟩, _, _, hK.cx, rfl, ⟨_, hK.c5⟩, k_has hK.c5 h6 v7 (by omega) (fun r hr0 hr1 => ⟨fun h => ?_, fun h => ⟨rfl, h0 (hr0 h) _ here⟩⟩)⟩
  obtain ⟨j, hj, e⟩ := hr1 h
  have hp := h1 j hj e
  subst e
  refine ⟨_, _, hK.cx, rfl, _, _, hK.cx, rfl, ⟨_, hK.c5⟩, k_at hK.c5 h6 v7 (by omega) hj ⟨⟨_, hK.c5⟩, k_replace hK.c5 h6 v7 (by omega) hj ?_⟩⟩
  have hbj := v8 j
  have e1 : (1 : Int32) - f j = nI (1 - b j) := by rw [hf j hj, q_l1, q_sub hbj]
  rw [e1]
  have hb' : ∀ i, i < bn → upd f j (nI (1 - b j)) i = nI ((fun i => if i = j then 1 - b j else b i) i) := by
    intro i hi
    by_cases e : i = j
    · subst e; rw [q_us]; simp
    · rw [pk_un e, hf i hi]; simp [e]
  obtain ⟨C', hK2⟩ := hK.msgf hb'
  obtain ⟨f2, h62, hf2⟩ := hK2.c6
  refine ⟨_, _, hK2.cx, rfl, ⟨_, hK2.c5⟩, k_at hK2.c5 h62 v7 (by omega) hj ?_⟩
  rw [hf2 j hj]
  have fin := hp _ ⟨out, hK2.ki⟩
  simp only [if_true]
  exact fin
theorem y_cuts (hV : VS S) (hK : KS kd x S μ) {p1 : Int32} {post : Int32 → Mm → Prop}
    (h0 : ¬ ((0 : Int32) ≤ p1 ∧ p1 ≤ nI (sbn S)) → ∀ μ', KS kd x S μ' → post (-2000000002) μ')
    (h1 : ∀ j, j ≤ sbn S → p1 = nI j → ∀ μ', KS kd x (s_msg S j (sb S)) μ' → post (nI (sbn S - j)) μ') : wp_L_cuts x p1 μ post := by
  obtain ⟨N, ⟨nt, tn, bn, dc⟩, T, b, dp, dq⟩ := S
  obtain ⟨out, ad, C, dm, hK⟩ := hK
  have hK : KC kd x out N nt tn bn dc T b dp dq μ ad C dm := hK
  have hV : VI N nt tn bn dc b dp dq := hV
  have v1 : nt ≤ 16 := hV.1
  have v6 : tn ≤ 300 := hV.2.2.2.2.2.1
  have v7 : bn ≤ 240 := hV.2.2.2.2.2.2.1
  have v8 : ∀ i, b i ≤ 1 := hV.2.2.2.2.2.2.2.1
  have v9 : dc ≤ 6 := hV.2.2.2.2.2.2.2.2.1
  have here : KS kd x (N, (nt, tn, bn, dc), T, b, dp, dq) μ := ⟨out, hK.ki⟩
  refine ⟨⟨_, hK.cx⟩, _, _, hK.cx, rfl, ⟨_, hK.c5⟩, k_size hK.c5 (c_out ?_)⟩
  by_cases c : (0 : Int32) ≤ p1 ∧ p1 ≤ nI bn
  · rw [if_pos c]
    obtain ⟨j, _, hj, e⟩ := q_num (a := 0) (b := bn) c.1 c.2 (by omega) (by omega)
    have hp := h1 j hj e
    subst e
    refine ⟨fun _ => ⟨_, _, hK.cx, rfl, ⟨_, hK.c5⟩, k_keepFirst hK.c5 (by omega) hj ?_⟩, fun h => absurd rfl h⟩
    obtain ⟨C', hK2⟩ := hK.msgn hj
    rw [q_sub hj]
    exact hp _ ⟨out, hK2.ki⟩
  · rw [if_neg c]
    exact ⟨fun h => absurd h (by decide), fun _ => ⟨rfl, h0 c _ here⟩⟩
/-- where the tale is wrong, -1 if it isn't -/
def wvN (N : NT) (T : Nat → Int32) (tn t : Nat) : Int32 := match vT N T tn 17 t 0 with
  | .inl q => nI q
  | .inr (p', _) => if tn ≤ p' then -1 else nI p'
/-- where the bits have a fault, -1 if they have none -/
def fvN (N : NT) (b : Nat → Nat) (bn kn t : Nat) : Int32 := match rV N b bn kn 17 t 0 with
  | .inl q => nI q
  | .inr (p', _) => if bn ≤ p' then -1 else nI p'
theorem wvN_l {N : NT} {T : Nat → Int32} {tn t q : Nat} (h : vT N T tn 17 t 0 = .inl q) : wvN N T tn t = nI q := by unfold wvN; rw [h]
theorem wvN_r {N : NT} {T : Nat → Int32} {tn t p' : Nat} {l : List Int32} (h : vT N T tn 17 t 0 = .inr (p', l)) : wvN N T tn t = if tn ≤ p' then -1 else nI p' := by unfold wvN; rw [h]
theorem fvN_l {N : NT} {b : Nat → Nat} {bn kn t q : Nat} (h : rV N b bn kn 17 t 0 = .inl q) : fvN N b bn kn t = nI q := by unfold fvN; rw [h]
theorem fvN_r {N : NT} {b : Nat → Nat} {bn kn t p' : Nat} {l : List Int32} (h : rV N b bn kn 17 t 0 = .inr (p', l)) : fvN N b bn kn t = if bn ≤ p' then -1 else nI p' := by unfold fvN; rw [h]
theorem y_wrong (hkd : ∀ i j, i < 4 → j < 4 → kd i = kd j → i = j) (hV : VS S) (hK : KS kd x S μ) {p1 : Int32} {post : Int32 → Mm → Prop}
    (h0 : (¬ ∃ t, t < snt S ∧ p1 = nI t) → ∀ μ', KS kd x S μ' → post (-2000000001) μ')
    (h1 : ∀ t, t < snt S → p1 = nI t → ∀ μ', KS kd x S μ' → post (wvN (sN S) (sT S) (stn S) t) μ') : wp_L_wrong kd x p1 μ post := by
  obtain ⟨N, ⟨nt, tn, bn, dc⟩, T, b, dp, dq⟩ := S
  obtain ⟨out, ad, C, dm, hK⟩ := hK
  have hK : KC kd x out N nt tn bn dc T b dp dq μ ad C dm := hK
  have hV : VI N nt tn bn dc b dp dq := hV
  have v1 : nt ≤ 16 := hV.1
  have v6 : tn ≤ 300 := hV.2.2.2.2.2.1
  have v7 : bn ≤ 240 := hV.2.2.2.2.2.2.1
  have v8 : ∀ i, b i ≤ 1 := hV.2.2.2.2.2.2.2.1
  have v9 : dc ≤ 6 := hV.2.2.2.2.2.2.2.2.1
  have here : KS kd x (N, (nt, tn, bn, dc), T, b, dp, dq) μ := ⟨out, hK.ki⟩
  refine ⟨⟨_, hK.cx⟩, _, _, hK.cx, rfl, ⟨_, hK.cx⟩, hK.num v1 (fun t ht e => ?_) (fun hn => ⟨rfl, h0 hn _ here⟩)⟩
  have h1 : ∀ μ', KS kd x (N, (nt, tn, bn, dc), T, b, dp, dq) μ' → post (wvN N T tn t) μ' := h1 t ht e
  refine ⟨_, _, hK.cx, rfl, hK.walkW hkd hV ht (fun p' bs hv hp' hl μ' C' f' v hK' g7 g8 g9 gf => ?_) (fun q hv hq μ' C' hK' => ?_)⟩
  · rw [← wvN_r hv]; exact h1 _ ⟨out, hK'.ki⟩
  · rw [← wvN_l hv]; exact h1 _ ⟨out, hK'.ki⟩
theorem y_writes (hkd : ∀ i j, i < 4 → j < 4 → kd i = kd j → i = j) (hV : VS S) (hK : KS kd x S μ) {p1 : Int32} {post : Int32 → Mm → Prop}
    (h0 : (¬ ∃ t, t < snt S ∧ p1 = nI t) → ∀ μ', KS kd x S μ' → post (-2000000001) μ')
    (h1 : ∀ t, t < snt S → p1 = nI t → wvN (sN S) (sT S) (stn S) t ≠ -1 → ∀ μ', KS kd x S μ' → post (-2000000003) μ')
    (h2 : ∀ t, t < snt S → p1 = nI t → ∀ p' bs, vT (sN S) (sT S) (stn S) 17 t 0 = .inr (p', bs) → stn S ≤ p' → bs.length ≤ 240 → ∀ μ', KS kd x (s_msg S bs.length (btL bs)) μ' → post (nI bs.length) μ') : wp_L_writes kd x p1 μ post := by
  obtain ⟨N, ⟨nt, tn, bn, dc⟩, T, b, dp, dq⟩ := S
  obtain ⟨out, ad, C, dm, hK⟩ := hK
  have hK : KC kd x out N nt tn bn dc T b dp dq μ ad C dm := hK
  have hV : VI N nt tn bn dc b dp dq := hV
  have v1 : nt ≤ 16 := hV.1
  have v6 : tn ≤ 300 := hV.2.2.2.2.2.1
  have v7 : bn ≤ 240 := hV.2.2.2.2.2.2.1
  have v8 : ∀ i, b i ≤ 1 := hV.2.2.2.2.2.2.2.1
  have v9 : dc ≤ 6 := hV.2.2.2.2.2.2.2.2.1
  have here : KS kd x (N, (nt, tn, bn, dc), T, b, dp, dq) μ := ⟨out, hK.ki⟩
  refine ⟨⟨_, hK.cx⟩, _, _, hK.cx, rfl, ⟨_, hK.cx⟩, hK.num v1 (fun t ht e => ?_) (fun hn => Or.inl ⟨rfl, h0 hn _ here⟩)⟩
  have h1 : wvN N T tn t ≠ -1 → ∀ μ', KS kd x (N, (nt, tn, bn, dc), T, b, dp, dq) μ' → post (-2000000003) μ' := h1 t ht e
  have h2 : ∀ p' bs, vT N T tn 17 t 0 = .inr (p', bs) → tn ≤ p' → bs.length ≤ 240 → ∀ μ', KS kd x (N, (nt, tn, bs.length, dc), T, btL bs, dp, dq) μ' → post (nI bs.length) μ' := h2 t ht e
  refine ⟨_, _, hK.cx, rfl, hK.walkW hkd hV ht (fun p' bs hv hp' hl μ' C' f' v hK' g7 g8 g9 gf => ⟨fun h => ?_, fun h => Or.inr ⟨rfl, ?_⟩⟩) (fun q hv hq μ' C' hK' => ⟨fun h => absurd h (q_nw hq), fun _ => Or.inr ⟨rfl, ?_⟩⟩)⟩
  · have hle : tn ≤ p' := by
      by_cases c : tn ≤ p'
      · exact c
      · rw [if_neg c] at h; exact absurd h (q_nw hp')
    obtain ⟨f6, h6, _⟩ := hK'.c6
    have hb01 := btL_01 (vT_01 17 t 0 p' bs hv)
    refine ⟨_, _, hK'.cx, rfl, _, _, hK'.cx, rfl, _, _, g7, rfl, ⟨_, hK'.c5⟩, k_copy hK'.c5 h6 g8 g9 (by omega) (by omega) hl hl (by omega) hK'.nes.1 hK'.nes.2.1 ?_⟩
    obtain ⟨C2, hK2⟩ := hK'.msg (bn' := bs.length) (b' := btL bs) (f := cpF f6 f' bs.length) (fun i hi => by rw [cpF, if_pos hi, gf i hi, (hb01 i).1])
    exact ⟨_, _, hK2.cx, rfl, ⟨_, hK2.c5⟩, k_size hK2.c5 (h2 p' bs hv hle hl _ ⟨out, hK2.ki⟩)⟩
  · refine h1 ?_ _ ⟨out, hK'.ki⟩
    rw [wvN_r hv]; exact h
  · refine h1 ?_ _ ⟨out, hK'.ki⟩
    rw [wvN_l hv]; exact q_nw hq
theorem y_fault (hkd : ∀ i j, i < 4 → j < 4 → kd i = kd j → i = j) (hV : VS S) (hK : KS kd x S μ) {p1 p2 : Int32} {post : Int32 → Mm → Prop}
    (h0 : (¬ ∃ t, t < snt S ∧ p1 = nI t) → ∀ μ', KS kd x S μ' → post (-2000000001) μ')
    (h1 : (∃ t, t < snt S ∧ p1 = nI t) → ¬ ((0 : Int32) ≤ p2 ∧ p2 ≤ 3) → ∀ μ', KS kd x S μ' → post (-2000000002) μ')
    (h2 : ∀ t kn, t < snt S → p1 = nI t → kn ≤ 3 → p2 = nI kn → ∀ μ', KS kd x S μ' → post (fvN (sN S) (sb S) (sbn S) kn t) μ') : wp_L_fault kd x p1 p2 μ post := by
  obtain ⟨N, ⟨nt, tn, bn, dc⟩, T, b, dp, dq⟩ := S
  obtain ⟨out, ad, C, dm, hK⟩ := hK
  have hK : KC kd x out N nt tn bn dc T b dp dq μ ad C dm := hK
  have hV : VI N nt tn bn dc b dp dq := hV
  have v1 : nt ≤ 16 := hV.1
  have v6 : tn ≤ 300 := hV.2.2.2.2.2.1
  have v7 : bn ≤ 240 := hV.2.2.2.2.2.2.1
  have v8 : ∀ i, b i ≤ 1 := hV.2.2.2.2.2.2.2.1
  have v9 : dc ≤ 6 := hV.2.2.2.2.2.2.2.2.1
  have here : KS kd x (N, (nt, tn, bn, dc), T, b, dp, dq) μ := ⟨out, hK.ki⟩
  refine ⟨⟨_, hK.cx⟩, ⟨_, hK.cx⟩, ⟨_, hK.cx⟩, hK.num v1 (fun t ht e => c_out ?_) (fun hn => Or.inl ⟨rfl, h0 hn _ here⟩)⟩
  by_cases c : ((0 : Int32) ≤ p2 ∧ p2 ≤ 3)
  · rw [if_pos c]
    obtain ⟨kn, _, hkn, e2⟩ := q_num (a := 0) (b := 3) c.1 c.2 (by omega) (by omega)
    have k2 : ∀ μ', KS kd x (N, (nt, tn, bn, dc), T, b, dp, dq) μ' → post (fvN N b bn kn t) μ' := h2 t kn ht e hkn e2
    subst e2
    refine ⟨fun _ => ⟨_, _, hK.cx, rfl, _, _, hK.cx, rfl, hK.walkR hkd hV ht hkn (fun p' l hv hp' hl μ' C' f' v hK' g7 g8 g9 gf => ?_) (fun q hv hq μ' C' hK' => ?_)⟩, fun h => absurd rfl h⟩
    · rw [← fvN_r hv]; exact k2 _ ⟨out, hK'.ki⟩
    · rw [← fvN_l hv]; exact k2 _ ⟨out, hK'.ki⟩
  · rw [if_neg c]
    exact ⟨fun h => absurd h (by decide), fun _ => Or.inr ⟨rfl, h1 ⟨t, ht, e⟩ c _ here⟩⟩
theorem y_reads (hkd : ∀ i j, i < 4 → j < 4 → kd i = kd j → i = j) (hV : VS S) (hK : KS kd x S μ) {p1 p2 : Int32} {post : Int32 → Mm → Prop}
    (h0 : (¬ ∃ t, t < snt S ∧ p1 = nI t) → ∀ μ', KS kd x S μ' → post (-2000000001) μ')
    (h1 : (∃ t, t < snt S ∧ p1 = nI t) → ¬ ((0 : Int32) ≤ p2 ∧ p2 ≤ 3) → ∀ μ', KS kd x S μ' → post (-2000000002) μ')
    (h2 : ∀ t kn, t < snt S → p1 = nI t → kn ≤ 3 → p2 = nI kn → fvN (sN S) (sb S) (sbn S) kn t ≠ -1 → ∀ μ', KS kd x S μ' → post (-2000000003) μ')
    (h3 : ∀ t kn, t < snt S → p1 = nI t → kn ≤ 3 → p2 = nI kn → ∀ p' l, rV (sN S) (sb S) (sbn S) kn 17 t 0 = .inr (p', l) → sbn S ≤ p' → l.length ≤ 240 → ∀ μ', KS kd x (s_tale S l.length (cpF (sT S) (fun i => l.getD i 0) l.length)) μ' → post (nI l.length) μ') : wp_L_reads kd x p1 p2 μ post := by
  obtain ⟨N, ⟨nt, tn, bn, dc⟩, T, b, dp, dq⟩ := S
  obtain ⟨out, ad, C, dm, hK⟩ := hK
  have hK : KC kd x out N nt tn bn dc T b dp dq μ ad C dm := hK
  have hV : VI N nt tn bn dc b dp dq := hV
  have v1 : nt ≤ 16 := hV.1
  have v6 : tn ≤ 300 := hV.2.2.2.2.2.1
  have v7 : bn ≤ 240 := hV.2.2.2.2.2.2.1
  have v8 : ∀ i, b i ≤ 1 := hV.2.2.2.2.2.2.2.1
  have v9 : dc ≤ 6 := hV.2.2.2.2.2.2.2.2.1
  have here : KS kd x (N, (nt, tn, bn, dc), T, b, dp, dq) μ := ⟨out, hK.ki⟩
  refine ⟨⟨_, hK.cx⟩, ⟨_, hK.cx⟩, ⟨_, hK.cx⟩, hK.num v1 (fun t ht e => c_out ?_) (fun hn => Or.inl ⟨rfl, h0 hn _ here⟩)⟩
  by_cases c : ((0 : Int32) ≤ p2 ∧ p2 ≤ 3)
  · rw [if_pos c]
    obtain ⟨kn, _, hkn, e2⟩ := q_num (a := 0) (b := 3) c.1 c.2 (by omega) (by omega)
    have k2 : fvN N b bn kn t ≠ -1 → ∀ μ', KS kd x (N, (nt, tn, bn, dc), T, b, dp, dq) μ' → post (-2000000003) μ' := h2 t kn ht e hkn e2
    have k3 : ∀ p' l, rV N b bn kn 17 t 0 = .inr (p', l) → bn ≤ p' → l.length ≤ 240 → ∀ μ', KS kd x (N, (nt, l.length, bn, dc), cpF T (fun i => l.getD i 0) l.length, b, dp, dq) μ' → post (nI l.length) μ' := h3 t kn ht e hkn e2
    subst e2
    refine ⟨fun _ => ⟨_, _, hK.cx, rfl, _, _, hK.cx, rfl, hK.walkR hkd hV ht hkn (fun p' l hv hp' hl μ' C' f' v hK' g7 g8 g9 gf => ⟨fun h => ?_, fun h => Or.inr (Or.inr ⟨rfl, ?_⟩)⟩) (fun q hv hq μ' C' hK' => ⟨fun h => absurd h (q_nw (by omega)), fun _ => Or.inr (Or.inr ⟨rfl, ?_⟩)⟩)⟩, fun h => absurd rfl h⟩
    · have hle : bn ≤ p' := by
        by_cases c : bn ≤ p'
        · exact c
        · rw [if_neg c] at h; exact absurd h (q_nw (by omega))
      refine ⟨_, _, hK'.cx, rfl, _, _, hK'.cx, rfl, _, _, g7, rfl, ⟨_, hK'.c3⟩, k_copy hK'.c3 hK'.c4 g8 g9 (by omega) (by omega) hl (by omega) (by omega) hK'.nes.2.2.1 hK'.nes.2.2.2 ?_⟩
      obtain ⟨C2, hK2⟩ := hK'.tale l.length (cpF T f' l.length)
      refine ⟨_, _, hK2.cx, rfl, ⟨_, hK2.c3⟩, k_size hK2.c3 ?_⟩
      refine k3 p' l hv hle hl _ ⟨out, ?_⟩
      have eT : cpF T f' l.length = cpF T (fun i => l.getD i 0) l.length := cpF_cong (fun i hi => gf i hi)
      rw [← eT]
      exact hK2.ki
    · refine k2 ?_ _ ⟨out, hK'.ki⟩
      rw [fvN_r hv]; exact h
    · refine k2 ?_ _ ⟨out, hK'.ki⟩
      rw [fvN_l hv]; exact q_nw (by omega)
  · rw [if_neg c]
    exact ⟨fun h => absurd h (by decide), fun _ => Or.inr (Or.inl ⟨rfl, h1 ⟨t, ht, e⟩ c _ here⟩)⟩
end SP
