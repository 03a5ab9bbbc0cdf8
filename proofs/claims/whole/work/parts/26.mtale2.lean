/-! THE REFERENCE over a tale: the head of a sequence -/
theorem uA_id {α : Nat → Nat → Int32} {k i : Nat} {x : Int32} (h : α k i = x) : uA α k i x = α := by
  funext a j
  by_cases h1 : a = k
  · subst h1
    by_cases h2 : j = i
    · subst h2; rw [uA_s, h]
    · rw [uA_j h2]
  · rw [uA_a h1]
theorem NMo.uA {N : NT} {nt : Nat} {α : Nat → Nat → Int32} (h : NMo N nt α) {k i : Nat} {x : Int32} (hk : 9 ≤ k) : NMo N nt (uA α k i x) := h.cong (fun a ha => uA_a (by omega))
theorem NMo.upA {N : NT} {nt : Nat} {α : Nat → Nat → Int32} (h : NMo N nt α) {k : Nat} {f : Nat → Int32} (hk : 9 ≤ k) : NMo N nt (upA α k f) := h.cong (fun a ha => upA_n (by omega))
theorem q_shl0 : ∀ k, k < 32 → (nI 0 : Int32) <<< (nI k &&& 31) = nI 0 := by decide
theorem q_or0 (x : Int32) : x ||| nI 0 = x := by
  apply Int32.toBitVec_inj.mp; simp [nI]
section MH
variable {N : NT} {nt : Nat} {iw : Int32} {t δ tn : Nat} {T : Nat → Int32}
theorem m_fs1 {σ : Nat → Int32} {α : Nat → Nat → Int32} {post : Int32 → (Nat → Int32) → (Nat → Nat → Int32) → Prop} {j k p : Nat} {m : Int32} (hN : NWf N nt) (hM : NMo N nt α) (ht : t < nt) (hnt : nt ≤ 16) (hδ : δ < 20) (hk : k < nC N t) (h14 : σ 14 = nI tn) (htn : tn ≤ 300) (hT : α 15 = T) (h28 : σ 28 = nI p) (h23 : α 23 δ = m) (ho : nO N t k = 1) (hx : nxt T tn p 0 1)
    (hp : wb_X7_headOfTale_10 post (j + 1) (nI t) (nI δ) iw (nI (k + 1)) (upd σ 28 (nI (p + 1))) (uA α 23 δ (m ||| (T p <<< (nI k &&& 31))))) : wb_X7_headOfTale_10 post (j + 1 + 1) (nI t) (nI δ) iw (nI k) σ α := by
  have hwf := hN t ht
  obtain ⟨e2, e3, e4, e6, _⟩ := hM t ht
  have hi : vp_in (nI t) 16 := vp_in_nI (by omega) (by omega)
  have hi2 : vp_in (nI δ) 20 := vp_in_nI (by omega) (by omega)
  refine ⟨hi, fun h => ?_, fun _ => m_isOpt hN hM ht hnt hk (fun _ => ⟨fun h => absurd h (by decide), fun _ => m_wrong0 h14 h28 htn (by rw [hT]; exact hx) ⟨fun _ => ⟨hi2, fun h => absurd h (by decide), fun _ => ?_⟩, fun h => absurd rfl h⟩⟩) (fun h => by omega)⟩
  · rw [nI_clamp (by omega), e6, q_le (by omega) (by omega)] at h; omega
  · have hx1 := hx.1
    obtain ⟨x, _, hx2, ex⟩ := q_num (x := T p) (a := 0) (b := 1) hx.2.1 hx.2.2 (by omega) (by omega)
    rw [h28, nI_clamp (n := p) (by omega), nI_clamp (n := δ) (by omega), hT, h23, ex]
    rw [ex] at hp
    refine ⟨vp_in_nI (by omega) (by omega), fun h1 => ?_, fun h1 => ?_⟩
    · rw [q_l1, q_eq (by omega) (by omega)] at h1
      have : x = 0 := by omega
      subst this
      rw [q_shl0 k (by omega), q_or0] at hp
      refine ⟨hi2, fun α52 e => ⟨fun h => absurd h (by decide), fun _ σ60 e2 => ?_⟩⟩
      subst e e2
      rw [nI_clamp (n := δ) (by omega), h28, q_l1, nI_add, nI_add]
      rw [show (0 : Int32) = nI 0 from rfl, q_or0]
      exact hp
    · rw [q_l1, q_eq (by omega) (by omega)] at h1
      subst h1
      refine ⟨hi2, fun α52 e => ⟨fun h => absurd h (by decide), fun _ σ60 e2 => ?_⟩⟩
      subst e e2
      rw [nI_clamp (n := δ) (by omega), h28, q_l1, nI_add, nI_add]
      exact hp
theorem m_fs0 {σ : Nat → Int32} {α : Nat → Nat → Int32} {post : Int32 → (Nat → Int32) → (Nat → Nat → Int32) → Prop} {j k p : Nat} {m : Int32} (hN : NWf N nt) (hM : NMo N nt α) (ht : t < nt) (hnt : nt ≤ 16) (hδ : δ < 20) (hk : k < nC N t) (h28 : σ 28 = nI p) (h23 : α 23 δ = m) (ho : nO N t k ≠ 1)
    (hp : wb_X7_headOfTale_10 post (j + 1) (nI t) (nI δ) iw (nI (k + 1)) σ (uA α 23 δ (m ||| (1 <<< (nI k &&& 31))))) : wb_X7_headOfTale_10 post (j + 1 + 1) (nI t) (nI δ) iw (nI k) σ α := by
  have hwf := hN t ht
  obtain ⟨e2, e3, e4, e6, _⟩ := hM t ht
  have hi : vp_in (nI t) 16 := vp_in_nI (by omega) (by omega)
  have hi2 : vp_in (nI δ) 20 := vp_in_nI (by omega) (by omega)
  refine ⟨hi, fun h => ?_, fun _ => m_isOpt hN hM ht hnt hk (fun h => absurd h ho) (fun _ => ⟨fun _ => ⟨hi2, fun _ => ?_, fun h => absurd rfl h⟩, fun h => absurd rfl h⟩)⟩
  · rw [nI_clamp (by omega), e6, q_le (by omega) (by omega)] at h; omega
  · rw [nI_clamp (n := δ) (by omega), h23]
    refine ⟨hi2, fun α52 e => ⟨fun _ σ60 e2 => ?_, fun h => absurd rfl h⟩⟩
    subst e e2
    rw [nI_clamp (n := δ) (by omega), h28, q_l1, nI_add, show (0 : Int32) = nI 0 from rfl, nI_add, q_uid (by rw [h28]; rfl)]
    exact hp
theorem m_fsx {σ : Nat → Int32} {α : Nat → Nat → Int32} {post : Int32 → (Nat → Int32) → (Nat → Nat → Int32) → Prop} {j k p : Nat} (hN : NWf N nt) (hM : NMo N nt α) (ht : t < nt) (hnt : nt ≤ 16) (hk : k < nC N t) (h14 : σ 14 = nI tn) (htn : tn ≤ 300) (hT : α 15 = T) (h28 : σ 28 = nI p) (hp3 : p ≤ 300) (ho : nO N t k = 1) (hx : ¬ nxt T tn p 0 1)
    (hp : post 0 (upd σ 29 (nI p)) α) : wb_X7_headOfTale_10 post (j + 1) (nI t) (nI δ) iw (nI k) σ α := by
  have hwf := hN t ht
  obtain ⟨e2, e3, e4, e6, _⟩ := hM t ht
  have hi : vp_in (nI t) 16 := vp_in_nI (by omega) (by omega)
  refine ⟨hi, fun h => ?_, fun _ => m_isOpt hN hM ht hnt hk (fun _ => ⟨fun h => absurd h (by decide), fun _ => m_wrong1 h14 h28 htn hp3 (by rw [hT]; exact hx) ⟨fun h => absurd h (by decide), fun _ => hp⟩⟩) (fun h => by omega)⟩
  rw [nI_clamp (by omega), e6, q_le (by omega) (by omega)] at h; omega
theorem m_fl0 (hN : NWf N nt) (ht : t < nt) (hnt : nt ≤ 16) (hδ : δ < 20) (htn : tn ≤ 300) {post : Int32 → (Nat → Int32) → (Nat → Nat → Int32) → Prop} {p' : Nat} {m' : Int32} : ∀ (j k : Nat) (m : Int32) (p : Nat) (σ : Nat → Int32) (α : Nat → Nat → Int32), k + j = nC N t → NMo N nt α → σ 14 = nI tn → α 15 = T → σ 28 = nI p → α 23 δ = m → flT N T tn t j k m p = .inr (p', m') →
    wb_X7_headOfTale_10 post 1 (nI t) (nI δ) iw (nI (nC N t)) (upd σ 28 (nI p')) (uA α 23 δ m') → wb_X7_headOfTale_10 post (j + 1) (nI t) (nI δ) iw (nI k) σ α := by
  intro j
  induction j with
  | zero =>
    intro k m p σ α hk hM h14 hT h28 h23 hf hK
    cases hf
    rw [q_uid h28, uA_id h23] at hK
    have : k = nC N t := by omega
    subst this
    exact hK
  | succ j ih =>
    intro k m p σ α hk hM h14 hT h28 h23 hf hK
    unfold flT at hf
    by_cases ho : nO N t k = 1
    · rw [if_pos ho] at hf
      by_cases hx : nxt T tn p 0 1
      · rw [if_pos hx] at hf
        refine m_fs1 hN hM ht hnt hδ (by omega) h14 htn hT h28 h23 ho hx (ih (k + 1) _ (p + 1) _ _ (by omega) (hM.uA (by omega)) ?_ ?_ q_us uA_s hf ?_)
        · rw [pk_un (by omega), h14]
        · rw [uA_a (by omega), hT]
        · rw [q_uu, uA_uA]; exact hK
      · rw [if_neg hx] at hf; cases hf
    · rw [if_neg ho] at hf
      refine m_fs0 hN hM ht hnt hδ (by omega) h28 h23 ho (ih (k + 1) _ p _ _ (by omega) (hM.uA (by omega)) h14 ?_ h28 uA_s hf ?_)
      · rw [uA_a (by omega), hT]
      · rw [uA_uA]; exact hK
theorem m_fl1 (hN : NWf N nt) (ht : t < nt) (hnt : nt ≤ 16) (hδ : δ < 20) (htn : tn ≤ 300) {q : Nat} : ∀ (j k : Nat) (m : Int32) (p : Nat) (σ : Nat → Int32) (α : Nat → Nat → Int32), k + j = nC N t → NMo N nt α → σ 14 = nI tn → α 15 = T → σ 28 = nI p → p ≤ 300 → α 23 δ = m → flT N T tn t j k m p = .inl q →
    ∃ m', ∀ post : Int32 → (Nat → Int32) → (Nat → Nat → Int32) → Prop, post 0 (upd (upd σ 28 (nI q)) 29 (nI q)) (uA α 23 δ m') → wb_X7_headOfTale_10 post (j + 1) (nI t) (nI δ) iw (nI k) σ α := by
  intro j
  induction j with
  | zero => intro k m p σ α hk hM h14 hT h28 hp3 h23 hf; cases hf
  | succ j ih =>
    intro k m p σ α hk hM h14 hT h28 hp3 h23 hf
    unfold flT at hf
    by_cases ho : nO N t k = 1
    · rw [if_pos ho] at hf
      by_cases hx : nxt T tn p 0 1
      · rw [if_pos hx] at hf
        have hx1 := hx.1
        obtain ⟨m', hm'⟩ := ih (k + 1) _ (p + 1) (upd σ 28 (nI (p + 1))) (uA α 23 δ (m ||| (T p <<< (nI k &&& 31)))) (by omega) (hM.uA (by omega)) (by rw [pk_un (by omega), h14]) (by rw [uA_a (by omega), hT]) q_us (by omega) uA_s hf
        refine ⟨m', fun post hp => m_fs1 hN hM ht hnt hδ (by omega) h14 htn hT h28 h23 ho hx (hm' post ?_)⟩
        rw [q_uu, uA_uA]; exact hp
      · rw [if_neg hx] at hf
        cases hf
        refine ⟨m, fun post hp => m_fsx hN hM ht hnt (by omega) h14 htn hT h28 hp3 ho hx ?_⟩
        rw [q_uid h28, uA_id h23] at hp; exact hp
    · rw [if_neg ho] at hf
      obtain ⟨m', hm'⟩ := ih (k + 1) _ p σ (uA α 23 δ (m ||| (1 <<< (nI k &&& 31)))) (by omega) (hM.uA (by omega)) h14 (by rw [uA_a (by omega), hT]) h28 hp3 uA_s hf
      refine ⟨m', fun post hp => m_fs0 hN hM ht hnt hδ (by omega) h28 h23 ho (hm' post ?_)⟩
      rw [uA_uA]; exact hp
theorem m_flB (hN : NWf N nt) (ht : t < nt) (hnt : nt ≤ 16) (hδ : δ < 20) {post : Int32 → (Nat → Int32) → (Nat → Nat → Int32) → Prop} {m : Int32} : ∀ (j k w : Nat) (σ : Nat → Int32) (α : Nat → Nat → Int32), k + j = nC N t → NMo N nt α → α 23 δ = m → σ 16 = nI w → w + (wl iw (flB N t m j k)).length ≤ 300 →
    post 1 (upd σ 16 (nI (w + (wl iw (flB N t m j k)).length))) (upA α 17 (apL (α 17) w (wl iw (flB N t m j k)))) → wb_X7_headOfTale_170 post (j + 1) (nI t) (nI δ) iw (nI k) σ α := by
  intro j
  have hi : vp_in (nI t) 16 := vp_in_nI (by omega) (by omega)
  have hi2 : vp_in (nI δ) 20 := vp_in_nI (by omega) (by omega)
  have hwf := hN t ht
  induction j with
  | zero =>
    intro k w σ α hk hM h23 h16 hr hp
    obtain ⟨e2, e3, e4, e6, _⟩ := hM t ht
    refine ⟨hi, fun _ => ?_, fun h => ?_⟩
    · simp only [flB] at hp
      have : wl iw [] = [] := by unfold wl; split <;> rfl
      rw [this, apL_nil, List.length_nil, Nat.add_zero, q_uid h16, upA_id rfl] at hp
      exact hp
    · rw [nI_clamp (by omega), e6, q_le (by omega) (by omega)] at h; omega
  | succ j ih =>
    intro k w σ α hk hM h23 h16 hr hp
    obtain ⟨e2, e3, e4, e6, _⟩ := hM t ht
    have key : ∀ (wd : Nat), wd ≤ 1000 → (if nO N t k = 1 then bin 1 (msk m k) else []) = bin wd (msk m k) → wb_X7_headOfTale_208 post (wb_X7_headOfTale_170 post (j + 1)) (nI t) (nI δ) iw (nI k) (nI wd) (msk m k) σ α := by
      intro wd hwd ew
      unfold flB at hr hp
      rw [ew, wl_app, List.length_append] at hr hp
      refine m_emit wd w σ α hwd h16 (by omega) ?_
      rw [← nI_succ]
      refine ih (k + 1) (w + (wl iw (bin wd (msk m k))).length) _ _ (by omega) (hM.upA (by omega)) (by rw [upA_n (by omega), h23]) q_us (by omega) ?_
      rw [q_uu, upA_upA, upA_s, apL_app, Nat.add_assoc]
      exact hp
    refine ⟨hi, fun h => ?_, fun _ => ⟨hi2, m_isOpt hN hM ht hnt (by omega) (fun ho => ⟨fun h => absurd h (by decide), fun _ => ?_⟩) (fun ho => ⟨fun _ => ?_, fun h => absurd rfl h⟩)⟩⟩
    · rw [nI_clamp (by omega), e6, q_le (by omega) (by omega)] at h; omega
    · rw [nI_clamp (by omega), h23]
      exact key 1 (by omega) (by rw [if_pos ho])
    · rw [nI_clamp (by omega), h23]
      exact key 0 (by omega) (by rw [if_neg (by omega)]; rfl)
/-- the head of a sequence, good -/
theorem m_head0 (hN : NWf N nt) (ht : t < nt) (hnt : nt ≤ 16) (hδ : δ < 20) (htn : tn ≤ 300) {post : Int32 → (Nat → Int32) → (Nat → Nat → Int32) → Prop} {p p1 w a : Nat} {m : Int32} {σ : Nat → Int32} {α : Nat → Nat → Int32} (hM : NMo N nt α) (h14 : σ 14 = nI tn) (hT : α 15 = T) (h28 : σ 28 = nI p) (h16 : σ 16 = nI w)
    (hf : flT N T tn t (nC N t) 0 0 p = .inr (p1, m)) (hx : nxt T tn p1 0 (nI (nA N t))) (ha : T p1 = nI a) (ha3 : a ≤ 3)
    (hr : w + (wl iw (bin 1 (if T p1 ≤ 0 then 0 else 1) ++ flB N t m (nC N t) 0)).length ≤ 300)
    (hp : post 1 (upd (upd σ 28 (nI (p1 + 1))) 16 (nI (w + (wl iw (bin 1 (if T p1 ≤ 0 then 0 else 1) ++ flB N t m (nC N t) 0)).length))) (upA (uA (uA α 23 δ m) 24 δ (nI a)) 17 (apL (α 17) w (wl iw (bin 1 (if T p1 ≤ 0 then 0 else 1) ++ flB N t m (nC N t) 0))))) :
    wp_X7_headOfTale (nI t) (nI δ) iw σ α post := by
  have hi : vp_in (nI t) 16 := vp_in_nI (by omega) (by omega)
  have hi2 : vp_in (nI δ) 20 := vp_in_nI (by omega) (by omega)
  have hwf := hN t ht
  obtain ⟨e2, e3, e4, e6, e8, _⟩ := hM t ht
  have hx1 := hx.1
  refine ⟨hi2, fun α2 e => ?_⟩
  subst e
  rw [nI_clamp (by omega)]
  show ∃ n, wb_X7_headOfTale_10 post n (nI t) (nI δ) iw (nI 0) σ (uA α 23 δ 0)
  refine ⟨nC N t + 1, m_fl0 (T := T) hN ht hnt hδ htn (nC N t) 0 0 p σ _ (by omega) (hM.uA (by omega)) h14 (by rw [uA_a (by omega), hT]) h28 uA_s hf ?_⟩
  rw [uA_uA]
  refine ⟨hi, fun _ => ⟨hi, ?_⟩, fun h => ?_⟩
  · rw [nI_clamp (n := t) (by omega), uA_a (by omega), e8]
    refine m_wrong0 (tn := tn) (p := p1) (by rw [pk_un (by omega), h14]) q_us htn (by rw [uA_a (by omega), hT]; exact hx) ⟨fun _ => ?_, fun h => absurd rfl h⟩
    rw [q_us, nI_clamp (n := p1) (by omega), nI_clamp (n := δ) (by omega)]
    refine ⟨vp_in_nI (by omega) (by omega), hi2, fun α13 e13 σ15 e15 => ?_⟩
    subst e13 e15
    rw [uA_a (a := 15) (by omega), hT, ha, q_uu, ← nI_succ]
    show vp_in (nI δ) 20 ∧ ((uA (uA α 23 δ m) 24 δ (nI a)) 24 δ ≤ 0 → _) ∧ (¬ (uA (uA α 23 δ m) 24 δ (nI a)) 24 δ ≤ 0 → _)
    rw [uA_s]
    have fin : ∀ s0 : Int32, (if T p1 ≤ 0 then 0 else 1) = s0 → wb_X7_headOfTale_162 post (nI t) (nI δ) iw s0 (upd σ 28 (nI (p1 + 1))) (uA (uA α 23 δ m) 24 δ (nI a)) := by
      intro s0 es
      rw [es, wl_app, List.length_append] at hr hp
      refine m_emit 1 w _ _ (by omega) (by rw [pk_un (by omega), h16]) (by omega) ?_
      refine ⟨nC N t + 1, m_flB hN ht hnt hδ (m := m) (nC N t) 0 (w + (wl iw (bin 1 s0)).length) _ _ (by omega) (((hM.uA (by omega)).uA (by omega)).upA (by omega)) ?_ q_us (by omega) ?_⟩
      · rw [upA_n (by omega), uA_a (by omega), uA_s]
      · rw [q_uu, upA_upA, upA_s, apL_app, Nat.add_assoc, uA_a (a := 17) (by omega), uA_a (a := 17) (by omega)]
        exact hp
    refine ⟨hi2, fun h => fin 0 (by rw [ha, if_pos h]), fun h => fin 1 (by rw [ha, if_neg h])⟩
  · rw [nI_clamp (by omega), uA_a (by omega), e6] at h
    exact absurd (by rw [q_le (by omega) (by omega)]; omega) h
/-- the head of a sequence, wrong -/
theorem m_head1 (hN : NWf N nt) (ht : t < nt) (hnt : nt ≤ 16) (hδ : δ < 20) (htn : tn ≤ 300) {p q : Nat} {σ : Nat → Int32} {α : Nat → Nat → Int32} (hM : NMo N nt α) (h14 : σ 14 = nI tn) (hT : α 15 = T) (h28 : σ 28 = nI p) (hp3 : p ≤ 300)
    (hf : flT N T tn t (nC N t) 0 0 p = .inl q ∨ ∃ m, flT N T tn t (nC N t) 0 0 p = .inr (q, m) ∧ ¬ nxt T tn q 0 (nI (nA N t)) ∧ q ≤ 300) :
    ∃ m', ∀ post : Int32 → (Nat → Int32) → (Nat → Nat → Int32) → Prop, post 0 (upd (upd σ 28 (nI q)) 29 (nI q)) (uA α 23 δ m') → wp_X7_headOfTale (nI t) (nI δ) iw σ α post := by
  have hi : vp_in (nI t) 16 := vp_in_nI (by omega) (by omega)
  have hi2 : vp_in (nI δ) 20 := vp_in_nI (by omega) (by omega)
  have hwf := hN t ht
  obtain ⟨e2, e3, e4, e6, e8, _⟩ := hM t ht
  rcases hf with hf | ⟨m, hf, hx, hq3⟩
  · obtain ⟨m', hm'⟩ := m_fl1 (iw := iw) (T := T) hN ht hnt hδ htn (nC N t) 0 0 p σ (uA α 23 δ 0) (by omega) (hM.uA (by omega)) h14 (by rw [uA_a (by omega), hT]) h28 hp3 uA_s hf
    refine ⟨m', fun post hp => ⟨hi2, fun α2 e => ⟨nC N t + 1, ?_⟩⟩⟩
    subst e
    rw [nI_clamp (by omega)]
    refine hm' post ?_
    rw [uA_uA]; exact hp
  · refine ⟨m, fun post hp => ⟨hi2, fun α2 e => ⟨nC N t + 1, ?_⟩⟩⟩
    subst e
    rw [nI_clamp (by omega)]
    refine m_fl0 (T := T) hN ht hnt hδ htn (nC N t) 0 0 p σ (uA α 23 δ 0) (by omega) (hM.uA (by omega)) h14 (by rw [uA_a (by omega), hT]) h28 uA_s hf ?_
    rw [uA_uA]
    refine ⟨hi, fun _ => ⟨hi, ?_⟩, fun h => ?_⟩
    · rw [nI_clamp (n := t) (by omega), uA_a (by omega), e8]
      exact m_wrong1 (tn := tn) (p := q) (by rw [pk_un (by omega), h14]) q_us htn hq3 (by rw [uA_a (by omega), hT]; exact hx) ⟨fun h => absurd h (by decide), fun _ => hp⟩
    · rw [nI_clamp (by omega), uA_a (by omega), e6] at h
      exact absurd (by rw [q_le (by omega) (by omega)]; omega) h
end MH
