/-! THE REFERENCE over a tale: the run -/
def RunT (post : Int32 → (Nat → Int32) → (Nat → Nat → Int32) → Prop) (iw r : Int32) (σ : Nat → Int32) (α : Nat → Nat → Int32) : Prop := ∃ n, wb_X7_walk_22 post n iw r σ α
def FB (iw : Int32) (σ : Nat → Int32) (α : Nat → Nat → Int32) (σ' : Nat → Int32) (α' : Nat → Nat → Int32) : Prop := (∀ k, k ≠ 16 → k ≠ 20 → k ≠ 28 → k ≠ 29 → σ' k = σ k) ∧ (∀ a, a < 21 → a ≠ 17 → α' a = α a) ∧ (iw = 0 → σ' 16 = σ 16 ∧ α' 17 = α 17)
def MS (δ w : Nat) (bs : List Int32) (σ : Nat → Int32) (α : Nat → Nat → Int32) (σ' : Nat → Int32) (α' : Nat → Nat → Int32) : Prop := (∀ k, k ≠ 16 → k ≠ 20 → k ≠ 28 → k ≠ 29 → σ' k = σ k) ∧ (∀ a, a < 21 → a ≠ 17 → α' a = α a) ∧ α' 17 = apL (α 17) w bs ∧ σ' 16 = nI (w + bs.length) ∧ (∀ a j, a ≠ 17 → j < δ → α' a j = α a j)
theorem MS.trans {δ δ2 w : Nat} {as bs : List Int32} {σ σ1 σ2 : Nat → Int32} {α α1 α2 : Nat → Nat → Int32} (hδ : δ ≤ δ2) (h1 : MS δ w as σ α σ1 α1) (h2 : MS δ2 (w + as.length) bs σ1 α1 σ2 α2) : MS δ w (as ++ bs) σ α σ2 α2 := by
  obtain ⟨a1, a2, a3, a4, a5⟩ := h1
  obtain ⟨b1, b2, b3, b4, b5⟩ := h2
  refine ⟨fun k h1 h2 h3 h4 => (b1 k h1 h2 h3 h4).trans (a1 k h1 h2 h3 h4), fun a h1 h2 => (b2 a h1 h2).trans (a2 a h1 h2), ?_, ?_, fun a j h1 h2 => (b5 a j h1 (by omega)).trans (a5 a j h1 h2)⟩
  · rw [b3, a3, apL_app]
  · rw [b4, List.length_append, Nat.add_assoc]
theorem MS.fb {iw : Int32} {δ w : Nat} {bs : List Int32} {σ σ' : Nat → Int32} {α α' : Nat → Nat → Int32} (h : MS δ w (wl iw bs) σ α σ' α') (h16 : σ 16 = nI w) : FB iw σ α σ' α' := by
  obtain ⟨a1, a2, a3, a4, a5⟩ := h
  refine ⟨a1, a2, fun e => ?_⟩
  simp only [wl, if_pos e, apL_nil, List.length_nil, Nat.add_zero] at a3 a4
  exact ⟨by rw [a4, h16], a3⟩
theorem FB.trans {iw : Int32} {σ σ1 σ2 : Nat → Int32} {α α1 α2 : Nat → Nat → Int32} (h1 : FB iw σ α σ1 α1) (h2 : FB iw σ1 α1 σ2 α2) : FB iw σ α σ2 α2 :=
  ⟨fun k e1 e2 e3 e4 => (h2.1 k e1 e2 e3 e4).trans (h1.1 k e1 e2 e3 e4), fun a e1 e2 => (h2.2.1 a e1 e2).trans (h1.2.1 a e1 e2), fun e => ⟨(h2.2.2 e).1.trans (h1.2.2 e).1, (h2.2.2 e).2.trans (h1.2.2 e).2⟩⟩
def TQ (post : Int32 → (Nat → Int32) → (Nat → Nat → Int32) → Prop) (iw : Int32) (δ w : Nat) (res : RT) (σ : Nat → Int32) (α : Nat → Nat → Int32) : Prop := w ≤ 300 ∧ σ 16 = nI w ∧ (iw = 1 → ∃ p' bs, res = .inr (p', bs) ∧ w + bs.length ≤ 300) ∧
  (∀ p' bs, res = .inr (p', bs) → p' ≤ 300 → ∀ σ' α', MS δ w (wl iw bs) σ α σ' α' → σ' 20 = nI δ → σ' 28 = nI p' → RunT post iw 1 σ' α') ∧ (∀ q, res = .inl q → q ≤ 300 → ∀ σ' α', FB iw σ α σ' α' → σ' 29 = nI q → RunT post iw 0 σ' α')
theorem wl_nil (iw : Int32) : wl iw [] = [] := by unfold wl; split <;> rfl
theorem wl_le (iw : Int32) (bs : List Int32) : (wl iw bs).length ≤ bs.length := by unfold wl; split <;> simp
theorem wl_0 {iw : Int32} (h : iw ≠ 1) (hiw : iw = 0 ∨ iw = 1) (bs : List Int32) : wl iw bs = [] := by
  rcases hiw with e | e
  · simp [wl, e]
  · exact absurd e h
section MR
variable {post : Int32 → (Nat → Int32) → (Nat → Nat → Int32) → Prop} {iw : Int32}
theorem TQ.room {δ w p1 : Nat} {b1 : List Int32} {k : Nat → RT} {σ : Nat → Int32} {α : Nat → Nat → Int32} (hiw : iw = 0 ∨ iw = 1) (h : TQ post iw δ w (bnd (.inr (p1, b1)) k) σ α) : w + (wl iw b1).length ≤ 300 := by
  by_cases e : iw = 1
  · obtain ⟨p', bs, hb, hr⟩ := h.2.2.1 e
    obtain ⟨p2, b, b', e1, e2, e3⟩ := bnd_inr hb
    cases e1
    have := wl_le iw b1
    rw [e3, List.length_append] at hr; omega
  · rw [wl_0 e hiw]; have := h.1; simpa using this
theorem TQ.go {δ w p1 : Nat} {r : RT} {b1 : List Int32} {k : Nat → RT} {σ σ1 : Nat → Int32} {α α1 : Nat → Nat → Int32} (hiw : iw = 0 ∨ iw = 1) (h : TQ post iw δ w (bnd r k) σ α) (e : r = .inr (p1, b1)) (hS : MS δ w (wl iw b1) σ α σ1 α1) : TQ post iw δ (w + (wl iw b1).length) (k p1) σ1 α1 := by
  subst e
  refine ⟨h.room hiw, hS.2.2.2.1, fun e => ?_, fun p' bs hk hp' σ' α' hS2 h20 h28 => ?_, fun q hk hq' σ' α' hF h29 => ?_⟩
  · obtain ⟨p', bs, hb, hr⟩ := h.2.2.1 e
    obtain ⟨p2, b, b', e1, e2, e3⟩ := bnd_inr hb
    cases e1
    refine ⟨p', b', e2, ?_⟩
    have := wl_le iw b1
    rw [e3, List.length_append] at hr; omega
  · refine h.2.2.2.1 p' (b1 ++ bs) (by simp only [bnd, hk]) hp' σ' α' ?_ h20 h28
    rw [wl_app]; exact hS.trans (Nat.le_refl _) hS2
  · exact h.2.2.2.2 q (by simp only [bnd, hk]) hq' σ' α' ((hS.fb h.2.1).trans hF) h29
theorem TQ.mv {δ w : Nat} {r : RT} {σ σ1 : Nat → Int32} {α α1 : Nat → Nat → Int32} (h : TQ post iw δ w r σ α) (hS : MS δ w [] σ α σ1 α1) : TQ post iw δ w r σ1 α1 := by
  refine ⟨h.1, by have := hS.2.2.2.1; simpa using this, h.2.2.1, fun p' bs hk hp' σ' α' hS2 h20 h28 => ?_, fun q hk hq' σ' α' hF h29 => ?_⟩
  · exact h.2.2.2.1 p' bs hk hp' σ' α' (hS.trans (Nat.le_refl _) hS2) h20 h28
  · have hS' : MS δ w (wl iw []) σ α σ1 α1 := by rw [wl_nil]; exact hS
    exact h.2.2.2.2 q hk hq' σ' α' ((hS'.fb h.2.1).trans hF) h29
theorem TQ.child {δ w : Nat} {r : RT} {k : Nat → RT} {σ : Nat → Int32} {α : Nat → Nat → Int32} (h : TQ post iw δ w (bnd r k) σ α)
    (hk : ∀ p' bs, r = .inr (p', bs) → p' ≤ 300 → ∀ σ' α', MS (δ + 1) w (wl iw bs) σ α σ' α' → σ' 20 = nI (δ + 1) → σ' 28 = nI p' → RunT post iw 1 σ' α') : TQ post iw (δ + 1) w r σ α := by
  refine ⟨h.1, h.2.1, fun e => ?_, hk, fun q hr hq' σ' α' hF h29 => ?_⟩
  · obtain ⟨p', bs, hb, hr⟩ := h.2.2.1 e
    obtain ⟨p2, b, b', e1, e2, e3⟩ := bnd_inr hb
    rw [e3, List.length_append] at hr
    exact ⟨p2, b, e1, by omega⟩
  · subst hr
    exact h.2.2.2.2 q rfl hq' σ' α' hF h29
theorem run_step {δ : Nat} {r : Int32} {σ σ' : Nat → Int32} {α α' : Nat → Nat → Int32} (h20 : σ 20 = nI (δ + 1)) (hδ : δ < 20) (h : ∀ post' : Int32 → (Nat → Int32) → (Nat → Nat → Int32) → Prop, post' r σ' α' → wp_X7_goOverTale iw σ α post') (hr : RunT post iw r σ' α') : RunT post iw 1 σ α := by
  obtain ⟨n, hn⟩ := hr
  refine ⟨n + 1, fun h0 => ?_, fun _ => ⟨fun h => absurd h (by decide), fun _ => h _ hn⟩⟩
  rw [h20] at h0; exact absurd h0 (nI_nle (by omega) (by omega))
end MR
def FF (N : NT) (nt tn : Nat) (T : Nat → Int32) (δ t s p w : Nat) (σ : Nat → Int32) (α : Nat → Nat → Int32) : Prop := σ 14 = nI tn ∧ α 15 = T ∧ σ 20 = nI (δ + 1) ∧ σ 28 = nI p ∧ σ 16 = nI w ∧ α 21 δ = nI t ∧ α 22 δ = nI s ∧ NMo N nt α
section MG
variable {post : Int32 → (Nat → Int32) → (Nat → Nat → Int32) → Prop} {N : NT} {nt : Nat} {iw : Int32} {t δ tn : Nat} {T : Nat → Int32}
theorem g_seq {s : Nat} {σ : Nat → Int32} {α αL : Nat → Nat → Int32} (ht : t < nt) (hnt : nt ≤ 16) (hδ : δ < 20) (hs : s < 100) (hk : nK N t = 2) (h20 : σ 20 = nI (δ + 1)) (h21 : α 21 δ = nI t) (h22 : α 22 δ = nI (s + 1)) (hM : NMo N nt α) (hP : PD δ σ α αL)
    (h : wb_X7_sequenceOfTale_61 (fun r σ α => (r = 0 ∨ r = 1) ∧ post r σ α) (nI t) (nI δ) (nI s) iw σ (uA αL 22 δ (nI (s + 2)))) : wp_X7_goOverTale iw σ α post := by
  have hi : vp_in (nI t) 16 := vp_in_nI (by omega) (by omega)
  have hi2 : vp_in (nI δ) 20 := vp_in_nI (by omega) (by omega)
  unfold wp_X7_goOverTale
  rw [h20, nI_pred, nI_clamp (n := δ) (by omega), h21, h22, nI_clamp (n := t) (by omega)]
  refine ⟨hi2, hi2, hi2, hi2, fun α5 e => ?_⟩
  have e' : α5 = uA α 22 δ (nI (s + 2)) := by rw [e, ← nI_succ]; rfl
  clear e
  subst e'
  rw [uA_a (a := 2) (by omega), (hM t ht).1, hk]
  refine ⟨hi, fun h => absurd rfl h, fun _ => ⟨fun _ => ?_, fun h0 => absurd h0 (nI_ne0 (by omega) (by omega))⟩⟩
  rw [nI_pred]
  exact m_seq hδ (hP.uA _) h
theorem g_head {σ : Nat → Int32} {α : Nat → Nat → Int32} (ht : t < nt) (hnt : nt ≤ 16) (hδ : δ < 20) (hk : nK N t = 2) (h20 : σ 20 = nI (δ + 1)) (h21 : α 21 δ = nI t) (h22 : α 22 δ = nI 0) (hM : NMo N nt α)
    (h : wp_X7_headOfTale (nI t) (nI δ) iw σ (uA α 22 δ (nI 1)) (fun r σ α => (r = 0 ∨ r = 1) ∧ post r σ α)) : wp_X7_goOverTale iw σ α post := by
  have hi : vp_in (nI t) 16 := vp_in_nI (by omega) (by omega)
  have hi2 : vp_in (nI δ) 20 := vp_in_nI (by omega) (by omega)
  unfold wp_X7_goOverTale
  rw [h20, nI_pred, nI_clamp (n := δ) (by omega), h21, h22, nI_clamp (n := t) (by omega)]
  refine ⟨hi2, hi2, hi2, hi2, fun α5 e => ?_⟩
  have e' : α5 = uA α 22 δ (nI 1) := by rw [e, ← nI_succ]; rfl
  clear e
  subst e'
  rw [uA_a (a := 2) (by omega), (hM t ht).1, hk]
  exact ⟨hi, fun h => absurd rfl h, fun _ => ⟨fun h0 => absurd rfl h0, fun _ => h⟩⟩
theorem g_vals {s : Nat} {σ : Nat → Int32} {α : Nat → Nat → Int32} (ht : t < nt) (hnt : nt ≤ 16) (hδ : δ < 20) (hs : s < 100) (hk3 : nK N t < 4) (hk : nK N t ≠ 2) (h20 : σ 20 = nI (δ + 1)) (h21 : α 21 δ = nI t) (h22 : α 22 δ = nI (s + 1)) (hM : NMo N nt α)
    (h : wb_X7_goOverTale_188 post (nI δ) (nI t) (nI (s + 1)) σ (uA α 22 δ (nI (s + 2)))) : wp_X7_goOverTale iw σ α post := by
  have hi : vp_in (nI t) 16 := vp_in_nI (by omega) (by omega)
  have hi2 : vp_in (nI δ) 20 := vp_in_nI (by omega) (by omega)
  unfold wp_X7_goOverTale
  rw [h20, nI_pred, nI_clamp (n := δ) (by omega), h21, h22, nI_clamp (n := t) (by omega)]
  refine ⟨hi2, hi2, hi2, hi2, fun α5 e => ?_⟩
  have e' : α5 = uA α 22 δ (nI (s + 2)) := by rw [e, ← nI_succ]; rfl
  clear e
  subst e'
  rw [uA_a (a := 2) (by omega), (hM t ht).1, q_l2, q_eq (by omega) (by omega)]
  exact ⟨hi, fun _ => ⟨fun _ => h, fun h0 => absurd h0 (nI_ne0 (by omega) (by omega))⟩, fun h => absurd h hk⟩
theorem g_133 {p w : Nat} {lo hi v4 : Int32} {σ : Nat → Int32} {β : Nat → Nat → Int32} (hN : NWf N nt) (ht : t < nt) (hnt : nt ≤ 16) (hδ : δ < 20) (hM : NMo N nt β) (h14 : σ 14 = nI tn) (htn : tn ≤ 300) (hT : β 15 = T) (h28 : σ 28 = nI p) (h16 : σ 16 = nI w) (hx : nxt T tn p lo hi) (hr : w + (wl iw (bin (nW N t) (T p - lo))).length ≤ 300)
    (h : wb_X7_goOverTale_188 post (nI δ) (nI t) v4 (upd (upd σ 16 (nI (w + (wl iw (bin (nW N t) (T p - lo))).length))) 28 (nI (p + 1))) (upA (uA β 23 δ (T p)) 17 (apL (β 17) w (wl iw (bin (nW N t) (T p - lo)))))) : wb_X7_goOverTale_133 post iw (nI δ) (nI t) v4 lo hi lo σ β := by
  have hi : vp_in (nI t) 16 := vp_in_nI (by omega) (by omega)
  have hi2 : vp_in (nI δ) 20 := vp_in_nI (by omega) (by omega)
  have hx1 := hx.1
  refine m_wrong0 h14 h28 htn (by rw [hT]; exact hx) ⟨fun _ => ?_, fun h => absurd rfl h⟩
  rw [h28, nI_clamp (n := p) (by omega), nI_clamp (n := δ) (by omega)]
  refine ⟨vp_in_nI (by omega) (by omega), hi2, fun α64 e => ⟨vp_in_nI (by omega) (by omega), ?_⟩⟩
  have e' : α64 = uA β 23 δ (T p) := by rw [e, hT]; rfl
  clear e
  subst e'
  have hM1 : NMo N nt (uA β 23 δ (T p)) := hM.uA (by omega)
  refine m_widthOf hN hM1 ht hnt ?_
  rw [uA_a (a := 15) (by omega), hT]
  refine m_emit (nW N t) w _ _ (by have := wdN_le (nV N t); unfold nW; omega) h16 hr (fun σ73 e => ?_)
  subst e
  rw [pk_un (by omega), h28, uA_a (a := 17) (by omega), ← nI_succ]
  exact h
theorem g_val0 {p : Nat} {σ : Nat → Int32} {α : Nat → Nat → Int32} (hN : NWf N nt) (ht : t < nt) (hnt : nt ≤ 16) (hδ : δ < 20) (hk : nK N t ≠ 2) (h20 : σ 20 = nI (δ + 1)) (h21 : α 21 δ = nI t) (h22 : α 22 δ = nI 0) (hM : NMo N nt α)
    (h : wb_X7_goOverTale_133 post iw (nI δ) (nI t) (nI 0) (nlo N t) (nhi N t) (nlo N t) σ (uA α 22 δ (nI 1))) : wp_X7_goOverTale iw σ α post := by
  have hi : vp_in (nI t) 16 := vp_in_nI (by omega) (by omega)
  have hi2 : vp_in (nI δ) 20 := vp_in_nI (by omega) (by omega)
  have hwf := hN t ht
  have hM1 : NMo N nt (uA α 22 δ (nI 1)) := hM.uA (by omega)
  obtain ⟨e2, e3, e4, e6, _⟩ := hM1 t ht
  unfold wp_X7_goOverTale
  rw [h20, nI_pred, nI_clamp (n := δ) (by omega), h21, h22, nI_clamp (n := t) (by omega)]
  refine ⟨hi2, hi2, hi2, hi2, fun α5 e => ?_⟩
  have e' : α5 = uA α 22 δ (nI 1) := by rw [e, ← nI_succ]; rfl
  clear e
  subst e'
  rw [e2, q_l2, q_eq (by omega) (by omega), q_l3, q_eq (by omega) (by omega)]
  refine ⟨hi, fun _ => ⟨fun h => absurd rfl h, fun _ => ⟨hi, fun h3 => ⟨fun _ => ⟨hi, fun _ => ⟨hi, ?_⟩, fun h => absurd rfl h⟩, fun h => absurd rfl h⟩, fun h3 => ⟨fun h => absurd h (by decide), fun _ => ⟨fun h => absurd h (by decide), fun _ => ⟨hi, ?_⟩⟩⟩⟩⟩, fun h => absurd h hk⟩
  · rw [nI_clamp (n := t) (by omega), e3, e4 h3]; exact h
  · obtain ⟨f1, f2, f3⟩ := hwf.2.2.2.2.2.2.2.2 h3
    rw [nI_clamp (n := t) (by omega), e6, q_l1, q_sub (by omega), ← f2]
    rw [f1] at h
    exact h
theorem g_list {s h : Nat} {σ : Nat → Int32} {β : Nat → Nat → Int32} (hN : NWf N nt) (ht : t < nt) (hnt : nt ≤ 16) (hδ : δ + 1 < 20) (hk : nK N t = 1) (hM : NMo N nt β) (h20 : σ 20 = nI (δ + 1)) (h23 : β 23 δ = nI h) (hs : s < h) (hh : h < 1000) (hC : 0 < nC N t)
    (hp : post 1 (upd σ 20 (nI (δ + 2))) (uA (uA (uA β 21 (δ + 1) (nI (nP N t 0))) 22 (δ + 1) 0) 25 (δ + 1) (-1))) : wb_X7_goOverTale_188 post (nI δ) (nI t) (nI s) σ β := by
  have hi : vp_in (nI t) 16 := vp_in_nI (by omega) (by omega)
  have hi2 : vp_in (nI δ) 20 := vp_in_nI (by omega) (by omega)
  obtain ⟨e2, _⟩ := hM t ht
  unfold wb_X7_goOverTale_188
  rw [nI_clamp (n := t) (by omega), nI_clamp (n := δ) (by omega), e2, h23, hk, q_le (by omega) (by omega)]
  exact ⟨hi, fun h => absurd rfl h, fun _ => ⟨hi2, fun h => absurd h (by omega), fun _ => m_partOf hN hM ht hnt hC (m_push h20 hδ hp)⟩⟩
theorem g_choice {j : Nat} {σ : Nat → Int32} {β : Nat → Nat → Int32} (hN : NWf N nt) (ht : t < nt) (hnt : nt ≤ 16) (hδ : δ + 1 < 20) (hk : nK N t = 3) (hM : NMo N nt β) (h20 : σ 20 = nI (δ + 1)) (h23 : β 23 δ = nI j) (hj : j < nC N t)
    (hp : post 1 (upd σ 20 (nI (δ + 2))) (uA (uA (uA β 21 (δ + 1) (nI (nP N t j))) 22 (δ + 1) 0) 25 (δ + 1) (-1))) : wb_X7_goOverTale_188 post (nI δ) (nI t) (nI 0) σ β := by
  have hi : vp_in (nI t) 16 := vp_in_nI (by omega) (by omega)
  have hi2 : vp_in (nI δ) 20 := vp_in_nI (by omega) (by omega)
  obtain ⟨e2, _⟩ := hM t ht
  unfold wb_X7_goOverTale_188 wb_X7_goOverTale_222
  rw [nI_clamp (n := t) (by omega), nI_clamp (n := δ) (by omega), e2, hk]
  refine ⟨hi, fun _ => ⟨hi, fun h => absurd rfl h, fun _ => ⟨fun h => absurd rfl h, fun _ => ⟨hi2, ?_⟩⟩⟩, fun h => absurd h (by decide)⟩
  rw [h23]
  exact m_partOf hN hM ht hnt hj (m_push h20 hδ hp)
theorem g_pop {s : Nat} {σ : Nat → Int32} {β : Nat → Nat → Int32} (ht : t < nt) (hnt : nt ≤ 16) (hδ : δ < 20) (hM : NMo N nt β) (h20 : σ 20 = nI (δ + 1)) (hs : s < 1000) (hc : nK N t = 0 ∨ (nK N t = 1 ∧ ∃ h, β 23 δ = nI h ∧ h ≤ s) ∨ (nK N t = 3 ∧ 0 < s))
    (hp : post 1 (upd σ 20 (nI δ)) β) : wb_X7_goOverTale_188 post (nI δ) (nI t) (nI s) σ β := by
  have hi : vp_in (nI t) 16 := vp_in_nI (by omega) (by omega)
  have hi2 : vp_in (nI δ) 20 := vp_in_nI (by omega) (by omega)
  obtain ⟨e2, _⟩ := hM t ht
  have fin : wb_X7_goOverTale_255 post σ β := by
    intro σ56 e
    subst e
    rw [h20, nI_pred]; exact hp
  unfold wb_X7_goOverTale_188 wb_X7_goOverTale_222
  rw [nI_clamp (n := t) (by omega), nI_clamp (n := δ) (by omega), e2]
  rcases hc with hk | ⟨hk, h, h23, hh⟩ | ⟨hk, h0⟩
  · rw [hk]
    exact ⟨hi, fun _ => ⟨hi, fun _ => fin, fun h => absurd h (by decide)⟩, fun h => absurd h (by decide)⟩
  · rw [hk, h23, q_le (by omega) (by omega)]
    exact ⟨hi, fun h => absurd rfl h, fun _ => ⟨hi2, fun _ => ⟨hi, fun _ => fin, fun h => absurd h (by decide)⟩, fun h => absurd hh h⟩⟩
  · rw [hk]
    exact ⟨hi, fun _ => ⟨hi, fun _ => fin, fun _ => ⟨fun _ => fin, fun h => absurd h (nI_ne0 h0 (by omega))⟩⟩, fun h => absurd h (by decide)⟩
end MG
