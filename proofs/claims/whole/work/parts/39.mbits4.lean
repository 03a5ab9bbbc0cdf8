/-! THE REFERENCE over bits: heads and steps -/
def MSR (δ n : Nat) (l : List Int32) (σ : Nat → Int32) (α : Nat → Nat → Int32) (σ' : Nat → Int32) (α' : Nat → Nat → Int32) : Prop := (∀ k, k ≠ 18 → k ≠ 20 → k ≠ 28 → k ≠ 29 → σ' k = σ k) ∧ (∀ a, a < 21 → a ≠ 19 → α' a = α a) ∧ α' 19 = apL (α 19) n l ∧ σ' 18 = nI (n + l.length) ∧ (∀ a j, a ≠ 19 → j < δ → α' a j = α a j)
theorem MSR.trans {δ δ2 n : Nat} {as bs : List Int32} {σ σ1 σ2 : Nat → Int32} {α α1 α2 : Nat → Nat → Int32} (hδ : δ ≤ δ2) (h1 : MSR δ n as σ α σ1 α1) (h2 : MSR δ2 (n + as.length) bs σ1 α1 σ2 α2) : MSR δ n (as ++ bs) σ α σ2 α2 := by
  obtain ⟨a1, a2, a3, a4, a5⟩ := h1
  obtain ⟨b1, b2, b3, b4, b5⟩ := h2
  refine ⟨fun k h1 h2 h3 h4 => (b1 k h1 h2 h3 h4).trans (a1 k h1 h2 h3 h4), fun a h1 h2 => (b2 a h1 h2).trans (a2 a h1 h2), ?_, ?_, fun a j h1 h2 => (b5 a j h1 (by omega)).trans (a5 a j h1 h2)⟩
  · rw [b3, a3, apL_app]
  · rw [b4, List.length_append, Nat.add_assoc]
theorem MSR.fb {δ n : Nat} {l : List Int32} {σ σ' : Nat → Int32} {α α' : Nat → Nat → Int32} (h : MSR δ n l σ α σ' α') : FBR σ α σ' α' := ⟨h.1, h.2.1⟩
section MBS
variable {N : NT} {nt t δ bn kn : Nat} {b : Nat → Nat}
theorem b_head0 {p p1 p2 n ha : Nat} {m : Int32} {fl : List Int32} {σ : Nat → Int32} {α : Nat → Nat → Int32} (hN : NWf N nt) (ht : t < nt) (hnt : nt ≤ 16) (hδ : δ < 20) (hM : NMo N nt α) (hB : MB bn b σ α) (h28 : σ 28 = nI p) (h29 : σ 29 = -1) (h18 : σ 18 = nI n) (hn : n + 7 < 300) (hv : tkB b bn 1 p 2 = .inr (p1, ha)) (hf : flR N b bn t (nC N t) 0 0 p1 = .inr (p2, m, fl)) :
    ∃ σ' α', MSR δ n (fl ++ [nI 0]) σ α σ' α' ∧ σ' 28 = nI p2 ∧ σ' 29 = -1 ∧ σ' 20 = σ 20 ∧ α' 21 δ = α 21 δ ∧ α' 22 δ = α 22 δ ∧ α' 25 δ = α 25 δ ∧ α' 23 δ = m ∧ α' 24 δ = nI ha ∧ α' 27 δ = nI (n + fl.length) ∧ ∀ post : (Nat → Int32) → (Nat → Nat → Int32) → Prop, post σ' α' → wp_X7_headOfBits (nI t) (nI δ) σ α post := by
  have hi : vp_in (nI t) 16 := vp_in_nI (by omega) (by omega)
  have hi2 : vp_in (nI δ) 20 := vp_in_nI (by omega) (by omega)
  have hwf := hN t ht
  have hM1 : NMo N nt (uA (uA α 24 δ (nI ha)) 23 δ 0) := (hM.uA (by omega)).uA (by omega)
  have hfl := flR_len _ _ _ _ _ _ _ hf
  have hfl2 : fl.length ≤ 6 := by
    have h6 : ∀ j k, k + j ≤ nC N t → sumN (nO N t) j k ≤ j := by
      intro j
      induction j with
      | zero => intro k _; exact Nat.le_refl 0
      | succ j ih => intro k hk; rw [sumN]; have h1 := ih (k + 1) (by omega); have h2 := (hwf.2.2.2.1 k (by omega)).2; omega
    have := h6 (nC N t) 0 (by omega); omega
  obtain ⟨e2, e3, e4, e6, _⟩ := hM t ht
  refine ⟨upd (upd (upd (upd σ 28 (nI p1)) 28 (nI p2)) 18 (nI (n + fl.length))) 18 (nI (n + fl.length + 1)), uA (uA (upA (uA (uA (uA α 24 δ (nI ha)) 23 δ 0) 23 δ m) 19 (apL (α 19) n fl)) 27 δ (nI (n + fl.length))) 19 (n + fl.length) (nI 0), ?_, ?_, ?_, ?_, ?_, ?_, ?_, ?_, ?_, ?_, ?_⟩
  · refine ⟨fun k z1 z2 z3 z4 => by rw [pk_un z1, pk_un z1, pk_un z3, pk_un z3], fun a z1 z2 => by rw [uA_a z2, uA_a (by omega), upA_n z2, uA_a (by omega), uA_a (by omega), uA_a (by omega)], ?_, by rw [q_us, List.length_append]; rfl, fun a j z1 z2 => by rw [uA_a z1, uA_j (by omega), upA_n z1, uA_j (by omega), uA_j (by omega), uA_j (by omega)]⟩
    show upA _ 19 _ 19 = _
    rw [upA_s, uA_a (by omega), upA_s, ← apL_app, ← apL_cons, apL_nil]
  · rw [pk_un (by omega), pk_un (by omega), q_us]
  · rw [pk_un (by omega), pk_un (by omega), pk_un (by omega), pk_un (by omega), h29]
  · rw [pk_un (by omega), pk_un (by omega), pk_un (by omega), pk_un (by omega)]
  · rw [uA_a (by omega), uA_a (by omega), upA_n (by omega), uA_a (by omega), uA_a (by omega), uA_a (by omega)]
  · rw [uA_a (by omega), uA_a (by omega), upA_n (by omega), uA_a (by omega), uA_a (by omega), uA_a (by omega)]
  · rw [uA_a (by omega), uA_a (by omega), upA_n (by omega), uA_a (by omega), uA_a (by omega), uA_a (by omega)]
  · rw [uA_a (by omega), uA_a (by omega), upA_n (by omega), uA_s]
  · rw [uA_a (by omega), uA_a (by omega), upA_n (by omega), uA_a (by omega), uA_a (by omega), uA_s]
  · rw [uA_a (by omega), uA_s]
  · intro post hp
    refine m_take0 (w := 1) hB h28 h29 (by omega) hv ⟨hi2, fun α5 e => ⟨hi2, fun α8 e8 => ⟨nC N t + 1, ?_⟩⟩⟩
    have e' : α5 = uA α 24 δ (nI ha) := by rw [e, nI_clamp (n := δ) (by omega)]; rfl
    clear e; subst e'
    have e' : α8 = uA (uA α 24 δ (nI ha)) 23 δ 0 := by rw [e8, nI_clamp (n := δ) (by omega)]; rfl
    clear e8; subst e'
    refine b_fl0 hN ht hnt hδ (nC N t) 0 p1 n 0 fl _ _ (by omega) hM1 (hB.cong (by rw [pk_un (by omega)]) (by rw [uA_a (by omega), uA_a (by omega)])) q_us (by rw [pk_un (by omega), h29]) (tkB_le hv).2.2 (by rw [pk_un (by omega), h18]) uA_s (by omega) hf ?_
    rw [uA_a (a := 19) (by omega), uA_a (a := 19) (by omega)]
    refine ⟨hi, fun _ => ⟨hi2, fun α15 e => ?_⟩, fun h => ?_⟩
    · have e' : α15 = uA (upA (uA (uA (uA α 24 δ (nI ha)) 23 δ 0) 23 δ m) 19 (apL (α 19) n fl)) 27 δ (nI (n + fl.length)) := by rw [e, nI_clamp (n := δ) (by omega), q_us]; rfl
      clear e; subst e'
      exact m_note q_us (by omega) hp
    · rw [nI_clamp (by omega), upA_n (by omega), uA_a (by omega), uA_a (by omega), uA_a (by omega), e6, q_le (by omega) (by omega)] at h; omega
theorem b_head1 {p q n : Nat} {σ : Nat → Int32} {α : Nat → Nat → Int32} (hN : NWf N nt) (ht : t < nt) (hnt : nt ≤ 16) (hδ : δ < 20) (hM : NMo N nt α) (hB : MB bn b σ α) (h28 : σ 28 = nI p) (h29 : σ 29 = -1) (hpn : p ≤ bn) (h18 : σ 18 = nI n) (hn : n + 7 < 300) (hv : tkB b bn 1 p 2 = .inl q ∨ ∃ p1 ha, tkB b bn 1 p 2 = .inr (p1, ha) ∧ flR N b bn t (nC N t) 0 0 p1 = .inl q) :
    ∃ σ' α', FBR σ α σ' α' ∧ σ' 29 = nI q ∧ ∀ post : (Nat → Int32) → (Nat → Nat → Int32) → Prop, post σ' α' → wp_X7_headOfBits (nI t) (nI δ) σ α post := by
  have hi : vp_in (nI t) 16 := vp_in_nI (by omega) (by omega)
  have hi2 : vp_in (nI δ) 20 := vp_in_nI (by omega) (by omega)
  have hwf := hN t ht
  have hbn := hB.2.2.1
  rcases hv with hv | ⟨p1, ha, hv, hf⟩
  · have hq : q < 1000 := by
      unfold tkB at hv
      split at hv
      · cases hv; omega
      · split at hv
        · cases hv
        · cases hv; omega
    obtain ⟨σ', α', h1, h2, h3⟩ := b_flx hN ht hnt hδ hq (nC N t) 0 n (upd σ 29 (nI q)) (uA (uA α 24 δ 0) 23 δ 0) (by omega) ((hM.uA (by omega)).uA (by omega)) (by rw [pk_un (by omega), h18]) q_us (by omega)
    refine ⟨σ', α', FBR.trans ⟨fun k _ _ _ z4 => pk_un z4, fun a z1 z2 => by rw [uA_a (by omega), uA_a (by omega)]⟩ h1, h2, fun post hp => m_take1 (w := 1) hB h28 h29 hpn (by omega) hv ⟨hi2, fun α5 e => ⟨hi2, fun α8 e8 => ⟨nC N t + 1, ?_⟩⟩⟩⟩
    have e' : α5 = uA α 24 δ 0 := by rw [e, nI_clamp (n := δ) (by omega)]; rfl
    clear e; subst e'
    have e' : α8 = uA (uA α 24 δ 0) 23 δ 0 := by rw [e8, nI_clamp (n := δ) (by omega)]; rfl
    clear e8; subst e'
    exact h3 post hp
  · obtain ⟨σ', α', h1, h2, h3⟩ := b_fl1 hN ht hnt hδ (nC N t) 0 p1 n 0 (upd σ 28 (nI p1)) (uA (uA α 24 δ (nI ha)) 23 δ 0) (by omega) ((hM.uA (by omega)).uA (by omega)) (hB.cong (by rw [pk_un (by omega)]) (by rw [uA_a (by omega), uA_a (by omega)])) q_us (by rw [pk_un (by omega), h29]) (tkB_le hv).2.2 (by rw [pk_un (by omega), h18]) uA_s (by omega) hf
    refine ⟨σ', α', FBR.trans ⟨fun k _ _ z3 _ => pk_un z3, fun a z1 z2 => by rw [uA_a (by omega), uA_a (by omega)]⟩ h1, h2, fun post hp => m_take0 (w := 1) hB h28 h29 (by omega) hv ⟨hi2, fun α5 e => ⟨hi2, fun α8 e8 => ⟨nC N t + 1, ?_⟩⟩⟩⟩
    have e' : α5 = uA α 24 δ (nI ha) := by rw [e, nI_clamp (n := δ) (by omega)]; rfl
    clear e; subst e'
    have e' : α8 = uA (uA α 24 δ (nI ha)) 23 δ 0 := by rw [e8, nI_clamp (n := δ) (by omega)]; rfl
    clear e8; subst e'
    exact h3 post hp
section
variable {post : (Nat → Int32) → (Nat → Nat → Int32) → Prop} {σ : Nat → Int32} {α β : Nat → Nat → Int32}
theorem gB_head {x : Int32} (ht : t < nt) (hnt : nt ≤ 16) (hδ : δ < 20) (hk : nK N t = 2) (h20 : σ 20 = nI (δ + 1)) (h21 : α 21 δ = nI t) (h22 : α 22 δ = nI 0) (hM : NMo N nt α) (h : wp_X7_headOfBits (nI t) (nI δ) σ (uA α 22 δ (nI 1)) post) : wp_X7_goOverBits x σ α post := by
  have hi : vp_in (nI t) 16 := vp_in_nI (by omega) (by omega)
  have hi2 : vp_in (nI δ) 20 := vp_in_nI (by omega) (by omega)
  unfold wp_X7_goOverBits
  rw [h20, nI_pred, nI_clamp (n := δ) (by omega), h21, h22, nI_clamp (n := t) (by omega)]
  refine ⟨hi2, hi2, hi2, hi2, fun α5 e => ?_⟩
  have e' : α5 = uA α 22 δ (nI 1) := by rw [e, ← nI_succ]; rfl
  clear e
  subst e'
  rw [uA_a (a := 2) (by omega), (hM t ht).1, hk]
  exact ⟨hi, fun h => absurd rfl h, fun _ => ⟨fun h0 => absurd rfl h0, fun _ => h⟩⟩
theorem gB_seq {s : Nat} {x : Int32} (ht : t < nt) (hnt : nt ≤ 16) (hδ : δ < 20) (hs : s < 100) (hk : nK N t = 2) (h20 : σ 20 = nI (δ + 1)) (h21 : α 21 δ = nI t) (h22 : α 22 δ = nI (s + 1)) (hM : NMo N nt α) (h : wp_X7_sequenceOfBits (nI t) (nI δ) (nI s) x σ (uA α 22 δ (nI (s + 2))) post) : wp_X7_goOverBits x σ α post := by
  have hi : vp_in (nI t) 16 := vp_in_nI (by omega) (by omega)
  have hi2 : vp_in (nI δ) 20 := vp_in_nI (by omega) (by omega)
  unfold wp_X7_goOverBits
  rw [h20, nI_pred, nI_clamp (n := δ) (by omega), h21, h22, nI_clamp (n := t) (by omega)]
  refine ⟨hi2, hi2, hi2, hi2, fun α5 e => ?_⟩
  have e' : α5 = uA α 22 δ (nI (s + 2)) := by rw [e, ← nI_succ]; rfl
  clear e
  subst e'
  rw [uA_a (a := 2) (by omega), (hM t ht).1, hk]
  refine ⟨hi, fun h => absurd rfl h, fun _ => ⟨fun _ => ?_, fun h0 => absurd h0 (nI_ne0 (by omega) (by omega))⟩⟩
  rw [nI_pred]
  exact h
theorem gB_val {s : Nat} {x : Int32} (ht : t < nt) (hnt : nt ≤ 16) (hδ : δ < 20) (hk3 : nK N t < 4) (hk : nK N t ≠ 2) (h20 : σ 20 = nI (δ + 1)) (h21 : α 21 δ = nI t) (h22 : α 22 δ = nI s) (hM : NMo N nt α) (h : wb_X7_goOverBits_83 post (nI δ) (nI t) (nI s) (nI (if nK N t = 3 then 1 else 0)) σ (uA α 22 δ (nI (s + 1)))) : wp_X7_goOverBits x σ α post := by
  have hi : vp_in (nI t) 16 := vp_in_nI (by omega) (by omega)
  have hi2 : vp_in (nI δ) 20 := vp_in_nI (by omega) (by omega)
  unfold wp_X7_goOverBits
  rw [h20, nI_pred, nI_clamp (n := δ) (by omega), h21, h22, nI_clamp (n := t) (by omega)]
  refine ⟨hi2, hi2, hi2, hi2, fun α5 e => ?_⟩
  have e' : α5 = uA α 22 δ (nI (s + 1)) := by rw [e, ← nI_succ]; rfl
  clear e
  subst e'
  rw [uA_a (a := 2) (by omega), (hM t ht).1, q_l2, q_eq (by omega) (by omega), q_l3, q_eq (by omega) (by omega)]
  refine ⟨hi, fun _ => ⟨hi, fun h3 => ?_, fun h3 => ?_⟩, fun h => absurd h hk⟩
  · rw [if_neg h3] at h; exact h
  · rw [if_pos h3] at h; exact h
theorem bP {s : Nat} {c : Int32} (ht : t < nt) (hnt : nt ≤ 16) (hδ : δ < 20) (hM : NMo N nt β) (h20 : σ 20 = nI (δ + 1)) (hs : s < 1000) (hc : c = nI (if nK N t = 3 then 1 else 0)) (hh : nK N t = 0 ∨ (nK N t = 1 ∧ ∃ h, β 23 δ = nI h ∧ h ≤ s) ∨ (nK N t = 3 ∧ 0 < s)) (hp : post (upd σ 20 (nI δ)) β) : wb_X7_goOverBits_165 post (nI δ) (nI t) (nI s) c σ β := by
  have hi : vp_in (nI t) 16 := vp_in_nI (by omega) (by omega)
  have hi2 : vp_in (nI δ) 20 := vp_in_nI (by omega) (by omega)
  obtain ⟨e2, _⟩ := hM t ht
  have fin : wb_X7_goOverBits_227 post σ β := by
    intro σ56 e
    subst e
    rw [h20, nI_pred]; exact hp
  unfold wb_X7_goOverBits_165 wb_X7_goOverBits_199
  rw [nI_clamp (n := t) (by omega), nI_clamp (n := δ) (by omega), e2, hc]
  rcases hh with hk | ⟨hk, h, h23, hh⟩ | ⟨hk, h0⟩
  · rw [hk]
    exact ⟨hi, fun _ => ⟨fun _ => fin, fun h => absurd rfl h⟩, fun h => absurd h (by decide)⟩
  · rw [hk, h23, q_le (by omega) (by omega)]
    exact ⟨hi, fun h => absurd rfl h, fun _ => ⟨hi2, fun _ => ⟨fun _ => fin, fun h => absurd rfl h⟩, fun h => absurd hh h⟩⟩
  · rw [hk]
    exact ⟨hi, fun _ => ⟨fun _ => fin, fun _ => ⟨fun _ => fin, fun h => absurd h (nI_ne0 h0 (by omega))⟩⟩, fun h => absurd h (by decide)⟩
theorem bL {s h : Nat} {c : Int32} (hN : NWf N nt) (ht : t < nt) (hnt : nt ≤ 16) (hδ : δ + 1 < 20) (hk : nK N t = 1) (hM : NMo N nt β) (h20 : σ 20 = nI (δ + 1)) (h23 : β 23 δ = nI h) (hs : s < h) (hh : h < 3000) (hC : 0 < nC N t) (hp : post (upd σ 20 (nI (δ + 2))) (psh β (δ + 1) (nI (nP N t 0)))) : wb_X7_goOverBits_165 post (nI δ) (nI t) (nI s) c σ β := by
  have hi : vp_in (nI t) 16 := vp_in_nI (by omega) (by omega)
  have hi2 : vp_in (nI δ) 20 := vp_in_nI (by omega) (by omega)
  obtain ⟨e2, _⟩ := hM t ht
  unfold wb_X7_goOverBits_165
  rw [nI_clamp (n := t) (by omega), nI_clamp (n := δ) (by omega), e2, h23, hk, q_le (by omega) (by omega)]
  exact ⟨hi, fun h => absurd rfl h, fun _ => ⟨hi2, fun h => absurd h (by omega), fun _ => m_partOf hN hM ht hnt hC (m_push h20 hδ hp)⟩⟩
theorem bC {j : Nat} {c : Int32} (hN : NWf N nt) (ht : t < nt) (hnt : nt ≤ 16) (hδ : δ + 1 < 20) (hk : nK N t = 3) (hM : NMo N nt β) (h20 : σ 20 = nI (δ + 1)) (h23 : β 23 δ = nI j) (hj : j < nC N t) (hc : c = nI (if nK N t = 3 then 1 else 0)) (hp : post (upd σ 20 (nI (δ + 2))) (psh β (δ + 1) (nI (nP N t j)))) : wb_X7_goOverBits_165 post (nI δ) (nI t) (nI 0) c σ β := by
  have hi : vp_in (nI t) 16 := vp_in_nI (by omega) (by omega)
  have hi2 : vp_in (nI δ) 20 := vp_in_nI (by omega) (by omega)
  obtain ⟨e2, _⟩ := hM t ht
  unfold wb_X7_goOverBits_165 wb_X7_goOverBits_199
  rw [nI_clamp (n := t) (by omega), nI_clamp (n := δ) (by omega), e2, hk, hc, if_pos hk]
  refine ⟨hi, fun _ => ⟨fun h => absurd h (by decide), fun _ => ⟨fun h => absurd rfl h, fun _ => ⟨hi2, ?_⟩⟩⟩, fun h => absurd h (by decide)⟩
  rw [h23]
  exact m_partOf hN hM ht hnt hj (m_push h20 hδ hp)
end
end MBS
