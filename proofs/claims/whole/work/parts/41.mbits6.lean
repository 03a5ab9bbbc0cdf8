/-! THE REFERENCE over bits: additions; the run -/
def RunB (post : Int32 → (Nat → Int32) → (Nat → Nat → Int32) → Prop) (kn : Nat) (σ : Nat → Int32) (α : Nat → Nat → Int32) : Prop := ∃ n, wb_X7_walkBits_25 post n (nI kn) σ α
def TR (post : Int32 → (Nat → Int32) → (Nat → Nat → Int32) → Prop) (kn bn δ n : Nat) (res : RT) (σ : Nat → Int32) (α : Nat → Nat → Int32) : Prop := (∀ p' l, res = .inr (p', l) → p' ≤ bn → ∀ σ' α', MSR δ n l σ α σ' α' → σ' 20 = nI δ → σ' 28 = nI p' → σ' 29 = -1 → RunB post kn σ' α') ∧ (∀ q, res = .inl q → q ≤ bn → ∀ σ' α', FBR σ α σ' α' → σ' 29 = nI q → RunB post kn σ' α')
def FFB (N : NT) (nt bn : Nat) (b : Nat → Nat) (δ t s p n : Nat) (σ : Nat → Int32) (α : Nat → Nat → Int32) : Prop := MB bn b σ α ∧ σ 20 = nI (δ + 1) ∧ σ 28 = nI p ∧ σ 29 = -1 ∧ σ 18 = nI n ∧ α 21 δ = nI t ∧ α 22 δ = nI s ∧ NMo N nt α
theorem MSR.mono {δ δ2 n : Nat} {l : List Int32} {σ σ1 : Nat → Int32} {α α1 : Nat → Nat → Int32} (hδ : δ ≤ δ2) (h : MSR δ2 n l σ α σ1 α1) : MSR δ n l σ α σ1 α1 := ⟨h.1, h.2.1, h.2.2.1, h.2.2.2.1, fun a j h1 h2 => h.2.2.2.2 a j h1 (by omega)⟩
section MBR
variable {post : Int32 → (Nat → Int32) → (Nat → Nat → Int32) → Prop} {N : NT} {nt bn kn : Nat} {b : Nat → Nat}
theorem TR.go {δ n p1 : Nat} {r : RT} {b1 : List Int32} {k : Nat → RT} {σ σ1 : Nat → Int32} {α α1 : Nat → Nat → Int32} (h : TR post kn bn δ n (bnd r k) σ α) (e : r = .inr (p1, b1)) (hS : MSR δ n b1 σ α σ1 α1) : TR post kn bn δ (n + b1.length) (k p1) σ1 α1 := by
  subst e
  refine ⟨fun p' bs hk hp' σ' α' hS2 h20 h28 h29 => ?_, fun q hk hq' σ' α' hF h29 => ?_⟩
  · exact h.1 p' (b1 ++ bs) (by simp only [bnd, hk]) hp' σ' α' (hS.trans (Nat.le_refl _) hS2) h20 h28 h29
  · exact h.2 q (by simp only [bnd, hk]) hq' σ' α' (hS.fb.trans hF) h29
theorem TR.no {δ n q : Nat} {r : RT} {k : Nat → RT} {σ : Nat → Int32} {α : Nat → Nat → Int32} (h : TR post kn bn δ n (bnd r k) σ α) (e : r = .inl q) (hq : q ≤ bn) : ∀ σ' α', FBR σ α σ' α' → σ' 29 = nI q → RunB post kn σ' α' := by
  subst e
  exact h.2 q rfl hq
theorem TR.mv {δ n : Nat} {r : RT} {σ σ1 : Nat → Int32} {α α1 : Nat → Nat → Int32} (h : TR post kn bn δ n r σ α) (hS : MSR δ n [] σ α σ1 α1) : TR post kn bn δ n r σ1 α1 :=
  ⟨fun p' bs hk hp' σ' α' hS2 h20 h28 h29 => h.1 p' bs hk hp' σ' α' (hS.trans (Nat.le_refl _) hS2) h20 h28 h29, fun q hk hq' σ' α' hF h29 => h.2 q hk hq' σ' α' (hS.fb.trans hF) h29⟩
theorem runB_step {δ : Nat} {σ σ' : Nat → Int32} {α α' : Nat → Nat → Int32} (h20 : σ 20 = nI (δ + 1)) (hδ : δ < 20) (h29 : σ 29 = -1) (h : ∀ post' : (Nat → Int32) → (Nat → Nat → Int32) → Prop, post' σ' α' → wp_X7_goOverBits (nI kn) σ α post') (hr : RunB post kn σ' α') : RunB post kn σ α := by
  obtain ⟨n, hn⟩ := hr
  refine ⟨n + 1, fun h0 => ?_, fun _ => ⟨fun h1 => absurd h1 (by rw [h29]; decide), fun _ => h _ hn⟩⟩
  rw [h20] at h0; exact absurd h0 (nI_nle (by omega) (by omega))
def FCB (N : NT) (nt bn : Nat) (b : Nat → Nat) (δ t s p n c : Nat) (σ : Nat → Int32) (α : Nat → Nat → Int32) : Prop := MB bn b σ α ∧ σ 20 = nI (δ + 2) ∧ σ 28 = nI p ∧ σ 29 = -1 ∧ σ 18 = nI n ∧ α 21 δ = nI t ∧ α 22 δ = nI s ∧ NMo N nt α ∧ α 21 (δ + 1) = nI c ∧ α 22 (δ + 1) = nI 0 ∧ α 25 (δ + 1) = -1
def VRB (post : Int32 → (Nat → Int32) → (Nat → Nat → Int32) → Prop) (N : NT) (nt bn kn : Nat) (b : Nat → Nat) (d : Nat) : Prop := ∀ (t δ p n : Nat) (σ : Nat → Int32) (α : Nat → Nat → Int32), t < nt → t < d → δ + t < 16 → p ≤ bn → n + nL N t ≤ 240 → FFB N nt bn b δ t 0 p n σ α → α 25 δ = -1 → TR post kn bn δ n (rV N b bn kn d t p) σ α → RunB post kn σ α
theorem run_childB {d δ t s p n c : Nat} {σ : Nat → Int32} {α : Nat → Nat → Int32} (ih : VRB post N nt bn kn b d) (hc : c < nt) (hd : c < d) (hδ : δ + 1 + c < 16) (hp : p ≤ bn) (hn : n + nL N c ≤ 240) (hF : FCB N nt bn b δ t s p n c σ α)
    (hb : ∀ q, rV N b bn kn d c p = .inl q → q ≤ bn → ∀ σ' α', FBR σ α σ' α' → σ' 29 = nI q → RunB post kn σ' α')
    (hk : ∀ p' l, rV N b bn kn d c p = .inr (p', l) → p' ≤ bn → ∀ σ2 α2, FFB N nt bn b δ t s p' (n + l.length) σ2 α2 → (∀ a, a ≠ 19 → α2 a δ = α a δ) → MSR δ n l σ α σ2 α2 → RunB post kn σ2 α2) : RunB post kn σ α := by
  obtain ⟨h1, h3, h4, h5, h5', h6, h7, h8, h9, h10, h11⟩ := hF
  refine ih c (δ + 1) p n σ α hc hd hδ hp hn ⟨h1, h3, h4, h5, h5', h9, h10, h8⟩ h11 ⟨fun p' l hr hp' σ2 α2 hS h20 h28 h29 => ?_, hb⟩
  have hS0 : MSR δ n l σ α σ2 α2 := hS.mono (by omega)
  obtain ⟨b1, b2, b3, b4, b5⟩ := hS
  refine hk p' l hr hp' σ2 α2 ⟨h1.cong (b1 16 (by omega) (by omega) (by omega) (by omega)) (b2 17 (by omega) (by omega)), h20, h28, h29, b4, ?_, ?_, ?_⟩ (fun a ha => b5 a δ ha (by omega)) hS0
  · rw [b5 21 δ (by omega) (by omega), h6]
  · rw [b5 22 δ (by omega) (by omega), h7]
  · exact h8.cong (fun a ha => b2 a (by omega) (by omega))
theorem psh_FCB {δ t s p n c : Nat} {σ : Nat → Int32} {β : Nat → Nat → Int32} (hB : MB bn b σ β) (h28 : σ 28 = nI p) (h29 : σ 29 = -1) (h18 : σ 18 = nI n) (h21 : β 21 δ = nI t) (h22 : β 22 δ = nI s) (hM : NMo N nt β) : FCB N nt bn b δ t s p n c (upd σ 20 (nI (δ + 2))) (psh β (δ + 1) (nI c)) :=
  ⟨hB.cong (pk_un (by omega)) (psh_a (by omega)), q_us, by rw [pk_un (by omega), h28], by rw [pk_un (by omega), h29], by rw [pk_un (by omega), h18], by rw [psh_j (by omega), h21], by rw [psh_j (by omega), h22], hM.cong (fun a ha => psh_a (by omega)), psh_21, psh_22, psh_25⟩
theorem psh_MSR {δ n : Nat} {c : Int32} {σ0 σ : Nat → Int32} {α β : Nat → Nat → Int32} (h18 : σ 18 = nI n) (h0 : ∀ k, k ≠ 18 → k ≠ 20 → k ≠ 28 → k ≠ 29 → σ k = σ0 k) (h1 : ∀ a, a < 21 → β a = α a) (h2 : ∀ a j, j < δ → β a j = α a j) : MSR δ n [] σ0 α (upd σ 20 (nI (δ + 2))) (psh β (δ + 1) c) := by
  refine ⟨fun k z1 z2 z3 z4 => by rw [pk_un z2, h0 k z1 z2 z3 z4], fun a ha _ => by rw [psh_a ha, h1 a ha], ?_, by rw [pk_un (by omega), h18]; rfl, fun a j _ hj => by rw [psh_j (by omega), h2 a j hj]⟩
  rw [psh_a (by omega), h1 19 (by omega), apL_nil]
theorem pop_RunB {δ n p : Nat} {σ0 σ : Nat → Int32} {α0 α : Nat → Nat → Int32} (hp : p ≤ bn) (hQ : TR post kn bn δ n (.inr (p, [])) σ0 α) (h18 : σ 18 = nI n) (h28 : σ 28 = nI p) (h29 : σ 29 = -1) (h0 : ∀ k, k ≠ 18 → k ≠ 20 → k ≠ 28 → k ≠ 29 → σ k = σ0 k) (h1 : ∀ a, a < 21 → α0 a = α a) (h2 : ∀ a j, j < δ → α0 a j = α a j) : RunB post kn (upd σ 20 (nI δ)) α0 := by
  refine hQ.1 p [] rfl hp _ _ ?_ q_us (by rw [pk_un (by omega), h28]) (by rw [pk_un (by omega), h29])
  exact ⟨fun k z1 z2 z3 z4 => by rw [pk_un z2, h0 k z1 z2 z3 z4], fun a ha _ => h1 a ha, by rw [apL_nil, h1 19 (by omega)], by rw [pk_un (by omega), h18]; rfl, fun a j _ hj => h2 a j hj⟩
section
variable {t δ : Nat} {postS : (Nat → Int32) → (Nat → Nat → Int32) → Prop} {σ : Nat → Int32} {β : Nat → Nat → Int32}
theorem e_pop {a j : Nat} {v4 : Int32} (hδ : δ < 20) (h20 : σ 20 = nI (δ + 1)) (h24 : β 24 δ = nI a) (haj : a ≤ j) (hj : j < 1000) (hp : postS (upd σ 20 (nI δ)) β) : wb_X7_sequenceOfBits_158 postS (nI t) (nI δ) v4 (nI j) σ β := by
  have hi2 : vp_in (nI δ) 20 := vp_in_nI (by omega) (by omega)
  unfold wb_X7_sequenceOfBits_158
  rw [nI_clamp (n := δ) (by omega), h24, q_le (by omega) (by omega)]
  refine ⟨hi2, fun _ σ72 e => ?_, fun h => absurd haj h⟩
  subst e
  rw [h20, nI_pred]; exact hp
theorem e_add {a j p p1 len : Nat} (hN : NWf N nt) (ht : t < nt) (hnt : nt ≤ 16) (hM : NMo N nt β) (hB : MB bn b σ β) (hδ : δ + 1 < 20) (hkn : kn ≤ 3) (h20 : σ 20 = nI (δ + 1)) (h28 : σ 28 = nI p) (h29 : σ 29 = -1) (h24 : β 24 δ = nI a) (hja : j < a) (haA : a ≤ nA N t) (hjk : j < kn) (hv : tkB b bn 8 p 256 = .inr (p1, len))
    (hp : postS (upd (upd σ 28 (nI p1)) 20 (nI (δ + 2))) (psh (uA (uA β 25 δ (nI p1)) 26 δ (nI len)) (δ + 1) (nI (nD N t j)))) : wb_X7_sequenceOfBits_158 postS (nI t) (nI δ) (nI kn) (nI j) σ β := by
  have hi2 : vp_in (nI δ) 20 := vp_in_nI (by omega) (by omega)
  have hwf := hN t ht
  unfold wb_X7_sequenceOfBits_158
  rw [nI_clamp (n := δ) (by omega), h24, q_le (by omega) (by omega), q_le (by omega) (by omega)]
  refine ⟨hi2, fun h => absurd h (by omega), fun _ => ⟨fun _ => m_take0 (w := 8) hB h28 h29 (by omega) hv ⟨fun h => absurd h (by omega), fun _ => ⟨hi2, fun α56 e => ⟨hi2, fun α59 e2 => ?_⟩⟩⟩, fun h => absurd (by rw [h29]; decide) h⟩⟩
  have e' : α59 = uA (uA β 25 δ (nI p1)) 26 δ (nI len) := by rw [e2, e, q_us]; rfl
  clear e2 e; subst e'
  have e3j : (3 : Int32) * nI t + nI j = nI (3 * t + j) := by rw [q_l3, pk_mul, nI_add]
  rw [e3j, nI_clamp (n := 3 * t + j) (by omega)]
  have hM1 : NMo N nt (uA (uA β 25 δ (nI p1)) 26 δ (nI len)) := (hM.uA (by omega)).uA (by omega)
  rw [(hM1 t ht).2.2.2.2.2.2 j (by omega)]
  exact ⟨vp_in_nI (by omega) (by omega), m_push (j := δ + 1) (by rw [pk_un (by omega), h20]) hδ hp⟩
theorem e_skip {a j p p1 len : Nat} (hB : MB bn b σ β) (hδ : δ + 1 < 20) (hkn : kn ≤ 3) (h28 : σ 28 = nI p) (h29 : σ 29 = -1) (h24 : β 24 δ = nI a) (hja : j < a) (ha : a ≤ 8) (hjk : kn ≤ j) (hv : tkB b bn 8 p 256 = .inr (p1, len))
    (hp : postS (if bn < p1 + len then upd (upd σ 28 (nI p1)) 29 (nI bn) else upd σ 28 (nI (p1 + len))) β) : wb_X7_sequenceOfBits_158 postS (nI t) (nI δ) (nI kn) (nI j) σ β := by
  have hi2 : vp_in (nI δ) 20 := vp_in_nI (by omega) (by omega)
  have hl := tkB_le hv
  have hbn := hB.2.2.1
  unfold wb_X7_sequenceOfBits_158
  rw [nI_clamp (n := δ) (by omega), h24, q_le (by omega) (by omega), q_le (by omega) (by omega)]
  refine ⟨hi2, fun h => absurd h (by omega), fun _ => ⟨fun _ => m_take0 (w := 8) hB h28 h29 (by omega) hv ⟨fun _ => ⟨fun h => ?_, fun _ => ⟨fun h => ?_, fun h σ3 e => ?_⟩⟩, fun h => absurd hjk h⟩, fun h => absurd (by rw [h29]; decide) h⟩⟩
  · rw [pk_un (by omega), h29] at h; exact absurd h (by decide)
  · rw [q_us, pk_un (by omega), hB.1, nI_add, q_le (by omega) (by omega)] at h
    rw [if_neg (by omega)] at hp
    refine ⟨fun h2 => ?_, fun _ σ6 e => ?_⟩
    · rw [pk_un (by omega), h29] at h2; exact absurd h2 (by decide)
    · subst e
      rw [q_us, nI_add, q_uu]; exact hp
  · rw [q_us, pk_un (by omega), hB.1, nI_add, q_le (by omega) (by omega)] at h
    rw [if_pos (by omega)] at hp
    subst e
    rw [pk_un (by omega), hB.1]
    refine ⟨fun _ σ6 e => ?_, fun h2 => ?_⟩
    · subst e
      rw [pk_un (by omega), q_us, show (0 : Int32) = nI 0 from rfl, nI_add, Nat.add_zero, q_uid (by rw [pk_un (by omega), q_us])]
      exact hp
    · rw [q_us] at h2; exact absurd (nI_pos' (by omega)) h2
theorem e_bad {a j p q : Nat} (hN : NWf N nt) (ht : t < nt) (hnt : nt ≤ 16) (hM : NMo N nt β) (hB : MB bn b σ β) (hδ : δ + 1 < 20) (hkn : kn ≤ 3) (h20 : σ 20 = nI (δ + 1)) (h28 : σ 28 = nI p) (h29 : σ 29 = -1) (hpn : p ≤ bn) (h24 : β 24 δ = nI a) (hja : j < a) (haA : a ≤ nA N t) (hv : tkB b bn 8 p 256 = .inl q) (hq : q < 1000) :
    ∃ σ' α', FBR σ β σ' α' ∧ σ' 29 = nI q ∧ ∀ post : (Nat → Int32) → (Nat → Nat → Int32) → Prop, post σ' α' → wb_X7_sequenceOfBits_158 post (nI t) (nI δ) (nI kn) (nI j) σ β := by
  have hi2 : vp_in (nI δ) 20 := vp_in_nI (by omega) (by omega)
  have hwf := hN t ht
  have hbn := hB.2.2.1
  by_cases hjk : j < kn
  · refine ⟨upd (upd σ 29 (nI q)) 20 (nI (δ + 2)), psh (uA (uA β 25 δ (nI p)) 26 δ 0) (δ + 1) (nI (nD N t j)), ⟨fun k _ z2 _ z4 => by rw [pk_un z2, pk_un z4], fun a z1 z2 => by rw [psh_a z1, uA_a (by omega), uA_a (by omega)]⟩, by rw [pk_un (by omega), q_us], fun post hp => ?_⟩
    unfold wb_X7_sequenceOfBits_158
    rw [nI_clamp (n := δ) (by omega), h24, q_le (by omega) (by omega), q_le (by omega) (by omega)]
    refine ⟨hi2, fun h => absurd h (by omega), fun _ => ⟨fun _ => m_take1 (w := 8) hB h28 h29 hpn (by omega) hv ⟨fun h => absurd h (by omega), fun _ => ⟨hi2, fun α56 e => ⟨hi2, fun α59 e2 => ?_⟩⟩⟩, fun h => absurd (by rw [h29]; decide) h⟩⟩
    have e' : α59 = uA (uA β 25 δ (nI p)) 26 δ 0 := by rw [e2, e, pk_un (by omega), h28]; rfl
    clear e2 e; subst e'
    have e3j : (3 : Int32) * nI t + nI j = nI (3 * t + j) := by rw [q_l3, pk_mul, nI_add]
    rw [e3j, nI_clamp (n := 3 * t + j) (by omega)]
    have hM1 : NMo N nt (uA (uA β 25 δ (nI p)) 26 δ 0) := (hM.uA (by omega)).uA (by omega)
    rw [(hM1 t ht).2.2.2.2.2.2 j (by omega)]
    exact ⟨vp_in_nI (by omega) (by omega), m_push (j := δ + 1) (by rw [pk_un (by omega), h20]) hδ hp⟩
  · refine ⟨upd σ 29 (nI q), β, ⟨fun k _ _ _ z4 => pk_un z4, fun a z1 z2 => rfl⟩, q_us, fun post hp => ?_⟩
    unfold wb_X7_sequenceOfBits_158
    rw [nI_clamp (n := δ) (by omega), h24, q_le (by omega) (by omega), q_le (by omega) (by omega)]
    refine ⟨hi2, fun h => absurd h (by omega), fun _ => ⟨fun _ => m_take1 (w := 8) hB h28 h29 hpn (by omega) hv ⟨fun _ => ⟨fun _ => ⟨fun _ σ6 e => ?_, fun h2 => ?_⟩, fun h2 => ?_⟩, fun h => absurd (by omega) h⟩, fun h => absurd (by rw [h29]; decide) h⟩⟩
    · subst e
      rw [pk_un (by omega), h28, show (0 : Int32) = nI 0 from rfl, nI_add, Nat.add_zero, q_uid (by rw [pk_un (by omega), h28])]
      exact hp
    · rw [q_us] at h2; exact absurd (nI_pos' (by omega)) h2
    · rw [q_us] at h2; exact absurd (nI_pos' (by omega)) h2
end
end MBR
