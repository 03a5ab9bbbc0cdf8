/-! THE REFERENCE over bits: the head of a value, the steps of a sequence -/
section MBV
variable {N : NT} {nt t δ bn kn : Nat} {b : Nat → Nat}
def hdV (N : NT) (t v : Nat) : Int32 := nlo N t + nI v
theorem v83_0 {p p1 v n : Nat} {σ : Nat → Int32} {β : Nat → Nat → Int32} {post : (Nat → Int32) → (Nat → Nat → Int32) → Prop} (hN : NWf N nt) (ht : t < nt) (hnt : nt ≤ 16) (hδ : δ < 20) (hM : NMo N nt β) (hB : MB bn b σ β) (h28 : σ 28 = nI p) (h29 : σ 29 = -1) (h18 : σ 18 = nI n) (hn : n < 300) (hv : tkB b bn (nW N t) p (nV N t) = .inr (p1, v))
    (hp : wb_X7_goOverBits_165 post (nI δ) (nI t) (nI 0) (nI (if nK N t = 3 then 1 else 0)) (upd (upd σ 28 (nI p1)) 18 (nI (n + 1))) (uA (uA β 23 δ (hdV N t v)) 19 n (hdV N t v))) : wb_X7_goOverBits_83 post (nI δ) (nI t) (nI 0) (nI (if nK N t = 3 then 1 else 0)) σ β := by
  have hi : vp_in (nI t) 16 := vp_in_nI (by omega) (by omega)
  have hi2 : vp_in (nI δ) 20 := vp_in_nI (by omega) (by omega)
  have hwf := hN t ht
  have hsp := hN.span ht
  have hW : nW N t ≤ 11 := wdN_le _
  obtain ⟨e2, e3, e4, e6, _⟩ := hM t ht
  have fin : ∀ x : Int32, x = hdV N t v → wb_X7_goOverBits_154 post (nI δ) (nI t) (nI 0) (nI (if nK N t = 3 then 1 else 0)) x (nI δ) (upd σ 28 (nI p1)) β := by
    intro x ex
    refine ⟨hi2, fun α67 e => ?_⟩
    have e' : α67 = uA β 23 δ (hdV N t v) := by rw [e, nI_clamp (n := δ) (by omega), ex]; rfl
    clear e; subst e'
    rw [nI_clamp (n := δ) (by omega), uA_s]
    exact ⟨hi2, m_note (n := n) (by rw [pk_un (by omega), h18]) hn hp⟩
  refine ⟨fun h => absurd rfl h, fun _ => m_widthOf hN hM ht hnt ⟨fun h0 => ⟨hi, hi, ?_⟩, fun h0 => ⟨hi, ?_⟩⟩⟩
  · by_cases h3 : nK N t = 3
    · rw [if_pos h3] at h0; exact absurd h0 (by decide)
    · rw [nI_clamp (n := t) (by omega), e3, e4 h3, hsp.1]
      refine m_tkB0 hB h28 h29 hW (by omega) hv ⟨fun _ => ⟨hi, ?_⟩, fun h => absurd h0 h⟩
      rw [nI_clamp (n := t) (by omega), e3]
      exact fin _ (Int32.add_comm _ _)
  · by_cases h3 : nK N t = 3
    · have hnv : nV N t = nC N t := by unfold nV; rw [if_pos h3]
      rw [nI_clamp (n := t) (by omega), e6, ← hnv]
      refine m_tkB0 hB h28 h29 hW (by omega) hv ⟨fun h => absurd h h0, fun _ => fin _ ?_⟩
      unfold hdV
      rw [(hwf.2.2.2.2.2.2.2.2 h3).1, nI_add, Nat.zero_add]
    · rw [if_neg h3] at h0; exact absurd rfl h0
theorem v83_1 {p q n : Nat} {σ : Nat → Int32} {β : Nat → Nat → Int32} (hN : NWf N nt) (ht : t < nt) (hnt : nt ≤ 16) (hδ : δ < 20) (hM : NMo N nt β) (hB : MB bn b σ β) (h28 : σ 28 = nI p) (h29 : σ 29 = -1) (hpn : p ≤ bn) (h18 : σ 18 = nI n) (hn : n < 300) (hv : tkB b bn (nW N t) p (nV N t) = .inl q) :
    ∃ p2, ∀ post : (Nat → Int32) → (Nat → Nat → Int32) → Prop, wb_X7_goOverBits_165 post (nI δ) (nI t) (nI 0) (nI (if nK N t = 3 then 1 else 0)) (upd (upd (upd σ 28 (nI p2)) 29 (nI q)) 18 (nI (n + 1))) (uA (uA β 23 δ (nlo N t)) 19 n (nlo N t)) → wb_X7_goOverBits_83 post (nI δ) (nI t) (nI 0) (nI (if nK N t = 3 then 1 else 0)) σ β := by
  have hi : vp_in (nI t) 16 := vp_in_nI (by omega) (by omega)
  have hi2 : vp_in (nI δ) 20 := vp_in_nI (by omega) (by omega)
  have hwf := hN t ht
  have hsp := hN.span ht
  have hW : nW N t ≤ 11 := wdN_le _
  obtain ⟨e2, e3, e4, e6, _⟩ := hM t ht
  obtain ⟨p2, hp2⟩ := m_tkB1 hB h28 h29 hpn hW (by omega : nV N t ≤ 4096) hv
  refine ⟨p2, fun post hp => ?_⟩
  have fin : ∀ x : Int32, x = nlo N t → wb_X7_goOverBits_154 post (nI δ) (nI t) (nI 0) (nI (if nK N t = 3 then 1 else 0)) x (nI δ) (upd (upd σ 28 (nI p2)) 29 (nI q)) β := by
    intro x ex
    refine ⟨hi2, fun α67 e => ?_⟩
    have e' : α67 = uA β 23 δ (nlo N t) := by rw [e, nI_clamp (n := δ) (by omega), ex]; rfl
    clear e; subst e'
    rw [nI_clamp (n := δ) (by omega), uA_s]
    exact ⟨hi2, m_note (n := n) (by rw [pk_un (by omega), pk_un (by omega), h18]) hn hp⟩
  refine ⟨fun h => absurd rfl h, fun _ => m_widthOf hN hM ht hnt ⟨fun h0 => ⟨hi, hi, ?_⟩, fun h0 => ⟨hi, ?_⟩⟩⟩
  · by_cases h3 : nK N t = 3
    · rw [if_pos h3] at h0; exact absurd h0 (by decide)
    · rw [nI_clamp (n := t) (by omega), e3, e4 h3, hsp.1]
      refine hp2 _ ⟨fun _ => ⟨hi, ?_⟩, fun h => absurd h0 h⟩
      rw [nI_clamp (n := t) (by omega), e3]
      exact fin _ (Int32.zero_add _)
  · by_cases h3 : nK N t = 3
    · have hnv : nV N t = nC N t := by unfold nV; rw [if_pos h3]
      rw [nI_clamp (n := t) (by omega), e6, ← hnv]
      refine hp2 _ ⟨fun h => absurd h h0, fun _ => fin _ ?_⟩
      rw [(hwf.2.2.2.2.2.2.2.2 h3).1]; rfl
    · rw [if_neg h3] at h0; exact absurd rfl h0
section
variable {post : (Nat → Int32) → (Nat → Nat → Int32) → Prop} {σ : Nat → Int32} {α β : Nat → Nat → Int32}
theorem q_seqB {v3 v4 : Int32} (hδ : δ < 20) (hP : α 25 δ = -1 ∨ ∃ mk len, α 25 δ = nI mk ∧ α 26 δ = nI len ∧ σ 28 = nI (mk + len) ∧ mk < 400 ∧ len < 400) (h : wb_X7_sequenceOfBits_40 post (nI t) (nI δ) v3 v4 σ α) : wp_X7_sequenceOfBits (nI t) (nI δ) v3 v4 σ α post := by
  have hi2 : vp_in (nI δ) 20 := vp_in_nI (by omega) (by omega)
  unfold wp_X7_sequenceOfBits
  rw [nI_clamp (n := δ) (by omega)]
  refine ⟨hi2, fun _ => h, fun h0 => ?_⟩
  rcases hP with h1 | ⟨mk, len, h1, h2, h3, h4, h5⟩
  · rw [h1] at h0; exact absurd (by decide) h0
  · rw [h1, h2, h3, q_subeq (by omega) (by omega) (by omega)]
    exact ⟨hi2, hi2, fun _ => h, fun h => absurd rfl h⟩
theorem q_seqX {v3 v4 : Int32} {mk len p : Nat} (hδ : δ < 20) (h1 : α 25 δ = nI mk) (h2 : α 26 δ = nI len) (h3 : σ 28 = nI p) (h4 : mk < 400) (h5 : len < 400) (hp : p < 400) (hne : p ≠ mk + len) (h : post (upd σ 29 (nI mk)) α) : wp_X7_sequenceOfBits (nI t) (nI δ) v3 v4 σ α post := by
  have hi2 : vp_in (nI δ) 20 := vp_in_nI (by omega) (by omega)
  unfold wp_X7_sequenceOfBits
  rw [nI_clamp (n := δ) (by omega), h1, h2, h3, q_subeq (by omega) (by omega) (by omega)]
  refine ⟨hi2, fun h0 => absurd h0 (nI_pos (by omega)), fun _ => ⟨hi2, hi2, fun h => absurd h hne, fun _ => ⟨hi2, fun σ7 e => ?_⟩⟩⟩
  subst e; exact h
theorem s40_skip {k : Nat} {m v4 : Int32} (hM : NMo N nt β) (hN : NWf N nt) (ht : t < nt) (hnt : nt ≤ 16) (hδ : δ < 20) (hk : k < nC N t) (h23 : β 23 δ = m) (hm : ¬ msk m k = 1) (hp : post σ (uA β 25 δ (-1))) : wb_X7_sequenceOfBits_40 post (nI t) (nI δ) (nI k) v4 σ β := by
  have hi : vp_in (nI t) 16 := vp_in_nI (by omega) (by omega)
  have hi2 : vp_in (nI δ) 20 := vp_in_nI (by omega) (by omega)
  have hwf := hN t ht
  have hM1 : NMo N nt (uA β 25 δ (-1)) := hM.uA (by omega)
  obtain ⟨e2, e3, e4, e6, e8, _⟩ := hM1 t ht
  refine ⟨hi2, fun α10 e => ?_⟩
  have e' : α10 = uA β 25 δ (-1) := by rw [e, nI_clamp (n := δ) (by omega)]; rfl
  clear e; subst e'
  rw [nI_clamp (n := t) (by omega), nI_clamp (n := δ) (by omega), e6, q_le (by omega) (by omega)]
  have h9 : (uA β 25 δ (-1)) 23 δ = m := by rw [uA_a (by omega), h23]
  rw [← h9] at hm
  exact ⟨hi, fun h => absurd h (by omega), fun _ => ⟨hi2, fun _ => hp, fun h => absurd h hm⟩⟩
theorem s40_push {k : Nat} {m v4 : Int32} (hM : NMo N nt β) (hN : NWf N nt) (ht : t < nt) (hnt : nt ≤ 16) (hδ : δ + 1 < 20) (hk : k < nC N t) (h20 : σ 20 = nI (δ + 1)) (h23 : β 23 δ = m) (hm : msk m k = 1) (hp : post (upd σ 20 (nI (δ + 2))) (psh (uA β 25 δ (-1)) (δ + 1) (nI (nP N t k)))) : wb_X7_sequenceOfBits_40 post (nI t) (nI δ) (nI k) v4 σ β := by
  have hi : vp_in (nI t) 16 := vp_in_nI (by omega) (by omega)
  have hi2 : vp_in (nI δ) 20 := vp_in_nI (by omega) (by omega)
  have hwf := hN t ht
  have hM1 : NMo N nt (uA β 25 δ (-1)) := hM.uA (by omega)
  obtain ⟨e2, e3, e4, e6, e8, _⟩ := hM1 t ht
  refine ⟨hi2, fun α10 e => ?_⟩
  have e' : α10 = uA β 25 δ (-1) := by rw [e, nI_clamp (n := δ) (by omega)]; rfl
  clear e; subst e'
  rw [nI_clamp (n := t) (by omega), nI_clamp (n := δ) (by omega), e6, q_le (by omega) (by omega)]
  have h9 : (uA β 25 δ (-1)) 23 δ = m := by rw [uA_a (by omega), h23]
  rw [← h9] at hm
  exact ⟨hi, fun h => absurd h (by omega), fun _ => ⟨hi2, fun h => absurd hm h, fun _ => m_partOf hN hM1 ht hnt hk (m_push h20 hδ hp)⟩⟩
/-- behind the parts, no number of additions to be read -/
theorem s40_158 {j : Nat} {v4 : Int32} (hM : NMo N nt β) (hN : NWf N nt) (ht : t < nt) (hnt : nt ≤ 16) (hδ : δ < 20) (hj : j ≤ 8) (hc : 0 < j ∨ β 24 δ = nI 0) (hp : wb_X7_sequenceOfBits_158 post (nI t) (nI δ) v4 (nI j) σ (uA β 25 δ (-1))) : wb_X7_sequenceOfBits_40 post (nI t) (nI δ) (nI (nC N t + j)) v4 σ β := by
  have hi : vp_in (nI t) 16 := vp_in_nI (by omega) (by omega)
  have hi2 : vp_in (nI δ) 20 := vp_in_nI (by omega) (by omega)
  have hwf := hN t ht
  have hM1 : NMo N nt (uA β 25 δ (-1)) := hM.uA (by omega)
  obtain ⟨e2, e3, e4, e6, e8, _⟩ := hM1 t ht
  refine ⟨hi2, fun α10 e => ?_⟩
  have e' : α10 = uA β 25 δ (-1) := by rw [e, nI_clamp (n := δ) (by omega)]; rfl
  clear e; subst e'
  rw [nI_clamp (n := t) (by omega), nI_clamp (n := δ) (by omega), e6, q_le (by omega) (by omega), q_sub (by omega)]
  have e9 : nC N t + j - nC N t = j := by omega
  rw [e9]
  refine ⟨hi, fun _ => ⟨hi, fun _ => hp, fun h0 => ⟨hi2, fun _ => hp, fun h1 => ?_⟩⟩, fun h => absurd h (by omega)⟩
  rcases hc with hc | hc
  · exact absurd h0 (nI_ne0 hc (by omega))
  · rw [uA_a (by omega), hc] at h1; exact absurd (by decide) h1
/-- the number of additions, good -/
theorem s40_cnt0 {p p1 v ci : Nat} (hkn : kn ≤ 3) (hM : NMo N nt β) (hN : NWf N nt) (ht : t < nt) (hnt : nt ≤ 16) (hδ : δ < 20) (hB : MB bn b σ β) (h28 : σ 28 = nI p) (h29 : σ 29 = -1) (h24 : β 24 δ = nI 1) (h27 : β 27 δ = nI ci) (hci : ci < 300) (hv : tkB b bn 2 p (nA N t) = .inr (p1, v))
    (hp : wb_X7_sequenceOfBits_158 post (nI t) (nI δ) (nI kn) (nI 0) (upd σ 28 (nI p1)) (uA (uA (uA β 25 δ (-1)) 24 δ (nI (v + 1))) 19 ci (nI (min kn (v + 1))))) : wb_X7_sequenceOfBits_40 post (nI t) (nI δ) (nI (nC N t)) (nI kn) σ β := by
  have hi : vp_in (nI t) 16 := vp_in_nI (by omega) (by omega)
  have hi2 : vp_in (nI δ) 20 := vp_in_nI (by omega) (by omega)
  have hwf := hN t ht
  have hM1 : NMo N nt (uA β 25 δ (-1)) := hM.uA (by omega)
  obtain ⟨e2, e3, e4, e6, e8, _⟩ := hM1 t ht
  have hvA := (tkB_le hv).1
  refine ⟨hi2, fun α10 e => ?_⟩
  have e' : α10 = uA β 25 δ (-1) := by rw [e, nI_clamp (n := δ) (by omega)]; rfl
  clear e; subst e'
  rw [nI_clamp (n := t) (by omega), nI_clamp (n := δ) (by omega), e6, q_le (by omega) (by omega), q_sub (by omega), e8]
  rw [Nat.sub_self, uA_a (a := 24) (by omega), h24]
  refine ⟨hi, fun _ => ⟨hi, fun h => absurd rfl h, fun _ => ⟨hi2, fun h => absurd h (by decide), fun _ => ⟨hi, m_tkB0 (w := 2) (hB.cong rfl (uA_a (by omega))) h28 h29 (by omega) (by omega) hv ⟨hi2, fun α23 e => ?_⟩⟩⟩⟩, fun h => absurd (Nat.le_refl _) h⟩
  have e' : α23 = uA (uA β 25 δ (-1)) 24 δ (nI (v + 1)) := by rw [e, nI_succ]; rfl
  clear e; subst e'
  rw [uA_s, q_le (by omega) (by omega), uA_a (a := 27) (by omega), uA_a (a := 27) (by omega), h27]
  have fin : ∀ x : Int32, x = nI (min kn (v + 1)) → wb_X7_sequenceOfBits_157 post (nI t) (nI δ) (nI kn) (nI 0) x (nI ci) (upd σ 28 (nI p1)) (uA (uA β 25 δ (-1)) 24 δ (nI (v + 1))) := by
    intro x ex
    refine ⟨vp_in_nI hci (by omega), fun α70 e => ?_⟩
    have e' : α70 = uA (uA (uA β 25 δ (-1)) 24 δ (nI (v + 1))) 19 ci (nI (min kn (v + 1))) := by rw [e, nI_clamp (n := ci) (by omega), ex]; rfl
    clear e; subst e'
    exact hp
  exact ⟨hi2, hi2, fun h => fin _ (by rw [Nat.min_eq_left (by omega)]), fun h => ⟨hi2, fin _ (by rw [Nat.min_eq_right (by omega)])⟩⟩
/-- the number of additions, wrong -/
theorem s40_cnt1 {p q ci : Nat} (hkn : kn ≤ 3) (hM : NMo N nt β) (hN : NWf N nt) (ht : t < nt) (hnt : nt ≤ 16) (hδ : δ < 20) (hB : MB bn b σ β) (h28 : σ 28 = nI p) (h29 : σ 29 = -1) (hpn : p ≤ bn) (h20 : σ 20 = nI (δ + 1)) (h24 : β 24 δ = nI 1) (h27 : β 27 δ = nI ci) (hci : ci < 300) (hv : tkB b bn 2 p (nA N t) = .inl q) (hq : q < 1000) :
    ∃ σ' α', FBR σ β σ' α' ∧ σ' 29 = nI q ∧ ∀ post : (Nat → Int32) → (Nat → Nat → Int32) → Prop, post σ' α' → wb_X7_sequenceOfBits_40 post (nI t) (nI δ) (nI (nC N t)) (nI kn) σ β := by
  have hi : vp_in (nI t) 16 := vp_in_nI (by omega) (by omega)
  have hi2 : vp_in (nI δ) 20 := vp_in_nI (by omega) (by omega)
  have hwf := hN t ht
  have hM1 : NMo N nt (uA β 25 δ (-1)) := hM.uA (by omega)
  obtain ⟨e2, e3, e4, e6, e8, _⟩ := hM1 t ht
  obtain ⟨p2, hp2⟩ := m_tkB1 (w := 2) (hB.cong (σ' := σ) (α' := uA β 25 δ (-1)) rfl (uA_a (by omega))) h28 h29 hpn (by omega) (by omega : nA N t ≤ 4096) hv
  refine ⟨upd (upd (upd σ 28 (nI p2)) 29 (nI q)) 20 (nI δ), uA (uA (uA β 25 δ (-1)) 24 δ (nI 1)) 19 ci (nI (min kn 1)), ⟨fun k _ z2 z3 z4 => by rw [pk_un z2, pk_un z4, pk_un z3], fun a z1 z2 => by rw [uA_a z2, uA_a (by omega), uA_a (by omega)]⟩, by rw [pk_un (by omega), q_us], fun post hp => ⟨hi2, fun α10 e => ?_⟩⟩
  have e' : α10 = uA β 25 δ (-1) := by rw [e, nI_clamp (n := δ) (by omega)]; rfl
  clear e; subst e'
  rw [nI_clamp (n := t) (by omega), nI_clamp (n := δ) (by omega), e6, q_le (by omega) (by omega), q_sub (by omega), e8]
  rw [Nat.sub_self, uA_a (a := 24) (by omega), h24]
  refine ⟨hi, fun _ => ⟨hi, fun h => absurd rfl h, fun _ => ⟨hi2, fun h => absurd h (by decide), fun _ => ⟨hi, hp2 _ ⟨hi2, fun α23 e => ?_⟩⟩⟩⟩, fun h => absurd (Nat.le_refl _) h⟩
  have e' : α23 = uA (uA β 25 δ (-1)) 24 δ (nI 1) := by rw [e]; rfl
  clear e; subst e'
  rw [uA_s, q_le (by omega) (by omega), uA_a (a := 27) (by omega), uA_a (a := 27) (by omega), h27]
  have fin : ∀ x : Int32, x = nI (min kn 1) → wb_X7_sequenceOfBits_157 post (nI t) (nI δ) (nI kn) (nI 0) x (nI ci) (upd (upd σ 28 (nI p2)) 29 (nI q)) (uA (uA β 25 δ (-1)) 24 δ (nI 1)) := by
    intro x ex
    refine ⟨vp_in_nI hci (by omega), fun α70 e => ?_⟩
    have e' : α70 = uA (uA (uA β 25 δ (-1)) 24 δ (nI 1)) 19 ci (nI (min kn 1)) := by rw [e, nI_clamp (n := ci) (by omega), ex]; rfl
    clear e; subst e'
    have e176 : wb_X7_sequenceOfBits_176 post (upd (upd σ 28 (nI p2)) 29 (nI q)) (uA (uA (uA β 25 δ (-1)) 24 δ (nI 1)) 19 ci (nI (min kn 1))) := by
      intro σ72 e
      have e' : σ72 = upd (upd (upd σ 28 (nI p2)) 29 (nI q)) 20 (nI δ) := by rw [e, pk_un (by omega), pk_un (by omega), h20, nI_pred]
      clear e; subst e'
      exact hp
    refine ⟨hi2, fun _ => e176, fun _ => ⟨fun h => absurd h (by rw [q_us]; exact nI_pos (by omega)), fun _ => e176⟩⟩
  exact ⟨hi2, hi2, fun h => fin _ (by rw [Nat.min_eq_left (by omega)]), fun h => ⟨hi2, fin _ (by rw [Nat.min_eq_right (by omega)])⟩⟩
end
end MBV
