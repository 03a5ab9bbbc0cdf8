/-! THE REFERENCE over bits: leaves -/
def MB (bn : Nat) (b : Nat → Nat) (σ : Nat → Int32) (α : Nat → Nat → Int32) : Prop := σ 16 = nI bn ∧ (∀ i, i < bn → α 17 i = nI (b i)) ∧ bn ≤ 240 ∧ ∀ i, b i ≤ 1
theorem MB.cong {bn : Nat} {b : Nat → Nat} {σ σ' : Nat → Int32} {α α' : Nat → Nat → Int32} (h : MB bn b σ α) (h1 : σ' 16 = σ 16) (h2 : α' 17 = α 17) : MB bn b σ' α' := ⟨by rw [h1, h.1], by rw [h2]; exact h.2.1, h.2.2⟩
section MBL
variable {σ : Nat → Int32} {α : Nat → Nat → Int32} {bn : Nat} {b : Nat → Nat}
theorem m_take0 {post : Int32 → (Nat → Int32) → (Nat → Nat → Int32) → Prop} {p w p' v : Nat} (hB : MB bn b σ α) (h28 : σ 28 = nI p) (h29 : σ 29 = -1) (hw : w ≤ 11) (hv : tkB b bn w p (2 ^ w) = .inr (p', v)) (hp : post (nI v) (upd σ 28 (nI p')) α) : wp_X7_take (nI w) σ α post := by
  obtain ⟨h16, hb, hbn, hb1⟩ := hB
  have hfit : ¬ bn < p + w ∧ p' = p + w ∧ v = nmB b w p 0 := by
    unfold tkB at hv
    split at hv
    · cases hv
    · split at hv
      · cases hv; exact ⟨by assumption, rfl, rfl⟩
      · cases hv
  obtain ⟨hfit, e1, e2⟩ := hfit
  subst e1 e2
  refine ⟨fun _ => ⟨fun _ => ?_, fun h => ?_⟩, fun h => absurd (by rw [h29]; decide) h⟩
  · have go : ∀ (j i acc q : Nat) (σ : Nat → Int32), i + j = w → acc < 2 ^ i → σ 28 = nI q → q + j ≤ bn → post (nI (nmB b j q acc)) (upd σ 28 (nI (q + j))) α → wb_X7_take_36 post (j + 1) (nI w) (nI acc) (nI i) σ α := by
      intro j
      induction j with
      | zero =>
        intro i acc q σ hi hacc h28 hq hp
        refine ⟨fun _ => ?_, fun h => ?_⟩
        · rw [Nat.add_zero, q_uid h28] at hp; exact hp
        · rw [q_le (by omega) (by omega)] at h; omega
      | succ j ih =>
        intro i acc q σ hi hacc h28 hq hp
        have h11 : 2 ^ i ≤ 2 ^ 11 := Nat.pow_le_pow_right (by omega) (by omega)
        have hbq := hb1 q
        refine ⟨fun h => ?_, fun _ => ?_⟩
        · rw [q_le (by omega) (by omega)] at h; omega
        · rw [h28, nI_clamp (by omega)]
          refine ⟨vp_in_nI (by omega) (by omega), fun σ7 e => ?_⟩
          subst e
          rw [hb q (by omega), q_l2, pk_mul, nI_add, ← nI_succ, ← nI_succ]
          refine ih (i + 1) _ (q + 1) _ (by omega) (by rw [Nat.pow_succ]; omega) q_us (by omega) ?_
          rw [q_uu]
          have : q + 1 + j = q + (j + 1) := by omega
          rw [this]; exact hp
    exact ⟨w + 1, go w 0 0 p σ (by omega) (by omega) h28 (by omega) hp⟩
  · rw [h28, h16, nI_add, q_le (by omega) (by omega)] at h; omega
theorem m_take1 {post : Int32 → (Nat → Int32) → (Nat → Nat → Int32) → Prop} {p w q : Nat} (hB : MB bn b σ α) (h28 : σ 28 = nI p) (h29 : σ 29 = -1) (hpn : p ≤ bn) (hw : w ≤ 11) (hv : tkB b bn w p (2 ^ w) = .inl q) (hp : post 0 (upd σ 29 (nI q)) α) : wp_X7_take (nI w) σ α post := by
  obtain ⟨h16, hb, hbn, hb1⟩ := hB
  have hfit : bn < p + w ∧ q = bn := by
    unfold tkB at hv
    split at hv
    · cases hv; exact ⟨by assumption, rfl⟩
    · have := nmB_lt b hb1 w p 0
      rw [if_pos (by omega)] at hv; cases hv
  obtain ⟨hfit, e⟩ := hfit
  subst e
  refine ⟨fun _ => ⟨fun h => ?_, fun _ σ3 e => ?_⟩, fun h => absurd (by rw [h29]; decide) h⟩
  · rw [h28, h16, nI_add, q_le (by omega) (by omega)] at h; omega
  · subst e; rw [h16]; exact hp
theorem m_take2 {post : Int32 → (Nat → Int32) → (Nat → Nat → Int32) → Prop} {q : Nat} {x : Int32} (h29 : σ 29 = nI q) (hq : q < 1000) (hp : post 0 σ α) : wp_X7_take x σ α post := by
  refine ⟨fun h => absurd h (by rw [h29]; exact nI_pos (by omega)), fun _ => hp⟩
theorem m_tkB0 {post : Int32 → (Nat → Int32) → (Nat → Nat → Int32) → Prop} {p w bd p' v : Nat} (hB : MB bn b σ α) (h28 : σ 28 = nI p) (h29 : σ 29 = -1) (hw : w ≤ 11) (hbd : bd ≤ 4096) (hv : tkB b bn w p bd = .inr (p', v)) (hp : post (nI v) (upd σ 28 (nI p')) α) : wp_X7_takeBelow (nI w) (nI bd) σ α post := by
  have h2 := nmB_lt b hB.2.2.2 w p 0
  have h11 : 2 ^ w ≤ 2 ^ 11 := Nat.pow_le_pow_right (by omega) (by omega)
  have hl := tkB_le hv
  have hv' : tkB b bn w p (2 ^ w) = .inr (p', v) := by
    unfold tkB at hv ⊢
    split at hv
    · cases hv
    · rw [if_neg (by assumption), if_pos (by omega)]
      split at hv
      · exact hv
      · cases hv
  have h29' : (upd σ 28 (nI p')) 29 = -1 := by rw [pk_un (by omega), h29]
  refine m_take0 hB h28 h29 hw hv' ⟨fun h => absurd h (by rw [h29']; decide), fun _ => ⟨fun _ => ?_, fun h => absurd (by rw [q_lt (by omega) (by omega)]; exact hl.1) h⟩⟩
  intro σ8 e
  rw [q_uid rfl] at e
  subst e
  exact ⟨fun _ => hp, fun h => absurd (by rw [h29']; decide) h⟩
theorem m_tkB1 {p w bd q : Nat} (hB : MB bn b σ α) (h28 : σ 28 = nI p) (h29 : σ 29 = -1) (hpn : p ≤ bn) (hw : w ≤ 11) (hbd : bd ≤ 4096) (hv : tkB b bn w p bd = .inl q) : ∃ p2, ∀ post : Int32 → (Nat → Int32) → (Nat → Nat → Int32) → Prop, post 0 (upd (upd σ 28 (nI p2)) 29 (nI q)) α → wp_X7_takeBelow (nI w) (nI bd) σ α post := by
  have hbn := hB.2.2.1
  have h2 := nmB_lt b hB.2.2.2 w p 0
  have h11 : 2 ^ w ≤ 2 ^ 11 := Nat.pow_le_pow_right (by omega) (by omega)
  by_cases hlt : bn < p + w
  · have eq : q = bn := by unfold tkB at hv; rw [if_pos hlt] at hv; cases hv; rfl
    subst eq
    refine ⟨p, fun post hp => m_take1 hB h28 h29 hpn hw (q := q) (by unfold tkB; rw [if_pos hlt]) ?_⟩
    rw [q_uid h28] at hp
    refine ⟨fun _ σ8 e => ?_, fun h => absurd (by rw [q_us]; exact nI_pos' (by omega)) h⟩
    rw [q_uid rfl] at e
    subst e
    exact ⟨fun h => absurd h (by rw [q_us]; exact nI_pos (by omega)), fun _ => hp⟩
  · have hv' : tkB b bn w p (2 ^ w) = .inr (p + w, nmB b w p 0) := by
      unfold tkB; rw [if_neg hlt, if_pos (by omega)]
    unfold tkB at hv
    rw [if_neg hlt] at hv
    split at hv
    · cases hv
    · cases hv
      rename_i hnb
      have h29' : (upd σ 28 (nI (p + w))) 29 = -1 := by rw [pk_un (by omega), h29]
      refine ⟨p + w, fun post hp => m_take0 hB h28 h29 hw hv' ⟨fun h => absurd h (by rw [h29']; decide), fun _ => ⟨fun h => absurd h (by rw [q_lt (by omega) (by omega)]; exact hnb), fun _ σ8 e => ?_⟩⟩⟩
      subst e
      rw [h28]
      exact ⟨fun h => absurd h (by rw [q_us]; exact nI_pos (by omega)), fun _ => hp⟩
theorem m_note {post : (Nat → Int32) → (Nat → Nat → Int32) → Prop} {n : Nat} {x : Int32} (h18 : σ 18 = nI n) (hn : n < 300) (hp : post (upd σ 18 (nI (n + 1))) (uA α 19 n x)) : wp_X7_note x σ α post := by
  unfold wp_X7_note
  rw [h18, nI_clamp (by omega)]
  refine ⟨vp_in_nI (by omega) (by omega), fun α2 e σ4 e2 => ?_⟩
  subst e e2
  rw [nI_succ] at hp
  exact hp
end MBL
/-- other things stay -/
def FBR (σ : Nat → Int32) (α : Nat → Nat → Int32) (σ' : Nat → Int32) (α' : Nat → Nat → Int32) : Prop := (∀ k, k ≠ 18 → k ≠ 20 → k ≠ 28 → k ≠ 29 → σ' k = σ k) ∧ (∀ a, a < 21 → a ≠ 19 → α' a = α a)
theorem FBR.trans {σ σ1 σ2 : Nat → Int32} {α α1 α2 : Nat → Nat → Int32} (h1 : FBR σ α σ1 α1) (h2 : FBR σ1 α1 σ2 α2) : FBR σ α σ2 α2 :=
  ⟨fun k e1 e2 e3 e4 => (h2.1 k e1 e2 e3 e4).trans (h1.1 k e1 e2 e3 e4), fun a e1 e2 => (h2.2 a e1 e2).trans (h1.2 a e1 e2)⟩
theorem FBR.refl {σ : Nat → Int32} {α : Nat → Nat → Int32} : FBR σ α σ α := ⟨fun _ _ _ _ _ => rfl, fun _ _ _ => rfl⟩
