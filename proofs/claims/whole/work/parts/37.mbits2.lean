/-! THE REFERENCE over bits: flags -/
section MBH
variable {N : NT} {nt t δ bn : Nat} {b : Nat → Nat}
/-- flags, once wrong -/
theorem b_flx (hN : NWf N nt) (ht : t < nt) (hnt : nt ≤ 16) (hδ : δ < 20) {q : Nat} (hq : q < 1000) : ∀ (j k n : Nat) (σ : Nat → Int32) (α : Nat → Nat → Int32), k + j = nC N t → NMo N nt α → σ 18 = nI n → σ 29 = nI q → n + j < 300 → ∃ σ' α', FBR σ α σ' α' ∧ σ' 29 = nI q ∧ ∀ post : (Nat → Int32) → (Nat → Nat → Int32) → Prop, post σ' α' → wb_X7_headOfBits_20 post (j + 1) (nI t) (nI δ) (nI k) σ α := by
  have hi : vp_in (nI t) 16 := vp_in_nI (by omega) (by omega)
  have hi2 : vp_in (nI δ) 20 := vp_in_nI (by omega) (by omega)
  have hwf := hN t ht
  intro j
  induction j with
  | zero =>
    intro k n σ α hk hM h18 h29 hn
    obtain ⟨e2, e3, e4, e6, _⟩ := hM t ht
    refine ⟨upd σ 18 (nI (n + 1)), uA (uA α 27 δ (nI n)) 19 n (nI 0), ⟨fun k z1 _ _ _ => pk_un z1, fun a z1 z2 => by rw [uA_a z2, uA_a (by omega)]⟩, by rw [pk_un (by omega), h29], fun post hp => ⟨hi, fun _ => ⟨hi2, fun α15 e => ?_⟩, fun h => ?_⟩⟩
    · have e' : α15 = uA α 27 δ (nI n) := by rw [e, nI_clamp (by omega), h18]; rfl
      clear e; subst e'
      exact m_note h18 (by omega) hp
    · rw [nI_clamp (by omega), e6, q_le (by omega) (by omega)] at h; omega
  | succ j ih =>
    intro k n σ α hk hM h18 h29 hn
    obtain ⟨e2, e3, e4, e6, _⟩ := hM t ht
    have hle : ¬ (α 6 (nI t).toNatClampNeg) ≤ nI k := by
      rw [nI_clamp (by omega), e6, q_le (by omega) (by omega)]; omega
    by_cases ho : nO N t k = 1
    · obtain ⟨σ', α', h1, h2, h3⟩ := ih (k + 1) (n + 1) (upd σ 18 (nI (n + 1))) (uA (uA α 23 δ ((α 23 δ) ||| (0 <<< (nI k &&& 31)))) 19 n 0) (by omega) ((hM.uA (by omega)).uA (by omega)) q_us (by rw [pk_un (by omega), h29]) (by omega)
      refine ⟨σ', α', FBR.trans ⟨fun k z1 _ _ _ => pk_un z1, fun a z1 z2 => by rw [uA_a z2, uA_a (by omega)]⟩ h1, h2, fun post hp => ⟨hi, fun h => absurd h hle, fun _ => m_isOpt hN hM ht hnt (by omega) (fun _ => ⟨fun h => absurd h (by decide), fun _ => m_take2 h29 hq ⟨hi2, hi2, fun α35 e => ⟨fun h => absurd h (by decide), fun _ => ?_⟩⟩⟩) (fun h => by omega)⟩⟩
      have e' : α35 = uA α 23 δ ((α 23 δ) ||| (0 <<< (nI k &&& 31))) := by rw [e, nI_clamp (n := δ) (by omega)]; rfl
      clear e; subst e'
      refine m_note h18 (by omega) ?_
      rw [← nI_succ]
      exact h3 post hp
    · obtain ⟨σ', α', h1, h2, h3⟩ := ih (k + 1) n σ (uA α 23 δ ((α 23 δ) ||| (1 <<< (nI k &&& 31)))) (by omega) (hM.uA (by omega)) h18 h29 (by omega)
      refine ⟨σ', α', FBR.trans ⟨fun k z1 _ _ _ => rfl, fun a z1 z2 => uA_a (by omega)⟩ h1, h2, fun post hp => ⟨hi, fun h => absurd h hle, fun _ => m_isOpt hN hM ht hnt (by omega) (fun h => absurd h ho) (fun _ => ⟨fun _ => ⟨hi2, hi2, fun α35 e => ⟨fun _ => ?_, fun h => absurd rfl h⟩⟩, fun h => absurd rfl h⟩)⟩⟩
      have e' : α35 = uA α 23 δ ((α 23 δ) ||| (1 <<< (nI k &&& 31))) := by rw [e, nI_clamp (n := δ) (by omega)]; rfl
      clear e; subst e'
      rw [← nI_succ]
      exact h3 post hp
theorem b_fl1 (hN : NWf N nt) (ht : t < nt) (hnt : nt ≤ 16) (hδ : δ < 20) {q : Nat} : ∀ (j k p n : Nat) (m : Int32) (σ : Nat → Int32) (α : Nat → Nat → Int32), k + j = nC N t → NMo N nt α → MB bn b σ α → σ 28 = nI p → σ 29 = -1 → p ≤ bn → σ 18 = nI n → α 23 δ = m → n + j < 300 → flR N b bn t j k m p = .inl q →
    ∃ σ' α', FBR σ α σ' α' ∧ σ' 29 = nI q ∧ ∀ post : (Nat → Int32) → (Nat → Nat → Int32) → Prop, post σ' α' → wb_X7_headOfBits_20 post (j + 1) (nI t) (nI δ) (nI k) σ α := by
  have hi : vp_in (nI t) 16 := vp_in_nI (by omega) (by omega)
  have hi2 : vp_in (nI δ) 20 := vp_in_nI (by omega) (by omega)
  have hwf := hN t ht
  intro j
  induction j with
  | zero => intro k p n m σ α hk hM hB h28 h29 hp h18 h23 hn hf; cases hf
  | succ j ih =>
    intro k p n m σ α hk hM hB h28 h29 hp h18 h23 hn hf
    obtain ⟨e2, e3, e4, e6, _⟩ := hM t ht
    have hle : ¬ (α 6 (nI t).toNatClampNeg) ≤ nI k := by
      rw [nI_clamp (by omega), e6, q_le (by omega) (by omega)]; omega
    have hbn := hB.2.2.1
    unfold flR at hf
    by_cases ho : nO N t k = 1
    · rw [if_pos ho] at hf
      cases hv : tkB b bn 1 p 2 with
      | inl q1 =>
        rw [hv] at hf
        cases hf
        have hq : q < 1000 := by
          unfold tkB at hv
          split at hv
          · cases hv; omega
          · split at hv
            · cases hv
            · cases hv; omega
        obtain ⟨σ', α', h1, h2, h3⟩ := b_flx hN ht hnt hδ hq j (k + 1) (n + 1) (upd (upd σ 29 (nI q)) 18 (nI (n + 1))) (uA (uA α 23 δ ((α 23 δ) ||| (0 <<< (nI k &&& 31)))) 19 n 0) (by omega) ((hM.uA (by omega)).uA (by omega)) q_us (by rw [pk_un (by omega), q_us]) (by omega)
        refine ⟨σ', α', FBR.trans ⟨fun k z1 _ _ z4 => by rw [pk_un z1, pk_un z4], fun a z1 z2 => by rw [uA_a z2, uA_a (by omega)]⟩ h1, h2, fun post hp' => ⟨hi, fun h => absurd h hle, fun _ => m_isOpt hN hM ht hnt (by omega) (fun _ => ⟨fun h => absurd h (by decide), fun _ => m_take1 (w := 1) hB h28 h29 hp (by omega) hv ⟨hi2, hi2, fun α35 e => ⟨fun h => absurd h (by decide), fun _ => ?_⟩⟩⟩) (fun h => by omega)⟩⟩
        have e' : α35 = uA α 23 δ ((α 23 δ) ||| (0 <<< (nI k &&& 31))) := by rw [e, nI_clamp (n := δ) (by omega)]; rfl
        clear e; subst e'
        refine m_note (n := n) (by rw [pk_un (by omega), h18]) (by omega) ?_
        rw [← nI_succ]
        exact h3 post hp'
      | inr x =>
        obtain ⟨p1, v⟩ := x
        rw [hv] at hf
        simp only [] at hf
        cases hr : flR N b bn t j (k + 1) (m ||| (nI v <<< (nI k &&& 31))) p1 with
        | inr y => rw [hr] at hf; cases hf
        | inl q1 =>
          rw [hr] at hf
          cases hf
          obtain ⟨σ', α', h1, h2, h3⟩ := ih (k + 1) p1 (n + 1) _ (upd (upd σ 28 (nI p1)) 18 (nI (n + 1))) (uA (uA α 23 δ (m ||| (nI v <<< (nI k &&& 31)))) 19 n (nI v)) (by omega) ((hM.uA (by omega)).uA (by omega)) (hB.cong (by rw [pk_un (by omega), pk_un (by omega)]) (by rw [uA_a (by omega), uA_a (by omega)])) (by rw [pk_un (by omega), q_us]) (by rw [pk_un (by omega), pk_un (by omega), h29]) (tkB_le hv).2.2 q_us (by rw [uA_a (by omega), uA_s]) (by omega) hr
          refine ⟨σ', α', FBR.trans ⟨fun k z1 _ z3 _ => by rw [pk_un z1, pk_un z3], fun a z1 z2 => by rw [uA_a z2, uA_a (by omega)]⟩ h1, h2, fun post hp' => ⟨hi, fun h => absurd h hle, fun _ => m_isOpt hN hM ht hnt (by omega) (fun _ => ⟨fun h => absurd h (by decide), fun _ => m_take0 (w := 1) hB h28 h29 (by omega) hv ⟨hi2, hi2, fun α35 e => ⟨fun h => absurd h (by decide), fun _ => ?_⟩⟩⟩) (fun h => by omega)⟩⟩
          have e' : α35 = uA α 23 δ (m ||| (nI v <<< (nI k &&& 31))) := by rw [e, nI_clamp (n := δ) (by omega), h23]; rfl
          clear e; subst e'
          refine m_note (n := n) (by rw [pk_un (by omega), h18]) (by omega) ?_
          rw [← nI_succ]
          exact h3 post hp'
    · rw [if_neg ho] at hf
      obtain ⟨σ', α', h1, h2, h3⟩ := ih (k + 1) p n _ σ (uA α 23 δ (m ||| (1 <<< (nI k &&& 31)))) (by omega) (hM.uA (by omega)) (hB.cong rfl (uA_a (by omega))) h28 h29 hp h18 uA_s (by omega) hf
      refine ⟨σ', α', FBR.trans ⟨fun k _ _ _ _ => rfl, fun a z1 z2 => uA_a (by omega)⟩ h1, h2, fun post hp' => ⟨hi, fun h => absurd h hle, fun _ => m_isOpt hN hM ht hnt (by omega) (fun h => absurd h ho) (fun _ => ⟨fun _ => ⟨hi2, hi2, fun α35 e => ⟨fun _ => ?_, fun h => absurd rfl h⟩⟩, fun h => absurd rfl h⟩)⟩⟩
      have e' : α35 = uA α 23 δ (m ||| (1 <<< (nI k &&& 31))) := by rw [e, nI_clamp (n := δ) (by omega), h23]; rfl
      clear e; subst e'
      rw [← nI_succ]
      exact h3 post hp'
end MBH
