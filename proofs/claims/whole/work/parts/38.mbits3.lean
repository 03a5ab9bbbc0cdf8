/-! THE REFERENCE over bits: flags -/
section MBH
variable {N : NT} {nt t δ bn : Nat} {b : Nat → Nat}
theorem b_fl0 (hN : NWf N nt) (ht : t < nt) (hnt : nt ≤ 16) (hδ : δ < 20) {post : (Nat → Int32) → (Nat → Nat → Int32) → Prop} {p' : Nat} {m' : Int32} : ∀ (j k p n : Nat) (m : Int32) (l : List Int32) (σ : Nat → Int32) (α : Nat → Nat → Int32), k + j = nC N t → NMo N nt α → MB bn b σ α → σ 28 = nI p → σ 29 = -1 → p ≤ bn → σ 18 = nI n → α 23 δ = m → n + j < 300 → flR N b bn t j k m p = .inr (p', m', l) →
    wb_X7_headOfBits_20 post 1 (nI t) (nI δ) (nI (nC N t)) (upd (upd σ 28 (nI p')) 18 (nI (n + l.length))) (upA (uA α 23 δ m') 19 (apL (α 19) n l)) → wb_X7_headOfBits_20 post (j + 1) (nI t) (nI δ) (nI k) σ α := by
  have hi : vp_in (nI t) 16 := vp_in_nI (by omega) (by omega)
  have hi2 : vp_in (nI δ) 20 := vp_in_nI (by omega) (by omega)
  have hwf := hN t ht
  intro j
  induction j with
  | zero =>
    intro k p n m l σ α hk hM hB h28 h29 hp h18 h23 hn hf hK
    cases hf
    rw [q_uid h28, List.length_nil, Nat.add_zero, q_uid h18, uA_id h23, apL_nil, upA_id rfl] at hK
    have : k = nC N t := by omega
    subst this; exact hK
  | succ j ih =>
    intro k p n m l σ α hk hM hB h28 h29 hp h18 h23 hn hf hK
    obtain ⟨e2, e3, e4, e6, _⟩ := hM t ht
    have hle : ¬ (α 6 (nI t).toNatClampNeg) ≤ nI k := by
      rw [nI_clamp (by omega), e6, q_le (by omega) (by omega)]; omega
    unfold flR at hf
    by_cases ho : nO N t k = 1
    · rw [if_pos ho] at hf
      cases hv : tkB b bn 1 p 2 with
      | inl q => rw [hv] at hf; cases hf
      | inr x =>
        obtain ⟨p1, v⟩ := x
        rw [hv] at hf
        simp only [] at hf
        cases hr : flR N b bn t j (k + 1) (m ||| (nI v <<< (nI k &&& 31))) p1 with
        | inl q => rw [hr] at hf; cases hf
        | inr y =>
          obtain ⟨p2, m2, l2⟩ := y
          rw [hr] at hf
          cases hf
          refine ⟨hi, fun h => absurd h hle, fun _ => m_isOpt hN hM ht hnt (by omega) (fun _ => ⟨fun h => absurd h (by decide), fun _ => m_take0 (w := 1) hB h28 h29 (by omega) hv ⟨hi2, hi2, fun α35 e => ⟨fun h => absurd h (by decide), fun _ => ?_⟩⟩⟩) (fun h => by omega)⟩
          have e' : α35 = uA α 23 δ (m ||| (nI v <<< (nI k &&& 31))) := by rw [e, nI_clamp (n := δ) (by omega), h23]; rfl
          clear e; subst e'
          refine m_note (n := n) (by rw [pk_un (by omega), h18]) (by omega) ?_
          rw [← nI_succ]
          refine ih (k + 1) p1 (n + 1) _ l2 _ _ (by omega) ((hM.uA (by omega)).uA (by omega)) (hB.cong (by rw [pk_un (by omega), pk_un (by omega)]) (by rw [uA_a (by omega), uA_a (by omega)])) (by rw [pk_un (by omega), q_us]) (by rw [pk_un (by omega), pk_un (by omega), h29]) (tkB_le hv).2.2 q_us (by rw [uA_a (by omega), uA_s]) (by omega) hr ?_
          have ea : upA (uA (uA (uA α 23 δ (m ||| (nI v <<< (nI k &&& 31)))) 19 n (nI v)) 23 δ m') 19 (apL (uA (uA α 23 δ (m ||| (nI v <<< (nI k &&& 31)))) 19 n (nI v) 19) (n + 1) l2) = upA (uA α 23 δ m') 19 (apL (α 19) n (nI v :: l2)) := by
            have e1 : uA (uA α 23 δ (m ||| (nI v <<< (nI k &&& 31)))) 19 n (nI v) 19 = upd (α 19) n (nI v) := by
              show upA _ 19 _ 19 = _
              rw [upA_s, uA_a (by omega)]
            rw [e1, apL_cons]
            funext a
            by_cases h1 : a = 19
            · subst h1; rw [upA_s, upA_s]
            · rw [upA_n h1, upA_n h1]
              funext x
              by_cases h2 : a = 23
              · subst h2
                by_cases h3 : x = δ
                · subst h3; rw [uA_s, uA_s]
                · rw [uA_j h3, uA_j h3, uA_a (by omega), uA_j h3]
              · rw [uA_a h2, uA_a h2, uA_a h1, uA_a h2]
          have es : upd (upd (upd (upd σ 28 (nI p1)) 18 (nI (n + 1))) 28 (nI p')) 18 (nI (n + 1 + l2.length)) = upd (upd σ 28 (nI p')) 18 (nI (n + (nI v :: l2).length)) := by
            have : n + 1 + l2.length = n + (nI v :: l2).length := by rw [List.length_cons]; omega
            rw [this]
            funext x
            by_cases h1 : x = 18
            · subst h1; rw [q_us, q_us]
            · rw [pk_un h1, pk_un h1]
              by_cases h2 : x = 28
              · subst h2; rw [q_us, q_us]
              · rw [pk_un h2, pk_un h1, pk_un h2, pk_un h2]
          rw [ea, es]
          exact hK
    · rw [if_neg ho] at hf
      refine ⟨hi, fun h => absurd h hle, fun _ => m_isOpt hN hM ht hnt (by omega) (fun h => absurd h ho) (fun _ => ⟨fun _ => ⟨hi2, hi2, fun α35 e => ⟨fun _ => ?_, fun h => absurd rfl h⟩⟩, fun h => absurd rfl h⟩)⟩
      have e' : α35 = uA α 23 δ (m ||| (1 <<< (nI k &&& 31))) := by rw [e, nI_clamp (n := δ) (by omega), h23]; rfl
      clear e; subst e'
      rw [← nI_succ]
      refine ih (k + 1) p n _ l _ _ (by omega) (hM.uA (by omega)) (hB.cong rfl (uA_a (by omega))) h28 h29 hp h18 uA_s (by omega) hf ?_
      rw [uA_uA, uA_a (a := 19) (by omega)]
      exact hK
end MBH
