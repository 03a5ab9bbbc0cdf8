/-! THE REFERENCE over a tale: the steps -/
theorem uA_upA {α : Nat → Nat → Int32} {k i j : Nat} {x : Int32} {f : Nat → Int32} (h : j ≠ k) : uA (upA α j f) k i x = upA (uA α k i x) j f := by
  funext a
  by_cases h1 : a = j
  · subst h1
    rw [upA_s, uA_a h, upA_s]
  · rw [upA_n h1]
    by_cases h2 : a = k
    · subst h2
      funext b
      by_cases h3 : b = i
      · subst h3; rw [uA_s, uA_s]
      · rw [uA_j h3, uA_j h3, upA_n h1]
    · rw [uA_a h2, uA_a h2, upA_n h1]
/-- a mark that still waits for its length -/
def PD (δ : Nat) (σ : Nat → Int32) (α αL : Nat → Nat → Int32) : Prop := (α 25 δ = -1 ∧ αL = α) ∨ ∃ w0, α 25 δ = nI w0 ∧ w0 + 8 ≤ 300 ∧ αL = upA α 17 (pat (α 17) w0 ((σ 16 - nI w0) - 8) 0)
theorem PD.uA {δ : Nat} {σ : Nat → Int32} {α αL : Nat → Nat → Int32} (h : PD δ σ α αL) (x : Int32) : PD δ σ (uA α 22 δ x) (uA αL 22 δ x) := by
  rcases h with ⟨h1, h2⟩ | ⟨w0, h1, h2, h3⟩
  · exact Or.inl ⟨by rw [uA_a (by omega), h1], by rw [h2]⟩
  · refine Or.inr ⟨w0, by rw [uA_a (by omega), h1], h2, ?_⟩
    rw [h3, uA_upA (by omega), uA_a (α := α) (by omega)]
section MT
variable {N : NT} {nt : Nat} {iw : Int32} {t δ tn : Nat} {T : Nat → Int32}
theorem m_seq {σ : Nat → Int32} {α αL : Nat → Nat → Int32} {post : Int32 → (Nat → Int32) → (Nat → Nat → Int32) → Prop} {v3 : Int32} (hδ : δ < 20) (hP : PD δ σ α αL) (h : wb_X7_sequenceOfTale_61 post (nI t) (nI δ) v3 iw σ αL) : wp_X7_sequenceOfTale (nI t) (nI δ) v3 iw σ α post := by
  have hi2 : vp_in (nI δ) 20 := vp_in_nI (by omega) (by omega)
  rcases hP with ⟨h1, h2⟩ | ⟨w0, h1, h2, h3⟩
  · subst h2
    refine ⟨1, fun _ => h, fun _ => ⟨hi2, fun _ => h, fun h3 => ?_⟩⟩
    rw [nI_clamp (by omega), h1] at h3
    exact absurd (by decide) h3
  · have go : ∀ (j k : Nat) (α : Nat → Nat → Int32), k + j = 8 → α 25 δ = nI w0 → wb_X7_sequenceOfTale_61 post (nI t) (nI δ) v3 iw σ (upA α 17 (pat (α 17) w0 ((σ 16 - nI w0) - 8) k)) → wb_X7_sequenceOfTale_3 post (j + 1) (nI t) (nI δ) v3 iw (nI k) σ α := by
      intro j
      induction j with
      | zero =>
        intro k α hk h25 h
        have : k = 8 := by omega
        subst this
        rw [pat_8, upA_id rfl] at h
        refine ⟨fun _ => h, fun h4 => ?_⟩
        rw [q_l8] at h4; exact absurd (by rw [q_le (by omega) (by omega)]; omega) h4
      | succ j ih =>
        intro k α hk h25 h
        refine ⟨fun h4 => ?_, fun _ => ⟨hi2, fun h4 => ?_, fun _ => ⟨hi2, hi2, ?_⟩⟩⟩
        · rw [q_l8, q_le (by omega) (by omega)] at h4; omega
        · rw [nI_clamp (by omega), h25] at h4; exact absurd h4 (nI_pos (by omega))
        · rw [nI_clamp (n := δ) (by omega), h25, nI_add, nI_clamp (n := w0 + k) (by omega)]
          refine ⟨vp_in_nI (by omega) (by omega), fun α7 e => ?_⟩
          subst e
          rw [← nI_succ, q_l7, q_sub (a := 7) (b := k) (by omega)]
          refine ih (k + 1) _ (by omega) (by rw [upA_n (by omega), h25]) ?_
          rw [upA_upA, upA_s]
          have := pat_s (f := α 17) (n0 := w0) (v := (σ 16 - nI w0) - 8) (show k < 8 by omega)
          unfold msk at this
          rw [this]
          exact h
    rw [h3] at h
    exact ⟨9, go 8 0 α rfl h1 h⟩
theorem s_skip {σ : Nat → Int32} {β : Nat → Nat → Int32} {post : Int32 → (Nat → Int32) → (Nat → Nat → Int32) → Prop} {k : Nat} {m : Int32} (hM : NMo N nt β) (hN : NWf N nt) (ht : t < nt) (hnt : nt ≤ 16) (hδ : δ < 20) (hk : k < nC N t) (h23 : β 23 δ = m) (hm : ¬ msk m k = 1) (hp : post 1 σ (uA β 25 δ (-1))) : wb_X7_sequenceOfTale_61 post (nI t) (nI δ) (nI k) iw σ β := by
  have hi : vp_in (nI t) 16 := vp_in_nI (by omega) (by omega)
  have hi2 : vp_in (nI δ) 20 := vp_in_nI (by omega) (by omega)
  have hwf := hN t ht
  have hM1 : NMo N nt (uA β 25 δ (-1)) := hM.uA (by omega)
  obtain ⟨e2, e3, e4, e6, e8, _⟩ := hM1 t ht
  refine ⟨hi2, fun α10 e => ?_⟩
  subst e
  rw [nI_clamp (n := δ) (by omega)]
  show vp_in (nI t) 16 ∧ ((uA β 25 δ (-1)) 6 (nI t).toNatClampNeg ≤ nI k → _) ∧ (¬ (uA β 25 δ (-1)) 6 (nI t).toNatClampNeg ≤ nI k → _)
  rw [nI_clamp (n := t) (by omega), e6, q_le (by omega) (by omega)]
  refine ⟨hi, fun h => absurd h (by omega), fun _ => ⟨hi2, fun _ => hp, fun h => ?_⟩⟩
  have h9 : (uA β 25 δ (-1)) 23 δ = m := by rw [uA_a (by omega), h23]
  rw [← h9] at hm
  exact absurd h hm
theorem s_push {σ : Nat → Int32} {β : Nat → Nat → Int32} {post : Int32 → (Nat → Int32) → (Nat → Nat → Int32) → Prop} {k : Nat} {m : Int32} (hM : NMo N nt β) (hN : NWf N nt) (ht : t < nt) (hnt : nt ≤ 16) (hδ : δ + 1 < 20) (hk : k < nC N t) (h20 : σ 20 = nI (δ + 1)) (h23 : β 23 δ = m) (hm : msk m k = 1) (hp : post 1 (upd σ 20 (nI (δ + 2))) (uA (uA (uA (uA β 25 δ (-1)) 21 (δ + 1) (nI (nP N t k))) 22 (δ + 1) 0) 25 (δ + 1) (-1))) : wb_X7_sequenceOfTale_61 post (nI t) (nI δ) (nI k) iw σ β := by
  have hi : vp_in (nI t) 16 := vp_in_nI (by omega) (by omega)
  have hi2 : vp_in (nI δ) 20 := vp_in_nI (by omega) (by omega)
  have hwf := hN t ht
  have hM1 : NMo N nt (uA β 25 δ (-1)) := hM.uA (by omega)
  obtain ⟨e2, e3, e4, e6, e8, _⟩ := hM1 t ht
  refine ⟨hi2, fun α10 e => ?_⟩
  subst e
  rw [nI_clamp (n := δ) (by omega)]
  show vp_in (nI t) 16 ∧ ((uA β 25 δ (-1)) 6 (nI t).toNatClampNeg ≤ nI k → _) ∧ (¬ (uA β 25 δ (-1)) 6 (nI t).toNatClampNeg ≤ nI k → _)
  rw [nI_clamp (n := t) (by omega), e6, q_le (by omega) (by omega)]
  have h9 : (uA β 25 δ (-1)) 23 δ = m := by rw [uA_a (by omega), h23]
  rw [← h9] at hm
  refine ⟨hi, fun h => absurd h (by omega), fun _ => ⟨hi2, fun h => absurd hm h, fun _ => ?_⟩⟩
  exact m_partOf hN hM1 ht hnt hk (m_push h20 hδ hp)
theorem s_end {σ : Nat → Int32} {β : Nat → Nat → Int32} {post : Int32 → (Nat → Int32) → (Nat → Nat → Int32) → Prop} {a j : Nat} (hM : NMo N nt β) (hN : NWf N nt) (ht : t < nt) (hnt : nt ≤ 16) (hδ : δ < 20) (h20 : σ 20 = nI (δ + 1)) (h24 : β 24 δ = nI a) (ha : a ≤ j) (hj : j ≤ 3) (hp : post 1 (upd σ 20 (nI δ)) (uA β 25 δ (-1))) : wb_X7_sequenceOfTale_61 post (nI t) (nI δ) (nI (nC N t + j)) iw σ β := by
  have hi : vp_in (nI t) 16 := vp_in_nI (by omega) (by omega)
  have hi2 : vp_in (nI δ) 20 := vp_in_nI (by omega) (by omega)
  have hwf := hN t ht
  have hM1 : NMo N nt (uA β 25 δ (-1)) := hM.uA (by omega)
  obtain ⟨e2, e3, e4, e6, e8, _⟩ := hM1 t ht
  have h9 : (uA β 25 δ (-1)) 24 δ = nI a := by rw [uA_a (by omega), h24]
  refine ⟨hi2, fun α10 e => ?_⟩
  have e' : α10 = uA β 25 δ (-1) := by rw [e, nI_clamp (n := δ) (by omega)]; rfl
  clear e
  subst e'
  rw [nI_clamp (n := t) (by omega), nI_clamp (n := δ) (by omega), e6, h9, q_le (by omega) (by omega), q_sub (by omega), q_lt (by omega) (by omega)]
  refine ⟨hi, fun _ => ⟨hi, hi2, fun h => absurd h (by omega), fun _ σ19 e => ?_⟩, fun h => absurd h (by omega)⟩
  subst e
  rw [h20, nI_pred]
  exact hp
theorem s_add {σ : Nat → Int32} {β : Nat → Nat → Int32} {a j w : Nat} {b1 : List Int32} (hiw : iw = 0 ∨ iw = 1) (hM : NMo N nt β) (hN : NWf N nt) (ht : t < nt) (hnt : nt ≤ 16) (hδ : δ + 1 < 20) (h20 : σ 20 = nI (δ + 1)) (h24 : β 24 δ = nI a) (hja : j < a) (ha : a ≤ nA N t) (h16 : σ 16 = nI w)
    (hb : b1 = if j = 0 then bin 2 (nI a - 1) else []) (hr : w + (wl iw (b1 ++ bin 8 0)).length ≤ 300) :
    ∃ α', (∀ a, a < 21 → a ≠ 17 → α' a = β a) ∧ α' 17 = apL (β 17) w (wl iw (b1 ++ bin 8 0)) ∧ (∀ a i, i < δ → α' a i = β a i ∨ a = 17) ∧ (∀ a, a ≠ 17 → a ≠ 25 → α' a δ = β a δ) ∧ α' 25 δ = (if iw = 0 then -1 else nI (w + (wl iw b1).length)) ∧ α' 21 (δ + 1) = nI (nD N t j) ∧ α' 22 (δ + 1) = 0 ∧ α' 25 (δ + 1) = -1 ∧
      ∀ post : Int32 → (Nat → Int32) → (Nat → Nat → Int32) → Prop, post 1 (upd (upd σ 16 (nI (w + (wl iw (b1 ++ bin 8 0)).length))) 20 (nI (δ + 2))) α' → wb_X7_sequenceOfTale_61 post (nI t) (nI δ) (nI (nC N t + j)) iw σ β := by
  have hi : vp_in (nI t) 16 := vp_in_nI (by omega) (by omega)
  have hi2 : vp_in (nI δ) 20 := vp_in_nI (by omega) (by omega)
  have hwf := hN t ht
  have hM1 : NMo N nt (uA β 25 δ (-1)) := hM.uA (by omega)
  obtain ⟨e2, e3, e4, e6, e8, _⟩ := hM1 t ht
  have h9 : (uA β 25 δ (-1)) 24 δ = nI a := by rw [uA_a (by omega), h24]
  rw [wl_app, List.length_append] at hr
  have hD := hwf.2.2.2.2.1 j (by omega)
  refine ⟨uA (uA (uA (upA (uA (upA (uA β 25 δ (-1)) 17 (apL (β 17) w (wl iw b1))) 25 δ (if iw = 0 then -1 else nI (w + (wl iw b1).length))) 17 (apL (β 17) w (wl iw (b1 ++ bin 8 0)))) 21 (δ + 1) (nI (nD N t j))) 22 (δ + 1) 0) 25 (δ + 1) (-1), ?_, ?_, ?_, ?_, ?_, ?_, ?_, uA_s, ?_⟩
  · intro a h1 h2
    rw [uA_a (by omega), uA_a (by omega), uA_a (by omega), upA_n h2, uA_a (by omega), upA_n h2, uA_a (by omega)]
  · rw [uA_a (by omega), uA_a (by omega), uA_a (by omega), upA_s]
  · intro a i h1
    by_cases h2 : a = 17
    · exact Or.inr h2
    · left
      rw [uA_j (by omega), uA_j (by omega), uA_j (by omega), upA_n h2, uA_j (by omega), upA_n h2, uA_j (by omega)]
  · intro a h1 h2
    rw [uA_j (by omega), uA_j (by omega), uA_j (by omega), upA_n h1, uA_a h2, upA_n h1, uA_a h2]
  · rw [uA_j (by omega), uA_j (by omega), uA_j (by omega), upA_n (by omega), uA_s]
  · rw [uA_a (by omega), uA_a (by omega), uA_s]
  · rw [uA_a (by omega), uA_s]
  · intro post hp
    refine ⟨hi2, fun α10 e => ?_⟩
    have e' : α10 = uA β 25 δ (-1) := by rw [e, nI_clamp (n := δ) (by omega)]; rfl
    clear e
    subst e'
    rw [nI_clamp (n := t) (by omega), nI_clamp (n := δ) (by omega), e6, h9, q_le (by omega) (by omega), q_sub (by omega), q_lt (by omega) (by omega)]
    have e9 : nC N t + j - nC N t = j := by omega
    rw [e9]
    have fin : ∀ wd : Nat, wd ≤ 1000 → b1 = bin wd (nI a - 1) → wb_X7_sequenceOfTale_156 post (nI t) (nI δ) iw (nI j) (nI wd) (nI a - 1) σ (uA β 25 δ (-1)) := by
      intro wd hwd eb
      rw [eb, wl_app, List.length_append] at hp
      rw [eb] at hr
      refine m_emit wd w _ _ hwd h16 (by omega) ?_
      rw [uA_a (a := 17) (k := 25) (by omega)]
      have fin2 : ∀ mk : Int32, mk = (if iw = 0 then -1 else nI (w + (wl iw (bin wd (nI a - 1))).length)) → wb_X7_sequenceOfTale_179 post (nI t) iw (nI j) mk (nI δ) (upd σ 16 (nI (w + (wl iw (bin wd (nI a - 1))).length))) (upA (uA β 25 δ (-1)) 17 (apL (β 17) w (wl iw (bin wd (nI a - 1))))) := by
        intro mk emk
        refine ⟨hi2, fun α40 e40 => ?_⟩
        have e41 : α40 = uA (upA (uA β 25 δ (-1)) 17 (apL (β 17) w (wl iw (bin wd (nI a - 1))))) 25 δ mk := by rw [e40, nI_clamp (n := δ) (by omega)]; rfl
        clear e40
        subst e41
        refine m_emit 8 (w + (wl iw (bin wd (nI a - 1))).length) _ _ (by omega) q_us (by omega) ?_
        have e3j : (3 : Int32) * nI t + nI j = nI (3 * t + j) := by rw [q_l3, pk_mul, nI_add]
        rw [e3j, nI_clamp (n := 3 * t + j) (by omega)]
        refine ⟨vp_in_nI (by omega) (by omega), ?_⟩
        have hM2 : NMo N nt (upA (uA (upA (uA β 25 δ (-1)) 17 (apL (β 17) w (wl iw (bin wd (nI a - 1))))) 25 δ mk) 17 (apL (uA (upA (uA β 25 δ (-1)) 17 (apL (β 17) w (wl iw (bin wd (nI a - 1))))) 25 δ mk 17) (w + (wl iw (bin wd (nI a - 1))).length) (wl iw (bin 8 0)))) := (((hM1.upA (by omega)).uA (by omega)).upA (by omega))
        rw [(hM2 t ht).2.2.2.2.2.2 j (by omega)]
        refine m_push (j := δ + 1) (by rw [pk_un (by omega), pk_un (by omega), h20]) hδ ?_
        rw [q_uu, Nat.add_assoc, uA_a (a := 17) (k := 25) (by omega), upA_s, apL_app]
        rw [emk]
        exact hp
      rcases hiw with e | e
      · subst e
        exact ⟨fun _ => fin2 _ rfl, fun h => absurd rfl h⟩
      · subst e
        refine ⟨fun h => absurd h (by decide), fun _ => fin2 _ ?_⟩
        rw [q_us, if_neg (by decide)]
    refine ⟨hi, fun _ => ⟨hi, hi2, fun _ => ⟨hi2, fun h => ?_, fun h => ?_⟩, fun h => absurd hja h⟩, fun h => absurd h (by omega)⟩
    · refine fin 0 (by omega) ?_
      rw [hb, if_neg (fun h2 => h (by rw [h2]; rfl))]; rfl
    · refine fin 2 (by omega) ?_
      rw [show (0 : Int32) = nI 0 from rfl, q_eq (by omega) (by omega)] at h
      rw [hb, if_pos h]
end MT
