/-! THE REFERENCE over a tale: all of it -/
theorem MS.refl {δ w : Nat} {σ : Nat → Int32} {α : Nat → Nat → Int32} (h : σ 16 = nI w) : MS δ w [] σ α σ α := ⟨fun _ _ _ _ _ => rfl, fun _ _ _ => rfl, apL_nil.symm, h, fun _ _ _ _ => rfl⟩
section MY
variable {post : Int32 → (Nat → Int32) → (Nat → Nat → Int32) → Prop} {N : NT} {nt : Nat} {iw : Int32} {tn : Nat} {T : Nat → Int32}
theorem run_parts {t δ d a : Nat} {m : Int32} (hiw : iw = 0 ∨ iw = 1) (hN : NWf N nt) (ht : t < nt) (hnt : nt ≤ 16) (hk : nK N t = 2) (hd : t < d + 1) (hδ : δ + t < 16) (ha : a ≤ nA N t) (ih : VR post iw N nt tn T d) : ∀ (j k p w : Nat) (σ : Nat → Int32) (α : Nat → Nat → Int32), k + j = nC N t → p ≤ 300 → FF N nt tn T δ t (k + 1) p w σ α → α 23 δ = m → α 24 δ = nI a → α 25 δ = -1 →
    TQ post iw δ w (bnd (ptT (vT N T tn d) N t m j k p) fun p3 => bnd (.inr (p3, if nI a ≤ 0 then [] else bin 2 (nI a - 1))) fun p4 => adT (vT N T tn d) N t a 0 p4) σ α → RunT post iw 1 σ α := by
  have hwf := hN t ht
  intro j
  induction j with
  | zero =>
    intro k p w σ α hj hp hF h23 h24 h25 hQ
    have hQ1 := hQ.go (p1 := p) (b1 := []) hiw rfl (by rw [wl_nil]; exact MS.refl hQ.2.1)
    simp only [wl_nil, List.length_nil, Nat.add_zero] at hQ1
    have e : (if nI a ≤ 0 then [] else bin 2 (nI a - 1)) = (if 0 = 0 ∧ 0 < a then bin 2 (nI a - 1) else []) := by
      by_cases h0 : a = 0
      · subst h0; rw [if_pos (by decide), if_neg (by omega)]
      · rw [if_neg (by rw [show (0 : Int32) = nI 0 from rfl, q_le (by omega) (by omega)]; omega), if_pos ⟨rfl, by omega⟩]
    rw [e] at hQ1
    have hk0 : k = nC N t := by omega
    subst hk0
    exact run_adds (m := m) hiw hN ht hnt hk hd hδ ha ih a 0 p w σ α α (by omega) hp (Or.inl ⟨h25, rfl⟩) hF (fun _ _ => rfl) h24 hQ1
  | succ j ihj =>
    intro k p w σ α hj hp hF h23 h24 h25 hQ
    obtain ⟨h1, h2, h3, h4, h5, h6, h7, h8⟩ := hF
    have hP := hwf.2.2.2.1 k (by omega)
    unfold ptT at hQ
    by_cases hm : msk m k = 1
    · rw [if_pos hm, bnd_assoc] at hQ
      refine run_step (r := 1) h3 (by omega) (fun post' hp' => g_seq (s := k) (αL := α) ht hnt (by omega) (by omega) hk h3 h6 h7 h8 (Or.inl ⟨h25, rfl⟩) (s_push (h8.uA (by omega)) hN ht hnt (by omega) (by omega) h3 (by rw [uA_a (by omega), h23]) hm ⟨Or.inr rfl, hp'⟩)) ?_
      have hFC : FC N nt tn T δ t (k + 2) p w (nP N t k) (upd σ 20 (nI (δ + 2))) (psh (uA (uA α 22 δ (nI (k + 2))) 25 δ (-1)) (δ + 1) (nI (nP N t k))) := psh_FC h1 (by rw [uA_a (by omega), uA_a (by omega), h2]) h4 h5 (by rw [uA_a (by omega), uA_a (by omega), h6]) (by rw [uA_a (by omega), uA_s]) ((h8.uA (by omega)).uA (by omega))
      have hS := psh_MS (δ := δ) (c := nI (nP N t k)) (β := uA (uA α 22 δ (nI (k + 2))) 25 δ (-1)) h5 (fun a ha => by rw [uA_a (by omega), uA_a (by omega)]) (fun a j hj => by rw [uA_j (by omega), uA_j (by omega)])
      refine run_child hiw ih (by omega) (by omega) (by omega) hp hFC (hQ.mv hS) (fun p' bs hv hp' σ2 α2 hF2 hk2 _ hQ2 => ?_)
      refine ihj (k + 1) p' _ σ2 α2 (by omega) hp' hF2 ?_ ?_ ?_ hQ2
      · rw [hk2 23 (by omega), uA_j (by omega), uA_j (by omega), uA_j (by omega), uA_a (by omega), uA_a (by omega), h23]
      · rw [hk2 24 (by omega), uA_j (by omega), uA_j (by omega), uA_j (by omega), uA_a (by omega), uA_a (by omega), h24]
      · rw [hk2 25 (by omega), uA_j (by omega), uA_j (by omega), uA_j (by omega), uA_s]
    · rw [if_neg hm] at hQ
      refine run_step (r := 1) h3 (by omega) (fun post' hp' => g_seq (s := k) (αL := α) ht hnt (by omega) (by omega) hk h3 h6 h7 h8 (Or.inl ⟨h25, rfl⟩) (s_skip (h8.uA (by omega)) hN ht hnt (by omega) (by omega) (by rw [uA_a (by omega), h23]) hm ⟨Or.inr rfl, hp'⟩)) ?_
      have hS : MS δ w [] σ α σ (uA (uA α 22 δ (nI (k + 2))) 25 δ (-1)) := ⟨fun _ _ _ _ _ => rfl, fun a ha _ => by rw [uA_a (by omega), uA_a (by omega)], by rw [uA_a (by omega), uA_a (by omega), apL_nil], h5, fun a i _ hi => by rw [uA_j (by omega), uA_j (by omega)]⟩
      refine ihj (k + 1) p w σ _ (by omega) hp ⟨h1, by rw [uA_a (by omega), uA_a (by omega), h2], h3, h4, h5, by rw [uA_a (by omega), uA_a (by omega), h6], by rw [uA_a (by omega), uA_s], (h8.uA (by omega)).uA (by omega)⟩ ?_ ?_ uA_s (hQ.mv hS)
      · rw [uA_a (by omega), uA_a (by omega), h23]
      · rw [uA_a (by omega), uA_a (by omega), h24]
theorem run_v (hiw : iw = 0 ∨ iw = 1) (hN : NWf N nt) (hnt : nt ≤ 16) (htn : tn ≤ 300) : ∀ d, VR post iw N nt tn T d := by
  intro d
  induction d with
  | zero => intro t δ p w σ α _ h; omega
  | succ d ih =>
    intro t δ p w σ α ht hd hδ hp hF h25 hQ
    have hwf := hN t ht
    obtain ⟨h1, h2, h3, h4, h5, h6, h7, h8⟩ := hF
    unfold vT at hQ
    have hβ : NMo N nt (uA α 22 δ (nI 1)) := h8.uA (by omega)
    by_cases hk : nK N t = 2
    · rw [if_pos hk] at hQ
      have hC := (hwf.2.2.2.2.2.2.2.1 hk).2.2
      unfold sqT at hQ
      have bad : ∀ q, q ≤ 300 → (flT N T tn t (nC N t) 0 0 p = .inl q ∨ ∃ m, flT N T tn t (nC N t) 0 0 p = .inr (q, m) ∧ ¬ nxt T tn q 0 (nI (nA N t)) ∧ q ≤ 300) → (∀ σ' α', FB iw σ α σ' α' → σ' 29 = nI q → RunT post iw 0 σ' α') → RunT post iw 1 σ α := by
        intro q hq3 hf hR
        obtain ⟨m', hm'⟩ := m_head1 (iw := iw) (T := T) hN ht hnt (δ := δ) (by omega) htn hβ h1 (by rw [uA_a (by omega), h2]) h4 hp hf
        refine run_step (r := 0) h3 (by omega) (fun post' hp' => g_head ht hnt (by omega) hk h3 h6 h7 h8 (hm' _ ⟨Or.inl rfl, hp'⟩)) (hR _ _ ⟨fun k z1 z2 z3 z4 => by rw [pk_un z4, pk_un z3], fun b z1 z2 => by rw [uA_a (by omega), uA_a (by omega)], fun _ => ⟨by rw [pk_un (by omega), pk_un (by omega)], by rw [uA_a (by omega), uA_a (by omega)]⟩⟩ q_us)
      cases hf : flT N T tn t (nC N t) 0 0 p with
      | inl q =>
        rw [hf] at hQ
        have hq3 : q ≤ 300 := by
          have fl : ∀ (j k : Nat) (m : Int32) (p : Nat), p ≤ 300 → flT N T tn t j k m p = .inl q → q ≤ 300 := by
            intro j
            induction j with
            | zero => intro k m p _ h; cases h
            | succ j ihj =>
              intro k m p hp h
              unfold flT at h
              by_cases ho : nO N t k = 1
              · rw [if_pos ho] at h
                by_cases hx : nxt T tn p 0 1
                · rw [if_pos hx] at h; exact ihj _ _ _ (by have := hx.1; omega) h
                · rw [if_neg hx] at h; cases h; exact hp
              · rw [if_neg ho] at h; exact ihj _ _ _ hp h
          exact fl _ _ _ _ hp hf
        exact bad q hq3 (Or.inl hf) (hQ.2.2.2.2 q rfl hq3)
      | inr pm =>
        obtain ⟨p1, m⟩ := pm
        rw [hf] at hQ
        simp only [] at hQ
        have hp1 : p1 ≤ 300 := by
          have fl : ∀ (j k : Nat) (m : Int32) (p : Nat), p ≤ 300 → ∀ m', flT N T tn t j k m p = .inr (p1, m') → p1 ≤ 300 := by
            intro j
            induction j with
            | zero => intro k m p hp m' h; cases h; exact hp
            | succ j ihj =>
              intro k m p hp m' h
              unfold flT at h
              by_cases ho : nO N t k = 1
              · rw [if_pos ho] at h
                by_cases hx : nxt T tn p 0 1
                · rw [if_pos hx] at h; exact ihj _ _ _ (by have := hx.1; omega) _ h
                · rw [if_neg hx] at h; cases h
              · rw [if_neg ho] at h; exact ihj _ _ _ hp _ h
          exact fl _ _ _ _ hp _ hf
        by_cases hx : nxt T tn p1 0 (nI (nA N t))
        · rw [if_pos hx] at hQ
          obtain ⟨a, _, ha, e⟩ := q_num (x := T p1) (a := 0) hx.2.1 hx.2.2 (by omega) (by omega)
          have hr := hQ.room hiw
          generalize hb : bin 1 (if T p1 ≤ 0 then 0 else 1) ++ flB N t m (nC N t) 0 = b1 at hQ hr
          refine run_step (r := 1) h3 (by omega) (fun post' hp' => g_head ht hnt (by omega) hk h3 h6 h7 h8 (m_head0 (T := T) hN ht hnt (by omega) htn hβ h1 (by rw [uA_a (by omega), h2]) h4 h5 hf hx e (by omega) (by rw [hb]; exact hr) ⟨Or.inr rfl, by rw [hb]; exact hp'⟩)) ?_
          have hS : MS δ w (wl iw b1) σ α (upd (upd σ 28 (nI (p1 + 1))) 16 (nI (w + (wl iw b1).length))) (upA (uA (uA (uA α 22 δ (nI 1)) 23 δ m) 24 δ (nI a)) 17 (apL (uA α 22 δ (nI 1) 17) w (wl iw b1))) := by
            refine ⟨fun k z1 z2 z3 z4 => by rw [pk_un z1, pk_un z3], fun b z1 z2 => by rw [upA_n z2, uA_a (by omega), uA_a (by omega), uA_a (by omega)], by rw [upA_s, uA_a (by omega)], q_us, fun b i z1 z2 => by rw [upA_n z1, uA_j (by omega), uA_j (by omega), uA_j (by omega)]⟩
          have hQ1 := hQ.go hiw rfl hS
          rw [e, nI_clamp (by omega)] at hQ1
          refine run_parts (m := m) (a := a) hiw hN ht hnt hk hd hδ ha ih (nC N t) 0 (p1 + 1) _ _ _ (by omega) (by have := hx.1; omega) ⟨?_, ?_, ?_, ?_, q_us, ?_, ?_, ?_⟩ ?_ ?_ ?_ hQ1
          · rw [pk_un (by omega), pk_un (by omega), h1]
          · rw [upA_n (by omega), uA_a (by omega), uA_a (by omega), uA_a (by omega), h2]
          · rw [pk_un (by omega), pk_un (by omega), h3]
          · rw [pk_un (by omega), q_us]
          · rw [upA_n (by omega), uA_a (by omega), uA_a (by omega), uA_a (by omega), h6]
          · rw [upA_n (by omega), uA_a (by omega), uA_a (by omega), uA_s]
          · exact ((hβ.uA (by omega)).uA (by omega)).upA (by omega)
          · rw [upA_n (by omega), uA_a (by omega), uA_s]
          · rw [upA_n (by omega), uA_s]
          · rw [upA_n (by omega), uA_a (by omega), uA_a (by omega), uA_a (by omega), h25]
        · rw [if_neg hx] at hQ
          exact bad p1 hp1 (Or.inr ⟨m, hf, hx, hp1⟩) (hQ.2.2.2.2 p1 rfl hp1)
    · rw [if_neg hk] at hQ
      by_cases hx : nxt T tn p (nlo N t) (nhi N t)
      · rw [if_pos hx] at hQ
        have hx1 := hx.1
        have hr := hQ.room hiw
        generalize hb : bin (nW N t) (T p - nlo N t) = b1 at hQ hr
        have hS : MS δ w (wl iw b1) σ α (upd (upd σ 16 (nI (w + (wl iw b1).length))) 28 (nI (p + 1))) (upA (uA (uA α 22 δ (nI 1)) 23 δ (T p)) 17 (apL (uA α 22 δ (nI 1) 17) w (wl iw b1))) := by
          refine ⟨fun k z1 z2 z3 z4 => by rw [pk_un z3, pk_un z1], fun b z1 z2 => by rw [upA_n z2, uA_a (by omega), uA_a (by omega)], by rw [upA_s, uA_a (by omega)], by rw [pk_un (by omega), q_us], fun b i z1 z2 => by rw [upA_n z1, uA_j (by omega), uA_j (by omega)]⟩
        have hQ1 := hQ.go hiw rfl hS
        have hM1 : NMo N nt (upA (uA (uA α 22 δ (nI 1)) 23 δ (T p)) 17 (apL (uA α 22 δ (nI 1) 17) w (wl iw b1))) := (hβ.uA (by omega)).upA (by omega)
        generalize hσ1 : upd (upd σ 16 (nI (w + (wl iw b1).length))) 28 (nI (p + 1)) = σ1 at *
        generalize hα1 : upA (uA (uA α 22 δ (nI 1)) 23 δ (T p)) 17 (apL (uA α 22 δ (nI 1) 17) w (wl iw b1)) = α1 at *
        have f1 : σ1 14 = nI tn := by rw [← hσ1, pk_un (by omega), pk_un (by omega), h1]
        have f2 : α1 15 = T := by rw [← hα1, upA_n (by omega), uA_a (by omega), uA_a (by omega), h2]
        have f3 : σ1 20 = nI (δ + 1) := by rw [← hσ1, pk_un (by omega), pk_un (by omega), h3]
        have f4 : σ1 28 = nI (p + 1) := by rw [← hσ1, q_us]
        have f5 : σ1 16 = nI (w + (wl iw b1).length) := by rw [← hσ1, pk_un (by omega), q_us]
        have f6 : α1 21 δ = nI t := by rw [← hα1, upA_n (by omega), uA_a (by omega), uA_a (by omega), h6]
        have f7 : α1 22 δ = nI 1 := by rw [← hα1, upA_n (by omega), uA_a (by omega), uA_s]
        have f23 : α1 23 δ = T p := by rw [← hα1, upA_n (by omega), uA_s]
        have step : ∀ (r : Int32) (σ' : Nat → Int32) (α' : Nat → Nat → Int32), (∀ post' : Int32 → (Nat → Int32) → (Nat → Nat → Int32) → Prop, post' r σ' α' → wb_X7_goOverTale_188 post' (nI δ) (nI t) (nI 0) σ1 α1) → RunT post iw r σ' α' → RunT post iw 1 σ α := by
          intro r σ' α' hst hR
          refine run_step (r := r) h3 (by omega) (fun post' hp' => g_val0 (p := p) hN ht hnt (by omega) hk h3 h6 h7 h8 (g_133 (T := T) hN ht hnt (by omega) hβ h1 htn (by rw [uA_a (by omega), h2]) h4 h5 hx (by rw [hb]; exact hr) ?_)) hR
          rw [hb, hσ1, hα1]
          exact hst post' hp'
        by_cases hk1 : nK N t = 1
        · rw [if_pos hk1] at hQ1
          obtain ⟨e0, a, b, ea, eb, hab, hb8⟩ := hwf.2.2.2.2.2.2.1 hk1
          obtain ⟨j, _, hj, e⟩ := q_num (x := T p) (a := a) (b := b) (by rw [← ea]; exact hx.2.1) (by rw [← eb]; exact hx.2.2) hab (by omega)
          rw [e, nI_clamp (by omega)] at hQ1
          rw [e] at f23
          have hP := hwf.2.2.2.1 0 (by omega)
          cases j with
          | zero =>
            refine step 1 _ _ (fun post' hp' => g_pop ht hnt (by omega) hM1 f3 (by omega) (Or.inr (Or.inl ⟨hk1, 0, f23, by omega⟩)) hp') ?_
            exact pop_RunT (bs := []) (σ0 := σ) (by omega) hQ1 f4 (fun _ _ => rfl) (fun _ _ _ => rfl)
          | succ j =>
            refine step 1 _ _ (fun post' hp' => g_list (h := j + 1) hN ht hnt (by omega) hk1 hM1 f3 f23 (by omega) (by omega) (by omega) hp') ?_
            have hFC : FC N nt tn T δ t 1 (p + 1) (w + (wl iw b1).length) (nP N t 0) (upd σ1 20 (nI (δ + 2))) (psh α1 (δ + 1) (nI (nP N t 0))) := psh_FC f1 f2 f4 f5 f6 f7 hM1
            have hS2 := psh_MS (δ := δ) (c := nI (nP N t 0)) (α := α1) (β := α1) f5 (fun _ _ => rfl) (fun _ _ _ => rfl)
            refine run_child hiw ih (by omega) (by omega) (by omega) (by omega) hFC (hQ1.mv hS2) (fun p' bs hv hp' σ2 α2 hF2 hk2 _ hQ2 => ?_)
            exact run_list (h := j + 1) hiw hN ht hnt hk1 (by omega) hd hδ (by omega) ih j 1 p' _ σ2 α2 (by omega) (by omega) hp' hF2 (by rw [hk2 23 (by omega), uA_j (by omega), uA_j (by omega), uA_j (by omega), f23]) hQ2
        · rw [if_neg hk1] at hQ1
          by_cases hk3 : nK N t = 3
          · rw [if_pos hk3] at hQ1
            obtain ⟨e1, e2, e3⟩ := hwf.2.2.2.2.2.2.2.2 hk3
            obtain ⟨j, _, hj, e⟩ := q_num (x := T p) (a := 0) (b := nC N t - 1) (by rw [← e1]; exact hx.2.1) (by rw [← e2]; exact hx.2.2) (by omega) (by omega)
            rw [e, nI_clamp (by omega)] at hQ1
            rw [e] at f23
            have hP := hwf.2.2.2.1 j (by omega)
            refine step 1 _ _ (fun post' hp' => g_choice (j := j) hN ht hnt (by omega) hk3 hM1 f3 f23 (by omega) hp') ?_
            have hFC : FC N nt tn T δ t 1 (p + 1) (w + (wl iw b1).length) (nP N t j) (upd σ1 20 (nI (δ + 2))) (psh α1 (δ + 1) (nI (nP N t j))) := psh_FC f1 f2 f4 f5 f6 f7 hM1
            have hS2 := psh_MS (δ := δ) (c := nI (nP N t j)) (α := α1) (β := α1) f5 (fun _ _ => rfl) (fun _ _ _ => rfl)
            have e9 : vT N T tn d (nP N t j) (p + 1) = bnd (vT N T tn d (nP N t j) (p + 1)) (fun p2 => .inr (p2, [])) := by
              cases vT N T tn d (nP N t j) (p + 1) with
              | inl q => rfl
              | inr c => obtain ⟨c1, c2⟩ := c; simp [bnd]
            rw [e9] at hQ1
            refine run_child hiw ih (by omega) (by omega) (by omega) (by omega) hFC (hQ1.mv hS2) (fun p' bs hv hp' σ2 α2 hF2 hk2 _ hQ2 => ?_)
            obtain ⟨g1, g2, g3, g4, g5, g6, g7, g8⟩ := hF2
            refine run_step (r := 1) g3 (by omega) (fun post' hp' => g_vals (s := 0) ht hnt (by omega) (by omega) (by omega) hk g3 g6 g7 g8 (g_pop ht hnt (by omega) (g8.uA (by omega)) g3 (by omega) (Or.inr (Or.inr ⟨hk3, by omega⟩)) hp')) ?_
            exact pop_RunT (bs := []) (σ0 := σ) hp' hQ2 g4 (fun a ha => uA_a (by omega)) (fun a j hj => uA_j (by omega))
          · rw [if_neg hk3] at hQ1
            refine step 1 _ _ (fun post' hp' => g_pop ht hnt (by omega) hM1 f3 (by omega) (Or.inl (by omega)) hp') ?_
            exact pop_RunT (bs := []) (σ0 := σ) (by omega) hQ1 f4 (fun _ _ => rfl) (fun _ _ _ => rfl)
      · rw [if_neg hx] at hQ
        refine run_step (r := 0) (σ' := upd σ 29 (nI p)) (α' := uA α 22 δ (nI 1)) h3 (by omega) (fun post' hp' => g_val0 (p := p) hN ht hnt (by omega) hk h3 h6 h7 h8 (m_wrong1 h1 h4 htn hp (by rw [uA_a (by omega), h2]; exact hx) ⟨fun h => absurd h (by decide), fun _ => hp'⟩)) ?_
        exact hQ.2.2.2.2 p rfl hp _ _ ⟨fun k z1 z2 z3 z4 => pk_un z4, fun b z1 z2 => uA_a (by omega), fun _ => ⟨pk_un (by omega), uA_a (by omega)⟩⟩ q_us
/-- the whole walk -/
theorem m_walk {t w : Nat} {σ : Nat → Int32} {α : Nat → Nat → Int32} (hiw : iw = 0 ∨ iw = 1) (hN : NWf N nt) (hnt : nt ≤ 16) (htn : tn ≤ 300) (hM : NMo N nt α) (ht : t < nt) (h14 : σ 14 = nI tn) (h16 : σ 16 = nI w) (hw : w ≤ 300) (hb : iw = 1 → ∃ p' bs, vT N (α 15) tn 17 t 0 = .inr (p', bs) ∧ w + bs.length ≤ 300)
    (hg : ∀ p' bs, vT N (α 15) tn 17 t 0 = .inr (p', bs) → p' ≤ 300 → ∀ σ' α', MS 0 w (wl iw bs) σ α σ' α' → post (if tn ≤ p' then -1 else nI p') σ' α')
    (hx : ∀ q, vT N (α 15) tn 17 t 0 = .inl q → q ≤ 300 → ∀ σ' α', FB iw σ α σ' α' → post (nI q) σ' α') : wp_X7_walk (nI t) iw σ α post := by
  intro σ1 e1 σ3 e3 σ5 e5
  subst e1 e3 e5
  refine m_push (j := 0) (by rw [pk_un (by omega), pk_un (by omega), q_us]; rfl) (by omega) ?_
  have hS : ∀ k, k ≠ 16 → k ≠ 20 → k ≠ 28 → k ≠ 29 → upd (upd (upd (upd σ 20 0) 28 0) 29 (-1)) 20 (nI (0 + 1)) k = σ k := fun k z1 z2 z3 z4 => by rw [pk_un z2, pk_un z4, pk_un z3, pk_un z2]
  refine run_v hiw hN hnt htn 17 t 0 0 w _ _ ht (by omega) (by omega) (by omega) ⟨?_, ?_, q_us, ?_, ?_, ?_, ?_, ?_⟩ uA_s ⟨hw, ?_, hb, fun p' bs hv hp' σ' α' hMS h20 h28 => ⟨1, ?_⟩, fun q hv hq σ' α' hF h29 => ⟨1, ?_⟩⟩
  · rw [hS 14 (by omega) (by omega) (by omega) (by omega), h14]
  · rw [uA_a (by omega), uA_a (by omega), uA_a (by omega)]
  · rw [pk_un (by omega), pk_un (by omega), q_us]; rfl
  · rw [pk_un (by omega), pk_un (by omega), pk_un (by omega), pk_un (by omega), h16]
  · rw [uA_a (by omega), uA_a (by omega), uA_s]
  · rw [uA_a (by omega), uA_s]; rfl
  · exact ((hM.uA (by omega)).uA (by omega)).uA (by omega)
  · rw [pk_un (by omega), pk_un (by omega), pk_un (by omega), pk_un (by omega), h16]
  · have h14' : σ' 14 = nI tn := by rw [hMS.1 14 (by omega) (by omega) (by omega) (by omega), hS 14 (by omega) (by omega) (by omega) (by omega), h14]
    have fin := hg p' bs hv hp' σ' α' ⟨fun k z1 z2 z3 z4 => (hMS.1 k z1 z2 z3 z4).trans (hS k z1 z2 z3 z4), fun a z1 z2 => by rw [hMS.2.1 a z1 z2, uA_a (by omega), uA_a (by omega), uA_a (by omega)], by rw [hMS.2.2.1, uA_a (by omega), uA_a (by omega), uA_a (by omega)], hMS.2.2.2.1, fun a j _ hj => by omega⟩
    refine ⟨fun _ => ⟨fun _ => ?_, fun h => absurd h (by decide)⟩, fun h => absurd (by rw [h20]; decide) h⟩
    rw [h14', h28, q_le (by omega) (by omega)]
    exact ⟨fun h => by rwa [if_pos h] at fin, fun h => by rwa [if_neg h] at fin⟩
  · have fin := hx q hv hq σ' α' ⟨fun k z1 z2 z3 z4 => (hF.1 k z1 z2 z3 z4).trans (hS k z1 z2 z3 z4), fun a z1 z2 => by rw [hF.2.1 a z1 z2, uA_a (by omega), uA_a (by omega), uA_a (by omega)], fun e => ⟨by rw [(hF.2.2 e).1, pk_un (by omega), pk_un (by omega), pk_un (by omega), pk_un (by omega)], by rw [(hF.2.2 e).2, uA_a (by omega), uA_a (by omega), uA_a (by omega)]⟩⟩
    have e42 : wb_X7_walk_42 post 0 σ' α' := ⟨fun h => absurd rfl h, fun _ => by rw [h29]; exact fin⟩
    exact ⟨fun _ => e42, fun _ => ⟨fun _ => e42, fun h => absurd rfl h⟩⟩
end MY
