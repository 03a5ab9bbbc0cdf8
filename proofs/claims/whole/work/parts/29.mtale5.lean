/-! THE REFERENCE over a tale: the induction -/
theorem MS.mono {δ δ2 w : Nat} {bs : List Int32} {σ σ1 : Nat → Int32} {α α1 : Nat → Nat → Int32} (hδ : δ ≤ δ2) (h : MS δ2 w bs σ α σ1 α1) : MS δ w bs σ α σ1 α1 := ⟨h.1, h.2.1, h.2.2.1, h.2.2.2.1, fun a j h1 h2 => h.2.2.2.2 a j h1 (by omega)⟩
def psh (α : Nat → Nat → Int32) (j : Nat) (c : Int32) : Nat → Nat → Int32 := uA (uA (uA α 21 j c) 22 j 0) 25 j (-1)
theorem psh_a {α : Nat → Nat → Int32} {j a : Nat} {c : Int32} (h : a < 21) : psh α j c a = α a := by rw [psh, uA_a (by omega), uA_a (by omega), uA_a (by omega)]
theorem psh_j {α : Nat → Nat → Int32} {j a i : Nat} {c : Int32} (h : i ≠ j) : psh α j c a i = α a i := by rw [psh, uA_j h, uA_j h, uA_j h]
theorem psh_21 {α : Nat → Nat → Int32} {j : Nat} {c : Int32} : psh α j c 21 j = c := by rw [psh, uA_a (by omega), uA_a (by omega), uA_s]
theorem psh_22 {α : Nat → Nat → Int32} {j : Nat} {c : Int32} : psh α j c 22 j = 0 := by rw [psh, uA_a (by omega), uA_s]
theorem psh_25 {α : Nat → Nat → Int32} {j : Nat} {c : Int32} : psh α j c 25 j = -1 := uA_s
section MV
variable {post : Int32 → (Nat → Int32) → (Nat → Nat → Int32) → Prop} {N : NT} {nt : Nat} {iw : Int32} {tn : Nat} {T : Nat → Int32}
/-- a state with the child c on top of the frame δ -/
def FC (N : NT) (nt tn : Nat) (T : Nat → Int32) (δ t s p w c : Nat) (σ : Nat → Int32) (α : Nat → Nat → Int32) : Prop := σ 14 = nI tn ∧ α 15 = T ∧ σ 20 = nI (δ + 2) ∧ σ 28 = nI p ∧ σ 16 = nI w ∧ α 21 δ = nI t ∧ α 22 δ = nI s ∧ NMo N nt α ∧ α 21 (δ + 1) = nI c ∧ α 22 (δ + 1) = nI 0 ∧ α 25 (δ + 1) = -1
def VR (post : Int32 → (Nat → Int32) → (Nat → Nat → Int32) → Prop) (iw : Int32) (N : NT) (nt tn : Nat) (T : Nat → Int32) (d : Nat) : Prop := ∀ (t δ p w : Nat) (σ : Nat → Int32) (α : Nat → Nat → Int32), t < nt → t < d → δ + t < 16 → p ≤ 300 → FF N nt tn T δ t 0 p w σ α → α 25 δ = -1 → TQ post iw δ w (vT N T tn d t p) σ α → RunT post iw 1 σ α
theorem run_child {d δ t s p w c : Nat} {k : Nat → RT} {σ : Nat → Int32} {α : Nat → Nat → Int32} (hiw : iw = 0 ∨ iw = 1) (ih : VR post iw N nt tn T d) (hc : c < nt) (hd : c < d) (hδ : δ + 1 + c < 16) (hp : p ≤ 300) (hF : FC N nt tn T δ t s p w c σ α) (hQ : TQ post iw δ w (bnd (vT N T tn d c p) k) σ α)
    (hk : ∀ p' bs, vT N T tn d c p = .inr (p', bs) → p' ≤ 300 → ∀ σ2 α2, FF N nt tn T δ t s p' (w + (wl iw bs).length) σ2 α2 → (∀ a, a ≠ 17 → α2 a δ = α a δ) → α2 17 = apL (α 17) w (wl iw bs) → TQ post iw δ (w + (wl iw bs).length) (k p') σ2 α2 → RunT post iw 1 σ2 α2) : RunT post iw 1 σ α := by
  obtain ⟨h1, h2, h3, h4, h5, h6, h7, h8, h9, h10, h11⟩ := hF
  refine ih c (δ + 1) p w σ α hc hd hδ hp ⟨h1, h2, h3, h4, h5, h9, h10, h8⟩ h11 (hQ.child fun p' bs hr hp' σ2 α2 hS h20 h28 => ?_)
  have hS0 : MS δ w (wl iw bs) σ α σ2 α2 := hS.mono (by omega)
  obtain ⟨b1, b2, b3, b4, b5⟩ := hS
  refine hk p' bs hr hp' σ2 α2 ⟨?_, ?_, h20, h28, b4, ?_, ?_, ?_⟩ (fun a ha => b5 a δ ha (by omega)) b3 (hQ.go hiw hr hS0)
  · rw [b1 14 (by omega) (by omega) (by omega) (by omega), h1]
  · rw [b2 15 (by omega) (by omega), h2]
  · rw [b5 21 δ (by omega) (by omega), h6]
  · rw [b5 22 δ (by omega) (by omega), h7]
  · exact h8.cong (fun a ha => b2 a (by omega) (by omega))
/-- from a state to the one with a child on top of it -/
theorem psh_FC {δ t s p w c : Nat} {σ : Nat → Int32} {β : Nat → Nat → Int32} (h14 : σ 14 = nI tn) (hT : β 15 = T) (h28 : σ 28 = nI p) (h16 : σ 16 = nI w) (h21 : β 21 δ = nI t) (h22 : β 22 δ = nI s) (hM : NMo N nt β) : FC N nt tn T δ t s p w c (upd σ 20 (nI (δ + 2))) (psh β (δ + 1) (nI c)) :=
  ⟨by rw [pk_un (by omega), h14], by rw [psh_a (by omega), hT], q_us, by rw [pk_un (by omega), h28], by rw [pk_un (by omega), h16], by rw [psh_j (by omega), h21], by rw [psh_j (by omega), h22], hM.cong (fun a ha => psh_a (by omega)), psh_21, psh_22, psh_25⟩
theorem psh_MS {δ w : Nat} {c : Int32} {σ : Nat → Int32} {α β : Nat → Nat → Int32} (h16 : σ 16 = nI w) (h1 : ∀ a, a < 21 → β a = α a) (h2 : ∀ a j, j < δ → β a j = α a j) : MS δ w [] σ α (upd σ 20 (nI (δ + 2))) (psh β (δ + 1) c) := by
  refine ⟨fun k _ h _ _ => pk_un h, fun a ha _ => by rw [psh_a ha, h1 a ha], ?_, by rw [pk_un (by omega), h16]; rfl, fun a j _ hj => by rw [psh_j (by omega), h2 a j hj]⟩
  rw [psh_a (by omega), h1 17 (by omega), apL_nil]
theorem pop_RunT {δ w p : Nat} {bs : List Int32} {σ0 σ : Nat → Int32} {α0 α : Nat → Nat → Int32} (hp : p ≤ 300) (hQ : TQ post iw δ w (.inr (p, [])) σ α) (h28 : σ 28 = nI p) (h1 : ∀ a, a < 21 → α0 a = α a) (h2 : ∀ a j, j < δ → α0 a j = α a j) : RunT post iw 1 (upd σ 20 (nI δ)) α0 := by
  refine hQ.2.2.2.1 p [] rfl hp _ _ ?_ q_us (by rw [pk_un (by omega), h28])
  rw [wl_nil]
  refine ⟨fun k _ h _ _ => pk_un h, fun a ha _ => h1 a ha, by rw [apL_nil, h1 17 (by omega)], by rw [pk_un (by omega), hQ.2.1]; rfl, fun a j _ hj => h2 a j hj⟩
theorem run_list {t δ d h : Nat} (hiw : iw = 0 ∨ iw = 1) (hN : NWf N nt) (ht : t < nt) (hnt : nt ≤ 16) (hk : nK N t = 1) (hC : 0 < nC N t) (hd : t < d + 1) (hδ : δ + t < 16) (hh : h ≤ 8) (ih : VR post iw N nt tn T d) : ∀ (j s p w : Nat) (σ : Nat → Int32) (α : Nat → Nat → Int32), 0 < s → s + j = h → p ≤ 300 → FF N nt tn T δ t s p w σ α → α 23 δ = nI h →
    TQ post iw δ w (rptT (vT N T tn d (nP N t 0)) j p) σ α → RunT post iw 1 σ α := by
  have hP := (hN t ht).2.2.2.1 0 hC
  intro j
  induction j with
  | zero =>
    intro s p w σ α hs hj hp hF h23 hQ
    obtain ⟨h1, h2, h3, h4, h5, h6, h7, h8⟩ := hF
    obtain ⟨s, rfl⟩ : ∃ e, s = e + 1 := ⟨s - 1, by omega⟩
    refine run_step (r := 1) h3 (by omega) (fun post' hp' => g_vals ht hnt (by omega) (by omega) (by omega) (by omega) h3 h6 h7 h8 (g_pop ht hnt (by omega) (h8.uA (by omega)) h3 (by omega) (Or.inr (Or.inl ⟨hk, h, ?_, by omega⟩)) hp')) ?_
    · rw [uA_a (by omega), h23]
    · exact pop_RunT (bs := []) (σ0 := σ) hp hQ h4 (fun a ha => uA_a (by omega)) (fun a j hj => uA_j (by omega))
  | succ j ihj =>
    intro s p w σ α hs hj hp hF h23 hQ
    obtain ⟨h1, h2, h3, h4, h5, h6, h7, h8⟩ := hF
    obtain ⟨s, rfl⟩ : ∃ e, s = e + 1 := ⟨s - 1, by omega⟩
    refine run_step (r := 1) h3 (by omega) (fun post' hp' => g_vals ht hnt (by omega) (by omega) (by omega) (by omega) h3 h6 h7 h8 (g_list (h := h) hN ht hnt (by omega) hk (h8.uA (by omega)) h3 (by rw [uA_a (by omega), h23]) (by omega) (by omega) hC hp')) ?_
    have hFC : FC N nt tn T δ t (s + 2) p w (nP N t 0) (upd σ 20 (nI (δ + 2))) (psh (uA α 22 δ (nI (s + 2))) (δ + 1) (nI (nP N t 0))) := psh_FC h1 (by rw [uA_a (by omega), h2]) h4 h5 (by rw [uA_a (by omega), h6]) uA_s (h8.uA (by omega))
    have hS := psh_MS (δ := δ) (c := nI (nP N t 0)) (β := uA α 22 δ (nI (s + 2))) h5 (fun a ha => uA_a (by omega)) (fun a j hj => uA_j (by omega))
    refine run_child hiw ih (by omega) (by omega) (by omega) hp hFC (hQ.mv hS) (fun p' bs hv hp' σ2 α2 hF2 hk2 _ hQ2 => ?_)
    exact ihj (s + 2) p' _ σ2 α2 (by omega) (by omega) hp' hF2 (by rw [hk2 23 (by omega), uA_j (by omega), uA_j (by omega), uA_j (by omega), uA_a (by omega), h23]) hQ2
/-- additions, the mark of the one before perhaps still open -/
theorem run_adds {t δ d a : Nat} {m : Int32} (hiw : iw = 0 ∨ iw = 1) (hN : NWf N nt) (ht : t < nt) (hnt : nt ≤ 16) (hk : nK N t = 2) (hd : t < d + 1) (hδ : δ + t < 16) (ha : a ≤ nA N t) (ih : VR post iw N nt tn T d) : ∀ (i j p w : Nat) (σ : Nat → Int32) (α αL : Nat → Nat → Int32), j + i = a → p ≤ 300 → PD δ σ α αL → FF N nt tn T δ t (nC N t + j + 1) p w σ αL → (∀ b, b ≠ 17 → α b = αL b) → αL 24 δ = nI a →
    TQ post iw δ w (bnd (.inr (p, if j = 0 ∧ 0 < i then bin 2 (nI a - 1) else [])) fun p4 => adT (vT N T tn d) N t i j p4) σ αL → RunT post iw 1 σ α := by
  have hwf := hN t ht
  have hC := (hwf.2.2.2.2.2.2.2.1 hk).2.2
  intro i
  induction i with
  | zero =>
    intro j p w σ α αL hj hp hP hF hb h24 hQ
    obtain ⟨h1, h2, h3, h4, h5, h6, h7, h8⟩ := hF
    have h8' : NMo N nt α := h8.cong (fun b hb2 => hb b (by omega))
    refine run_step (r := 1) h3 (by omega) (fun post' hp' => g_seq (s := nC N t + j) (αL := αL) ht hnt (by omega) (by omega) hk h3 (by rw [hb 21 (by omega), h6]) (by rw [hb 22 (by omega), h7]) h8' hP (s_end (a := a) (j := j) (h8.uA (by omega)) hN ht hnt (by omega) h3 (by rw [uA_a (by omega), h24]) (by omega) (by omega) ⟨Or.inr rfl, hp'⟩)) ?_
    have hQ2 : TQ post iw δ w (.inr (p, [])) σ αL := by
      have : (bnd (.inr (p, if j = 0 ∧ 0 < 0 then bin 2 (nI a - 1) else [])) fun p4 => adT (vT N T tn d) N t 0 j p4) = .inr (p, []) := by
        rw [if_neg (by omega)]; rfl
      rwa [this] at hQ
    exact pop_RunT (bs := []) (σ0 := σ) hp hQ2 h4 (fun b hb2 => by rw [uA_a (by omega), uA_a (by omega)]) (fun b j hj => by rw [uA_j (by omega), uA_j (by omega)])
  | succ i ihi =>
    intro j p w σ α αL hj hp hP hF hb h24 hQ
    obtain ⟨h1, h2, h3, h4, h5, h6, h7, h8⟩ := hF
    have h8' : NMo N nt α := h8.cong (fun b hb2 => hb b (by omega))
    have hD := hwf.2.2.2.2.1 j (by omega)
    generalize hb1 : (if j = 0 then bin 2 (nI a - 1) else []) = b1
    have e1 : (if j = 0 ∧ 0 < i + 1 then bin 2 (nI a - 1) else []) = b1 := by
      rw [← hb1]; by_cases h0 : j = 0 <;> simp [h0]
    rw [e1] at hQ
    have hrm : w + (wl iw (b1 ++ bin 8 0)).length ≤ 300 := by
      by_cases e : iw = 1
      · obtain ⟨p', bs, hx, hr⟩ := hQ.2.2.1 e
        obtain ⟨p2, b, b', f1, f2, f3⟩ := bnd_inr hx
        cases f1
        obtain ⟨p3, c, c', g1, g2, g3⟩ := bnd_inr f2
        cases hv : vT N T tn d (nD N t j) p with
        | inl q => rw [hv] at g1; cases g1
        | inr pc =>
          rw [hv] at g1; cases g1
          have := wl_le iw (b1 ++ bin 8 0)
          rw [f3, g3, List.length_append, List.length_append, List.length_append, bin_len] at hr
          rw [List.length_append, bin_len] at this
          omega
      · rw [wl_0 e hiw]; have := hQ.1; simpa using this
    obtain ⟨α1, q1, q2, q3, q4, q5, q6, q7, q8, q9⟩ := s_add (σ := σ) (β := uA αL 22 δ (nI (nC N t + j + 2))) (b1 := b1) (j := j) (w := w) hiw (h8.uA (by omega)) hN ht hnt (by omega) h3 (by rw [uA_a (by omega), h24]) (by omega) ha h5 hb1.symm hrm
    refine run_step (r := 1) h3 (by omega) (fun post' hp' => g_seq (s := nC N t + j) (αL := αL) ht hnt (by omega) (by omega) hk h3 (by rw [hb 21 (by omega), h6]) (by rw [hb 22 (by omega), h7]) h8' hP (q9 _ ⟨Or.inr rfl, hp'⟩)) ?_
    generalize hw2 : w + (wl iw (b1 ++ bin 8 0)).length = w2 at *
    generalize hw1 : w + (wl iw b1).length = w1 at *
    have hFC : FC N nt tn T δ t (nC N t + j + 2) p w2 (nD N t j) (upd (upd σ 16 (nI w2)) 20 (nI (δ + 2))) α1 := by
      refine ⟨by rw [pk_un (by omega), pk_un (by omega), h1], by rw [q1 15 (by omega) (by omega), uA_a (by omega), h2], q_us, by rw [pk_un (by omega), pk_un (by omega), h4], by rw [pk_un (by omega), q_us], by rw [q4 21 (by omega) (by omega), uA_a (by omega), h6], by rw [q4 22 (by omega) (by omega), uA_s], (h8.uA (k := 22) (i := δ) (x := nI (nC N t + j + 2)) (by omega)).cong (fun b hb2 => q1 b (by omega) (by omega)), q6, q7, q8⟩
    /- the state after the push, seen from the one before -/
    have hS : MS δ w (wl iw (b1 ++ bin 8 0)) σ αL (upd (upd σ 16 (nI w2)) 20 (nI (δ + 2))) α1 := by
      refine ⟨fun k g1 g2 _ _ => by rw [pk_un g2, pk_un g1], fun b g1 g2 => by rw [q1 b g1 g2, uA_a (by omega)], by rw [q2, uA_a (by omega)], by rw [pk_un (by omega), q_us, hw2], fun b x g1 g2 => ?_⟩
      rcases q3 b x g2 with g | g
      · rw [g, uA_j (by omega)]
      · exact absurd g g1
    have hlen : w1 + (wl iw (bin 8 0)).length = w2 := by rw [← hw1, ← hw2, wl_app, List.length_append]; omega
    obtain ⟨g1, g2, g3, g4, g5, g6, g7, g8, g9, g10, g11⟩ := hFC
    refine ih (nD N t j) (δ + 1) p w2 _ α1 (by omega) (by omega) (by omega) hp ⟨g1, g2, g3, g4, g5, g9, g10, g8⟩ g11 ⟨by omega, g5, fun e => ?_, fun p' bs hv hp' σ2 α2 hS2 h20 h28 => ?_, fun q hv hq' σ2 α2 hFB h29 => ?_⟩
    · obtain ⟨p', bs, hx, hr⟩ := hQ.2.2.1 e
      obtain ⟨p2, b, b', f1, f2, f3⟩ := bnd_inr hx
      cases f1
      obtain ⟨p3, c, c', k1, k2, k3⟩ := bnd_inr f2
      cases hv : vT N T tn d (nD N t j) p with
      | inl q => rw [hv] at k1; cases k1
      | inr pc =>
        obtain ⟨pv, bv⟩ := pc
        rw [hv] at k1; cases k1
        refine ⟨_, _, rfl, ?_⟩
        rw [f3, k3, List.length_append, List.length_append, List.length_append, bin_len] at hr
        have := wl_le iw (b1 ++ bin 8 0)
        rw [List.length_append, bin_len] at this
        omega
    · /- the child came back: its length stays to be written -/
      obtain ⟨c1, c2, c3, c4, c5⟩ := hS2
      have hlnT : lnT (vT N T tn d (nD N t j) p) = .inr (p', bin 8 (nI bs.length) ++ bs) := by rw [hv]; rfl
      have hw3 : w + (wl iw (b1 ++ (bin 8 (nI bs.length) ++ bs))).length = w2 + (wl iw bs).length := by
        rw [← hw2, wl_app, wl_app, wl_app]
        have : (wl iw (bin 8 (nI bs.length))).length = (wl iw (bin 8 0)).length := by unfold wl; split <;> simp [bin_len]
        simp only [List.length_append]; omega
      have hw3r : w2 + (wl iw bs).length ≤ 300 := by
        have hz := (hQ.go (p1 := p) (b1 := b1) (σ1 := upd σ 16 (nI w1)) (α1 := upA αL 17 (apL (αL 17) w (wl iw b1))) hiw rfl ⟨fun k z1 _ _ _ => pk_un z1, fun b _ z2 => upA_n z2, upA_s, by rw [q_us, hw1], fun b x z1 _ => by rw [upA_n z1]⟩)
        have hz2 : TQ post iw δ (w + (wl iw b1).length) (bnd (.inr (p', bin 8 (nI bs.length) ++ bs)) (adT (vT N T tn d) N t i (j + 1))) (upd σ 16 (nI w1)) (upA αL 17 (apL (αL 17) w (wl iw b1))) := by
          rw [← hlnT]; exact hz
        have := hz2.room hiw
        rw [← hw3, wl_app, List.length_append]; omega
      have hbase : ∀ αL2 : Nat → Nat → Int32, PD δ σ2 α2 αL2 → (∀ b, b ≠ 17 → α2 b = αL2 b) → αL2 17 = apL (αL 17) w (wl iw (b1 ++ (bin 8 (nI bs.length) ++ bs))) → RunT post iw 1 σ2 α2 := by
        intro αL2 hP2 hb2 h17
        have hMS : MS δ w (wl iw (b1 ++ (bin 8 (nI bs.length) ++ bs))) σ αL σ2 αL2 := by
          refine ⟨fun k z1 z2 z3 z4 => (c1 k z1 z2 z3 z4).trans (hS.1 k z1 z2 z3 z4), fun b z1 z2 => by rw [← hb2 b z2, c2 b z1 z2, hS.2.1 b z1 z2], h17, by rw [c4, hw3], fun b x z1 z2 => by rw [← hb2 b z1, c5 b x z1 (by omega), hS.2.2.2.2 b x z1 z2]⟩
        have hQ2 : TQ post iw δ (w2 + (wl iw bs).length) (adT (vT N T tn d) N t i (j + 1) p') σ2 αL2 := by
          have hQ' : TQ post iw δ w (bnd (.inr (p', b1 ++ (bin 8 (nI bs.length) ++ bs))) (adT (vT N T tn d) N t i (j + 1))) σ αL := by
            have e : (bnd (.inr (p, b1)) fun p4 => adT (vT N T tn d) N t (i + 1) j p4) = bnd (.inr (p', b1 ++ (bin 8 (nI bs.length) ++ bs))) (adT (vT N T tn d) N t i (j + 1)) := by
              have e2 : (fun p4 => adT (vT N T tn d) N t (i + 1) j p4) p = bnd (.inr (p', bin 8 (nI bs.length) ++ bs)) (adT (vT N T tn d) N t i (j + 1)) := by
                show bnd (lnT (vT N T tn d (nD N t j) p)) _ = _
                rw [hlnT]
              simp only [bnd] at e2 ⊢
              rw [e2]
              cases adT (vT N T tn d) N t i (j + 1) p' with
              | inl q => rfl
              | inr c => simp only [List.append_assoc]
            rwa [e] at hQ
          rw [← hw3]
          exact hQ'.go hiw rfl hMS
        refine ihi (j + 1) p' (w2 + (wl iw bs).length) σ2 α2 αL2 (by omega) hp' hP2 ⟨?_, ?_, h20, h28, c4, ?_, ?_, ?_⟩ hb2 ?_ ?_
        · rw [c1 14 (by omega) (by omega) (by omega) (by omega), g1]
        · rw [← hb2 15 (by omega), c2 15 (by omega) (by omega), g2]
        · rw [← hb2 21 (by omega), c5 21 δ (by omega) (by omega), g6]
        · rw [← hb2 22 (by omega), c5 22 δ (by omega) (by omega), g7]; rfl
        · exact g8.cong (fun b hb3 => by rw [← hb2 b (by omega), c2 b (by omega) (by omega)])
        · rw [← hb2 24 (by omega), c5 24 δ (by omega) (by omega), q4 24 (by omega) (by omega), uA_a (by omega), h24]
        · rw [if_neg (by omega)]
          have e : (bnd (.inr (p', [])) fun p4 => adT (vT N T tn d) N t i (j + 1) p4) = adT (vT N T tn d) N t i (j + 1) p' := by
            simp only [bnd]
            cases adT (vT N T tn d) N t i (j + 1) p' with
            | inl q => rfl
            | inr c => rfl
          rw [e]; exact hQ2
      have hα17 : α2 17 = apL (apL (αL 17) w (wl iw (b1 ++ bin 8 0))) w2 (wl iw bs) := by rw [c3, q2, uA_a (by omega)]
      rcases hiw with e | e
      · subst e
        refine hbase α2 (Or.inl ⟨by rw [c5 25 δ (by omega) (by omega), q5, if_pos rfl], rfl⟩) (fun _ _ => rfl) ?_
        rw [hα17]; simp only [wl, if_true, apL_nil]
      · subst e
        have hl : ∀ l : List Int32, wl 1 l = l := fun l => by unfold wl; rw [if_neg (by decide)]
        simp only [hl] at *
        rw [bin_len] at hlen
        refine hbase (upA α2 17 (pat (α2 17) w1 ((σ2 16 - nI w1) - 8) 0)) (Or.inr ⟨w1, by rw [c5 25 δ (by omega) (by omega), q5, if_neg (by decide)], by omega, rfl⟩) (fun b z => by rw [upA_n z]) ?_
        rw [upA_s, c4, q_l8, q_sub (by omega), q_sub (by omega), hα17]
        have e1 : w2 + bs.length - w1 - 8 = bs.length := by omega
        have e2 : apL (αL 17) w (b1 ++ bin 8 0) = apL (apL (αL 17) w b1) w1 (bin 8 0) := by rw [← hw1, apL_app]
        have e3 : apL (αL 17) w (b1 ++ (bin 8 (nI bs.length) ++ bs)) = apL (apL (αL 17) w b1) w1 (bin 8 (nI bs.length) ++ bs) := by rw [← hw1, apL_app]
        rw [e1, e2, e3, ← hlen]
        exact pat_0
    · refine hQ.2.2.2.2 q ?_ hq' σ2 α2 ((hS.fb hQ.2.1).trans hFB) h29
      simp only [bnd, adT, hv, lnT]
end MV
