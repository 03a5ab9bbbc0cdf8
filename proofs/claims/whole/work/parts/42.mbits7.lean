/-! THE REFERENCE over bits: the induction -/
section MBX
variable {post : Int32 → (Nat → Int32) → (Nat → Nat → Int32) → Prop} {N : NT} {nt bn kn : Nat} {b : Nat → Nat}
theorem tkB_q {w p bd q : Nat} (hp : p ≤ bn) (hv : tkB b bn w p bd = .inl q) : q ≤ bn := by
  unfold tkB at hv
  split at hv
  · cases hv; exact Nat.le_refl _
  · split at hv
    · cases hv
    · cases hv; exact hp
theorem run_adB {t δ d a : Nat} (hN : NWf N nt) (hL : NLw N nt) (hkn : kn ≤ 3) (ht : t < nt) (hnt : nt ≤ 16) (hbn : bn ≤ 240) (hk : nK N t = 2) (hd : t < d + 1) (hδ : δ + t < 16) (ha : a ≤ nA N t) (ih : VRB post N nt bn kn b d) : ∀ (i j p n : Nat) (σs : Nat → Int32) (αs : Nat → Nat → Int32) (σ : Nat → Int32) (β : Nat → Nat → Int32), j + i = a → p ≤ bn → σs 20 = nI (δ + 1) → σs 29 = -1 →
    (∀ post' : (Nat → Int32) → (Nat → Nat → Int32) → Prop, wb_X7_sequenceOfBits_158 post' (nI t) (nI δ) (nI kn) (nI j) σ β → wp_X7_goOverBits (nI kn) σs αs post') → FFB N nt bn b δ t (nC N t + j + 2) p n σ β → β 24 δ = nI a → β 25 δ = -1 → n + sumN (fun j => nL N (nD N t j)) i j ≤ 240 →
    TR post kn bn δ n (adR (rV N b bn kn d) N b bn kn t i j p) σ β → RunB post kn σs αs := by
  have hwf := hN t ht
  have hC := (hwf.2.2.2.2.2.2.2.1 hk).2.2
  intro i
  induction i with
  | zero =>
    intro j p n σs αs σ β hj hp hs20 hs29 hst hF h24 h25 hn hQ
    obtain ⟨f1, f2, f3, f4, f5, f6, f7, f8⟩ := hF
    refine runB_step hs20 (by omega) hs29 (fun post' hp' => hst post' (e_pop (by omega) f2 h24 (by omega) (by omega) hp')) ?_
    exact pop_RunB hp hQ f5 f3 f4 (fun _ _ _ _ _ => rfl) (fun _ _ => rfl) (fun _ _ _ => rfl)
  | succ i ihi =>
    intro j p n σs αs σ β hj hp hs20 hs29 hst hF h24 h25 hn hQ
    obtain ⟨f1, f2, f3, f4, f5, f6, f7, f8⟩ := hF
    have hD := hwf.2.2.2.2.1 j (by omega)
    rw [sumN] at hn
    /- the next step from a state whose mark is settled -/
    have next : ∀ (p' n' : Nat) (σ2 : Nat → Int32) (α2 : Nat → Nat → Int32), p' ≤ bn → FFB N nt bn b δ t (nC N t + j + 2) p' n' σ2 α2 → (α2 25 δ = -1 ∨ ∃ mk len, α2 25 δ = nI mk ∧ α2 26 δ = nI len ∧ σ2 28 = nI (mk + len) ∧ mk < 400 ∧ len < 400) → α2 24 δ = nI a → n' + sumN (fun j => nL N (nD N t j)) i (j + 1) ≤ 240 → TR post kn bn δ n' (adR (rV N b bn kn d) N b bn kn t i (j + 1) p') σ2 α2 → RunB post kn σ2 α2 := by
      intro p' n' σ2 α2 hp' hF2 hmk h24' hn' hQ'
      obtain ⟨g1, g2, g3, g4, g5, g6, g7, g8⟩ := hF2
      refine ihi (j + 1) p' n' σ2 α2 σ2 (uA (uA α2 22 δ (nI (nC N t + j + 3))) 25 δ (-1)) (by omega) hp' g2 g4 (fun post' h158 => gB_seq (s := nC N t + j + 1) ht hnt (by omega) (by omega) hk g2 g6 g7 g8 (q_seqB (by omega) ?_ (s40_158 (j := j + 1) (g8.uA (by omega)) hN ht hnt (by omega) (by omega) (Or.inl (by omega)) h158))) ⟨g1.cong rfl (by rw [uA_a (by omega), uA_a (by omega)]), g2, g3, g4, g5, ?_, ?_, (g8.uA (by omega)).uA (by omega)⟩ ?_ uA_s hn' (hQ'.mv ⟨fun _ _ _ _ _ => rfl, fun x z1 _ => by rw [uA_a (by omega), uA_a (by omega)], by rw [uA_a (by omega), uA_a (by omega), apL_nil], g5, fun x y _ hy => by rw [uA_j (by omega), uA_j (by omega)]⟩)
      · rw [uA_a (by omega), uA_a (by omega)]; exact hmk
      · rw [uA_a (by omega), uA_a (by omega), g6]
      · rw [uA_a (by omega), uA_s]; rfl
      · rw [uA_a (by omega), uA_a (by omega), h24']
    unfold adR at hQ
    cases hv : tkB b bn 8 p 256 with
    | inl q =>
      have hq := tkB_q hp hv
      have e : ad1 (rV N b bn kn d) N b bn kn t j p = .inl q := by unfold ad1; rw [hv]
      obtain ⟨σ', α', h1, h2, h3⟩ := e_bad (j := j) (kn := kn) hN ht hnt f8 f1 (by omega) hkn f2 f3 f4 hp h24 (by omega) ha hv (by omega)
      exact runB_step hs20 (by omega) hs29 (fun post' hp' => hst post' (h3 post' hp')) (hQ.no e hq σ' α' h1 h2)
    | inr x =>
      obtain ⟨p1, len⟩ := x
      have hl := tkB_le hv
      by_cases hjk : j < kn
      · have e : ad1 (rV N b bn kn d) N b bn kn t j p = ckT p1 len (rV N b bn kn d (nD N t j) p1) := by
          unfold ad1; rw [hv]; simp only []; rw [if_pos hjk]
        refine runB_step hs20 (by omega) hs29 (fun post' hp' => hst post' (e_add (j := j) hN ht hnt f8 f1 (by omega) hkn f2 f3 f4 h24 (by omega) ha hjk hv hp')) ?_
        have hFC : FCB N nt bn b δ t (nC N t + j + 2) p1 n (nD N t j) (upd (upd σ 28 (nI p1)) 20 (nI (δ + 2))) (psh (uA (uA β 25 δ (nI p1)) 26 δ (nI len)) (δ + 1) (nI (nD N t j))) :=
          psh_FCB (f1.cong (pk_un (by omega)) (by rw [uA_a (by omega), uA_a (by omega)])) q_us (by rw [pk_un (by omega), f4]) (by rw [pk_un (by omega), f5]) (by rw [uA_a (by omega), uA_a (by omega), f6]) (by rw [uA_a (by omega), uA_a (by omega), f7]) ((f8.uA (by omega)).uA (by omega))
        have hS0 : MSR δ n [] σ β (upd (upd σ 28 (nI p1)) 20 (nI (δ + 2))) (psh (uA (uA β 25 δ (nI p1)) 26 δ (nI len)) (δ + 1) (nI (nD N t j))) :=
          psh_MSR (by rw [pk_un (by omega), f5]) (fun k _ _ z3 _ => pk_un z3) (fun x hx => by rw [uA_a (by omega), uA_a (by omega)]) (fun x y hy => by rw [uA_j (by omega), uA_j (by omega)])
        refine run_childB ih (by omega) (by omega) (by omega) hl.2.2 (by omega) hFC (fun q hr hq σ' α' hFB h29 => hQ.no (e.trans (by rw [hr]; rfl)) hq σ' α' (hS0.fb.trans hFB) h29) (fun p' l hr hp' σ2 α2 hF2 hk2 hS2 => ?_)
        have m25 : α2 25 δ = nI p1 := by rw [hk2 25 (by omega), psh_j (by omega), uA_a (by omega), uA_s]
        have m26 : α2 26 δ = nI len := by rw [hk2 26 (by omega), psh_j (by omega), uA_s]
        have m24 : α2 24 δ = nI a := by rw [hk2 24 (by omega), psh_j (by omega), uA_a (by omega), uA_a (by omega), h24]
        by_cases hpl : p' = p1 + len
        · have e2 : ad1 (rV N b bn kn d) N b bn kn t j p = .inr (p', l) := by rw [e, hr]; simp only [ckT, if_pos hpl]
          have hlen := rV_len hN hL d _ _ _ _ (by omega : nD N t j < nt) hr
          refine next p' (n + l.length) σ2 α2 hp' hF2 (Or.inr ⟨p1, len, m25, m26, by rw [hF2.2.2.1, hpl], by omega, by omega⟩) m24 ?_ (hQ.go e2 (by have := hS0.trans (Nat.le_refl _) hS2; simpa using this))
          omega
        · have e2 : ad1 (rV N b bn kn d) N b bn kn t j p = .inl p1 := by rw [e, hr]; simp only [ckT, if_neg hpl]
          obtain ⟨g1, g2, g3, g4, g5, g6, g7, g8⟩ := hF2
          refine runB_step g2 (by omega) g4 (fun post' hp' => gB_seq (s := nC N t + j + 1) ht hnt (by omega) (by omega) hk g2 g6 g7 g8 (q_seqX (mk := p1) (len := len) (p := p') (by omega) (by rw [uA_a (by omega), m25]) (by rw [uA_a (by omega), m26]) g3 (by omega) (by omega) (by omega) hpl hp')) ?_
          exact hQ.no e2 hl.2.2 _ _ (FBR.trans (hS0.fb.trans hS2.fb) ⟨fun k _ _ _ z4 => pk_un z4, fun x z1 z2 => uA_a (by omega)⟩) q_us
      · refine runB_step hs20 (by omega) hs29 (fun post' hp' => hst post' (e_skip (j := j) f1 (by omega) hkn f3 f4 h24 (by omega) (by omega) (by omega) hv hp')) ?_
        by_cases hlt : bn < p1 + len
        · have e : ad1 (rV N b bn kn d) N b bn kn t j p = .inl bn := by unfold ad1; rw [hv]; simp only []; rw [if_neg hjk, if_pos hlt]
          rw [if_pos hlt]
          exact hQ.no e (Nat.le_refl _) _ _ ⟨fun k _ _ z3 z4 => by rw [pk_un z4, pk_un z3], fun x _ _ => rfl⟩ q_us
        · have e : ad1 (rV N b bn kn d) N b bn kn t j p = .inr (p1 + len, []) := by unfold ad1; rw [hv]; simp only []; rw [if_neg hjk, if_neg hlt]
          rw [if_neg hlt]
          refine next (p1 + len) n _ β (by omega) ⟨f1.cong (pk_un (by omega)) rfl, by rw [pk_un (by omega), f2], q_us, by rw [pk_un (by omega), f4], by rw [pk_un (by omega), f5], f6, f7, f8⟩ (Or.inl h25) h24 (by omega) (hQ.go e ⟨fun k _ _ z3 _ => pk_un z3, fun x _ _ => rfl, by rw [apL_nil], by rw [pk_un (by omega), f5]; rfl, fun _ _ _ _ => rfl⟩)
end MBX
