/-! THE REFERENCE over bits: all of it -/
section MBY
variable {post : Int32 → (Nat → Int32) → (Nat → Nat → Int32) → Prop} {N : NT} {nt bn kn : Nat} {b : Nat → Nat}
theorem MSR.refl {δ n : Nat} {σ : Nat → Int32} {α : Nat → Nat → Int32} (h : σ 18 = nI n) : MSR δ n [] σ α σ α := ⟨fun _ _ _ _ _ => rfl, fun _ _ _ => rfl, apL_nil.symm, h, fun _ _ _ _ => rfl⟩
theorem run_partsB {t δ d : Nat} {m : Int32} (hN : NWf N nt) (hL : NLw N nt) (ht : t < nt) (hnt : nt ≤ 16) (hk : nK N t = 2) (hd : t < d + 1) (hδ : δ + t < 16) (ih : VRB post N nt bn kn b d) : ∀ (j k p n : Nat) (σ : Nat → Int32) (α : Nat → Nat → Int32), k + j = nC N t → p ≤ bn → FFB N nt bn b δ t (k + 1) p n σ α → α 23 δ = m → α 25 δ = -1 → n + sumN (fun k => nL N (nP N t k)) j k ≤ 240 →
    (∀ p' l, ptT (rV N b bn kn d) N t m j k p = .inr (p', l) → p' ≤ bn → ∀ σ' α', MSR δ n l σ α σ' α' → FFB N nt bn b δ t (nC N t + 1) p' (n + l.length) σ' α' → α' 24 δ = α 24 δ → α' 27 δ = α 27 δ → α' 25 δ = -1 → RunB post kn σ' α') → (∀ q, ptT (rV N b bn kn d) N t m j k p = .inl q → q ≤ bn → ∀ σ' α', FBR σ α σ' α' → σ' 29 = nI q → RunB post kn σ' α') → RunB post kn σ α := by
  have hwf := hN t ht
  intro j
  induction j with
  | zero =>
    intro k p n σ α hj hp hF h23 h25 hn hg hb
    have hk0 : k = nC N t := by omega
    subst hk0
    exact hg p [] rfl hp σ α (MSR.refl hF.2.2.2.2.1) hF rfl rfl h25
  | succ j ihj =>
    intro k p n σ α hj hp hF h23 h25 hn hg hb
    obtain ⟨f1, f2, f3, f4, f5, f6, f7, f8⟩ := hF
    have hP := hwf.2.2.2.1 k (by omega)
    rw [sumN] at hn
    unfold ptT at hg hb
    by_cases hm : msk m k = 1
    · rw [if_pos hm] at hg hb
      refine runB_step f2 (by omega) f4 (fun post' hp' => gB_seq (s := k) ht hnt (by omega) (by omega) hk f2 f6 f7 f8 (q_seqB (by omega) (Or.inl (by rw [uA_a (by omega), h25])) (s40_push (f8.uA (by omega)) hN ht hnt (by omega) (by omega) f2 (by rw [uA_a (by omega), h23]) hm hp'))) ?_
      have hFC : FCB N nt bn b δ t (k + 2) p n (nP N t k) (upd σ 20 (nI (δ + 2))) (psh (uA (uA α 22 δ (nI (k + 2))) 25 δ (-1)) (δ + 1) (nI (nP N t k))) :=
        psh_FCB (f1.cong rfl (by rw [uA_a (by omega), uA_a (by omega)])) f3 f4 f5 (by rw [uA_a (by omega), uA_a (by omega), f6]) (by rw [uA_a (by omega), uA_s]) ((f8.uA (by omega)).uA (by omega))
      have hS0 : MSR δ n [] σ α (upd σ 20 (nI (δ + 2))) (psh (uA (uA α 22 δ (nI (k + 2))) 25 δ (-1)) (δ + 1) (nI (nP N t k))) :=
        psh_MSR f5 (fun _ _ _ _ _ => rfl) (fun x hx => by rw [uA_a (by omega), uA_a (by omega)]) (fun x y hy => by rw [uA_j (by omega), uA_j (by omega)])
      refine run_childB ih (by omega) (by omega) (by omega) hp (by omega) hFC (fun q hr hq σ' α' hFB h29 => hb q (by rw [hr]; rfl) hq σ' α' (hS0.fb.trans hFB) h29) (fun p' l hr hp' σ2 α2 hF2 hk2 hS2 => ?_)
      have hlen := rV_len hN hL d _ _ _ _ (by omega : nP N t k < nt) hr
      have hS3 : MSR δ n l σ α σ2 α2 := by have := hS0.trans (Nat.le_refl _) hS2; simpa using this
      refine ihj (k + 1) p' (n + l.length) σ2 α2 (by omega) hp' hF2 ?_ ?_ (by omega) (fun p2 l2 hr2 hp2 σ' α' hMS hFF h24 h27 h25' => ?_) (fun q hr2 hq σ' α' hFB h29 => ?_)
      · rw [hk2 23 (by omega), psh_j (by omega), uA_a (by omega), uA_a (by omega), h23]
      · rw [hk2 25 (by omega), psh_j (by omega), uA_s]
      · refine hg p2 (l ++ l2) (by rw [hr]; simp only [bnd]; rw [hr2]) hp2 σ' α' (hS3.trans (Nat.le_refl _) hMS) ?_ ?_ ?_ h25'
        · rw [List.length_append, ← Nat.add_assoc]; exact hFF
        · rw [h24, hk2 24 (by omega), psh_j (by omega), uA_a (by omega), uA_a (by omega)]
        · rw [h27, hk2 27 (by omega), psh_j (by omega), uA_a (by omega), uA_a (by omega)]
      · exact hb q (by rw [hr]; simp only [bnd]; rw [hr2]) hq σ' α' (hS3.fb.trans hFB) h29
    · rw [if_neg hm] at hg hb
      refine runB_step f2 (by omega) f4 (fun post' hp' => gB_seq (s := k) ht hnt (by omega) (by omega) hk f2 f6 f7 f8 (q_seqB (by omega) (Or.inl (by rw [uA_a (by omega), h25])) (s40_skip (f8.uA (by omega)) hN ht hnt (by omega) (by omega) (by rw [uA_a (by omega), h23]) hm hp'))) ?_
      have hS0 : MSR δ n [] σ α σ (uA (uA α 22 δ (nI (k + 2))) 25 δ (-1)) := ⟨fun _ _ _ _ _ => rfl, fun x z1 _ => by rw [uA_a (by omega), uA_a (by omega)], by rw [uA_a (by omega), uA_a (by omega), apL_nil], f5, fun x y _ hy => by rw [uA_j (by omega), uA_j (by omega)]⟩
      refine ihj (k + 1) p n σ _ (by omega) hp ⟨f1.cong rfl (by rw [uA_a (by omega), uA_a (by omega)]), f2, f3, f4, f5, by rw [uA_a (by omega), uA_a (by omega), f6], by rw [uA_a (by omega), uA_s], (f8.uA (by omega)).uA (by omega)⟩ ?_ uA_s (by omega) (fun p2 l2 hr2 hp2 σ' α' hMS hFF h24 h27 h25' => ?_) (fun q hr2 hq σ' α' hFB h29 => ?_)
      · rw [uA_a (by omega), uA_a (by omega), h23]
      · refine hg p2 l2 hr2 hp2 σ' α' (hS0.trans (Nat.le_refl _) hMS) hFF ?_ ?_ h25'
        · rw [h24, uA_a (by omega), uA_a (by omega)]
        · rw [h27, uA_a (by omega), uA_a (by omega)]
      · exact hb q hr2 hq σ' α' (hS0.fb.trans hFB) h29
theorem run_listB {t δ d h : Nat} (hN : NWf N nt) (hL : NLw N nt) (ht : t < nt) (hnt : nt ≤ 16) (hk : nK N t = 1) (hC : 0 < nC N t) (hd : t < d + 1) (hδ : δ + t < 16) (hh : h ≤ 8) (ih : VRB post N nt bn kn b d) : ∀ (j s p n : Nat) (σ : Nat → Int32) (α : Nat → Nat → Int32), 0 < s → s + j = h → p ≤ bn → FFB N nt bn b δ t s p n σ α → α 23 δ = nI h → n + j * nL N (nP N t 0) ≤ 240 →
    TR post kn bn δ n (rptT (rV N b bn kn d (nP N t 0)) j p) σ α → RunB post kn σ α := by
  have hP := (hN t ht).2.2.2.1 0 hC
  intro j
  induction j with
  | zero =>
    intro s p n σ α hs hj hp hF h23 hn hQ
    obtain ⟨f1, f2, f3, f4, f5, f6, f7, f8⟩ := hF
    refine runB_step f2 (by omega) f4 (fun post' hp' => gB_val ht hnt (by omega) (by omega) (by omega) f2 f6 f7 f8 ⟨fun _ => bP ht hnt (by omega) (f8.uA (by omega)) f2 (by omega) rfl (Or.inr (Or.inl ⟨hk, h, by rw [uA_a (by omega), h23], by omega⟩)) hp', fun h0 => absurd h0 (nI_ne0 hs (by omega))⟩) ?_
    exact pop_RunB hp hQ f5 f3 f4 (fun _ _ _ _ _ => rfl) (fun a ha => uA_a (by omega)) (fun a j hj => uA_j (by omega))
  | succ j ihj =>
    intro s p n σ α hs hj hp hF h23 hn hQ
    obtain ⟨f1, f2, f3, f4, f5, f6, f7, f8⟩ := hF
    rw [Nat.succ_mul] at hn
    refine runB_step f2 (by omega) f4 (fun post' hp' => gB_val ht hnt (by omega) (by omega) (by omega) f2 f6 f7 f8 ⟨fun _ => bL (h := h) hN ht hnt (by omega) hk (f8.uA (by omega)) f2 (by rw [uA_a (by omega), h23]) (by omega) (by omega) hC hp', fun h0 => absurd h0 (nI_ne0 hs (by omega))⟩) ?_
    have hFC : FCB N nt bn b δ t (s + 1) p n (nP N t 0) (upd σ 20 (nI (δ + 2))) (psh (uA α 22 δ (nI (s + 1))) (δ + 1) (nI (nP N t 0))) :=
      psh_FCB (f1.cong rfl (uA_a (by omega))) f3 f4 f5 (by rw [uA_a (by omega), f6]) uA_s (f8.uA (by omega))
    have hS0 : MSR δ n [] σ α (upd σ 20 (nI (δ + 2))) (psh (uA α 22 δ (nI (s + 1))) (δ + 1) (nI (nP N t 0))) :=
      psh_MSR f5 (fun _ _ _ _ _ => rfl) (fun x hx => uA_a (by omega)) (fun x y hy => uA_j (by omega))
    refine run_childB ih (by omega) (by omega) (by omega) hp (by omega) hFC (fun q hr hq σ' α' hFB h29 => hQ.no hr hq σ' α' (hS0.fb.trans hFB) h29) (fun p' l hr hp' σ2 α2 hF2 hk2 hS2 => ?_)
    have hlen := rV_len hN hL d _ _ _ _ (by omega : nP N t 0 < nt) hr
    have hS3 : MSR δ n l σ α σ2 α2 := by have := hS0.trans (Nat.le_refl _) hS2; simpa using this
    exact ihj (s + 1) p' (n + l.length) σ2 α2 (by omega) (by omega) hp' hF2 (by rw [hk2 23 (by omega), psh_j (by omega), uA_a (by omega), h23]) (by omega) (hQ.go hr hS3)
theorem run_vB (hN : NWf N nt) (hL : NLw N nt) (hkn : kn ≤ 3) (hnt : nt ≤ 16) (hbn : bn ≤ 240) : ∀ d, VRB post N nt bn kn b d := by
  intro d
  induction d with
  | zero => intro t δ p n σ α _ h; omega
  | succ d ih =>
    intro t δ p n σ α ht hd hδ hp hn hF h25 hQ
    have hwf := hN t ht
    obtain ⟨l0, l1, l2, l3, l4⟩ := hL t ht
    obtain ⟨f1, f2, f3, f4, f5, f6, f7, f8⟩ := hF
    unfold rV at hQ
    have hβ : NMo N nt (uA α 22 δ (nI 1)) := f8.uA (by omega)
    have hBβ : MB bn b σ (uA α 22 δ (nI 1)) := f1.cong rfl (uA_a (by omega))
    by_cases hk : nK N t = 2
    · rw [if_pos hk] at hQ
      have hC := (hwf.2.2.2.2.2.2.2.1 hk).2.2
      have hl2 := l2 hk
      unfold sqR at hQ
      have bad : ∀ q, q ≤ bn → (tkB b bn 1 p 2 = .inl q ∨ ∃ p1 ha, tkB b bn 1 p 2 = .inr (p1, ha) ∧ flR N b bn t (nC N t) 0 0 p1 = .inl q) → (∀ σ' α', FBR σ α σ' α' → σ' 29 = nI q → RunB post kn σ' α') → RunB post kn σ α := by
        intro q hq hf hR
        obtain ⟨σ', α', h1, h2, h3⟩ := b_head1 (δ := δ) hN ht hnt (by omega) hβ hBβ f3 f4 hp f5 (by omega) hf
        exact runB_step f2 (by omega) f4 (fun post' hp' => gB_head ht hnt (by omega) hk f2 f6 f7 f8 (h3 post' hp')) (hR σ' α' (FBR.trans ⟨fun _ _ _ _ _ => rfl, fun x z1 z2 => uA_a (by omega)⟩ h1) h2)
      cases hv : tkB b bn 1 p 2 with
      | inl q =>
        rw [hv] at hQ
        exact bad q (tkB_q hp hv) (Or.inl hv) (hQ.2 q rfl (tkB_q hp hv))
      | inr x =>
        obtain ⟨p1, ha⟩ := x
        rw [hv] at hQ
        simp only [] at hQ
        have hl1 := tkB_le hv
        cases hf : flR N b bn t (nC N t) 0 0 p1 with
        | inl q =>
          rw [hf] at hQ
          have hq : q ≤ bn := by
            have fl : ∀ (j k : Nat) (m : Int32) (p : Nat), p ≤ bn → flR N b bn t j k m p = .inl q → q ≤ bn := by
              intro j
              induction j with
              | zero => intro k m p _ h; cases h
              | succ j ihj =>
                intro k m p hp h
                unfold flR at h
                by_cases ho : nO N t k = 1
                · rw [if_pos ho] at h
                  cases hv2 : tkB b bn 1 p 2 with
                  | inl q2 => rw [hv2] at h; cases h; exact tkB_q hp hv2
                  | inr y =>
                    obtain ⟨p2, v⟩ := y
                    rw [hv2] at h
                    simp only [] at h
                    cases hr : flR N b bn t j (k + 1) (m ||| (nI v <<< (nI k &&& 31))) p2 with
                    | inl q2 => rw [hr] at h; cases h; exact ihj _ _ _ (tkB_le hv2).2.2 hr
                    | inr z => rw [hr] at h; cases h
                · rw [if_neg ho] at h; exact ihj _ _ _ hp h
            exact fl _ _ _ _ hl1.2.2 hf
          exact bad q hq (Or.inr ⟨p1, ha, hv, hf⟩) (hQ.2 q rfl hq)
        | inr y =>
          obtain ⟨p2, m, fl⟩ := y
          rw [hf] at hQ
          simp only [] at hQ
          have hp2 : p2 ≤ bn := by
            have fl : ∀ (j k : Nat) (m : Int32) (p : Nat) (m2 : Int32) (l2 : List Int32), p ≤ bn → flR N b bn t j k m p = .inr (p2, m2, l2) → p2 ≤ bn := by
              intro j
              induction j with
              | zero => intro k m p m2 l2 hp h; cases h; exact hp
              | succ j ihj =>
                intro k m p m2 l2 hp h
                unfold flR at h
                by_cases ho : nO N t k = 1
                · rw [if_pos ho] at h
                  cases hv2 : tkB b bn 1 p 2 with
                  | inl q2 => rw [hv2] at h; cases h
                  | inr y =>
                    obtain ⟨p3, v⟩ := y
                    rw [hv2] at h
                    simp only [] at h
                    cases hr : flR N b bn t j (k + 1) (m ||| (nI v <<< (nI k &&& 31))) p3 with
                    | inl q2 => rw [hr] at h; cases h
                    | inr z => obtain ⟨z1, z2, z3⟩ := z; rw [hr] at h; cases h; exact ihj _ _ _ _ _ (tkB_le hv2).2.2 hr
                · rw [if_neg ho] at h; exact ihj _ _ _ _ _ hp h
            exact fl _ _ _ _ _ _ hl1.2.2 hf
          have hfl := flR_len _ _ _ _ _ _ _ hf
          obtain ⟨σ1, α1, g1, g2, g3, g4, g5, g6, g7, g8, g9, g10, g11⟩ := b_head0 (δ := δ) hN ht hnt (by omega) hβ hBβ f3 f4 f5 (by omega) hv hf
          refine runB_step f2 (by omega) f4 (fun post' hp' => gB_head ht hnt (by omega) hk f2 f6 f7 f8 (g11 post' hp')) ?_
          have hS1 : MSR δ n (fl ++ [nI 0]) σ α σ1 α1 := by
            have : MSR δ n [] σ α σ (uA α 22 δ (nI 1)) := ⟨fun _ _ _ _ _ => rfl, fun x z1 _ => uA_a (by omega), by rw [uA_a (by omega), apL_nil], f5, fun x y _ hy => uA_j (by omega)⟩
            have h9 := this.trans (Nat.le_refl _) g1
            rw [List.nil_append] at h9
            exact h9
          have hM1 : NMo N nt α1 := f8.cong (fun x hx => hS1.2.1 x (by omega) (by omega))
          have hB1 : MB bn b σ1 α1 := f1.cong (hS1.1 16 (by omega) (by omega) (by omega) (by omega)) (hS1.2.1 17 (by omega) (by omega))
          have h18 : σ1 18 = nI (n + (fl ++ [nI 0]).length) := hS1.2.2.2.1
          have hlf : (fl ++ [nI 0]).length = fl.length + 1 := by simp
          refine run_partsB (m := m) hN hL ht hnt hk hd hδ ih (nC N t) 0 p2 _ σ1 α1 (by omega) hp2 ⟨hB1, by rw [g4, f2], g2, g3, h18, by rw [g5, uA_a (by omega), f6], by rw [g6, uA_s], hM1⟩ g8 (by rw [g7, uA_a (by omega), h25]) (by rw [hlf]; omega) (fun p3 pl hr hp3 σ3 α3 hMS hFF h24 h27 h25' => ?_) (fun q hr hq σ' α' hFB h29 => ?_)
          · rw [hr] at hQ
            simp only [] at hQ
            have hpl := ptT_len (C := nC N t) (g := fun k => nL N (nP N t k)) (fun k hk p p' l e => rV_len hN hL d _ p p' l (by have := (hwf.2.2.2.1 k hk).1; omega) e) (nC N t) 0 _ _ _ (by omega) hr
            have hS3 : MSR δ n (fl ++ nI 0 :: pl) σ α σ3 α3 := by
              have := hS1.trans (Nat.le_refl _) hMS
              rw [List.append_assoc] at this; exact this
            have hn3 : n + (fl ++ [nI 0]).length + pl.length = n + (fl ++ nI 0 :: pl).length := by simp; omega
            rw [hn3] at hFF
            obtain ⟨k1, k2, k3, k4, k5, k6, k7, k8⟩ := hFF
            by_cases h0 : ha = 0
            · rw [if_pos h0] at hQ
              rw [g9, h0] at h24
              refine runB_step k2 (by omega) k4 (fun post' hp' => gB_seq (s := nC N t) ht hnt (by omega) (by omega) hk k2 k6 k7 k8 (q_seqB (by omega) (Or.inl (by rw [uA_a (by omega), h25'])) (s40_158 (j := 0) (k8.uA (by omega)) hN ht hnt (by omega) (by omega) (Or.inr (by rw [uA_a (by omega), h24])) (e_pop (a := 0) (by omega) k2 (by rw [uA_a (by omega), uA_a (by omega), h24]) (by omega) (by omega) hp')))) ?_
              refine hQ.1 p3 _ rfl hp3 _ _ (hS3.trans (bs := []) (Nat.le_refl _) (σ2 := upd σ3 20 (nI δ)) (α2 := uA (uA α3 22 δ (nI (nC N t + 2))) 25 δ (-1)) ⟨fun k _ z2 _ _ => pk_un z2, fun x z1 _ => by rw [uA_a (by omega), uA_a (by omega)], by rw [uA_a (by omega), uA_a (by omega), apL_nil], by rw [pk_un (by omega), k5]; rfl, fun x y _ hy => by rw [uA_j (by omega), uA_j (by omega)]⟩ |> fun h => by rw [List.append_nil] at h; exact h) q_us (by rw [pk_un (by omega), k3]) (by rw [pk_un (by omega), k4])
            · rw [if_neg h0] at hQ
              have ha1 : ha = 1 := by have := hl1.1; omega
              rw [g9, ha1] at h24
              rw [g10] at h27
              cases hv2 : tkB b bn 2 p3 (nA N t) with
              | inl q =>
                rw [hv2] at hQ
                have hq := tkB_q hp3 hv2
                obtain ⟨σ', α', u1, u2, u3⟩ := s40_cnt1 (σ := σ3) (β := uA α3 22 δ (nI (nC N t + 2))) (δ := δ) hkn (k8.uA (by omega)) hN ht hnt (by omega) (k1.cong rfl (uA_a (by omega))) k3 k4 hp3 k2 (by rw [uA_a (by omega), h24]) (by rw [uA_a (by omega), h27]) (by omega) hv2 (by omega)
                exact runB_step k2 (by omega) k4 (fun post' hp' => gB_seq (s := nC N t) ht hnt (by omega) (by omega) hk k2 k6 k7 k8 (q_seqB (by omega) (Or.inl (by rw [uA_a (by omega), h25'])) (u3 post' hp'))) (hQ.2 q rfl hq σ' α' (FBR.trans (hS3.fb.trans ⟨fun _ _ _ _ _ => rfl, fun x z1 z2 => uA_a (by omega)⟩) u1) u2)
              | inr z =>
                obtain ⟨p4, v⟩ := z
                rw [hv2] at hQ
                simp only [] at hQ
                have hl4 := tkB_le hv2
                have hS4 : MSR δ n (fl ++ nI (min kn (v + 1)) :: pl) σ α (upd σ3 28 (nI p4)) (uA (uA (uA (uA α3 22 δ (nI (nC N t + 2))) 25 δ (-1)) 24 δ (nI (v + 1))) 19 (n + fl.length) (nI (min kn (v + 1)))) := by
                  refine ⟨fun k z1 z2 z3 z4 => by rw [pk_un z3, hS3.1 k z1 z2 z3 z4], fun x z1 z2 => by rw [uA_a z2, uA_a (by omega), uA_a (by omega), uA_a (by omega), hS3.2.1 x z1 z2], ?_, by rw [pk_un (by omega), k5]; simp, fun x y z1 hy => by rw [uA_a z1, uA_j (by omega), uA_j (by omega), uA_j (by omega), hS3.2.2.2.2 x y z1 hy]⟩
                  show upA _ 19 _ 19 = _
                  rw [upA_s, uA_a (by omega), uA_a (by omega), uA_a (by omega), hS3.2.2.1, apL_mid]
                have hlen4 : (fl ++ nI (min kn (v + 1)) :: pl).length = (fl ++ nI 0 :: pl).length := by simp
                have hsum := sumN_mono (fun j => nL N (nD N t j)) (v + 1) (nA N t) 0 (by omega)
                refine run_adB (a := v + 1) hN hL hkn ht hnt hbn hk hd hδ (by omega) ih (v + 1) 0 p4 (n + (fl ++ nI (min kn (v + 1)) :: pl).length) σ3 α3 _ _ (by omega) hl4.2.2 k2 k4 (fun post' h158 => gB_seq (s := nC N t) ht hnt (by omega) (by omega) hk k2 k6 k7 k8 (q_seqB (by omega) (Or.inl (by rw [uA_a (by omega), h25'])) (s40_cnt0 hkn (k8.uA (by omega)) hN ht hnt (by omega) (k1.cong rfl (uA_a (by omega))) k3 k4 (by rw [uA_a (by omega), h24]) (by rw [uA_a (by omega), h27]) (by omega) hv2 h158))) ⟨?_, ?_, q_us, ?_, ?_, ?_, ?_, ?_⟩ ?_ ?_ ?_ (hQ.go rfl hS4)
                · exact k1.cong (pk_un (by omega)) (by rw [uA_a (by omega), uA_a (by omega), uA_a (by omega), uA_a (by omega)])
                · rw [pk_un (by omega), k2]
                · rw [pk_un (by omega), k4]
                · rw [pk_un (by omega), k5, hlen4]
                · rw [uA_a (by omega), uA_a (by omega), uA_a (by omega), uA_a (by omega), k6]
                · rw [uA_a (by omega), uA_a (by omega), uA_a (by omega), uA_s]
                · exact (((k8.uA (by omega)).uA (by omega)).uA (by omega)).uA (by omega)
                · rw [uA_a (by omega), uA_s]
                · rw [uA_a (by omega), uA_a (by omega), uA_s]
                · simp only [List.length_append, List.length_cons] at *; omega
          · rw [hr] at hQ
            exact hQ.2 q rfl hq σ' α' (hS1.fb.trans hFB) h29
    · rw [if_neg hk] at hQ
      have hnW : 1 ≤ nL N t ∨ True := Or.inr trivial
      cases hv : tkB b bn (nW N t) p (nV N t) with
      | inl q =>
        rw [hv] at hQ
        have hq := tkB_q hp hv
        obtain ⟨p2, hp2⟩ := v83_1 (δ := δ) hN ht hnt (by omega) hβ hBβ f3 f4 hp f5 (by omega) hv
        have hM2 : NMo N nt (uA (uA (uA α 22 δ (nI 1)) 23 δ (nlo N t)) 19 n (nlo N t)) := (hβ.uA (by omega)).uA (by omega)
        have h20' : (upd (upd (upd σ 28 (nI p2)) 29 (nI q)) 18 (nI (n + 1))) 20 = nI (δ + 1) := by rw [pk_un (by omega), pk_un (by omega), pk_un (by omega), f2]
        have h23' : (uA (uA (uA α 22 δ (nI 1)) 23 δ (nlo N t)) 19 n (nlo N t)) 23 δ = nlo N t := by rw [uA_a (by omega), uA_s]
        have fin : ∀ σ' α', (∀ k, k ≠ 20 → σ' k = (upd (upd (upd σ 28 (nI p2)) 29 (nI q)) 18 (nI (n + 1))) k) → (∀ a, a < 21 → α' a = (uA (uA (uA α 22 δ (nI 1)) 23 δ (nlo N t)) 19 n (nlo N t)) a) → (∀ post' : (Nat → Int32) → (Nat → Nat → Int32) → Prop, post' σ' α' → wb_X7_goOverBits_165 post' (nI δ) (nI t) (nI 0) (nI (if nK N t = 3 then 1 else 0)) (upd (upd (upd σ 28 (nI p2)) 29 (nI q)) 18 (nI (n + 1))) (uA (uA (uA α 22 δ (nI 1)) 23 δ (nlo N t)) 19 n (nlo N t))) → RunB post kn σ α := by
          intro σ' α' e1 e2 h165
          refine runB_step f2 (by omega) f4 (fun post' hp' => gB_val ht hnt (by omega) (by omega) hk f2 f6 f7 f8 (hp2 post' (h165 post' hp'))) (hQ.2 q rfl hq σ' α' ⟨fun k z1 z2 z3 z4 => by rw [e1 k z2, pk_un z1, pk_un z4, pk_un z3], fun x z1 z2 => by rw [e2 x z1, uA_a z2, uA_a (by omega), uA_a (by omega)]⟩ (by rw [e1 29 (by omega), pk_un (by omega), q_us]))
        by_cases hk1 : nK N t = 1
        · obtain ⟨e0, a, c, ea, ec, hac, hc8⟩ := hwf.2.2.2.2.2.2.1 hk1
          replace h23' := h23'.trans ea
          by_cases ha0 : a = 0
          · exact fin _ _ (fun k z => pk_un z) (fun a ha => rfl) (fun post' hp' => bP ht hnt (by omega) hM2 h20' (by omega) rfl (Or.inr (Or.inl ⟨hk1, a, h23', by omega⟩)) hp')
          · exact fin _ _ (fun k z => pk_un z) (fun a ha => psh_a ha) (fun post' hp' => bL (h := a) hN ht hnt (by omega) hk1 hM2 h20' h23' (by omega) (by omega) (by omega) hp')
        · by_cases hk3 : nK N t = 3
          · obtain ⟨e1, e2, e3⟩ := hwf.2.2.2.2.2.2.2.2 hk3
            replace h23' := h23'.trans e1
            exact fin _ _ (fun k z => pk_un z) (fun a ha => psh_a ha) (fun post' hp' => bC (j := 0) hN ht hnt (by omega) hk3 hM2 h20' h23' (by omega) rfl hp')
          · exact fin _ _ (fun k z => pk_un z) (fun a ha => rfl) (fun post' hp' => bP ht hnt (by omega) hM2 h20' (by omega) rfl (Or.inl (by omega)) hp')
      | inr x =>
        obtain ⟨p1, v⟩ := x
        rw [hv] at hQ
        simp only [] at hQ
        have hl1 := tkB_le hv
        have hS1 : MSR δ n [hdV N t v] σ α (upd (upd σ 28 (nI p1)) 18 (nI (n + 1))) (uA (uA (uA α 22 δ (nI 1)) 23 δ (hdV N t v)) 19 n (hdV N t v)) := by
          refine ⟨fun k z1 z2 z3 z4 => by rw [pk_un z1, pk_un z3], fun x z1 z2 => by rw [uA_a z2, uA_a (by omega), uA_a (by omega)], ?_, by rw [q_us]; rfl, fun x y z1 hy => by rw [uA_a z1, uA_j (by omega), uA_j (by omega)]⟩
          show upA _ 19 _ 19 = _
          rw [upA_s, uA_a (by omega), uA_a (by omega), ← apL_cons, apL_nil]
        have hQ1 := hQ.go rfl hS1
        have hM1 : NMo N nt (uA (uA (uA α 22 δ (nI 1)) 23 δ (hdV N t v)) 19 n (hdV N t v)) := (hβ.uA (by omega)).uA (by omega)
        have f23 : (uA (uA (uA α 22 δ (nI 1)) 23 δ (hdV N t v)) 19 n (hdV N t v)) 23 δ = hdV N t v := by rw [uA_a (by omega), uA_s]
        have f21' : (uA (uA (uA α 22 δ (nI 1)) 23 δ (hdV N t v)) 19 n (hdV N t v)) 21 δ = nI t := by rw [uA_a (by omega), uA_a (by omega), uA_a (by omega), f6]
        have f22' : (uA (uA (uA α 22 δ (nI 1)) 23 δ (hdV N t v)) 19 n (hdV N t v)) 22 δ = nI 1 := by rw [uA_a (by omega), uA_a (by omega), uA_s]
        have step : ∀ (σ' : Nat → Int32) (α' : Nat → Nat → Int32), (∀ post' : (Nat → Int32) → (Nat → Nat → Int32) → Prop, post' σ' α' → wb_X7_goOverBits_165 post' (nI δ) (nI t) (nI 0) (nI (if nK N t = 3 then 1 else 0)) (upd (upd σ 28 (nI p1)) 18 (nI (n + 1))) (uA (uA (uA α 22 δ (nI 1)) 23 δ (hdV N t v)) 19 n (hdV N t v))) → RunB post kn σ' α' → RunB post kn σ α := fun σ' α' h165 hR => runB_step f2 (by omega) f4 (fun post' hp' => gB_val ht hnt (by omega) (by omega) hk f2 f6 f7 f8 (v83_0 hN ht hnt (by omega) hβ hBβ f3 f4 f5 (by omega) hv (h165 post' hp'))) hR
        have hB1 : MB bn b (upd (upd σ 28 (nI p1)) 18 (nI (n + 1))) (uA (uA (uA α 22 δ (nI 1)) 23 δ (hdV N t v)) 19 n (hdV N t v)) := f1.cong (by rw [pk_un (by omega), pk_un (by omega)]) (by rw [uA_a (by omega), uA_a (by omega), uA_a (by omega)])
        generalize hσ1 : upd (upd σ 28 (nI p1)) 18 (nI (n + 1)) = σ1 at *
        generalize hα1 : uA (uA (uA α 22 δ (nI 1)) 23 δ (hdV N t v)) 19 n (hdV N t v) = α1 at *
        have s20 : σ1 20 = nI (δ + 1) := by rw [← hσ1, pk_un (by omega), pk_un (by omega), f2]
        have s28 : σ1 28 = nI p1 := by rw [← hσ1, pk_un (by omega), q_us]
        have s29 : σ1 29 = -1 := by rw [← hσ1, pk_un (by omega), pk_un (by omega), f4]
        have s18 : σ1 18 = nI (n + 1) := by rw [← hσ1, q_us]
        have hv1 := hl1.1
        by_cases hk1 : nK N t = 1
        · rw [if_pos hk1] at hQ1
          obtain ⟨e0, a, c, ea, ec, hac, hc8⟩ := hwf.2.2.2.2.2.2.1 hk1
          rw [NWf.list (nt := nt) hk1 ea ec hac hc8] at hv1
          have hh : hdV N t v = nI (a + v) := by unfold hdV; rw [ea, nI_add]
          rw [ea, nI_add, nI_clamp (by omega)] at hQ1
          rw [hh] at f23
          have hP := hwf.2.2.2.1 0 (by omega)
          have hb1 := l1 hk1 c ec hc8
          have hmul : (a + v) * nL N (nP N t 0) ≤ c * nL N (nP N t 0) := Nat.mul_le_mul_right _ (by omega)
          generalize hj : a + v = j at *
          cases j with
          | zero =>
            refine step _ _ (fun post' hp' => bP ht hnt (by omega) hM1 s20 (by omega) rfl (Or.inr (Or.inl ⟨hk1, 0, f23, by omega⟩)) hp') ?_
            exact pop_RunB hl1.2.2 hQ1 s18 s28 s29 (fun _ _ _ _ _ => rfl) (fun _ _ => rfl) (fun _ _ _ => rfl)
          | succ j =>
            rw [Nat.succ_mul] at hmul
            refine step _ _ (fun post' hp' => bL (h := j + 1) hN ht hnt (by omega) hk1 hM1 s20 f23 (by omega) (by omega) (by omega) hp') ?_
            have hFC : FCB N nt bn b δ t 1 p1 (n + 1) (nP N t 0) (upd σ1 20 (nI (δ + 2))) (psh α1 (δ + 1) (nI (nP N t 0))) := psh_FCB hB1 s28 s29 s18 f21' f22' hM1
            have hS0 : MSR δ (n + 1) [] σ1 α1 (upd σ1 20 (nI (δ + 2))) (psh α1 (δ + 1) (nI (nP N t 0))) := psh_MSR s18 (fun _ _ _ _ _ => rfl) (fun _ _ => rfl) (fun _ _ _ => rfl)
            refine run_childB ih (by omega) (by omega) (by omega) hl1.2.2 (by omega) hFC (fun q hr hq σ' α' hFB h29 => hQ1.no hr hq σ' α' (hS0.fb.trans hFB) h29) (fun p' l hr hp' σ2 α2 hF2 hk2 hS2 => ?_)
            have hlen := rV_len hN hL d _ _ _ _ (by omega : nP N t 0 < nt) hr
            have hS3 : MSR δ (n + 1) l σ1 α1 σ2 α2 := by have := hS0.trans (Nat.le_refl _) hS2; simpa using this
            exact run_listB (h := j + 1) hN hL ht hnt hk1 (by omega) hd hδ (by omega) ih j 1 p' _ σ2 α2 (by omega) (by omega) hp' hF2 (by rw [hk2 23 (by omega), psh_j (by omega), f23]) (by omega) (hQ1.go hr hS3)
        · rw [if_neg hk1] at hQ1
          by_cases hk3 : nK N t = 3
          · rw [if_pos hk3] at hQ1
            obtain ⟨e1, e2, e3⟩ := hwf.2.2.2.2.2.2.2.2 hk3
            unfold nV at hv1
            rw [if_pos hk3] at hv1
            have hh : hdV N t v = nI v := by unfold hdV; rw [e1, nI_add, Nat.zero_add]
            rw [e1, nI_add, Nat.zero_add, nI_clamp (by omega)] at hQ1
            rw [hh] at f23
            have hP := hwf.2.2.2.1 v hv1
            have hb3 := l3 hk3 v hv1
            refine step _ _ (fun post' hp' => bC (j := v) hN ht hnt (by omega) hk3 hM1 s20 f23 hv1 rfl hp') ?_
            have hFC : FCB N nt bn b δ t 1 p1 (n + 1) (nP N t v) (upd σ1 20 (nI (δ + 2))) (psh α1 (δ + 1) (nI (nP N t v))) := psh_FCB hB1 s28 s29 s18 f21' f22' hM1
            have hS0 : MSR δ (n + 1) [] σ1 α1 (upd σ1 20 (nI (δ + 2))) (psh α1 (δ + 1) (nI (nP N t v))) := psh_MSR s18 (fun _ _ _ _ _ => rfl) (fun _ _ => rfl) (fun _ _ _ => rfl)
            have e9 : rV N b bn kn d (nP N t v) p1 = bnd (rV N b bn kn d (nP N t v) p1) (fun p2 => .inr (p2, [])) := by
              cases rV N b bn kn d (nP N t v) p1 with
              | inl q => rfl
              | inr c => obtain ⟨c1, c2⟩ := c; simp [bnd]
            rw [e9] at hQ1
            refine run_childB ih (by omega) (by omega) (by omega) hl1.2.2 (by omega) hFC (fun q hr hq σ' α' hFB h29 => hQ1.no hr hq σ' α' (hS0.fb.trans hFB) h29) (fun p' l hr hp' σ2 α2 hF2 hk2 hS2 => ?_)
            have hS3 : MSR δ (n + 1) l σ1 α1 σ2 α2 := by have := hS0.trans (Nat.le_refl _) hS2; simpa using this
            obtain ⟨g1, g2, g3, g4, g5, g6, g7, g8⟩ := hF2
            refine runB_step g2 (by omega) g4 (fun post' hp' => gB_val (s := 1) ht hnt (by omega) (by omega) hk g2 g6 g7 g8 ⟨fun _ => bP ht hnt (by omega) (g8.uA (by omega)) g2 (by omega) rfl (Or.inr (Or.inr ⟨hk3, by omega⟩)) hp', fun h0 => absurd h0 (by decide)⟩) ?_
            exact pop_RunB hp' (hQ1.go hr hS3) g5 g3 g4 (fun _ _ _ _ _ => rfl) (fun a ha => uA_a (by omega)) (fun a j hj => uA_j (by omega))
          · rw [if_neg hk3] at hQ1
            refine step _ _ (fun post' hp' => bP ht hnt (by omega) hM1 s20 (by omega) rfl (Or.inl (by omega)) hp') ?_
            exact pop_RunB hl1.2.2 hQ1 s18 s28 s29 (fun _ _ _ _ _ => rfl) (fun _ _ => rfl) (fun _ _ _ => rfl)
end MBY
