/-! THE CLASS'S READER: a sequence, a value; the walks -/
theorem tkB_le {b : Nat → Nat} {bn w p bd p' v : Nat} (h : tkB b bn w p bd = .inr (p', v)) : v < bd ∧ p' = p + w ∧ p' ≤ bn := by
  unfold tkB at h
  split at h
  · cases h
  · split at h
    · cases h; exact ⟨by assumption, rfl, by omega⟩
    · cases h
section RV
variable {μ0 : Mm} {o r it ms mi bn kn : Nat} {b : Nat → Nat} {N : NT} {nt : Nat} {kd ty : Nat → Nat}
theorem r_seq (hR : RB μ0 o r it ms mi bn b) (hN : NWf N nt) {t δ d p n : Nat} (hkn : kn ≤ 3) (ht : t < nt) (hk2 : nK N t = 2) (hT : TyC kd ty N μ0 t) (hd : t < d + 1) (hδ : δ + t < 16) (ih : RVC μ0 o r it ms kn bn b kd ty N nt d) {f : Nat → Int32} {post : Mm → Prop} (hp : p ≤ bn) (hn : n ≤ 240)
    (hq : RQ μ0 o r it kn bn (sqR (rV N b bn kn d) N b bn kn t p) n f post) : wp_X1_getSequence o kd (wr_X1_getValue kd d) (ty t) ms (nI δ) (rS μ0 o r it kn p (-1) n f) post := by
  have hT0 := hT
  obtain ⟨pr, pi, pn, pf, om, ar, ai, an, af, fb, mb, mn, h1, h2, h3, h4, h5, h6, h7, h8, h9, h10, h11, h12⟩ := hT
  have hwf := hN t ht
  have hbn : bn ≤ 240 := hR.2.2.2.2.2.1
  have hC : 0 < nC N t := (hwf.2.2.2.2.2.2.2.1 hk2).2.2
  have hP0 := hwf.2.2.2.1 0 hC
  unfold sqR at hq
  refine ⟨⟨_, rS_o⟩, r_next hR (w := 1) (bd := 2) hp (by omega) (q_bd (bd := 2) (by omega) (by omega)) (fun p1 ha hv hp1 => ?_) (fun q hv hq' => ⟨fun _ => ?_, fun h => absurd h (by decide)⟩)⟩
  · rw [hv] at hq
    simp only [] at hq
    have ha2 := (tkB_le hv).1
    have go : wb_X1_getSequence_16 o kd (wr_X1_getValue kd d) post (ty t) ms (nI δ) (nI ha) (rS μ0 o r it kn p1 (-1) n f) := by
      refine ⟨⟨_, rS_o⟩, nC N t + 1, r_flags hR hN ht hk2 hT0 (nC N t) 0 n 0 p1 f (by omega) hp1 hn (fun p2 m fl hf hp2 n1 f1 hx1 => ?_) (fun q hf hq' m p' n' f' hn' => ?_)⟩
      · rw [hf] at hq
        simp only [] at hq
        refine ⟨_, _, rS_o, rfl, ⟨_, rS_r hR⟩, k_size (rS_r hR) ⟨_, _, rS_o, rfl, ⟨_, rS_r hR⟩, rx_app hR hx1.1 (fun n2 f2 hx2 => ⟨nC N t + 1, ?_⟩)⟩⟩
        refine r_parts hR hN ht hC hT0 hd hδ ih (nC N t) 0 p2 n2 f2 (by omega) hp2 hx2.1 ⟨fun p3 pl hpl hp3 n3 f3 hx3 => ?_, fun q hpl hq' p' n' f' hn' => ?_⟩
        · rw [hpl] at hq
          simp only [] at hq
          have hxx : Ex n f (fl ++ nI 0 :: pl) n3 f3 := by
            have := (hx1.app hx2).app hx3
            rw [List.append_assoc] at this
            exact this
          refine ⟨_, _, rS_T hR h1, rfl, ⟨_, rS_R hR h2⟩, t_size (rS_R hR h2) ⟨fun _ => ⟨fun hz => ?_, fun hz => ⟨_, _, rS_T hR h1, rfl, ⟨_, rS_R hR h8⟩, t_size (rS_R hR h8) ⟨⟨_, rS_o⟩, r_next hR (w := 2) (bd := nA N t) hp3 (by omega) ?_ (fun p4 v hv2 hp4 => ?_) (fun q hv2 hq' => ?_)⟩⟩⟩, fun h => absurd (by rw [q_le (by omega) (by omega)]; omega) h⟩⟩
          · rw [show (0 : Int32) = nI 0 from rfl, q_eq (by omega) (by omega)] at hz
            rw [if_pos hz] at hq
            exact hq.1 p3 _ rfl hp3 n3 f3 hxx
          · intro v hv4
            by_cases h0 : nA N t = 0
            · rw [h0, q_l1, q_dec0]
              constructor
              · intro h
                have e1 : (-nI 1 : Int32).toInt = -1 := by decide
                rw [Int32.le_iff_toInt_le, e1, nI_toInt (by omega)] at h; omega
              · intro h; omega
            · rw [q_l1, q_sub (by omega), q_le (by omega) (by omega)]; omega
          · rw [show (0 : Int32) = nI 0 from rfl, q_eq (by omega) (by omega)] at hz
            rw [if_neg hz, hv2] at hq
            simp only [] at hq
            have hvA := (tkB_le hv2).1
            have emin : (if nI kn < (1 : Int32) + nI v then nI kn else (1 : Int32) + nI v) = nI (min kn (v + 1)) := by
              rw [q_l1, nI_add]
              by_cases hlt : kn < 1 + v
              · rw [if_pos (by rw [q_lt (by omega) (by omega)]; exact hlt), Nat.min_eq_left (by omega)]
              · rw [if_neg (by rw [q_lt (by omega) (by omega)]; exact hlt), Nat.min_eq_right (by omega)]; congr 1; omega
            refine ⟨_, _, rS_o, rfl, _, _, rS_o, rfl, ⟨_, rS_r hR⟩, ?_⟩
            rw [emin]
            refine k_replaceA (rS_r hR) (rS_i hR) hx3.1 (by omega) (fun f4 hf4 => ?_)
            rw [rS_pi hR]
            have hx4 : Ex n f (fl ++ nI (min kn (v + 1)) :: pl) n3 f4 := by
              refine ⟨hx3.1, fun hroom => ?_⟩
              rw [List.length_append, List.length_cons] at hroom
              obtain ⟨g1, g2⟩ := hxx.2 (by rw [List.length_append, List.length_cons]; omega)
              rw [List.length_append, List.length_cons] at g1
              obtain ⟨g3, g4⟩ := hx1.2 (by omega)
              refine ⟨by rw [List.length_append, List.length_cons]; omega, ?_⟩
              rw [hf4 (n + fl.length) (by omega) (by rw [g3]), g2, apL_mid]
            refine ⟨⟨_, rS_o⟩, v + 1 + 1, ?_⟩
            rw [q_l1, nI_add, Nat.add_comm 1 v]
            exact r_adds hR hN hkn ht hT0 hd hδ (by omega) ih (v + 1) 0 p4 n3 f4 (by omega) hp4 hx3.1 (hq.go rfl hx4)
          · rw [show (0 : Int32) = nI 0 from rfl, q_eq (by omega) (by omega)] at hz
            rw [if_neg hz, hv2] at hq
            refine ⟨_, _, rS_o, rfl, _, _, rS_o, rfl, ⟨_, rS_r hR⟩, k_replaceA (rS_r hR) (rS_i hR) hx3.1 (by omega) (fun f4 hf4 => ?_)⟩
            rw [rS_pi hR]
            have hpost := hq.2 q rfl hq' p3 n3 f4 hx3.1
            exact ⟨⟨_, rS_o⟩, 1, fun _ => hpost, fun _ => ⟨_, _, rS_o, rfl, fun _ => hpost, fun h => absurd h (q_nw (by omega))⟩⟩
        · rw [hpl] at hq
          exact r_parts_wr hR hN ht hT0 (by omega) (q_nw (by omega)) (fun n'' f'' h'' => hq.2 q rfl hq' p' n'' f'' h'') 0 (nC N t) n' f' (by omega) hn'
      · rw [hf] at hq
        exact ⟨_, _, rS_o, rfl, ⟨_, rS_r hR⟩, k_size (rS_r hR) ⟨_, _, rS_o, rfl, ⟨_, rS_r hR⟩, rx_app hR hn' (fun n2 f2 hx => ⟨nC N t + 1, r_parts_wr hR hN ht hT0 (by omega) (q_nw (by omega)) (fun n'' f'' h'' => hq.2 q rfl hq' p' n'' f'' h'') (nC N t) 0 n2 f2 (by omega) hx.1⟩)⟩⟩
    refine ⟨fun h => ?_, fun h => ?_⟩
    · have e : ha = 0 := by
        by_cases e1 : ha = 1
        · subst e1; exact absurd rfl h
        · omega
      subst e; exact go
    · have e : ha = 1 := by
        rw [q_l1, q_eq (by omega) (by omega)] at h; exact h
      subst e; exact go
  · rw [hv] at hq
    exact r_16_wr hR hN ht hk2 hT0 (by omega) (q_nw (by omega)) hn (fun n' f' hn' => hq.2 q rfl hq' p n' f' hn')
theorem r_val (hR : RB μ0 o r it ms mi bn b) (hN : NWf N nt) (hkn : kn ≤ 3) (hkd : ∀ i j, i < 4 → j < 4 → kd i = kd j → i = j) (hTs : ∀ t, t < nt → TyC kd ty N μ0 t) : ∀ d, RVC μ0 o r it ms kn bn b kd ty N nt d := by
  intro d
  have hbn : bn ≤ 240 := hR.2.2.2.2.2.1
  induction d with
  | zero => intro t δ p n f post _ h; omega
  | succ d ih =>
    intro t δ p n f post ht hd hδ hp hn hq
    have hT0 := hTs t ht
    obtain ⟨pr, pi, pn, pf, om, ar, ai, an, af, fb, mb, mn, h1, h2, h3, h4, h5, h6, h7, h8, h9, h10, h11, h12⟩ := hTs t ht
    have hwf := hN t ht
    have hK : nK N t < 4 := by omega
    have hsp := hN.span ht
    have hW11 := wdN_le (nV N t)
    refine ⟨_, _, rS_o, rfl, fun _ => ⟨fun h => (by cases h), fun a7 ha7 => ?_⟩, fun h => absurd rfl h⟩
    cases ha7
    refine ⟨fun _ => ⟨_, _, rS_T hR h1, rfl, fun hk => ?_, fun hk => ?_⟩, fun h => absurd (by rw [q_l16, q_lt (by omega) (by omega)]; omega) h⟩
    · rw [q_kd hkd hK (by omega)] at hk
      unfold rV at hq
      rw [if_neg hk] at hq
      have hbd : ∀ v, v < 4096 → (nI v ≤ nhi N t - nlo N t ↔ v < nV N t) := by
        intro v hv
        have e : nhi N t - nlo N t = nI (nV N t - 1) := by
          have h9 : nhi N t - nlo N t + 1 - 1 = nI (nV N t) - 1 := by rw [hsp.1]
          rw [Int32.add_sub_cancel] at h9
          rw [h9, q_l1, q_sub (by omega)]
        rw [e, q_le (by omega) (by omega)]; omega
      refine ⟨_, _, rS_T hR h1, rfl, _, _, rS_T hR h1, rfl, _, _, rS_T hR h1, rfl, _, _, rS_T hR h1, rfl, ⟨_, rS_o⟩, r_next hR (bd := nV N t) hp (by unfold nW; omega) hbd (fun p1 v hv hp1 => ⟨_, _, rS_o, rfl, ⟨_, rS_r hR⟩, rx_app hR hn (fun n1 f1 hx1 => ⟨_, _, rS_T hR h1, rfl, fun hk1 => ⟨_, _, rS_T hR h1, rfl, fun hk3 => ?_, fun hk3 => ?_⟩, fun hk1 => ?_⟩)⟩) (fun q hv hq' => ⟨_, _, rS_o, rfl, ⟨_, rS_r hR⟩, rx_app hR hn (fun n1 f1 hx1 => ?_)⟩)⟩
      · rw [q_kd hkd hK (by omega)] at hk1 hk3
        rw [hv] at hq
        have hq1 := hq.go rfl hx1
        rw [if_neg hk1, if_neg hk3] at hq1
        exact hq1.1 p1 [] rfl hp1 n1 f1 (Ex.nil hx1.1)
      · rw [q_kd hkd hK (by omega)] at hk1 hk3
        rw [hv] at hq
        have hq1 := hq.go rfl hx1
        rw [if_neg hk1, if_pos hk3] at hq1
        obtain ⟨e1, e2, e3⟩ := hwf.2.2.2.2.2.2.2.2 hk3
        have hv1 := (tkB_le hv).1
        unfold nV at hv1
        rw [if_pos hk3] at hv1
        rw [e1, nI_add, Nat.zero_add] at hq1
        rw [nI_clamp (by omega)] at hq1
        refine ⟨_, _, rS_T hR h1, rfl, ⟨_, rS_R hR h2⟩, ?_⟩
        rw [e1, nI_add, Nat.zero_add]
        refine t_at (rS_R hR h2) (rS_A hR h3) h4 (by omega) hv1 ⟨⟨_, rS_o⟩, ?_⟩
        have hP := hwf.2.2.2.1 v hv1
        rw [h6 v hv1, ← nI_succ]
        exact ih (nP N t v) (δ + 1) p1 n1 f1 post (by omega) (by omega) (by omega) hp1 hx1.1 hq1
      · rw [q_kd hkd hK (by omega)] at hk1
        rw [hv] at hq
        have hq1 := hq.go rfl hx1
        rw [if_pos hk1] at hq1
        obtain ⟨e0, a, c, ea, ec, hab, hc8⟩ := hwf.2.2.2.2.2.2.1 hk1
        have hv1 := (tkB_le hv).1
        rw [ea, nI_add] at hq1 ⊢
        rw [nI_clamp (by omega)] at hq1
        exact ⟨a + v + 1, r_list hR hN ht (by omega) hT0 hd hδ (by have := hsp.2.1; omega) ih (a + v) 0 p1 n1 f1 (by omega) hp1 hx1.1 hq1⟩
      · rw [hv] at hq
        have hpost := hq.2 q rfl hq' p n1 f1 hx1.1
        refine ⟨_, _, rS_T hR h1, rfl, fun hk1 => ⟨_, _, rS_T hR h1, rfl, fun hk3 => hpost, fun hk3 => ?_⟩, fun hk1 => ?_⟩
        · rw [q_kd hkd hK (by omega)] at hk3
          obtain ⟨e1, e2, e3⟩ := hwf.2.2.2.2.2.2.2.2 hk3
          have hP := hwf.2.2.2.1 0 (by omega)
          refine ⟨_, _, rS_T hR h1, rfl, ⟨_, rS_R hR h2⟩, ?_⟩
          rw [e1, show (nI 0 + 0 : Int32) = nI 0 by decide]
          exact t_at (rS_R hR h2) (rS_A hR h3) h4 (by omega) (by omega) ⟨⟨_, rS_o⟩, r_wr (by omega) (q_nw (by omega)) hpost⟩
        · exact ⟨1, fun _ => hpost, fun _ => ⟨_, _, rS_o, rfl, fun _ => hpost, fun h => absurd h (q_nw (by omega))⟩⟩
    · rw [q_kd hkd hK (by omega)] at hk
      unfold rV at hq
      rw [if_pos hk] at hq
      exact ⟨⟨_, rS_o⟩, r_seq hR hN hkn ht hk hT0 hd hδ ih hp hn hq⟩
/-- the reader's walk -/
theorem r_walk (hR : RB μ0 o r it ms mi bn b) (hN : NWf N nt) (hnt : nt ≤ 16) (hkn : kn ≤ 3) (hkd : ∀ i j, i < 4 → j < 4 → kd i = kd j → i = j) (hTs : ∀ t, t < nt → TyC kd ty N μ0 t) {t k0 p0 n0 : Nat} {z0 : Int32} {f0 : Nat → Int32} (ht : t < nt) (hn0 : n0 ≤ 240) {post : Int32 → Mm → Prop}
    (hg : ∀ p' l, rV N b bn kn 17 t 0 = .inr (p', l) → p' ≤ bn → ∀ n' f', Ex 0 f0 l n' f' → post (if bn ≤ p' then -1 else nI p') (rS μ0 o r it kn p' (if bn ≤ p' then -1 else nI p') n' f'))
    (hb : ∀ q, rV N b bn kn 17 t 0 = .inl q → q ≤ bn → ∀ p n' f', n' ≤ 240 → post (nI q) (rS μ0 o r it kn p (nI q) n' f')) : wp_X1_walk o kd (ty t) ms (nI kn) (rS μ0 o r it k0 p0 z0 n0 f0) post := by
  have hbn : bn ≤ 240 := hR.2.2.2.2.2.1
  refine ⟨_, _, rS_o, rfl, ⟨_, rS_r hR⟩, k_keepFirst (m := 0) (rS_r hR) (by omega) (by omega) ?_⟩
  rw [rS_pn hR]
  refine ⟨_, rS_o, by simp, fun μ10 e => ?_⟩
  have e1 : μ10 = rS μ0 o r it kn p0 z0 0 f0 := by rw [e]; exact q_ups_ss
  clear e; subst e1
  refine ⟨_, rS_o, by simp, fun μ15 e => ?_⟩
  have e1 : μ15 = rS μ0 o r it kn 0 z0 0 f0 := by rw [e]; exact q_ups_ss
  clear e; subst e1
  refine ⟨_, rS_o, by simp, fun μ20 e => ?_⟩
  have e1 : μ20 = rS μ0 o r it kn 0 (-1) 0 f0 := by rw [e]; exact q_ups_ss
  clear e; subst e1
  refine ⟨⟨_, rS_o⟩, r_val hR hN hkn hkd hTs 17 t 0 0 0 f0 _ ht (by omega) (by omega) (by omega) (by omega) ⟨fun p' l hv hp' n' f' hx => ⟨_, _, rS_o, rfl, fun h => absurd rfl h, fun _ => ⟨_, _, rS_o, rfl, ⟨_, rS_ms hR⟩, k_size (rS_ms hR) ⟨fun h => ?_, fun h => ?_⟩⟩⟩, fun q hv hq p n' f' hn' => ⟨_, _, rS_o, rfl, fun _ => ⟨_, _, rS_o, rfl, hb q hv hq p n' f' hn'⟩, fun h => absurd h (q_nw (by omega))⟩⟩⟩
  · rw [q_le (by omega) (by omega)] at h
    have := hg p' l hv hp' n' f' hx
    rw [if_pos h] at this
    exact ⟨_, _, rS_o, rfl, this⟩
  · rw [q_le (by omega) (by omega)] at h
    have := hg p' l hv hp' n' f' hx
    rw [if_neg h] at this
    refine ⟨_, _, rS_o, rfl, _, rS_o, by simp, fun μ51 e => ?_⟩
    have e1 : μ51 = rS μ0 o r it kn p' (nI p') n' f' := by rw [e]; exact q_ups_ss
    clear e; subst e1
    exact ⟨_, _, rS_o, rfl, this⟩
end RV
/-- the writer's walk -/
theorem w_walk {μ0 : Mm} {o r it ta ti tn : Nat} {T : Nat → Int32} {N : NT} {nt : Nat} {kd ty : Nat → Nat} (hW : WB μ0 o r it ta ti tn T) (hN : NWf N nt) (hnt : nt ≤ 16) (hkd : ∀ i j, i < 4 → j < 4 → kd i = kd j → i = j) (hTs : ∀ t, t < nt → TyC kd ty N μ0 t) {t p0 n0 : Nat} {z0 : Int32} {f0 : Nat → Int32} (ht : t < nt) (hn0 : n0 ≤ 240) {post : Int32 → Mm → Prop}
    (hg : ∀ p' bs, vT N T tn 17 t 0 = .inr (p', bs) → p' ≤ 300 → ∀ n' f', Ex 0 f0 bs n' f' → post (if tn ≤ p' then -1 else nI p') (wS μ0 o r it p' (if tn ≤ p' then -1 else nI p') n' f'))
    (hb : ∀ q, vT N T tn 17 t 0 = .inl q → q ≤ 300 → ∀ n' f', n' ≤ 240 → post (nI q) (wS μ0 o r it q (nI q) n' f')) : wp_X5_walk o kd (ty t) ta (wS μ0 o r it p0 z0 n0 f0) post := by
  have htn : tn ≤ 300 := hW.2.2.2.2.2.1
  refine ⟨_, _, wS_o, rfl, ⟨_, wS_r hW⟩, k_keepFirst (m := 0) (wS_r hW) (by omega) (by omega) ?_⟩
  rw [wS_pn hW]
  refine ⟨_, wS_o, by simp, fun μ10 e => ?_⟩
  have e1 : μ10 = wS μ0 o r it 0 z0 0 f0 := by rw [e]; exact q_ups_ss
  clear e; subst e1
  refine ⟨_, wS_o, by simp, fun μ15 e => ?_⟩
  have e1 : μ15 = wS μ0 o r it 0 (-1) 0 f0 := by rw [e]; exact q_ups_ss
  clear e; subst e1
  refine ⟨⟨_, wS_o⟩, w_val hW hN hkd hTs 17 t 0 0 0 f0 _ ht (by omega) (by omega) (by omega) (by omega) ⟨fun p' l hv hp' n' f' hx => ⟨_, _, wS_o, rfl, fun h => absurd rfl h, fun _ => ⟨_, _, wS_o, rfl, ⟨_, wS_ta hW⟩, k_size (wS_ta hW) ⟨fun h => ?_, fun h => ?_⟩⟩⟩, fun q hv hq n' f' hn' => ⟨_, _, wS_o, rfl, fun _ => ⟨_, _, wS_o, rfl, hb q hv hq n' f' hn'⟩, fun h => absurd h (q_nw hq)⟩⟩⟩
  · rw [q_le (by omega) (by omega)] at h
    have := hg p' l hv hp' n' f' hx
    rw [if_pos h] at this
    exact ⟨_, _, wS_o, rfl, this⟩
  · rw [q_le (by omega) (by omega)] at h
    have := hg p' l hv hp' n' f' hx
    rw [if_neg h] at this
    refine ⟨_, _, wS_o, rfl, _, wS_o, by simp, fun μ51 e => ?_⟩
    have e1 : μ51 = wS μ0 o r it p' (nI p') n' f' := by rw [e]; exact q_ups_ss
    clear e; subst e1
    exact ⟨_, _, wS_o, rfl, this⟩
