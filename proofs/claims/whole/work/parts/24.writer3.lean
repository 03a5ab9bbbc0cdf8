/-! THE CLASS'S WRITER: the recursion -/
theorem bnd_assoc (r : RT) (k1 k2 : Nat → RT) : bnd (bnd r k1) k2 = bnd r (fun p => bnd (k1 p) k2) := by
  cases r with
  | inl q => rfl
  | inr pb =>
    obtain ⟨p, b⟩ := pb
    simp only [bnd]
    cases h1 : k1 p with
    | inl q => rfl
    | inr c =>
      obtain ⟨p2, b2⟩ := c
      simp only []
      cases h2 : k2 p2 with
      | inl q => rfl
      | inr c2 => simp only [List.append_assoc]
theorem q_num {x : Int32} {a b : Nat} (h1 : nI a ≤ x) (h2 : x ≤ nI b) (ha : a ≤ b) (hb : b ≤ 1000) : ∃ j, a ≤ j ∧ j ≤ b ∧ x = nI j := by
  have e1 := nI_toInt (n := a) (by omega)
  have e2 := nI_toInt (n := b) (by omega)
  rw [Int32.le_iff_toInt_le] at h1 h2
  have e0 : (0 : Int32).toInt = 0 := by decide
  have h0 : ¬ x < 0 := by rw [Int32.lt_iff_toInt_lt, e0]; omega
  obtain ⟨j, hj, e⟩ := nI_of2 (x := x) (M := nI b) (n := b) e2 h0 (by rw [Int32.le_iff_toInt_le]; exact h2)
  subst e
  rw [nI_toInt (n := j) (by omega), e1] at h1
  exact ⟨j, by omega, hj, rfl⟩
section WX
variable {μ0 : Mm} {o r it ta ti tn : Nat} {T : Nat → Int32} {kd ty : Nat → Nat} {N : NT} {nt : Nat}
def WQ (μ0 : Mm) (o r it : Nat) (res : RT) (n : Nat) (f : Nat → Int32) (post : Mm → Prop) : Prop := (∀ p' bs, res = .inr (p', bs) → p' ≤ 300 → ∀ n' f', Ex n f bs n' f' → post (wS μ0 o r it p' (-1) n' f')) ∧ (∀ q, res = .inl q → q ≤ 300 → ∀ n' f', n' ≤ 240 → post (wS μ0 o r it q (nI q) n' f'))
theorem WQ.go {res : RT} {k : Nat → RT} {n n1 p1 : Nat} {f f1 : Nat → Int32} {b1 : List Int32} {post : Mm → Prop} (h : WQ μ0 o r it (bnd res k) n f post) (e : res = .inr (p1, b1)) (hx : Ex n f b1 n1 f1) : WQ μ0 o r it (k p1) n1 f1 post := by
  subst e
  refine ⟨fun p' bs hk hp n' f' hx2 => ?_, fun q hk hq n' f' hn' => ?_⟩
  · exact h.1 p' (b1 ++ bs) (by simp only [bnd, hk]) hp n' f' (hx.app hx2)
  · exact h.2 q (by simp only [bnd, hk]) hq n' f' hn'
theorem WQ.no {res : RT} {k : Nat → RT} {n q : Nat} {f : Nat → Int32} {post : Mm → Prop} (h : WQ μ0 o r it (bnd res k) n f post) (e : res = .inl q) (hq : q ≤ 300) : ∀ n' f', n' ≤ 240 → post (wS μ0 o r it q (nI q) n' f') := by
  subst e
  exact h.2 q rfl hq
def WV (μ0 : Mm) (o r it ta tn : Nat) (T : Nat → Int32) (kd ty : Nat → Nat) (N : NT) (nt d : Nat) : Prop := ∀ (t δ p n : Nat) (f : Nat → Int32) (post : Mm → Prop), t < nt → t < d → δ + t < 16 → p ≤ 300 → n ≤ 240 → WQ μ0 o r it (vT N T tn d t p) n f post → wr_X5_putValue kd d o (some (ty t)) ta (nI δ) (wS μ0 o r it p (-1) n f) post
theorem q_nw {q : Nat} (h : q ≤ 300) : nI q ≠ -1 := by
  rw [q_l1]; intro e; rw [q_em1 (by omega)] at e; exact e
theorem w_list (hW : WB μ0 o r it ta ti tn T) (hN : NWf N nt) {t δ d h : Nat} (ht : t < nt) (hC : 0 < nC N t) (hT : TyC kd ty N μ0 t) (hd : t < d + 1) (hδ : δ + t < 16) (hh : h ≤ 1000) (ih : WV μ0 o r it ta tn T kd ty N nt d) {post : Mm → Prop} : ∀ (j i p n : Nat) (f : Nat → Int32), i + j = h → p ≤ 300 → n ≤ 240 →
    WQ μ0 o r it (rptT (vT N T tn d (nP N t 0)) j p) n f post → wb_X5_putValue_89 o kd (wr_X5_putValue kd d) post (j + 1) (ty t) ta (nI δ) (nI h) (nI i) (wS μ0 o r it p (-1) n f) := by
  obtain ⟨pr, pi, pn, pf, om, ar, ai, an, af, fb, mb, mn, h1, h2, h3, h4, h5, h6, h7, h8, h9, h10⟩ := hT
  have hP := (hN t ht).2.2.2.1 0 hC
  intro j
  induction j with
  | zero =>
    intro i p n f hi hp hn hq
    refine ⟨fun _ => hq.1 p [] rfl hp n f (Ex.nil hn), fun h => ?_⟩
    rw [q_le (by omega) (by omega)] at h; omega
  | succ j ihj =>
    intro i p n f hi hp hn hq
    refine ⟨fun h => ?_, fun _ => ⟨_, _, wS_o, rfl, fun h => absurd rfl h, fun _ => ⟨_, _, wS_T hW h1, rfl, ⟨_, wS_R hW h2⟩, t_at (wS_R hW h2) (wS_A hW h3) h4 (by omega) hC ⟨⟨_, wS_o⟩, ?_⟩⟩⟩⟩
    · rw [q_le (by omega) (by omega)] at h; omega
    · rw [h6 0 hC, ← nI_succ]
      refine ih (nP N t 0) (δ + 1) p n f _ (by omega) (by omega) (by omega) hp hn ⟨fun p' bs hv hp' n' f' hx => ?_, fun q hv hq' n' f' hn' => ?_⟩
      · rw [← nI_succ]
        exact ihj (i + 1) p' n' f' (by omega) hp' hx.1 (hq.go hv hx)
      · have hpost := hq.no hv hq' n' f' hn'
        exact ⟨fun _ => hpost, fun _ => ⟨_, _, wS_o, rfl, fun _ => hpost, fun h => absurd h (q_nw hq')⟩⟩
theorem w_add (hW : WB μ0 o r it ta ti tn T) {c δ d p n : Nat} (hc : c < nt) (hd : c < d) (hδ : δ + 1 + c < 16) (ih : WV μ0 o r it ta tn T kd ty N nt d) {f : Nat → Int32} {post : Mm → Prop} (hp : p ≤ 300) (hn : n ≤ 240) (hq : WQ μ0 o r it (lnT (vT N T tn d c p)) n f post) :
    wp_X5_putAddition o kd (wr_X5_putValue kd d) (some (ty c)) ta (nI δ) (wS μ0 o r it p (-1) n f) post := by
  refine ⟨_, _, wS_o, rfl, ⟨_, wS_r hW⟩, k_size (wS_r hW) ⟨⟨_, wS_o⟩, w_puts hW 8 n f rfl hn (by omega) (fun n1 f1 hx1 => ⟨_, _, wS_o, rfl, ⟨_, wS_r hW⟩, k_size (wS_r hW) ⟨⟨_, wS_o⟩, ?_⟩⟩)⟩⟩
  rw [← nI_succ]
  refine ih c (δ + 1) p n1 f1 _ hc hd hδ hp hx1.1 ⟨fun p' bs hv hp' n2 f2 hx2 => ⟨_, _, wS_o, rfl, ⟨_, wS_r hW⟩, k_size (wS_r hW) ⟨9, ?_⟩⟩, fun q hv hq' n2 f2 hn2 => ⟨_, _, wS_o, rfl, ⟨_, wS_r hW⟩, k_size (wS_r hW) ⟨9, ?_⟩⟩⟩
  · refine w_patch hW hx2.1 hn 8 0 f2 rfl (fun f' hf' => hq.1 p' (bin 8 (nI bs.length) ++ bs) (by rw [hv]; rfl) hp' n2 f' ⟨hx2.1, fun hroom => ?_⟩)
    rw [List.length_append, bin_len] at hroom
    obtain ⟨e1, e2⟩ := hx1.2 (by rw [bin_len]; omega)
    rw [bin_len] at e1
    obtain ⟨e3, e4⟩ := hx2.2 (by omega)
    refine ⟨by rw [List.length_append, bin_len]; omega, ?_⟩
    rw [hf' (by omega), e4, e2, e1, q_sub (by omega)]
    have : n2 - (n + 8) = bs.length := by omega
    rw [this]
    exact pat_0
  · exact w_patch hW hn2 hn 8 0 f2 rfl (fun f' _ => hq.2 q (by rw [hv]; rfl) hq' n2 f' hn2)
theorem w_adds (hW : WB μ0 o r it ta ti tn T) (hN : NWf N nt) {t δ d a : Nat} (ht : t < nt) (hT : TyC kd ty N μ0 t) (hd : t < d + 1) (hδ : δ + t < 16) (ha : a ≤ nA N t) (ih : WV μ0 o r it ta tn T kd ty N nt d) {post : Mm → Prop} : ∀ (j k p n : Nat) (f : Nat → Int32), k + j = a → p ≤ 300 → n ≤ 240 →
    WQ μ0 o r it (adT (vT N T tn d) N t j k p) n f post → wb_X5_putSequence_146 o kd (wr_X5_putValue kd d) post (j + 1) (ty t) ta (nI δ) (nI a) (nI k) (wS μ0 o r it p (-1) n f) := by
  have hT0 := hT
  obtain ⟨pr, pi, pn, pf, om, ar, ai, an, af, fb, mb, mn, h1, h2, h3, h4, h5, h6, h7, h8, h9, h10, h11, h12⟩ := hT
  have hwf := hN t ht
  intro j
  induction j with
  | zero =>
    intro k p n f hk hp hn hq
    refine ⟨fun _ => hq.1 p [] rfl hp n f (Ex.nil hn), fun h => ?_⟩
    rw [q_le (by omega) (by omega)] at h; omega
  | succ j ihj =>
    intro k p n f hk hp hn hq
    have hD := hwf.2.2.2.2.1 k (by omega)
    refine ⟨fun h => ?_, fun _ => ⟨_, _, wS_T hW h1, rfl, ⟨_, wS_R hW h8⟩, t_at (wS_R hW h8) (wS_A hW h9) h10 (by omega) (by omega) ⟨⟨_, wS_o⟩, ?_⟩⟩⟩
    · rw [q_le (by omega) (by omega)] at h; omega
    · rw [h12 k (by omega)]
      refine w_add hW (c := nD N t k) (by omega) (by omega) (by omega) ih hp hn ⟨fun p' bs hv hp' n' f' hx => ?_, fun q hv hq' n' f' hn' => ?_⟩
      · rw [← nI_succ]
        exact ihj (k + 1) p' n' f' (by omega) hp' hx.1 (hq.go hv hx)
      · rw [← nI_succ]
        exact w_adds_wr hW hN ht hT0 (by omega) (q_nw hq') ha (hq.no hv hq') j (k + 1) n' f' (by omega) hn'
theorem w_parts (hW : WB μ0 o r it ta ti tn T) (hN : NWf N nt) {t δ d a : Nat} {m : Int32} (ht : t < nt) (hT : TyC kd ty N μ0 t) (hC : 0 < nC N t) (hd : t < d + 1) (hδ : δ + t < 16) (ha : a ≤ nA N t) (ih : WV μ0 o r it ta tn T kd ty N nt d) {post : Mm → Prop} : ∀ (j k p n : Nat) (f : Nat → Int32), k + j = nC N t → p ≤ 300 → n ≤ 240 →
    WQ μ0 o r it (bnd (ptT (vT N T tn d) N t m j k p) fun p3 => bnd (.inr (p3, if nI a ≤ 0 then [] else bin 2 (nI a - 1))) fun p4 => adT (vT N T tn d) N t a 0 p4) n f post → wb_X5_putSequence_83 o kd (wr_X5_putValue kd d) post (j + 1) (ty t) ta (nI δ) m (nI a) (nI k) (wS μ0 o r it p (-1) n f) := by
  have hT0 := hT
  obtain ⟨pr, pi, pn, pf, om, ar, ai, an, af, fb, mb, mn, h1, h2, h3, h4, h5, h6, h7, h8, h9, h10, h11, h12⟩ := hT
  have hwf := hN t ht
  have hP0 := hwf.2.2.2.1 0 hC
  intro j
  induction j with
  | zero =>
    intro k p n f hk hp hn hq
    have hq1 := hq.go (p1 := p) (b1 := []) (n1 := n) (f1 := f) rfl (Ex.nil hn)
    refine ⟨_, _, wS_T hW h1, rfl, ⟨_, wS_R hW h2⟩, t_size (wS_R hW h2) ⟨fun _ => ⟨fun h0 => ⟨a + 1, ?_⟩, fun h0 => ⟨⟨_, wS_o⟩, w_puts hW 2 n f rfl hn (by omega) (fun n1 f1 hx => ⟨a + 1, ?_⟩)⟩⟩, fun h => ?_⟩⟩
    · rw [if_pos h0] at hq1
      exact w_adds hW hN ht hT0 hd hδ ha ih a 0 p n f (by omega) hp hn (hq1.go rfl (Ex.nil hn))
    · rw [if_neg h0] at hq1
      exact w_adds hW hN ht hT0 hd hδ ha ih a 0 p n1 f1 (by omega) hp hx.1 (hq1.go rfl hx)
    · rw [q_le (by omega) (by omega)] at h; omega
  | succ j ihj =>
    intro k p n f hk hp hn hq
    have hP := hwf.2.2.2.1 k (by omega)
    refine ⟨_, _, wS_T hW h1, rfl, ⟨_, wS_R hW h2⟩, t_size (wS_R hW h2) ⟨fun h => ?_, fun _ => ⟨fun h0 => ?_, fun h0 => ⟨_, _, wS_T hW h1, rfl, ⟨_, wS_R hW h2⟩, t_at (wS_R hW h2) (wS_A hW h3) h4 (by omega) (by omega) ⟨⟨_, wS_o⟩, ?_⟩⟩⟩⟩⟩
    · rw [q_le (by omega) (by omega)] at h; omega
    · have hm : ¬ msk m k = 1 := h0
      unfold ptT at hq
      rw [if_neg hm] at hq
      rw [← nI_succ]
      exact ihj (k + 1) p n f (by omega) hp hn hq
    · have hm : msk m k = 1 := h0
      unfold ptT at hq
      rw [if_pos hm, bnd_assoc] at hq
      rw [h6 k (by omega), ← nI_succ]
      refine ih (nP N t k) (δ + 1) p n f _ (by omega) (by omega) (by omega) hp hn ⟨fun p' bs hv hp' n' f' hx => ?_, fun q hv hq' n' f' hn' => ?_⟩
      · rw [← nI_succ]
        exact ihj (k + 1) p' n' f' (by omega) hp' hx.1 (hq.go hv hx)
      · rw [← nI_succ]
        exact w_parts_wr hW hN ht hT0 (by omega) (q_nw hq') ha (hq.no hv hq') j (k + 1) n' f' (by omega) hn'
theorem w_34_wr (hW : WB μ0 o r it ta ti tn T) (hN : NWf N nt) {t : Nat} (ht : t < nt) (hk2 : nK N t = 2) (hT : TyC kd ty N μ0 t) {d a p n : Nat} {w m x3 s0 : Int32} {f : Nat → Int32} {post : Mm → Prop} (hd : 0 < d) (hw : w ≠ -1) (ha : a ≤ nA N t) (hn : n ≤ 240) (hp : ∀ n' f', n' ≤ 240 → post (wS μ0 o r it p w n' f')) :
    wb_X5_putSequence_34 o kd (wr_X5_putValue kd d) post (ty t) ta x3 m (nI a) s0 (wS μ0 o r it p w n f) :=
  ⟨⟨_, wS_o⟩, w_puts hW 1 n f rfl hn (by omega) (fun n1 f1 hx => ⟨nC N t + 1, w_flB hW hN ht hk2 hT (nC N t) 0 n1 f1 (by omega) hx.1 (fun n2 f2 hx2 => ⟨nC N t + 1, w_parts_wr hW hN ht hT hd hw ha hp (nC N t) 0 n2 f2 (by omega) hx2.1⟩)⟩)⟩
theorem w_seq (hW : WB μ0 o r it ta ti tn T) (hN : NWf N nt) {t δ d p n : Nat} (ht : t < nt) (hk2 : nK N t = 2) (hT : TyC kd ty N μ0 t) (hd : t < d + 1) (hδ : δ + t < 16) (ih : WV μ0 o r it ta tn T kd ty N nt d) {f : Nat → Int32} {post : Mm → Prop} (hp : p ≤ 300) (hn : n ≤ 240)
    (hq : WQ μ0 o r it (sqT (vT N T tn d) N T tn t p) n f post) : wp_X5_putSequence o kd (wr_X5_putValue kd d) (ty t) ta (nI δ) (wS μ0 o r it p (-1) n f) post := by
  have hT0 := hT
  obtain ⟨pr, pi, pn, pf, om, ar, ai, an, af, fb, mb, mn, h1, h2, h3, h4, h5, h6, h7, h8, h9, h10, h11, h12⟩ := hT
  have hwf := hN t ht
  have hC : 0 < nC N t := (hwf.2.2.2.2.2.2.2.1 hk2).2.2
  have hP0 := hwf.2.2.2.1 0 hC
  refine ⟨⟨_, wS_o⟩, nC N t + 1, w_flags hW hN ht hk2 hT0 (nC N t) 0 0 p (by omega) hp (fun p1 m hv hp1 => ?_) (fun q m hv hq' => ?_)⟩
  · refine ⟨_, _, wS_T hW h1, rfl, ⟨_, wS_R hW h8⟩, t_size (wS_R hW h8) ⟨⟨_, wS_o⟩, ?_⟩⟩
    unfold sqT at hq
    rw [hv] at hq
    simp only [] at hq
    by_cases hx : nxt T tn p1 0 (nI (nA N t))
    · rw [if_pos hx] at hq
      refine w_next_good hW hx ?_
      have hp2 : p1 + 1 ≤ 300 := by have := hx.1; have : tn ≤ 300 := hW.2.2.2.2.2.1; omega
      obtain ⟨a, _, ha, e⟩ := q_num (x := T p1) (a := 0) hx.2.1 hx.2.2 (by omega) (by omega)
      rw [e] at hq ⊢
      rw [nI_clamp (by omega)] at hq
      refine ⟨fun h0 => ⟨⟨_, wS_o⟩, w_puts hW 1 n f rfl hn (by omega) (fun n1 f1 hx1 => ⟨nC N t + 1, w_flB hW hN ht hk2 hT0 (nC N t) 0 n1 f1 (by omega) hx1.1 (fun n2 f2 hx2 => ⟨nC N t + 1, ?_⟩)⟩)⟩, fun h0 => ⟨⟨_, wS_o⟩, w_puts hW 1 n f rfl hn (by omega) (fun n1 f1 hx1 => ⟨nC N t + 1, w_flB hW hN ht hk2 hT0 (nC N t) 0 n1 f1 (by omega) hx1.1 (fun n2 f2 hx2 => ⟨nC N t + 1, ?_⟩)⟩)⟩⟩
      · rw [if_pos h0] at hq
        exact w_parts hW hN ht hT0 hC hd hδ ha ih (nC N t) 0 (p1 + 1) n2 f2 (by omega) hp2 hx2.1 (hq.go rfl (hx1.app hx2))
      · rw [if_neg h0] at hq
        exact w_parts hW hN ht hT0 hC hd hδ ha ih (nC N t) 0 (p1 + 1) n2 f2 (by omega) hp2 hx2.1 (hq.go rfl (hx1.app hx2))
    · rw [if_neg hx] at hq
      refine w_next_bad hW hp1 hx ?_
      exact ⟨fun _ => w_34_wr hW hN ht hk2 hT0 (a := 0) (by omega) (q_nw hp1) (by omega) hn (hq.2 p1 rfl hp1), fun h => absurd (by decide) h⟩
  · refine ⟨_, _, wS_T hW h1, rfl, ⟨_, wS_R hW h8⟩, t_size (wS_R hW h8) ⟨⟨_, wS_o⟩, w_next_wr hW (q_nw hq') ⟨fun _ => w_34_wr hW hN ht hk2 hT0 (a := 0) (by omega) (q_nw hq') (by omega) hn (hq.2 q (by unfold sqT; rw [hv]) hq'), fun h => absurd (by decide) h⟩⟩⟩
theorem w_val (hW : WB μ0 o r it ta ti tn T) (hN : NWf N nt) (hkd : ∀ i j, i < 4 → j < 4 → kd i = kd j → i = j) (hTs : ∀ t, t < nt → TyC kd ty N μ0 t) : ∀ d, WV μ0 o r it ta tn T kd ty N nt d := by
  intro d
  induction d with
  | zero => intro t δ p n f post _ h; omega
  | succ d ih =>
    intro t δ p n f post ht hd hδ hp hn hq
    have hT0 := hTs t ht
    obtain ⟨pr, pi, pn, pf, om, ar, ai, an, af, fb, mb, mn, h1, h2, h3, h4, h5, h6, h7, h8, h9, h10, h11, h12⟩ := hTs t ht
    have hwf := hN t ht
    have hK : nK N t < 4 := by omega
    have htn : tn ≤ 300 := hW.2.2.2.2.2.1
    refine ⟨_, _, wS_o, rfl, fun _ => ⟨fun h => (by cases h), fun a7 ha7 => ?_⟩, fun h => absurd rfl h⟩
    cases ha7
    refine ⟨fun _ => ⟨_, _, wS_T hW h1, rfl, fun hk => ?_, fun hk => ?_⟩, fun h => absurd (by rw [q_l16, q_lt (by omega) (by omega)]; omega) h⟩
    · rw [q_kd hkd hK (by omega)] at hk
      unfold vT at hq
      rw [if_neg hk] at hq
      refine ⟨_, _, wS_T hW h1, rfl, _, _, wS_T hW h1, rfl, ⟨_, wS_o⟩, ?_⟩
      by_cases hx : nxt T tn p (nlo N t) (nhi N t)
      · rw [if_pos hx] at hq
        refine w_next_good hW hx ⟨_, _, wS_T hW h1, rfl, _, _, wS_T hW h1, rfl, ⟨_, wS_o⟩, w_put hW _ n f hn (by have := wdN_le (nV N t); unfold nW; omega) (fun n1 f1 hx1 => ⟨_, _, wS_T hW h1, rfl, fun hk1 => ⟨_, _, wS_T hW h1, rfl, fun hk3 => ?_, fun hk3 => ?_⟩, fun hk1 => ?_⟩)⟩
        · rw [q_kd hkd hK (by omega)] at hk1 hk3
          have hq1 := hq.go rfl hx1
          rw [if_neg hk1, if_neg hk3] at hq1
          exact hq1.1 (p + 1) [] rfl (by have := hx.1; omega) n1 f1 (Ex.nil hx1.1)
        · rw [q_kd hkd hK (by omega)] at hk1 hk3
          have hq1 := hq.go rfl hx1
          rw [if_neg hk1, if_pos hk3] at hq1
          obtain ⟨e1, e2, e3⟩ := hwf.2.2.2.2.2.2.2.2 hk3
          obtain ⟨j, _, hj, e⟩ := q_num (x := T p) (a := 0) (b := nC N t - 1) (by rw [← e1]; exact hx.2.1) (by rw [← e2]; exact hx.2.2) (by omega) (by omega)
          rw [e] at hq1 ⊢
          rw [nI_clamp (by omega)] at hq1
          refine ⟨_, _, wS_T hW h1, rfl, ⟨_, wS_R hW h2⟩, t_at (wS_R hW h2) (wS_A hW h3) h4 (by omega) (by omega) ⟨⟨_, wS_o⟩, ?_⟩⟩
          have hP := hwf.2.2.2.1 j (by omega)
          rw [h6 j (by omega), ← nI_succ]
          exact ih (nP N t j) (δ + 1) (p + 1) n1 f1 post (by omega) (by omega) (by omega) (by have := hx.1; omega) hx1.1 hq1
        · rw [q_kd hkd hK (by omega)] at hk1
          have hq1 := hq.go rfl hx1
          rw [if_pos hk1] at hq1
          obtain ⟨e0, a, b, ea, eb, hab, hb⟩ := hwf.2.2.2.2.2.2.1 hk1
          obtain ⟨j, _, hj, e⟩ := q_num (x := T p) (a := a) (b := b) (by rw [← ea]; exact hx.2.1) (by rw [← eb]; exact hx.2.2) hab (by omega)
          rw [e] at hq1 ⊢
          rw [nI_clamp (by omega)] at hq1
          exact ⟨j + 1, w_list hW hN ht (by omega) hT0 hd hδ (by omega) ih j 0 (p + 1) n1 f1 (by omega) (by have := hx.1; omega) hx1.1 hq1⟩
      · rw [if_neg hx] at hq
        refine w_next_bad hW hp hx ⟨_, _, wS_T hW h1, rfl, _, _, wS_T hW h1, rfl, ⟨_, wS_o⟩, w_put hW _ n f hn (by have := wdN_le (nV N t); unfold nW; omega) (fun n1 f1 hx1 => ?_)⟩
        have hpost := hq.2 p rfl hp n1 f1 hx1.1
        refine ⟨_, _, wS_T hW h1, rfl, fun hk1 => ⟨_, _, wS_T hW h1, rfl, fun hk3 => hpost, fun hk3 => ?_⟩, fun hk1 => ⟨1, fun _ => hpost, fun _ => ⟨_, _, wS_o, rfl, fun _ => hpost, fun h => absurd h (q_nw hp)⟩⟩⟩
        rw [q_kd hkd hK (by omega)] at hk3
        obtain ⟨e1, e2, e3⟩ := hwf.2.2.2.2.2.2.2.2 hk3
        have hP := hwf.2.2.2.1 0 (by omega)
        refine ⟨_, _, wS_T hW h1, rfl, ⟨_, wS_R hW h2⟩, ?_⟩
        rw [e1]
        exact t_at (wS_R hW h2) (wS_A hW h3) h4 (by omega) (by omega) ⟨⟨_, wS_o⟩, w_wr (by omega) (q_nw hp) hpost⟩
    · rw [q_kd hkd hK (by omega)] at hk
      unfold vT at hq
      rw [if_pos hk] at hq
      exact ⟨⟨_, wS_o⟩, w_seq hW hN ht hk hT0 hd hδ ih hp hn hq⟩
end WX
