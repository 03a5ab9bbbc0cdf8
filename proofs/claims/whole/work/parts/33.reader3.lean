/-! THE CLASS'S READER: the recursion -/
theorem apL_mid {f : Nat → Int32} {n : Nat} {x y : Int32} {as bs : List Int32} : upd (apL f n (as ++ x :: bs)) (n + as.length) y = apL f n (as ++ y :: bs) := by
  funext i
  by_cases h : i = n + as.length
  · subst h
    rw [pk_us]
    unfold apL
    rw [if_neg (by omega), Nat.add_sub_cancel_left, List.getElem?_append_right (Nat.le_refl _)]
    simp
  · rw [pk_un h]
    unfold apL
    by_cases h1 : i < n
    · rw [if_pos h1, if_pos h1]
    · rw [if_neg h1, if_neg h1]
      have e : (as ++ x :: bs)[i - n]? = (as ++ y :: bs)[i - n]? := by
        by_cases h2 : i - n < as.length
        · rw [List.getElem?_append_left h2, List.getElem?_append_left h2]
        · rw [List.getElem?_append_right (by omega), List.getElem?_append_right (by omega)]
          obtain ⟨c, hc⟩ : ∃ c, i - n - as.length = c + 1 := ⟨i - n - as.length - 1, by omega⟩
          rw [hc, List.getElem?_cons_succ, List.getElem?_cons_succ]
      rw [e]
section RX
variable {μ0 : Mm} {o r it ms mi bn kn : Nat} {b : Nat → Nat} {N : NT} {nt : Nat} {kd ty : Nat → Nat}
def RVC (μ0 : Mm) (o r it ms kn bn : Nat) (b : Nat → Nat) (kd ty : Nat → Nat) (N : NT) (nt d : Nat) : Prop := ∀ (t δ p n : Nat) (f : Nat → Int32) (post : Mm → Prop), t < nt → t < d → δ + t < 16 → p ≤ bn → n ≤ 240 → RQ μ0 o r it kn bn (rV N b bn kn d t p) n f post → wr_X1_getValue kd d o (some (ty t)) ms (nI δ) (rS μ0 o r it kn p (-1) n f) post
theorem r_list (hR : RB μ0 o r it ms mi bn b) (hN : NWf N nt) {t δ d h : Nat} (ht : t < nt) (hC : 0 < nC N t) (hT : TyC kd ty N μ0 t) (hd : t < d + 1) (hδ : δ + t < 16) (hh : h ≤ 3000) (ih : RVC μ0 o r it ms kn bn b kd ty N nt d) {post : Mm → Prop} : ∀ (j i p n : Nat) (f : Nat → Int32), i + j = h → p ≤ bn → n ≤ 240 →
    RQ μ0 o r it kn bn (rptT (rV N b bn kn d (nP N t 0)) j p) n f post → wb_X1_getValue_93 o kd (wr_X1_getValue kd d) post (j + 1) (ty t) ms (nI δ) (nI h) (nI i) (rS μ0 o r it kn p (-1) n f) := by
  obtain ⟨pr, pi, pn, pf, om, ar, ai, an, af, fb, mb, mn, h1, h2, h3, h4, h5, h6, h7, h8, h9, h10⟩ := hT
  have hP := (hN t ht).2.2.2.1 0 hC
  have hbn : bn ≤ 240 := hR.2.2.2.2.2.1
  intro j
  induction j with
  | zero =>
    intro i p n f hi hp hn hq
    refine ⟨fun _ => hq.1 p [] rfl hp n f (Ex.nil hn), fun h => ?_⟩
    rw [q_le (by omega) (by omega)] at h; omega
  | succ j ihj =>
    intro i p n f hi hp hn hq
    refine ⟨fun h => ?_, fun _ => ⟨_, _, rS_o, rfl, fun h => absurd rfl h, fun _ => ⟨_, _, rS_T hR h1, rfl, ⟨_, rS_R hR h2⟩, t_at (rS_R hR h2) (rS_A hR h3) h4 (by omega) hC ⟨⟨_, rS_o⟩, ?_⟩⟩⟩⟩
    · rw [q_le (by omega) (by omega)] at h; omega
    · rw [h6 0 hC, ← nI_succ]
      refine ih (nP N t 0) (δ + 1) p n f _ (by omega) (by omega) (by omega) hp hn ⟨fun p' bs hv hp' n' f' hx => ?_, fun q hv hq' p' n' f' hn' => ?_⟩
      · rw [← nI_succ]
        exact ihj (i + 1) p' n' f' (by omega) hp' hx.1 (hq.go hv hx)
      · have hpost := hq.no hv hq' p' n' f' hn'
        exact ⟨fun _ => hpost, fun _ => ⟨_, _, rS_o, rfl, fun _ => hpost, fun h => absurd h (q_nw (by omega))⟩⟩
theorem r_skip (hR : RB μ0 o r it ms mi bn b) {p n len : Nat} {f : Nat → Int32} {post : Mm → Prop} (hp : p ≤ bn) (hl : len < 1000) (hg : p + len ≤ bn → post (rS μ0 o r it kn (p + len) (-1) n f)) (hb : bn < p + len → post (rS μ0 o r it kn p (nI bn) n f)) : wp_X1_skip o (nI len) ms (rS μ0 o r it kn p (-1) n f) post := by
  have hbn : bn ≤ 240 := hR.2.2.2.2.2.1
  refine ⟨_, _, rS_o, rfl, fun h => absurd rfl h, fun _ => ⟨⟨_, rS_ms hR⟩, k_size (rS_ms hR) ⟨_, _, rS_o, rfl, fun h => ⟨_, _, rS_o, rfl, fun h => absurd rfl h, fun _ => ⟨_, _, rS_o, rfl, _, rS_o, by simp, fun μ e => ?_⟩⟩, fun h => ⟨⟨_, rS_ms hR⟩, k_size (rS_ms hR) ⟨_, rS_o, by simp, fun μ e => ?_⟩⟩⟩⟩⟩
  · subst e
    rw [q_sub hp, q_le (by omega) (by omega)] at h
    show post (ups (rS μ0 o r it kn p (-1) n f) o (eO 0 [.ref r, .int (nI kn), .int (nI p + nI len), .int (-1)]))
    rw [nI_add, rS_pw]; exact hg (by omega)
  · subst e
    rw [q_sub hp, q_le (by omega) (by omega)] at h
    show wb_X1_skip_29 o post (nI len) (ups (rS μ0 o r it kn p (-1) n f) o (eO 0 [.ref r, .int (nI kn), .int (nI p), .int (nI bn)]))
    rw [rS_pw]
    exact ⟨_, _, rS_o, rfl, fun _ => hb (by omega), fun h => absurd h (q_nw (by omega))⟩
theorem r_skip_wr {p n : Nat} {x z : Int32} {f : Nat → Int32} {post : Mm → Prop} (hz : z ≠ -1) (hp : post (rS μ0 o r it kn p z n f)) : wp_X1_skip o x ms (rS μ0 o r it kn p z n f) post :=
  ⟨_, _, rS_o, rfl, fun _ => ⟨_, _, rS_o, rfl, fun _ => hp, fun h => absurd h hz⟩, fun h => absurd h hz⟩
theorem r_add_wr {d : Nat} {x : Option Nat} {p n : Nat} {x2 x4 z : Int32} {f : Nat → Int32} {post : Mm → Prop} (hd : 0 < d) (hz : z ≠ -1) (hp : post (rS μ0 o r it kn p z n f)) : wp_X1_getAddition o kd (wr_X1_getValue kd d) x x2 ms x4 (rS μ0 o r it kn p z n f) post :=
  ⟨_, _, rS_o, rfl, ⟨_, rS_o⟩, r_wr hd hz ⟨_, _, rS_o, rfl, fun _ => hp, fun h => absurd h hz⟩⟩
theorem r_add (hR : RB μ0 o r it ms mi bn b) {c δ d p n len : Nat} (hc : c < nt) (hd : c < d) (hδ : δ + 1 + c < 16) (ih : RVC μ0 o r it ms kn bn b kd ty N nt d) {f : Nat → Int32} {post : Mm → Prop} (hp : p ≤ bn) (hn : n ≤ 240) (hl : len < 256)
    (hq : RQ μ0 o r it kn bn (ckT p len (rV N b bn kn d c p)) n f post) : wp_X1_getAddition o kd (wr_X1_getValue kd d) (some (ty c)) (nI len) ms (nI δ) (rS μ0 o r it kn p (-1) n f) post := by
  have hbn : bn ≤ 240 := hR.2.2.2.2.2.1
  refine ⟨_, _, rS_o, rfl, ⟨_, rS_o⟩, ?_⟩
  rw [← nI_succ]
  refine ih c (δ + 1) p n f _ hc hd hδ hp hn ⟨fun p' bs hv hp' n2 f2 hx2 => ⟨_, _, rS_o, rfl, fun h => absurd rfl h, fun _ => ⟨_, _, rS_o, rfl, fun h => ?_, fun h => ⟨_, rS_o, by simp, fun μ e => ?_⟩⟩⟩, fun q hv hq' p' n2 f2 hn2 => ⟨_, _, rS_o, rfl, fun _ => hq.2 q (by rw [hv]; rfl) hq' p' n2 f2 hn2, fun h => absurd h (q_nw (by omega))⟩⟩
  · rw [q_subeq (by omega) (by omega) (by omega)] at h
    exact hq.1 p' bs (by rw [hv]; simp only [ckT, if_pos h]) hp' n2 f2 hx2
  · rw [q_subeq (by omega) (by omega) (by omega)] at h
    subst e
    show post (ups (rS μ0 o r it kn p' (-1) n2 f2) o (eO 0 [.ref r, .int (nI kn), .int (nI p'), .int (nI p)]))
    rw [rS_pw]
    exact hq.2 p (by rw [hv]; simp only [ckT, if_neg h]) hp p' n2 f2 hx2.1
theorem r_adds (hR : RB μ0 o r it ms mi bn b) (hN : NWf N nt) {t δ d a : Nat} (hkn : kn ≤ 3) (ht : t < nt) (hT : TyC kd ty N μ0 t) (hd : t < d + 1) (hδ : δ + t < 16) (ha : a ≤ nA N t) (ih : RVC μ0 o r it ms kn bn b kd ty N nt d) {post : Mm → Prop} : ∀ (i j p n : Nat) (f : Nat → Int32), j + i = a → p ≤ bn → n ≤ 240 →
    RQ μ0 o r it kn bn (adR (rV N b bn kn d) N b bn kn t i j p) n f post → wb_X1_getAdditions_3 o kd (wr_X1_getValue kd d) post (i + 1) (ty t) (nI a) ms (nI δ) (nI j) (rS μ0 o r it kn p (-1) n f) := by
  obtain ⟨pr, pi, pn, pf, om, ar, ai, an, af, fb, mb, mn, h1, h2, h3, h4, h5, h6, h7, h8, h9, h10, h11, h12⟩ := hT
  have hwf := hN t ht
  have hbn : bn ≤ 240 := hR.2.2.2.2.2.1
  intro i
  induction i with
  | zero =>
    intro j p n f hj hp hn hq
    refine ⟨fun _ => hq.1 p [] rfl hp n f (Ex.nil hn), fun h => ?_⟩
    rw [q_le (by omega) (by omega)] at h; omega
  | succ i ihi =>
    intro j p n f hj hp hn hq
    have hD := hwf.2.2.2.2.1 j (by omega)
    have wr : ∀ (q p' n' : Nat) (f' : Nat → Int32) (y : Int32), q ≤ bn → post (rS μ0 o r it kn p' (nI q) n' f') → wb_X1_getAdditions_3 o kd (wr_X1_getValue kd d) post (i + 1) (ty t) (nI a) ms (nI δ) y (rS μ0 o r it kn p' (nI q) n' f') := fun q p' n' f' y hq' hpost => ⟨fun _ => hpost, fun _ => ⟨_, _, rS_o, rfl, fun _ => hpost, fun h => absurd h (q_nw (by omega))⟩⟩
    refine ⟨fun h => ?_, fun _ => ⟨_, _, rS_o, rfl, fun h => absurd rfl h, fun _ => ⟨⟨_, rS_o⟩, r_next hR (w := 8) (bd := 256) hp (by omega) (q_bd (bd := 256) (by omega) (by omega)) (fun p1 len hv hp1 => ⟨_, _, rS_o, rfl, fun hk => ⟨⟨_, rS_o⟩, ?_⟩, fun hk => ⟨_, _, rS_T hR h1, rfl, ⟨_, rS_R hR h8⟩, t_at (rS_R hR h8) (rS_A hR h9) h10 (by omega) (by omega) ⟨⟨_, rS_o⟩, ?_⟩⟩⟩) (fun q hv hq' => ⟨_, _, rS_o, rfl, fun hk => ⟨⟨_, rS_o⟩, ?_⟩, fun hk => ⟨_, _, rS_T hR h1, rfl, ⟨_, rS_R hR h8⟩, t_at (rS_R hR h8) (rS_A hR h9) h10 (by omega) (by omega) ⟨⟨_, rS_o⟩, ?_⟩⟩⟩)⟩⟩⟩
    · rw [q_le (by omega) (by omega)] at h; omega
    · rw [q_le (by omega) (by omega)] at hk
      have hl : len < 256 := by
        unfold tkB at hv
        split at hv
        · cases hv
        · split at hv
          · cases hv; assumption
          · cases hv
      refine r_skip hR hp1 (by omega) (fun hle => ?_) (fun hlt => ?_)
      · have e : ad1 (rV N b bn kn d) N b bn kn t j p = .inr (p1 + len, []) := by
          unfold ad1; rw [hv]; simp only []; rw [if_neg (by omega), if_neg (by omega)]
        rw [← nI_succ]
        exact ihi (j + 1) (p1 + len) n f (by omega) hle hn (hq.go e (Ex.nil hn))
      · have e : ad1 (rV N b bn kn d) N b bn kn t j p = .inl bn := by
          unfold ad1; rw [hv]; simp only []; rw [if_neg (by omega), if_pos hlt]
        exact wr bn p1 n f _ (Nat.le_refl _) (hq.no e (Nat.le_refl _) p1 n f hn)
    · rw [q_le (by omega) (by omega)] at hk
      have hl : len < 256 := by
        unfold tkB at hv
        split at hv
        · cases hv
        · split at hv
          · cases hv; assumption
          · cases hv
      rw [h12 j (by omega)]
      have e : ad1 (rV N b bn kn d) N b bn kn t j p = ckT p1 len (rV N b bn kn d (nD N t j) p1) := by
        unfold ad1; rw [hv]; simp only []; rw [if_pos (by omega)]
      refine r_add hR (c := nD N t j) (by omega) (by omega) (by omega) ih hp1 hn hl ⟨fun p' l hr hp' n' f' hx => ?_, fun q hr hq' p' n' f' hn' => ?_⟩
      · rw [← nI_succ]
        exact ihi (j + 1) p' n' f' (by omega) hp' hx.1 (hq.go (e.trans hr) hx)
      · exact wr q p' n' f' _ hq' (hq.no (e.trans hr) hq' p' n' f' hn')
    · have e : ad1 (rV N b bn kn d) N b bn kn t j p = .inl q := by unfold ad1; rw [hv]
      exact r_skip_wr (q_nw (by omega)) (wr q p n f _ hq' (hq.no e hq' p n f hn))
    · have e : ad1 (rV N b bn kn d) N b bn kn t j p = .inl q := by unfold ad1; rw [hv]
      exact r_add_wr (by omega) (q_nw (by omega)) (wr q p n f _ hq' (hq.no e hq' p n f hn))
theorem r_parts_wr2 (hR : RB μ0 o r it ms mi bn b) {t : Nat} (hC6 : nC N t ≤ 6) (hT : TyC kd ty N μ0 t) {d : Nat} {x3 v4 m ci : Int32} {p n : Nat} {z : Int32} {f : Nat → Int32} {post : Mm → Prop} (hd : 0 < d) (hz : z ≠ -1) (hp : wb_X1_getSequence_46 o kd (wr_X1_getValue kd d) post 1 (ty t) ms x3 v4 m ci (nI (nC N t)) (rS μ0 o r it kn p z n f)) : ∀ (j k : Nat), k + j = nC N t → wb_X1_getSequence_46 o kd (wr_X1_getValue kd d) post (j + 1) (ty t) ms x3 v4 m ci (nI k) (rS μ0 o r it kn p z n f) := by
  obtain ⟨pr, pi, pn, pf, om, ar, ai, an, af, fb, mb, mn, h1, h2, h3, h4, h5, h6, h7, h8, h9, h10, h11, h12⟩ := hT
  intro j
  induction j with
  | zero =>
    intro k hk
    have : k = nC N t := by omega
    subst this; exact hp
  | succ j ih =>
    intro k hk
    have hk1 := ih (k + 1) (by omega)
    rw [nI_succ] at hk1
    refine ⟨_, _, rS_T hR h1, rfl, ⟨_, rS_R hR h2⟩, t_size (rS_R hR h2) ⟨fun h => ?_, fun _ => ⟨fun _ => hk1, fun _ => ⟨_, _, rS_T hR h1, rfl, ⟨_, rS_R hR h2⟩, t_at (rS_R hR h2) (rS_A hR h3) h4 (by omega) (by omega) ⟨⟨_, rS_o⟩, r_wr hd hz hk1⟩⟩⟩⟩⟩
    rw [q_le (by omega) (by omega)] at h; omega
theorem r_parts (hR : RB μ0 o r it ms mi bn b) (hN : NWf N nt) {t δ d : Nat} {v4 m ci : Int32} (ht : t < nt) (hC : 0 < nC N t) (hT : TyC kd ty N μ0 t) (hd : t < d + 1) (hδ : δ + t < 16) (ih : RVC μ0 o r it ms kn bn b kd ty N nt d) {post : Mm → Prop} : ∀ (j k p n : Nat) (f : Nat → Int32), k + j = nC N t → p ≤ bn → n ≤ 240 →
    RQ μ0 o r it kn bn (ptT (rV N b bn kn d) N t m j k p) n f (fun μ => wb_X1_getSequence_46 o kd (wr_X1_getValue kd d) post 1 (ty t) ms (nI δ) v4 m ci (nI (nC N t)) μ) → wb_X1_getSequence_46 o kd (wr_X1_getValue kd d) post (j + 1) (ty t) ms (nI δ) v4 m ci (nI k) (rS μ0 o r it kn p (-1) n f) := by
  have hT0 := hT
  obtain ⟨pr, pi, pn, pf, om, ar, ai, an, af, fb, mb, mn, h1, h2, h3, h4, h5, h6, h7, h8, h9, h10, h11, h12⟩ := hT
  have hwf := hN t ht
  have hbn : bn ≤ 240 := hR.2.2.2.2.2.1
  have hP0 := hwf.2.2.2.1 0 hC
  intro j
  induction j with
  | zero =>
    intro k p n f hk hp hn hq
    have : k = nC N t := by omega
    subst this
    exact hq.1 p [] rfl hp n f (Ex.nil hn)
  | succ j ihj =>
    intro k p n f hk hp hn hq
    have hP := hwf.2.2.2.1 k (by omega)
    refine ⟨_, _, rS_T hR h1, rfl, ⟨_, rS_R hR h2⟩, t_size (rS_R hR h2) ⟨fun h => ?_, fun _ => ⟨fun h0 => ?_, fun h0 => ⟨_, _, rS_T hR h1, rfl, ⟨_, rS_R hR h2⟩, t_at (rS_R hR h2) (rS_A hR h3) h4 (by omega) (by omega) ⟨⟨_, rS_o⟩, ?_⟩⟩⟩⟩⟩
    · rw [q_le (by omega) (by omega)] at h; omega
    · have hm : ¬ msk m k = 1 := h0
      unfold ptT at hq
      rw [if_neg hm] at hq
      rw [← nI_succ]
      exact ihj (k + 1) p n f (by omega) hp hn hq
    · have hm : msk m k = 1 := h0
      unfold ptT at hq
      rw [if_pos hm] at hq
      rw [h6 k (by omega), ← nI_succ]
      refine ih (nP N t k) (δ + 1) p n f _ (by omega) (by omega) (by omega) hp hn ⟨fun p' bs hv hp' n' f' hx => ?_, fun q hv hq' p' n' f' hn' => ?_⟩
      · rw [← nI_succ]
        exact ihj (k + 1) p' n' f' (by omega) hp' hx.1 (hq.go hv hx)
      · rw [← nI_succ]
        exact r_parts_wr2 hR (by omega) hT0 (by omega) (q_nw (by omega)) (hq.no hv hq' p' n' f' hn') j (k + 1) (by omega)
end RX
