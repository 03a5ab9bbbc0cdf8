/-! THE CLASS'S READER -/
theorem q_subeq {a b c : Nat} (ha : a < 1000) (hb : b < 1000) (hc : c < 1000) : (nI a - nI b = nI c) = (a = b + c) := by
  have h := pk_sub_toInt (a := a) (b := b) (by omega) (by omega)
  refine propext ⟨fun e => ?_, fun e => ?_⟩
  · rw [e, nI_toInt (by omega)] at h; omega
  · subst e; rw [q_sub (by omega)]; congr 1; omega
section RN
variable {μ0 : Mm} {o r it ms mi bn kn : Nat} {b : Nat → Nat}
theorem r_65 {p n w : Nat} {x3 y : Int32} {f : Nat → Int32} {post : Int32 → Mm → Prop} (h1 : y ≤ x3 → post y (rS μ0 o r it kn (p + w) (-1) n f)) (h2 : ¬ y ≤ x3 → post 0 (rS μ0 o r it kn p (nI p) n f)) (hp : p ≤ 300) : wb_X1_next_65 o post (nI w) x3 y (rS μ0 o r it kn p (-1) n f) := by
  refine ⟨_, _, rS_o, rfl, fun h => absurd rfl h, fun _ => ⟨fun h => ⟨_, _, rS_o, rfl, fun _ => ⟨_, _, rS_o, rfl, _, rS_o, by simp, fun μ e => ?_⟩, fun h => absurd rfl h⟩, fun h => ⟨_, _, rS_o, rfl, _, rS_o, by simp, fun μ e => ?_⟩⟩⟩
  · subst e
    show post y (ups (rS μ0 o r it kn p (-1) n f) o (eO 0 [.ref r, .int (nI kn), .int (nI p + nI w), .int (-1)]))
    rw [nI_add, rS_pw]; exact h1 h
  · subst e
    show wb_X1_next_87 o post (nI w) y (ups (rS μ0 o r it kn p (-1) n f) o (eO 0 [.ref r, .int (nI kn), .int (nI p), .int (nI p)]))
    rw [rS_pw]
    exact ⟨_, _, rS_o, rfl, fun h => absurd h (q_nw hp), fun _ => h2 h⟩
theorem r_next (hR : RB μ0 o r it ms mi bn b) {p n w bd : Nat} {x3 : Int32} {f : Nat → Int32} {post : Int32 → Mm → Prop} (hp : p ≤ bn) (hw : w ≤ 11) (hbd : ∀ v, v < 4096 → (nI v ≤ x3 ↔ v < bd))
    (hg : ∀ p' v, tkB b bn w p bd = .inr (p', v) → p' ≤ bn → post (nI v) (rS μ0 o r it kn p' (-1) n f)) (hb : ∀ q, tkB b bn w p bd = .inl q → q ≤ bn → post 0 (rS μ0 o r it kn p (nI q) n f)) : wp_X1_next o ms (nI w) x3 (rS μ0 o r it kn p (-1) n f) post := by
  have hbn : bn ≤ 240 := hR.2.2.2.2.2.1
  have hb1 : ∀ i, b i ≤ 1 := hR.2.2.2.2.2.2.1
  obtain ⟨g, hg1, hg2⟩ := rS_mi (kn := kn) hR (p := p) (n := n) (w := -1) (f := f)
  by_cases h1 : bn < p + w
  · have any : ∀ (j i : Nat) (y : Int32), i + j = w → wb_X1_next_6 o post (j + 1) ms (nI w) x3 y (nI i) (rS μ0 o r it kn p (-1) n f) := by
      intro j
      induction j with
      | zero =>
        intro i y hi
        refine ⟨fun _ => ⟨_, _, rS_o, rfl, fun h => absurd rfl h, fun _ => ⟨⟨_, rS_ms hR⟩, k_size (rS_ms hR) ⟨_, _, rS_o, rfl, fun h => ?_, fun _ => ⟨⟨_, rS_ms hR⟩, k_size (rS_ms hR) ⟨_, rS_o, by simp, fun μ e => ?_⟩⟩⟩⟩⟩, fun h => ?_⟩
        · rw [q_sub hp, q_le (by omega) (by omega)] at h; omega
        · subst e
          show wb_X1_next_65 o post (nI w) x3 y (ups (rS μ0 o r it kn p (-1) n f) o (eO 0 [.ref r, .int (nI kn), .int (nI p), .int (nI bn)]))
          rw [rS_pw]
          exact ⟨_, _, rS_o, rfl, fun _ => ⟨_, _, rS_o, rfl, fun h => absurd h (q_nw (by omega)), fun _ => hb bn (by unfold tkB; rw [if_pos h1]) (Nat.le_refl _)⟩, fun h => absurd h (q_nw (by omega))⟩
        · rw [q_le (by omega) (by omega)] at h; omega
      | succ j ih =>
        intro i y hi
        refine ⟨fun h => ?_, fun _ => ⟨_, _, rS_o, rfl, ⟨_, rS_ms hR⟩, k_any (rS_ms hR) hg1 (by omega) (by omega) (fun v _ => ?_)⟩⟩
        · rw [q_le (by omega) (by omega)] at h; omega
        · rw [← nI_succ]; exact ih (i + 1) _ (by omega)
    exact ⟨w + 1, any w 0 0 (by omega)⟩
  · have ex : ∀ (j i acc : Nat), i + j = w → acc < 2 ^ i → (∀ v, nmB b j (p + i) acc = v → v < 4096 → wb_X1_next_65 o post (nI w) x3 (nI v) (rS μ0 o r it kn p (-1) n f)) → wb_X1_next_6 o post (j + 1) ms (nI w) x3 (nI acc) (nI i) (rS μ0 o r it kn p (-1) n f) := by
      intro j
      induction j with
      | zero =>
        intro i acc hi hacc hx
        have h11 : 2 ^ i ≤ 2 ^ 11 := Nat.pow_le_pow_right (by omega) (by omega)
        refine ⟨fun _ => ⟨_, _, rS_o, rfl, fun h => absurd rfl h, fun _ => ⟨⟨_, rS_ms hR⟩, k_size (rS_ms hR) ⟨_, _, rS_o, rfl, fun h => hx acc rfl (by omega), fun h => ?_⟩⟩⟩, fun h => ?_⟩
        · rw [q_sub hp, q_le (by omega) (by omega)] at h; omega
        · rw [q_le (by omega) (by omega)] at h; omega
      | succ j ih =>
        intro i acc hi hacc hx
        have h11 : 2 ^ i ≤ 2 ^ 11 := Nat.pow_le_pow_right (by omega) (by omega)
        have hbi := hb1 (p + i)
        refine ⟨fun h => ?_, fun _ => ⟨_, _, rS_o, rfl, ⟨_, rS_ms hR⟩, ?_⟩⟩
        · rw [q_le (by omega) (by omega)] at h; omega
        · rw [nI_add]
          refine k_at (rS_ms hR) hg1 (by omega) (by omega) (j := p + i) (by omega) ?_
          rw [hg2 (p + i) (by omega), q_sh1 (by omega), q_or2 _ (by omega), ← nI_succ]
          exact ih (i + 1) _ (by omega) (by rw [Nat.pow_succ]; omega) hx
    refine ⟨w + 1, ex w 0 0 (by omega) (by omega) (fun v hv hv2 => r_65 (fun h => ?_) (fun h => ?_) (by omega))⟩
    · rw [hbd v hv2] at h
      rw [Nat.add_zero] at hv
      exact hg (p + w) v (by unfold tkB; rw [if_neg h1, hv, if_pos h]) (by omega)
    · rw [hbd v hv2] at h
      rw [Nat.add_zero] at hv
      exact hb p (by unfold tkB; rw [if_neg h1, hv, if_neg h]) hp
theorem r_next_wr (hR : RB μ0 o r it ms mi bn b) {p n w : Nat} {x3 z : Int32} {f : Nat → Int32} {post : Int32 → Mm → Prop} (hw : w ≤ 11) (hz : z ≠ -1) (hp : post 0 (rS μ0 o r it kn p z n f)) : wp_X1_next o ms (nI w) x3 (rS μ0 o r it kn p z n f) post := by
  have hbn : bn ≤ 240 := hR.2.2.2.2.2.1
  obtain ⟨g, hg1, hg2⟩ := rS_mi (kn := kn) hR (p := p) (n := n) (w := z) (f := f)
  have any : ∀ (j i : Nat) (y : Int32), i + j = w → wb_X1_next_6 o post (j + 1) ms (nI w) x3 y (nI i) (rS μ0 o r it kn p z n f) := by
    intro j
    induction j with
    | zero =>
      intro i y hi
      refine ⟨fun _ => ⟨_, _, rS_o, rfl, fun _ => ⟨_, _, rS_o, rfl, fun _ => ⟨_, _, rS_o, rfl, fun h => absurd h hz, fun _ => hp⟩, fun h => absurd h hz⟩, fun h => absurd h hz⟩, fun h => ?_⟩
      rw [q_le (by omega) (by omega)] at h; omega
    | succ j ih =>
      intro i y hi
      refine ⟨fun h => ?_, fun _ => ⟨_, _, rS_o, rfl, ⟨_, rS_ms hR⟩, k_any (rS_ms hR) hg1 (by omega) (by omega) (fun v _ => ?_)⟩⟩
      · rw [q_le (by omega) (by omega)] at h; omega
      · rw [← nI_succ]; exact ih (i + 1) _ (by omega)
  exact ⟨w + 1, any w 0 0 (by omega)⟩
theorem q_bd {bd : Nat} (h1 : 1 ≤ bd) (h2 : bd < 4097) : ∀ v, v < 4096 → (nI v ≤ nI (bd - 1) ↔ v < bd) := by
  intro v hv
  rw [q_le (by omega) (by omega)]; omega
variable {N : NT} {nt : Nat} {kd ty : Nat → Nat}
def RQ (μ0 : Mm) (o r it kn bn : Nat) (res : RT) (n : Nat) (f : Nat → Int32) (post : Mm → Prop) : Prop := (∀ p' l, res = .inr (p', l) → p' ≤ bn → ∀ n' f', Ex n f l n' f' → post (rS μ0 o r it kn p' (-1) n' f')) ∧ (∀ q, res = .inl q → q ≤ bn → ∀ p n' f', n' ≤ 240 → post (rS μ0 o r it kn p (nI q) n' f'))
theorem RQ.go {res : RT} {k : Nat → RT} {n n1 p1 : Nat} {f f1 : Nat → Int32} {b1 : List Int32} {post : Mm → Prop} (h : RQ μ0 o r it kn bn (bnd res k) n f post) (e : res = .inr (p1, b1)) (hx : Ex n f b1 n1 f1) : RQ μ0 o r it kn bn (k p1) n1 f1 post := by
  subst e
  refine ⟨fun p' bs hk hp n' f' hx2 => ?_, fun q hk hq p n' f' hn' => ?_⟩
  · exact h.1 p' (b1 ++ bs) (by simp only [bnd, hk]) hp n' f' (hx.app hx2)
  · exact h.2 q (by simp only [bnd, hk]) hq p n' f' hn'
theorem RQ.no {res : RT} {k : Nat → RT} {n q : Nat} {f : Nat → Int32} {post : Mm → Prop} (h : RQ μ0 o r it kn bn (bnd res k) n f post) (e : res = .inl q) (hq : q ≤ bn) : ∀ p n' f', n' ≤ 240 → post (rS μ0 o r it kn p (nI q) n' f') := by
  subst e
  exact h.2 q rfl hq
/-- flags, once wrong -/
theorem r_flags_wr (hR : RB μ0 o r it ms mi bn b) (hN : NWf N nt) {t : Nat} (ht : t < nt) (hk2 : nK N t = 2) (hT : TyC kd ty N μ0 t) {post : Int32 → Mm → Prop} {z : Int32} {p : Nat} (hz : z ≠ -1) (hp : ∀ m n f, n ≤ 240 → post m (rS μ0 o r it kn p z n f)) : ∀ (j k n : Nat) (m : Int32) (f : Nat → Int32), k + j = nC N t → n ≤ 240 → wb_X1_nextParts_5 o post (j + 1) (ty t) ms m (nI k) (rS μ0 o r it kn p z n f) := by
  obtain ⟨pr, pi, pn, pf, om, ar, ai, an, af, fb, mb, mn, h1, h2, h3, h4, h5, h6, h7, h8, h9, h10⟩ := hT
  have hwf := hN t ht
  intro j
  induction j with
  | zero =>
    intro k n m f hk hn
    refine ⟨_, _, rS_T hR h1, rfl, ⟨_, rS_R hR h2⟩, t_size (rS_R hR h2) ⟨fun _ => hp _ _ _ hn, fun h => ?_⟩⟩
    rw [q_le (by omega) (by omega)] at h; omega
  | succ j ih =>
    intro k n m f hk hn
    refine ⟨_, _, rS_T hR h1, rfl, ⟨_, rS_R hR h2⟩, t_size (rS_R hR h2) ⟨fun h => ?_, fun _ => ⟨⟨_, rS_T hR h1⟩, w_opt (rS_T hR h1) (h7 hk2 k (by omega)) (hwf.2.2.2.1 k (by omega)).2 (fun e => ?_) (fun e => ?_)⟩⟩⟩
    · rw [q_le (by omega) (by omega)] at h; omega
    · refine ⟨fun h => absurd h (by decide), fun _ => ⟨⟨_, rS_o⟩, r_next_wr hR (w := 1) (by omega) hz ⟨_, _, rS_o, rfl, ⟨_, rS_r hR⟩, rx_app hR hn (fun n' f' hx => ?_)⟩⟩⟩
      rw [← nI_succ]
      exact ih (k + 1) n' _ f' (by omega) hx.1
    · refine ⟨fun _ => ?_, fun h => absurd rfl h⟩
      rw [← nI_succ]
      exact ih (k + 1) n _ f (by omega) hn
theorem r_flags (hR : RB μ0 o r it ms mi bn b) (hN : NWf N nt) {t : Nat} (ht : t < nt) (hk2 : nK N t = 2) (hT : TyC kd ty N μ0 t) {post : Int32 → Mm → Prop} : ∀ (j k n : Nat) (m : Int32) (p : Nat) (f : Nat → Int32), k + j = nC N t → p ≤ bn → n ≤ 240 → (∀ p' m' l, flR N b bn t j k m p = .inr (p', m', l) → p' ≤ bn → ∀ n' f', Ex n f l n' f' → post m' (rS μ0 o r it kn p' (-1) n' f')) →
    (∀ q, flR N b bn t j k m p = .inl q → q ≤ bn → ∀ m' p' n' f', n' ≤ 240 → post m' (rS μ0 o r it kn p' (nI q) n' f')) → wb_X1_nextParts_5 o post (j + 1) (ty t) ms m (nI k) (rS μ0 o r it kn p (-1) n f) := by
  have hT0 := hT
  obtain ⟨pr, pi, pn, pf, om, ar, ai, an, af, fb, mb, mn, h1, h2, h3, h4, h5, h6, h7, h8, h9, h10⟩ := hT
  have hwf := hN t ht
  have hbn : bn ≤ 240 := hR.2.2.2.2.2.1
  intro j
  induction j with
  | zero =>
    intro k n m p f hk hp hn hg hb
    refine ⟨_, _, rS_T hR h1, rfl, ⟨_, rS_R hR h2⟩, t_size (rS_R hR h2) ⟨fun _ => hg _ _ _ rfl hp n f (Ex.nil hn), fun h => ?_⟩⟩
    rw [q_le (by omega) (by omega)] at h; omega
  | succ j ih =>
    intro k n m p f hk hp hn hg hb
    refine ⟨_, _, rS_T hR h1, rfl, ⟨_, rS_R hR h2⟩, t_size (rS_R hR h2) ⟨fun h => ?_, fun _ => ⟨⟨_, rS_T hR h1⟩, w_opt (rS_T hR h1) (h7 hk2 k (by omega)) (hwf.2.2.2.1 k (by omega)).2 (fun e => ?_) (fun e => ?_)⟩⟩⟩
    · rw [q_le (by omega) (by omega)] at h; omega
    · unfold flR at hg hb
      rw [if_pos e] at hg hb
      refine ⟨fun h => absurd h (by decide), fun _ => ⟨⟨_, rS_o⟩, r_next hR (w := 1) (bd := 2) hp (by omega) (q_bd (bd := 2) (by omega) (by omega)) (fun p1 v hv hp1 => ?_) (fun q hv hq => ?_)⟩⟩
      · rw [hv] at hg hb
        simp only [] at hg hb
        refine ⟨_, _, rS_o, rfl, ⟨_, rS_r hR⟩, rx_app hR hn (fun n1 f1 hx1 => ?_)⟩
        rw [← nI_succ]
        refine ih (k + 1) n1 _ p1 f1 (by omega) hp1 hx1.1 (fun p' m' l hl hp' n' f' hx => ?_) (fun q hl hq m' p' n' f' hn' => ?_)
        · exact hg p' m' (nI v :: l) (by rw [hl]) hp' n' f' (hx1.app hx)
        · exact hb q (by rw [hl]) hq m' p' n' f' hn'
      · rw [hv] at hb
        refine ⟨_, _, rS_o, rfl, ⟨_, rS_r hR⟩, rx_app hR hn (fun n1 f1 hx1 => ?_)⟩
        rw [← nI_succ]
        exact r_flags_wr hR hN ht hk2 hT0 (q_nw (by omega)) (fun m' n' f' hn' => hb q rfl hq m' p n' f' hn') j (k + 1) n1 _ f1 (by omega) hx1.1
    · unfold flR at hg hb
      rw [if_neg (by omega)] at hg hb
      refine ⟨fun _ => ?_, fun h => absurd rfl h⟩
      rw [← nI_succ]
      exact ih (k + 1) n _ p f (by omega) hp hn hg hb
theorem r_wr {d : Nat} {x : Option Nat} {x3 : Int32} {p n : Nat} {z : Int32} {f : Nat → Int32} {post : Mm → Prop} (hd : 0 < d) (hz : z ≠ -1) (hp : post (rS μ0 o r it kn p z n f)) : wr_X1_getValue kd d o x ms x3 (rS μ0 o r it kn p z n f) post := by
  obtain ⟨d, rfl⟩ : ∃ e, d = e + 1 := ⟨d - 1, by omega⟩
  exact ⟨_, _, rS_o, rfl, fun h => absurd h hz, fun _ => hp⟩
/-- parts, once wrong -/
theorem r_parts_wr (hR : RB μ0 o r it ms mi bn b) (hN : NWf N nt) {t : Nat} (ht : t < nt) (hT : TyC kd ty N μ0 t) {d : Nat} {x3 v4 m ci : Int32} {p : Nat} {z : Int32} {post : Mm → Prop} (hd : 0 < d) (hz : z ≠ -1) (hp : ∀ n' f', n' ≤ 240 → post (rS μ0 o r it kn p z n' f')) : ∀ (j k n : Nat) (f : Nat → Int32), k + j = nC N t → n ≤ 240 → wb_X1_getSequence_46 o kd (wr_X1_getValue kd d) post (j + 1) (ty t) ms x3 v4 m ci (nI k) (rS μ0 o r it kn p z n f) := by
  obtain ⟨pr, pi, pn, pf, om, ar, ai, an, af, fb, mb, mn, h1, h2, h3, h4, h5, h6, h7, h8, h9, h10, h11, h12⟩ := hT
  have hwf := hN t ht
  intro j
  induction j with
  | zero =>
    intro k n f hk hn
    refine ⟨_, _, rS_T hR h1, rfl, ⟨_, rS_R hR h2⟩, t_size (rS_R hR h2) ⟨fun _ => ⟨fun _ => hp n f hn, fun _ => ⟨_, _, rS_T hR h1, rfl, ⟨_, rS_R hR h8⟩, t_size (rS_R hR h8) ⟨⟨_, rS_o⟩, r_next_wr hR (w := 2) (by omega) hz ⟨_, _, rS_o, rfl, _, _, rS_o, rfl, ⟨_, rS_r hR⟩, k_replaceA (rS_r hR) (rS_i hR) hn (by omega) (fun f' _ => ?_)⟩⟩⟩⟩, fun h => ?_⟩⟩
    · rw [rS_pi hR]
      exact ⟨⟨_, rS_o⟩, 1, fun _ => hp n f' hn, fun _ => ⟨_, _, rS_o, rfl, fun _ => hp n f' hn, fun h => absurd h hz⟩⟩
    · rw [q_le (by omega) (by omega)] at h; omega
  | succ j ih =>
    intro k n f hk hn
    have hk1 := ih (k + 1) n f (by omega) hn
    rw [nI_succ] at hk1
    refine ⟨_, _, rS_T hR h1, rfl, ⟨_, rS_R hR h2⟩, t_size (rS_R hR h2) ⟨fun h => ?_, fun _ => ⟨fun _ => hk1, fun _ => ⟨_, _, rS_T hR h1, rfl, ⟨_, rS_R hR h2⟩, t_at (rS_R hR h2) (rS_A hR h3) h4 (by omega) (by omega) ⟨⟨_, rS_o⟩, r_wr hd hz hk1⟩⟩⟩⟩⟩
    rw [q_le (by omega) (by omega)] at h; omega
theorem r_16_wr (hR : RB μ0 o r it ms mi bn b) (hN : NWf N nt) {t : Nat} (ht : t < nt) (hk2 : nK N t = 2) (hT : TyC kd ty N μ0 t) {d : Nat} {x3 s0 : Int32} {p n : Nat} {f : Nat → Int32} {z : Int32} {post : Mm → Prop} (hd : 0 < d) (hz : z ≠ -1) (hn : n ≤ 240) (hp : ∀ n' f', n' ≤ 240 → post (rS μ0 o r it kn p z n' f')) : wb_X1_getSequence_16 o kd (wr_X1_getValue kd d) post (ty t) ms x3 s0 (rS μ0 o r it kn p z n f) :=
  ⟨⟨_, rS_o⟩, nC N t + 1, r_flags_wr hR hN ht hk2 hT hz (fun m n1 f1 hn1 => ⟨_, _, rS_o, rfl, ⟨_, rS_r hR⟩, k_size (rS_r hR) ⟨_, _, rS_o, rfl, ⟨_, rS_r hR⟩, rx_app hR hn1 (fun n2 f2 hx => ⟨nC N t + 1, r_parts_wr hR hN ht hT hd hz hp (nC N t) 0 n2 f2 (by omega) hx.1⟩)⟩⟩) (nC N t) 0 n 0 f (by omega) hn⟩
end RN
