/-! THE CLASS'S WRITER: a value -/
theorem w_opt {o : Nat} {om : Int32} {k x : Nat} {a b c d e : Value} {r : List Value} {μ : Mm} {post : Int32 → Mm → Prop} (h : μ o = some (eO 2 (a :: b :: c :: d :: e :: .int om :: r))) (hm : msk om k = nI x) (hx : x ≤ 1) (h1 : x = 1 → post 1 μ) (h0 : x = 0 → post 0 μ) : wp_X3_isOptional o (nI k) μ post := by
  refine k_isOpt (f := .null) h ?_
  by_cases e : x = 1
  · subst e
    have : (om >>> (nI k &&& 31)) &&& (1 : Int32) = 1 := hm
    rw [if_pos this]; exact h1 rfl
  · have e0 : x = 0 := by omega
    subst e0
    have : (om >>> (nI k &&& 31)) &&& (1 : Int32) = nI 0 := hm
    rw [if_neg (by rw [this]; decide)]; exact h0 rfl
section WV
variable {μ0 : Mm} {o r it ta ti tn : Nat} {T : Nat → Int32} {kd ty : Nat → Nat} {N : NT} {nt : Nat}
theorem w_flags (hW : WB μ0 o r it ta ti tn T) (hN : NWf N nt) {t : Nat} (ht : t < nt) (hk2 : nK N t = 2) (hT : TyC kd ty N μ0 t) {post : Int32 → Mm → Prop} {n : Nat} {f : Nat → Int32} : ∀ (j k : Nat) (m : Int32) (p : Nat), k + j = nC N t → p ≤ 300 → (∀ p' m', flT N T tn t j k m p = .inr (p', m') → p' ≤ 300 → post m' (wS μ0 o r it p' (-1) n f)) →
    (∀ q m', flT N T tn t j k m p = .inl q → q ≤ 300 → post m' (wS μ0 o r it q (nI q) n f)) → wb_X5_nextParts_5 o post (j + 1) (ty t) ta m (nI k) (wS μ0 o r it p (-1) n f) := by
  obtain ⟨pr, pi, pn, pf, om, ar, ai, an, af, fb, mb, mn, h1, h2, h3, h4, h5, h6, h7, h8, h9, h10⟩ := hT
  have hwf := hN t ht
  have htn : tn ≤ 300 := hW.2.2.2.2.2.1
  /- once wrong, the rest goes through -/
  have wr : ∀ (j k : Nat) (m : Int32) (q : Nat), q ≤ 300 → k + j = nC N t → (∀ m', post m' (wS μ0 o r it q (nI q) n f)) → wb_X5_nextParts_5 o post (j + 1) (ty t) ta m (nI k) (wS μ0 o r it q (nI q) n f) := by
    intro j
    induction j with
    | zero =>
      intro k m q hq hk hp
      refine ⟨_, _, wS_T hW h1, rfl, ⟨_, wS_R hW h2⟩, t_size (wS_R hW h2) ⟨fun _ => hp _, fun h => ?_⟩⟩
      rw [q_le (by omega) (by omega)] at h; omega
    | succ j ih =>
      intro k m q hq hk hp
      refine ⟨_, _, wS_T hW h1, rfl, ⟨_, wS_R hW h2⟩, t_size (wS_R hW h2) ⟨fun h => ?_, fun _ => ⟨⟨_, wS_T hW h1⟩, w_opt (wS_T hW h1) (h7 hk2 k (by omega)) (hwf.2.2.2.1 k (by omega)).2 (fun e => ?_) (fun e => ?_)⟩⟩⟩
      · rw [q_le (by omega) (by omega)] at h; omega
      · refine ⟨fun h => absurd h (by decide), fun _ => ⟨⟨_, wS_o⟩, w_next_wr hW (by rw [q_l1]; intro h; rw [q_em1 (by omega)] at h; exact h) ?_⟩⟩
        show wb_X5_nextParts_5 o post (j + 1) (ty t) ta _ (nI k + 1) _
        rw [← nI_succ]
        exact ih (k + 1) _ q hq (by omega) hp
      · refine ⟨fun _ => ?_, fun h => absurd rfl h⟩
        show wb_X5_nextParts_5 o post (j + 1) (ty t) ta _ (nI k + 1) _
        rw [← nI_succ]
        exact ih (k + 1) _ q hq (by omega) hp
  intro j
  induction j with
  | zero =>
    intro k m p hk hp2 hg hb
    refine ⟨_, _, wS_T hW h1, rfl, ⟨_, wS_R hW h2⟩, t_size (wS_R hW h2) ⟨fun _ => hg _ _ rfl hp2, fun h => ?_⟩⟩
    rw [q_le (by omega) (by omega)] at h; omega
  | succ j ih =>
    intro k m p hk hp2 hg hb
    refine ⟨_, _, wS_T hW h1, rfl, ⟨_, wS_R hW h2⟩, t_size (wS_R hW h2) ⟨fun h => ?_, fun _ => ⟨⟨_, wS_T hW h1⟩, w_opt (wS_T hW h1) (h7 hk2 k (by omega)) (hwf.2.2.2.1 k (by omega)).2 (fun e => ?_) (fun e => ?_)⟩⟩⟩
    · rw [q_le (by omega) (by omega)] at h; omega
    · refine ⟨fun h => absurd h (by decide), fun _ => ⟨⟨_, wS_o⟩, ?_⟩⟩
      unfold flT at hg hb
      rw [if_pos e] at hg hb
      by_cases hx : nxt T tn p 0 1
      · rw [if_pos hx] at hg hb
        refine w_next_good hW hx ?_
        show wb_X5_nextParts_5 o post (j + 1) (ty t) ta _ (nI k + 1) _
        rw [← nI_succ]
        exact ih (k + 1) _ (p + 1) (by omega) (by have := hx.1; omega) hg hb
      · rw [if_neg hx] at hg hb
        refine w_next_bad hW hp2 hx ?_
        show wb_X5_nextParts_5 o post (j + 1) (ty t) ta _ (nI k + 1) _
        rw [← nI_succ]
        exact wr j (k + 1) _ p hp2 (by omega) (fun m' => hb p m' rfl hp2)
    · refine ⟨fun _ => ?_, fun h => absurd rfl h⟩
      unfold flT at hg hb
      rw [if_neg (by omega)] at hg hb
      show wb_X5_nextParts_5 o post (j + 1) (ty t) ta _ (nI k + 1) _
      rw [← nI_succ]
      exact ih (k + 1) _ p (by omega) hp2 hg hb
theorem w_flB (hW : WB μ0 o r it ta ti tn T) (hN : NWf N nt) {t : Nat} (ht : t < nt) (hk2 : nK N t = 2) (hT : TyC kd ty N μ0 t) {GV : Nat → Option Nat → Nat → Int32 → Mm → (Mm → Prop) → Prop} {post : Mm → Prop} {x3 m a : Int32} {p : Nat} {w : Int32} : ∀ (j k n : Nat) (f : Nat → Int32), k + j = nC N t → n ≤ 240 →
    (∀ n' f', Ex n f (flB N t m j k) n' f' → ∃ n2, wb_X5_putSequence_83 o kd GV post n2 (ty t) ta x3 m a (0 : Int32) (wS μ0 o r it p w n' f')) → wb_X5_putSequence_41 o kd GV post (j + 1) (ty t) ta x3 m a (nI k) (wS μ0 o r it p w n f) := by
  obtain ⟨pr, pi, pn, pf, om, ar, ai, an, af, fb, mb, mn, h1, h2, h3, h4, h5, h6, h7, h8, h9, h10⟩ := hT
  have hwf := hN t ht
  intro j
  induction j with
  | zero =>
    intro k n f hk hn hp
    refine ⟨_, _, wS_T hW h1, rfl, ⟨_, wS_R hW h2⟩, t_size (wS_R hW h2) ⟨fun _ => hp n f (Ex.nil hn), fun h => ?_⟩⟩
    rw [q_le (by omega) (by omega)] at h; omega
  | succ j ih =>
    intro k n f hk hn hp
    refine ⟨_, _, wS_T hW h1, rfl, ⟨_, wS_R hW h2⟩, t_size (wS_R hW h2) ⟨fun h => ?_, fun _ => ⟨⟨_, wS_T hW h1⟩, w_opt (wS_T hW h1) (h7 hk2 k (by omega)) (hwf.2.2.2.1 k (by omega)).2 (fun e => ?_) (fun e => ?_)⟩⟩⟩
    · rw [q_le (by omega) (by omega)] at h; omega
    · refine ⟨fun h => absurd h (by decide), fun _ => ⟨⟨_, wS_o⟩, w_puts hW 1 n f rfl hn (by omega) (fun n1 f1 hx => ?_)⟩⟩
      rw [← nI_succ]
      refine ih (k + 1) n1 f1 (by omega) hx.1 (fun n' f' hx2 => hp n' f' ?_)
      unfold flB
      rw [if_pos e]
      exact hx.app hx2
    · refine ⟨fun _ => ?_, fun h => absurd rfl h⟩
      rw [← nI_succ]
      refine ih (k + 1) n f (by omega) hn (fun n' f' hx2 => hp n' f' ?_)
      unfold flB
      rw [if_neg (by omega)]
      exact hx2
theorem w_patch (hW : WB μ0 o r it ta ti tn T) {GV : Nat → Option Nat → Nat → Int32 → Mm → (Mm → Prop) → Prop} {post : Mm → Prop} {v : Int32} {p n n0 : Nat} {w : Int32} (hn : n ≤ 240) (hn0 : n0 ≤ 240) : ∀ (j k : Nat) (f : Nat → Int32), k + j = 8 →
    (∀ f', (n0 + 8 ≤ n → f' = pat f n0 v k) → post (wS μ0 o r it p w n f')) → wb_X5_putAddition_49 o kd GV post (j + 1) (nI n0) v (nI k) (wS μ0 o r it p w n f) := by
  intro j
  induction j with
  | zero =>
    intro k f hk hp
    have : k = 8 := by omega
    subst this
    refine ⟨fun _ => hp f (fun _ => pat_8.symm), fun h => ?_⟩
    rw [q_l8] at h; exact absurd (by rw [q_le (by omega) (by omega)]; omega) h
  | succ j ih =>
    intro k f hk hp
    refine ⟨fun h => ?_, fun _ => ⟨_, _, wS_o, rfl, ⟨_, wS_r hW⟩, k_replaceA (wS_r hW) (wS_i hW) hn (by omega) (fun f1 hf1 => ?_)⟩⟩
    · rw [q_l8, q_le (by omega) (by omega)] at h; omega
    · rw [wS_pi hW, ← nI_succ]
      refine ih (k + 1) f1 (by omega) (fun f' hf' => hp f' (fun h8 => ?_))
      rw [hf' h8, hf1 (n0 + k) (by omega) (nI_add n0 k), q_l7, q_sub (by omega)]
      exact pat_s (by omega)
/-- once wrong, a value is passed by -/
theorem w_wr {d : Nat} {x : Option Nat} {x3 : Int32} {p n : Nat} {w : Int32} {f : Nat → Int32} {post : Mm → Prop} (hd : 0 < d) (hw : w ≠ -1) (hp : post (wS μ0 o r it p w n f)) : wr_X5_putValue kd d o x ta x3 (wS μ0 o r it p w n f) post := by
  obtain ⟨d, rfl⟩ : ∃ e, d = e + 1 := ⟨d - 1, by omega⟩
  exact ⟨_, _, wS_o, rfl, fun h => absurd h hw, fun _ => hp⟩
theorem w_add_wr (hW : WB μ0 o r it ta ti tn T) {d : Nat} {x : Option Nat} {x3 : Int32} {p n : Nat} {w : Int32} {f : Nat → Int32} {post : Mm → Prop} (hd : 0 < d) (hw : w ≠ -1) (hn : n ≤ 240) (hp : ∀ n' f', n' ≤ 240 → post (wS μ0 o r it p w n' f')) : wp_X5_putAddition o kd (wr_X5_putValue kd d) x ta x3 (wS μ0 o r it p w n f) post := by
  refine ⟨_, _, wS_o, rfl, ⟨_, wS_r hW⟩, k_size (wS_r hW) ⟨⟨_, wS_o⟩, w_puts hW 8 n f rfl hn (by omega) (fun n1 f1 hx => ⟨_, _, wS_o, rfl, ⟨_, wS_r hW⟩, k_size (wS_r hW) ⟨⟨_, wS_o⟩, w_wr hd hw ⟨_, _, wS_o, rfl, ⟨_, wS_r hW⟩, k_size (wS_r hW) ⟨9, ?_⟩⟩⟩⟩)⟩⟩
  exact w_patch hW hx.1 hn 8 0 f1 rfl (fun f' _ => hp n1 f' hx.1)
theorem w_adds_wr (hW : WB μ0 o r it ta ti tn T) (hN : NWf N nt) {t : Nat} (ht : t < nt) (hT : TyC kd ty N μ0 t) {d : Nat} {x3 : Int32} {p a : Nat} {w : Int32} {post : Mm → Prop} (hd : 0 < d) (hw : w ≠ -1) (ha : a ≤ nA N t) (hp : ∀ n' f', n' ≤ 240 → post (wS μ0 o r it p w n' f')) : ∀ (j k n : Nat) (f : Nat → Int32), k + j = a → n ≤ 240 → wb_X5_putSequence_146 o kd (wr_X5_putValue kd d) post (j + 1) (ty t) ta x3 (nI a) (nI k) (wS μ0 o r it p w n f) := by
  obtain ⟨pr, pi, pn, pf, om, ar, ai, an, af, fb, mb, mn, h1, h2, h3, h4, h5, h6, h7, h8, h9, h10, h11, h12⟩ := hT
  have hwf := hN t ht
  intro j
  induction j with
  | zero =>
    intro k n f hk hn
    refine ⟨fun _ => hp n f hn, fun h => ?_⟩
    rw [q_le (by omega) (by omega)] at h; omega
  | succ j ih =>
    intro k n f hk hn
    refine ⟨fun h => ?_, fun _ => ⟨_, _, wS_T hW h1, rfl, ⟨_, wS_R hW h8⟩, t_at (wS_R hW h8) (wS_A hW h9) h10 (by omega) (by omega) ⟨⟨_, wS_o⟩, w_add_wr hW hd hw hn (fun n' f' hn' => ?_)⟩⟩⟩
    · rw [q_le (by omega) (by omega)] at h; omega
    · rw [← nI_succ]; exact ih (k + 1) n' f' (by omega) hn'
theorem w_parts_wr (hW : WB μ0 o r it ta ti tn T) (hN : NWf N nt) {t : Nat} (ht : t < nt) (hT : TyC kd ty N μ0 t) {d : Nat} {x3 m : Int32} {p a : Nat} {w : Int32} {post : Mm → Prop} (hd : 0 < d) (hw : w ≠ -1) (ha : a ≤ nA N t) (hp : ∀ n' f', n' ≤ 240 → post (wS μ0 o r it p w n' f')) : ∀ (j k n : Nat) (f : Nat → Int32), k + j = nC N t → n ≤ 240 → wb_X5_putSequence_83 o kd (wr_X5_putValue kd d) post (j + 1) (ty t) ta x3 m (nI a) (nI k) (wS μ0 o r it p w n f) := by
  have hT0 := hT
  obtain ⟨pr, pi, pn, pf, om, ar, ai, an, af, fb, mb, mn, h1, h2, h3, h4, h5, h6, h7, h8, h9, h10, h11, h12⟩ := hT
  have hwf := hN t ht
  intro j
  induction j with
  | zero =>
    intro k n f hk hn
    refine ⟨_, _, wS_T hW h1, rfl, ⟨_, wS_R hW h2⟩, t_size (wS_R hW h2) ⟨fun _ => ⟨fun _ => ⟨a + 1, w_adds_wr hW hN ht hT0 hd hw ha hp a 0 n f (by omega) hn⟩, fun _ => ⟨⟨_, wS_o⟩, w_puts hW 2 n f rfl hn (by omega) (fun n1 f1 hx => ⟨a + 1, w_adds_wr hW hN ht hT0 hd hw ha hp a 0 n1 f1 (by omega) hx.1⟩)⟩⟩, fun h => ?_⟩⟩
    rw [q_le (by omega) (by omega)] at h; omega
  | succ j ih =>
    intro k n f hk hn
    have hk1 := ih (k + 1) n f (by omega) hn
    rw [nI_succ] at hk1
    refine ⟨_, _, wS_T hW h1, rfl, ⟨_, wS_R hW h2⟩, t_size (wS_R hW h2) ⟨fun h => ?_, fun _ => ⟨fun _ => hk1, fun _ => ⟨_, _, wS_T hW h1, rfl, ⟨_, wS_R hW h2⟩, t_at (wS_R hW h2) (wS_A hW h3) h4 (by omega) (by omega) ⟨⟨_, wS_o⟩, w_wr hd hw hk1⟩⟩⟩⟩⟩
    rw [q_le (by omega) (by omega)] at h; omega
end WV
