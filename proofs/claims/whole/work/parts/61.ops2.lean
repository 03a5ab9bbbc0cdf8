/-! OPERATIONS: measures, tales, bits -/
section OQ
variable {σ σ' : Nat → Int32} {α α' : Nat → Nat → Int32} {N : NT} {nt tn bn dc : Nat} {T : Nat → Int32} {b dp dq : Nat → Nat}
theorem MEx.cong {n : Nat} (h : MEx N n α) (e : ∀ a, 9 ≤ a → a < 12 → α' a = α a) : MEx N n α' := by
  intro s hs
  rw [e 9 (by omega) (by omega), e 10 (by omega) (by omega), e 11 (by omega) (by omega)]
  exact h s hs
theorem MI.tale (h : MI N nt tn bn dc T b dp dq σ α) {tn' : Nat} {T' : Nat → Int32} (e : ∀ k, k = 1 ∨ k = 12 ∨ k = 16 → σ' k = σ k) (f : ∀ a, a < 18 → a ≠ 15 → α' a = α a) (h14 : σ' 14 = nI tn') (h15 : α' 15 = T') : MI N nt tn' bn dc T' b dp dq σ' α' := by
  obtain ⟨m1, m2, m3, m4, m5, m6, m7, m8, m9⟩ := h
  refine ⟨by rw [e 1 (by omega)]; exact m1, m2.cong (fun a ha => f a (by omega) (by omega)), m3.cong (fun a h1 h2 => f a (by omega) (by omega)), h14, h15, by rw [e 16 (by omega)]; exact m6, by rw [f 17 (by omega) (by omega)]; exact m7, by rw [e 12 (by omega)]; exact m8, by rw [f 13 (by omega) (by omega)]; exact m9⟩
theorem MI.msg (h : MI N nt tn bn dc T b dp dq σ α) {bn' : Nat} {b' : Nat → Nat} (e : ∀ k, k = 1 ∨ k = 12 ∨ k = 14 → σ' k = σ k) (f : ∀ a, a < 18 → a ≠ 17 → α' a = α a) (h16 : σ' 16 = nI bn') (h17 : ∀ i, i < bn' → α' 17 i = nI (b' i)) : MI N nt tn bn' dc T b' dp dq σ' α' := by
  obtain ⟨m1, m2, m3, m4, m5, m6, m7, m8, m9⟩ := h
  refine ⟨by rw [e 1 (by omega)]; exact m1, m2.cong (fun a ha => f a (by omega) (by omega)), m3.cong (fun a h1 h2 => f a (by omega) (by omega)), by rw [e 14 (by omega)]; exact m4, by rw [f 15 (by omega) (by omega)]; exact m5, h16, h17, by rw [e 12 (by omega)]; exact m8, by rw [f 13 (by omega) (by omega)]; exact m9⟩
theorem MI.cong (h : MI N nt tn bn dc T b dp dq σ α) (e : ∀ k, k = 1 ∨ k = 12 ∨ k = 14 ∨ k = 16 → σ' k = σ k) (f : ∀ a, a < 18 → α' a = α a) : MI N nt tn bn dc T b dp dq σ' α' :=
  h.tale (fun k hk => e k (by omega)) (fun a h1 _ => f a h1) (by rw [e 14 (by omega)]; exact h.2.2.2.1) (by rw [f 15 (by omega)]; exact h.2.2.2.2.1)
theorem m_ref0 {post : Int32 → (Nat → Int32) → (Nat → Nat → Int32) → Prop} (hp : post 0 (upd σ 0 0) α) : wp_X7_refused 0 σ α post := m_refused (by rwa [if_pos rfl])
theorem m_ref1 {post : Int32 → (Nat → Int32) → (Nat → Nat → Int32) → Prop} {v : Int32} (hv : v ≠ 0) (hp : post 1 (upd σ 0 v) α) : wp_X7_refused v σ α post := m_refused (by rwa [if_neg hv])
theorem m_noBit {post : Int32 → (Nat → Int32) → (Nat → Nat → Int32) → Prop} {v : Int32} (h1 : σ 16 = nI bn) (hbn : bn ≤ 240) (ht : ∀ t, t < bn → v = nI t → post 0 (upd σ 0 0) α) (hf : (¬ ∃ t, t < bn ∧ v = nI t) → post 1 (upd σ 0 1) α) : wp_X7_noBit v σ α post := by
  refine m_in ?_
  rw [h1]
  by_cases h : ∃ t, t < bn ∧ v = nI t
  · rw [if_pos ((q_below (by omega)).mpr h)]
    obtain ⟨t, h2, h3⟩ := h
    exact ⟨fun h => absurd h (by decide), fun _ => m_ref0 ⟨Or.inl rfl, ht t h2 h3⟩⟩
  · rw [if_neg (fun h2 => h ((q_below (by omega)).mp h2))]
    exact ⟨fun _ => m_ref1 (by decide) ⟨Or.inr rfl, hf h⟩, fun h => absurd rfl h⟩
end OQ
section OR
variable {kd : Nat → Nat} {x out : Nat}
theorem KC.msgf {ad : Nat → Nat} {N : NT} {nt tn bn dc : Nat} {T : Nat → Int32} {b dp dq : Nat → Nat} {dm : Int32} {C μ : Mm} (h : KC kd x out N nt tn bn dc T b dp dq μ ad C dm) {b' : Nat → Nat} {f : Nat → Int32} (hf : ∀ i, i < bn → f i = nI (b' i)) : ∃ C', KC kd x out N nt tn bn dc T b' dp dq (ups μ (ad 6) (eI 240 f)) ad C' dm := by
  obtain ⟨C', h'⟩ := h.msg hf
  obtain ⟨f0, h6, _⟩ := h.c6
  rw [q_ups_id ((ups_n (q_ne h.c5 h6 (by simp))).trans h.c5)] at h'
  exact ⟨C', h'⟩
theorem KC.msgn {ad : Nat → Nat} {N : NT} {nt tn bn dc : Nat} {T : Nat → Int32} {b dp dq : Nat → Nat} {dm : Int32} {C μ : Mm} (h : KC kd x out N nt tn bn dc T b dp dq μ ad C dm) {bn' : Nat} (hb : bn' ≤ bn) : ∃ C', KC kd x out N nt tn bn' dc T b dp dq (ups μ (ad 5) (eO 1 [.ref (ad 6), .int (nI bn')])) ad C' dm := by
  obtain ⟨f0, h6, hf⟩ := h.c6
  obtain ⟨C', h'⟩ := h.msg (bn' := bn') (b' := b) (f := f0) (fun i hi => hf i (by omega))
  rw [q_ups_id h6] at h'
  exact ⟨C', h'⟩
theorem p_least : op_7 kd x out (II kd x out) := by
  intro μ σ α p1 ⟨N, nt, tn, bn, dc, T, b, dp, dq, ⟨ad, C, dm, hK⟩, hM, hV⟩
  have hK : KC kd x out N nt tn bn dc T b dp dq μ ad C dm := hK
  have v1 := hV.1
  refine ⟨⟨_, hK.cx⟩, ⟨_, hK.cx⟩, hK.num v1 (fun t ht e => ?_) (fun hn => ⟨rfl, ?_⟩)⟩
  · subst e
    obtain ⟨a, c, om, ho⟩ := hK.tyo ht
    refine ⟨_, _, ho, rfl, hK.ki.outQ _ (fun μ7 hK7 hO => ?_)⟩
    refine m_noType hM.1 v1 (fun t' ht' e => ?_) (fun hn => absurd ⟨t, ht, rfl⟩ hn)
    refine ⟨fun _ => ⟨vp_in_nI (by omega) (by omega), ?_⟩, fun h => absurd rfl h⟩
    rw [nI_clamp (by omega), (hM.2.2.1 t ht).1]
    exact ⟨q_us, fun _ => hO, N, nt, tn, bn, dc, T, b, dp, dq, hK7, hM.s0 (fun k hk => pk_un hk), hV⟩
  · refine m_noType hM.1 v1 (fun t' ht' e => absurd ⟨t', ht', e⟩ hn) (fun hn => ⟨fun h => absurd h (by decide), fun _ => ?_⟩)
    exact ⟨q_us, fun h => absurd h (by decide), N, nt, tn, bn, dc, T, b, dp, dq, hK.ki, hM.s0 (fun k hk => pk_un hk), hV⟩
theorem p_most : op_8 kd x out (II kd x out) := by
  intro μ σ α p1 ⟨N, nt, tn, bn, dc, T, b, dp, dq, ⟨ad, C, dm, hK⟩, hM, hV⟩
  have hK : KC kd x out N nt tn bn dc T b dp dq μ ad C dm := hK
  have v1 := hV.1
  refine ⟨⟨_, hK.cx⟩, ⟨_, hK.cx⟩, hK.num v1 (fun t ht e => ?_) (fun hn => ⟨rfl, ?_⟩)⟩
  · subst e
    obtain ⟨a, c, om, ho⟩ := hK.tyo ht
    refine ⟨_, _, ho, rfl, hK.ki.outQ _ (fun μ7 hK7 hO => ?_)⟩
    refine m_noType hM.1 v1 (fun t' ht' e => ?_) (fun hn => absurd ⟨t, ht, rfl⟩ hn)
    refine ⟨fun _ => ⟨vp_in_nI (by omega) (by omega), ?_⟩, fun h => absurd rfl h⟩
    rw [nI_clamp (by omega), (hM.2.2.1 t ht).2.1]
    exact ⟨q_us, fun _ => hO, N, nt, tn, bn, dc, T, b, dp, dq, hK7, hM.s0 (fun k hk => pk_un hk), hV⟩
  · refine m_noType hM.1 v1 (fun t' ht' e => absurd ⟨t', ht', e⟩ hn) (fun hn => ⟨fun h => absurd h (by decide), fun _ => ?_⟩)
    exact ⟨q_us, fun h => absurd h (by decide), N, nt, tn, bn, dc, T, b, dp, dq, hK.ki, hM.s0 (fun k hk => pk_un hk), hV⟩
theorem p_tell : op_9 kd x out (II kd x out) := by
  intro μ σ α p1 ⟨N, nt, tn, bn, dc, T, b, dp, dq, ⟨ad, C, dm, hK⟩, hM, hV⟩
  have hK : KC kd x out N nt tn bn dc T b dp dq μ ad C dm := hK
  have v6 : tn ≤ 300 := hV.2.2.2.2.2.1
  have m4 := hM.2.2.2.1
  refine ⟨⟨_, hK.cx⟩, c_out ?_⟩
  by_cases c : (-1000 : Int32) ≤ p1 ∧ p1 ≤ 1000
  · rw [if_pos c]
    refine ⟨fun _ => ⟨_, _, hK.cx, rfl, ⟨_, hK.c3⟩, k_isFull hK.c3 hK.c4 (by omega) (by omega) ?_⟩, fun h => absurd rfl h⟩
    by_cases htn : tn < 300
    · rw [if_pos htn]
      refine ⟨fun _ => ⟨_, _, hK.cx, rfl, ⟨_, hK.c3⟩, k_append hK.c3 hK.c4 (by omega) htn ?_⟩, fun h => absurd rfl h⟩
      obtain ⟨C', hK2⟩ := hK.tale (tn + 1) (upd T tn p1)
      refine ⟨_, _, hK2.cx, rfl, ⟨_, hK2.c3⟩, k_size hK2.c3 (hK2.ki.outQ _ (fun μ7 hK7 hO => ?_))⟩
      refine m_in ?_
      rw [if_pos c]
      refine ⟨fun _ => ⟨fun _ => m_ref0 ⟨fun _ => ?_, fun h => absurd rfl h⟩, fun h => ?_⟩, fun h => absurd h (by decide)⟩
      · rw [pk_un (by omega), m4, nI_clamp (by omega)]
        refine ⟨vp_in_nI htn (by omega), fun α10 e => ?_⟩
        subst e
        intro σ12 e
        subst e
        have e14 : nI tn + 1 = nI (tn + 1) := (nI_succ tn).symm
        rw [q_us, e14]
        refine ⟨by show upd _ _ _ 0 = 0; rw [pk_un (by omega), q_us], fun _ => hO, N, nt, tn + 1, bn, dc, upd T tn p1, b, dp, dq, hK7, hM.tale (fun k hk => by rw [pk_un (by omega), pk_un (by omega)]) (fun a h1 h2 => upA_n h2) q_us (by rw [upA_s, hM.2.2.2.2.1]), ?_⟩
        unfold VI at *
        exact ⟨hV.1, hV.2.1, hV.2.2.1, hV.2.2.2.1, hV.2.2.2.2.1, by omega, hV.2.2.2.2.2.2⟩
      · rw [m4, q_l300, q_eq (by omega) (by omega)] at h; omega
    · rw [if_neg htn]
      refine ⟨fun h => absurd h (by decide), fun _ => Or.inr ⟨rfl, ?_⟩⟩
      refine m_in ?_
      rw [if_pos c]
      refine ⟨fun _ => ⟨fun h => absurd ?_ h, fun _ => m_ref1 (by decide) ⟨fun h => absurd h (by decide), fun _ => ?_⟩⟩, fun h => absurd h (by decide)⟩
      · rw [m4, q_l300, q_eq (by omega) (by omega)]; omega
      · exact ⟨q_us, fun h => absurd h (by decide), N, nt, tn, bn, dc, T, b, dp, dq, hK.ki, hM.s0 (fun k hk => pk_un hk), hV⟩
  · rw [if_neg c]
    refine ⟨fun h => absurd h (by decide), fun _ => Or.inl ⟨rfl, ?_⟩⟩
    refine m_in ?_
    rw [if_neg c]
    refine ⟨fun h => absurd rfl h, fun _ => m_ref1 (by decide) ⟨fun h => absurd h (by decide), fun _ => ?_⟩⟩
    exact ⟨q_us, fun h => absurd h (by decide), N, nt, tn, bn, dc, T, b, dp, dq, hK.ki, hM.s0 (fun k hk => pk_un hk), hV⟩
theorem p_forget : op_10 kd x out (II kd x out) := by
  intro μ σ α ⟨N, nt, tn, bn, dc, T, b, dp, dq, ⟨ad, C, dm, hK⟩, hM, hV⟩
  have hK : KC kd x out N nt tn bn dc T b dp dq μ ad C dm := hK
  have v6 : tn ≤ 300 := hV.2.2.2.2.2.1
  refine ⟨⟨_, hK.cx⟩, _, _, hK.cx, rfl, ⟨_, hK.c3⟩, k_size hK.c3 ⟨_, _, hK.cx, rfl, ⟨_, hK.c3⟩, k_keepFirst (m := 0) hK.c3 (by omega) (by omega) ?_⟩⟩
  obtain ⟨C', hK2⟩ := hK.talen 0
  intro σ1 e1
  subst e1
  intro σ4 e4
  subst e4
  refine ⟨hM.2.2.2.1.symm, N, nt, 0, bn, dc, T, b, dp, dq, hK2.ki, hM.tale (fun k hk => by rw [pk_un (by omega), pk_un (by omega)]) (fun a h1 h2 => rfl) (by rw [pk_un (by omega), q_us]; rfl) hM.2.2.2.2.1, ?_⟩
  unfold VI at *
  exact ⟨hV.1, hV.2.1, hV.2.2.1, hV.2.2.2.1, hV.2.2.2.2.1, by omega, hV.2.2.2.2.2.2⟩
theorem p_told : op_12 kd x out (II kd x out) := by
  intro μ σ α p1 ⟨N, nt, tn, bn, dc, T, b, dp, dq, ⟨ad, C, dm, hK⟩, hM, hV⟩
  have hK : KC kd x out N nt tn bn dc T b dp dq μ ad C dm := hK
  have v6 : tn ≤ 300 := hV.2.2.2.2.2.1
  have m4 := hM.2.2.2.1
  refine ⟨⟨_, hK.cx⟩, _, _, hK.cx, rfl, ⟨_, hK.c3⟩, k_has hK.c3 hK.c4 v6 (by omega) (fun r hr0 hr1 => ⟨fun h => ?_, fun h => ⟨rfl, ?_⟩⟩)⟩
  · obtain ⟨j, hj, e⟩ := hr1 h
    subst e
    refine ⟨_, _, hK.cx, rfl, ⟨_, hK.c3⟩, k_at hK.c3 hK.c4 v6 (by omega) hj (hK.ki.outQ _ (fun μ7 hK7 hO => ?_))⟩
    refine m_in ?_
    rw [m4, if_pos ((q_below (by omega)).mpr ⟨j, hj, rfl⟩)]
    refine ⟨fun h => absurd h (by decide), fun _ => m_ref0 ⟨fun _ => ⟨vp_in_nI (by omega) (by omega), ?_⟩, fun h => absurd rfl h⟩⟩
    rw [nI_clamp (by omega), hM.2.2.2.2.1]
    exact ⟨q_us, fun _ => hO, N, nt, tn, bn, dc, T, b, dp, dq, hK7, hM.s0 (fun k hk => pk_un hk), hV⟩
  · refine m_in ?_
    rw [m4, if_neg (fun h2 => hr0 h ((q_below (by omega)).mp h2))]
    refine ⟨fun _ => m_ref1 (by decide) ⟨fun h => absurd h (by decide), fun _ => ?_⟩, fun h => absurd rfl h⟩
    exact ⟨q_us, fun h => absurd h (by decide), N, nt, tn, bn, dc, T, b, dp, dq, hK.ki, hM.s0 (fun k hk => pk_un hk), hV⟩
theorem p_bit : op_16 kd x out (II kd x out) := by
  intro μ σ α p1 ⟨N, nt, tn, bn, dc, T, b, dp, dq, ⟨ad, C, dm, hK⟩, hM, hV⟩
  have hK : KC kd x out N nt tn bn dc T b dp dq μ ad C dm := hK
  have v7 : bn ≤ 240 := hV.2.2.2.2.2.2.1
  have m6 := hM.2.2.2.2.2.1
  obtain ⟨f, h6, hf⟩ := hK.c6
  refine ⟨⟨_, hK.cx⟩, _, _, hK.cx, rfl, ⟨_, hK.c5⟩, k_has hK.c5 h6 v7 (by omega) (fun r hr0 hr1 => ⟨fun h => ?_, fun h => ⟨rfl, ?_⟩⟩)⟩
  · obtain ⟨j, hj, e⟩ := hr1 h
    subst e
    refine ⟨_, _, hK.cx, rfl, ⟨_, hK.c5⟩, k_at hK.c5 h6 v7 (by omega) hj (hK.ki.outQ _ (fun μ7 hK7 hO => ?_))⟩
    refine m_noBit m6 v7 (fun t' ht' e => ?_) (fun hn => absurd ⟨j, hj, rfl⟩ hn)
    refine ⟨fun _ => ⟨vp_in_nI (by omega) (by omega), ?_⟩, fun h => absurd rfl h⟩
    rw [hf j hj] at hO
    rw [nI_clamp (by omega), hM.2.2.2.2.2.2.1 j hj]
    exact ⟨q_us, fun _ => hO, N, nt, tn, bn, dc, T, b, dp, dq, hK7, hM.s0 (fun k hk => pk_un hk), hV⟩
  · refine m_noBit m6 v7 (fun t' ht' e => absurd ⟨t', ht', e⟩ (hr0 h)) (fun hn => ⟨fun h => absurd h (by decide), fun _ => ?_⟩)
    exact ⟨q_us, fun h => absurd h (by decide), N, nt, tn, bn, dc, T, b, dp, dq, hK.ki, hM.s0 (fun k hk => pk_un hk), hV⟩
theorem p_flip : op_17 kd x out (II kd x out) := by
  intro μ σ α p1 ⟨N, nt, tn, bn, dc, T, b, dp, dq, ⟨ad, C, dm, hK⟩, hM, hV⟩
  have hK : KC kd x out N nt tn bn dc T b dp dq μ ad C dm := hK
  have v7 : bn ≤ 240 := hV.2.2.2.2.2.2.1
  have v8 : ∀ i, b i ≤ 1 := hV.2.2.2.2.2.2.2.1
  have m6 := hM.2.2.2.2.2.1
  obtain ⟨f, h6, hf⟩ := hK.c6
  refine ⟨⟨_, hK.cx⟩, _, _, hK.cx, rfl, ⟨_, hK.c5⟩, k_has hK.c5 h6 v7 (by omega) (fun r hr0 hr1 => ⟨fun h => ?_, fun h => ⟨rfl, ?_⟩⟩)⟩
  · obtain ⟨j, hj, e⟩ := hr1 h
    subst e
    refine ⟨_, _, hK.cx, rfl, _, _, hK.cx, rfl, ⟨_, hK.c5⟩, k_at hK.c5 h6 v7 (by omega) hj ⟨⟨_, hK.c5⟩, k_replace hK.c5 h6 v7 (by omega) hj ?_⟩⟩
    have hbj := v8 j
    have e1 : (1 : Int32) - f j = nI (1 - b j) := by rw [hf j hj, q_l1, q_sub hbj]
    rw [e1]
    have hb' : ∀ i, i < bn → upd f j (nI (1 - b j)) i = nI ((fun i => if i = j then 1 - b j else b i) i) := by
      intro i hi
      by_cases e : i = j
      · subst e; rw [q_us]; simp
      · rw [pk_un e, hf i hi]; simp [e]
    obtain ⟨C', hK2⟩ := hK.msgf hb'
    obtain ⟨f2, h62, hf2⟩ := hK2.c6
    refine ⟨_, _, hK2.cx, rfl, ⟨_, hK2.c5⟩, k_at hK2.c5 h62 v7 (by omega) hj ?_⟩
    rw [hf2 j hj]
    refine hK2.ki.outQ _ (fun μ7 hK7 hO => ?_)
    refine m_noBit m6 v7 (fun t' ht' e => ?_) (fun hn => absurd ⟨j, hj, rfl⟩ hn)
    refine ⟨fun _ => ⟨vp_in_nI (by omega) (by omega), vp_in_nI (by omega) (by omega), fun α7 e => ⟨vp_in_nI (by omega) (by omega), ?_⟩⟩, fun h => absurd rfl h⟩
    rw [nI_clamp (by omega), hM.2.2.2.2.2.2.1 j hj, q_l1, q_sub hbj] at e
    subst e
    rw [nI_clamp (by omega), upA_s, q_us]
    simp only [if_true] at hO
    refine ⟨q_us, fun _ => hO, N, nt, tn, bn, dc, T, _, dp, dq, hK7, hM.msg (fun k hk => pk_un (by omega)) (fun a h1 h2 => upA_n h2) (by rw [pk_un (by omega)]; exact m6) (fun i hi => ?_), ?_⟩
    · rw [upA_s]
      by_cases e : i = j
      · subst e; rw [q_us]; simp
      · rw [pk_un e, hM.2.2.2.2.2.2.1 i hi]; simp [e]
    · unfold VI at *
      refine ⟨hV.1, hV.2.1, hV.2.2.1, hV.2.2.2.1, hV.2.2.2.2.1, hV.2.2.2.2.2.1, v7, fun i => ?_, hV.2.2.2.2.2.2.2.2⟩
      have := v8 i
      show (if i = j then 1 - b j else b i) ≤ 1
      split <;> omega
  · refine m_noBit m6 v7 (fun t' ht' e => absurd ⟨t', ht', e⟩ (hr0 h)) (fun hn => ⟨fun h => absurd h (by decide), fun _ => ?_⟩)
    exact ⟨q_us, fun h => absurd h (by decide), N, nt, tn, bn, dc, T, b, dp, dq, hK.ki, hM.s0 (fun k hk => pk_un hk), hV⟩
theorem p_cut : op_18 kd x out (II kd x out) := by
  intro μ σ α p1 ⟨N, nt, tn, bn, dc, T, b, dp, dq, ⟨ad, C, dm, hK⟩, hM, hV⟩
  have hK : KC kd x out N nt tn bn dc T b dp dq μ ad C dm := hK
  have v7 : bn ≤ 240 := hV.2.2.2.2.2.2.1
  have m6 := hM.2.2.2.2.2.1
  refine ⟨⟨_, hK.cx⟩, _, _, hK.cx, rfl, ⟨_, hK.c5⟩, k_size hK.c5 (c_out ?_)⟩
  by_cases c : (0 : Int32) ≤ p1 ∧ p1 ≤ nI bn
  · rw [if_pos c]
    obtain ⟨j, _, hj, e⟩ := q_num (a := 0) (b := bn) c.1 c.2 (by omega) (by omega)
    subst e
    refine ⟨fun _ => ⟨_, _, hK.cx, rfl, ⟨_, hK.c5⟩, k_keepFirst hK.c5 (by omega) hj ?_⟩, fun h => absurd rfl h⟩
    obtain ⟨C', hK2⟩ := hK.msgn hj
    refine hK2.ki.outQ _ (fun μ7 hK7 hO => ?_)
    refine m_in ?_
    rw [m6, if_pos c]
    refine ⟨fun h => absurd h (by decide), fun _ => m_ref0 ⟨fun _ σ8 e => ?_, fun h => absurd rfl h⟩⟩
    subst e
    rw [pk_un (by omega), m6]
    refine ⟨by show upd _ _ _ 0 = 0; rw [pk_un (by omega), q_us], fun _ => hO, N, nt, tn, j, dc, T, b, dp, dq, hK7, hM.msg (fun k hk => by rw [pk_un (by omega), pk_un (by omega)]) (fun a h1 h2 => rfl) q_us (fun i hi => hM.2.2.2.2.2.2.1 i (by omega)), ?_⟩
    unfold VI at *
    exact ⟨hV.1, hV.2.1, hV.2.2.1, hV.2.2.2.1, hV.2.2.2.2.1, hV.2.2.2.2.2.1, by omega, hV.2.2.2.2.2.2.2⟩
  · rw [if_neg c]
    refine ⟨fun h => absurd h (by decide), fun _ => ⟨rfl, ?_⟩⟩
    refine m_in ?_
    rw [m6, if_neg c]
    refine ⟨fun _ => m_ref1 (by decide) ⟨fun h => absurd h (by decide), fun _ => ?_⟩, fun h => absurd rfl h⟩
    exact ⟨q_us, fun h => absurd h (by decide), N, nt, tn, bn, dc, T, b, dp, dq, hK.ki, hM.s0 (fun k hk => pk_un hk), hV⟩
end OR
