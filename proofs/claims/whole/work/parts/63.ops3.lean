/-! OPERATIONS: wrongAt, write -/
section OW
variable {kd : Nat → Nat} {x out : Nat}
theorem KC.nes {ad : Nat → Nat} {N : NT} {nt tn bn dc : Nat} {T : Nat → Int32} {b dp dq : Nat → Nat} {dm : Int32} {C μ : Mm} (h : KC kd x out N nt tn bn dc T b dp dq μ ad C dm) : ad 8 ≠ ad 5 ∧ ad 9 ≠ ad 6 ∧ ad 11 ≠ ad 3 ∧ ad 12 ≠ ad 4 := by
  obtain ⟨hR, _, _, _, hC⟩ := h
  obtain ⟨_, _, ⟨c3, c4⟩, ⟨c5, f, c6, _⟩, ⟨p, w, n, f', _, c7, c8, c9⟩, ⟨k2, p2, w2, n2, f2, _, c10, c11, c12⟩, _⟩ := hC
  exact ⟨hR.ne c8 c5 (by omega), hR.ne c9 c6 (by omega), hR.ne c11 c3 (by omega), hR.ne c12 c4 (by omega)⟩
theorem KC.walkW {ad : Nat → Nat} {N : NT} {nt tn bn dc : Nat} {T : Nat → Int32} {b dp dq : Nat → Nat} {dm : Int32} {C μ : Mm} (hkd : ∀ i j, i < 4 → j < 4 → kd i = kd j → i = j) (h : KC kd x out N nt tn bn dc T b dp dq μ ad C dm) (hV : VI N nt tn bn dc b dp dq) {t : Nat} (ht : t < nt) {post : Int32 → Mm → Prop}
    (hg : ∀ p' bs, vT N T tn 17 t 0 = .inr (p', bs) → p' ≤ 300 → bs.length ≤ 240 → ∀ μ' C' f' v, KC kd x out N nt tn bn dc T b dp dq μ' ad C' dm → μ' (ad 7) = some (eO 4 (.ref (ad 8) :: v)) → μ' (ad 8) = some (eO 1 [.ref (ad 9), .int (nI bs.length)]) → μ' (ad 9) = some (eI 240 f') → (∀ i, i < bs.length → f' i = bs.getD i 0) → post (if tn ≤ p' then -1 else nI p') μ')
    (hb : ∀ q, vT N T tn 17 t 0 = .inl q → q ≤ 300 → ∀ μ' C', KC kd x out N nt tn bn dc T b dp dq μ' ad C' dm → post (nI q) μ') : (∃ v, μ (ad 7) = some (eO 4 v)) ∧ wp_X5_walk (ad 7) kd (ad (20 + 5 * t)) (ad 3) μ post := by
  have v1 := hV.1
  have v6 : tn ≤ 300 := hV.2.2.2.2.2.1
  have hNw := NMe.mw hV.2.2.1 hV.2.2.2.1
  obtain ⟨hW, ⟨p, w, n, f, hn, hw⟩, hput⟩ := h.wr v6
  refine ⟨hW.1, ?_⟩
  have W := w_walk (ty := fun s => ad (20 + 5 * s)) hW hV.2.1 v1 hkd (fun s hs => h.tyc hs) (p0 := p) (z0 := w) (f0 := f) ht hn (post := post) (fun p' bs hv hp' n' f' hx => ?_) (fun q hv hq n' f' hn' => ?_)
  · rwa [hw] at W
  · have hl : bs.length ≤ 240 := Nat.le_trans (vT_len hV.2.1 hNw 17 t 0 p' bs ht hv) (hV.2.2.1 t ht).2.1
    obtain ⟨e1, e2⟩ := hx.2 (by omega)
    rw [Nat.zero_add] at e1
    subst e1 e2
    obtain ⟨C', hK'⟩ := hput p' (if tn ≤ p' then -1 else nI p') bs.length (apL f 0 bs) hl
    refine hg p' bs hv hp' hl _ C' _ _ hK' wS_o (wS_r hW) (wS_i hW) (fun i hi => ?_)
    have := apL_hi (f := f) (n := 0) (i := i) (bs := bs) hi
    rwa [Nat.zero_add] at this
  · obtain ⟨C', hK'⟩ := hput q (nI q) n' f' hn'
    exact hb q hv hq _ C' hK'
theorem MS.mi {N : NT} {nt tn bn dc : Nat} {T : Nat → Int32} {b dp dq : Nat → Nat} {σ σ' : Nat → Int32} {α α' : Nat → Nat → Int32} (h : MS 0 bn [] σ α σ' α') (hM : MI N nt tn bn dc T b dp dq σ α) : MI N nt tn bn dc T b dp dq σ' α' := by
  have h16 : σ' 16 = σ 16 := by rw [h.2.2.2.1, hM.2.2.2.2.2.1]; rfl
  have h17 : α' 17 = α 17 := by rw [h.2.2.1, apL_nil]
  refine hM.cong (fun k hk => ?_) (fun a ha => ?_)
  · by_cases e : k = 16
    · rw [e]; exact h16
    · exact h.1 k e (by omega) (by omega) (by omega)
  · by_cases e : a = 17
    · rw [e]; exact h17
    · exact h.2.1 a (by omega) e
theorem FB.mi {N : NT} {nt tn bn dc : Nat} {T : Nat → Int32} {b dp dq : Nat → Nat} {σ σ' : Nat → Int32} {α α' : Nat → Nat → Int32} (h : FB 0 σ α σ' α') (hM : MI N nt tn bn dc T b dp dq σ α) : MI N nt tn bn dc T b dp dq σ' α' := by
  obtain ⟨h16, h17⟩ := h.2.2 rfl
  refine hM.cong (fun k hk => ?_) (fun a ha => ?_)
  · by_cases e : k = 16
    · rw [e]; exact h16
    · exact h.1 k e (by omega) (by omega) (by omega)
  · by_cases e : a = 17
    · rw [e]; exact h17
    · exact h.2.1 a (by omega) e
theorem p_wrong (hkd : ∀ i j, i < 4 → j < 4 → kd i = kd j → i = j) : op_13 kd x out (II kd x out) := by
  intro μ σ α p1 ⟨N, nt, tn, bn, dc, T, b, dp, dq, ⟨ad, C, dm, hK⟩, hM, hV⟩
  have hK : KC kd x out N nt tn bn dc T b dp dq μ ad C dm := hK
  have v1 := hV.1
  have v6 : tn ≤ 300 := hV.2.2.2.2.2.1
  have v7 : bn ≤ 240 := hV.2.2.2.2.2.2.1
  have e15 := hM.2.2.2.2.1
  subst e15
  have hM0 : MI N nt tn bn dc (α 15) b dp dq (upd σ 0 0) α := hM.s0 (fun k hk => pk_un hk)
  refine ⟨⟨_, hK.cx⟩, _, _, hK.cx, rfl, ⟨_, hK.cx⟩, hK.num v1 (fun t ht e => ?_) (fun hn => ⟨rfl, ?_⟩)⟩
  · subst e
    refine ⟨_, _, hK.cx, rfl, hK.walkW hkd hV ht (fun p' bs hv hp' hl μ' C' f' v hK' g7 g8 g9 gf => ?_) (fun q hv hq μ' C' hK' => ?_)⟩
    · refine hK'.ki.outQ _ (fun μ7 hK7 hO => ?_)
      refine m_noType hM.1 v1 (fun t' ht' e => ⟨fun _ => ?_, fun h => absurd rfl h⟩) (fun hn => absurd ⟨t, ht, rfl⟩ hn)
      refine m_walk (tn := tn) (w := bn) (Or.inl rfl) hV.2.1 v1 v6 hM0.2.1 ht hM0.2.2.2.1 hM0.2.2.2.2.2.1 (by omega) (fun h => absurd h (by decide)) (fun p2 bs2 hv2 hp2 σ' α' hS => ?_) (fun q2 hv2 hq2 σ' α' hF => ?_)
      · rw [hv] at hv2
        cases hv2
        exact ⟨by rw [hS.1 0 (by omega) (by omega) (by omega) (by omega), q_us], fun _ => hO, N, nt, tn, bn, dc, α 15, b, dp, dq, hK7, MS.mi hS hM0, hV⟩
      · rw [hv] at hv2; cases hv2
    · refine hK'.ki.outQ _ (fun μ7 hK7 hO => ?_)
      refine m_noType hM.1 v1 (fun t' ht' e => ⟨fun _ => ?_, fun h => absurd rfl h⟩) (fun hn => absurd ⟨t, ht, rfl⟩ hn)
      refine m_walk (tn := tn) (w := bn) (Or.inl rfl) hV.2.1 v1 v6 hM0.2.1 ht hM0.2.2.2.1 hM0.2.2.2.2.2.1 (by omega) (fun h => absurd h (by decide)) (fun p2 bs2 hv2 hp2 σ' α' hS => ?_) (fun q2 hv2 hq2 σ' α' hF => ?_)
      · rw [hv] at hv2; cases hv2
      · rw [hv] at hv2
        cases hv2
        exact ⟨by rw [hF.1 0 (by omega) (by omega) (by omega) (by omega), q_us], fun _ => hO, N, nt, tn, bn, dc, α 15, b, dp, dq, hK7, FB.mi hF hM0, hV⟩
  · refine m_noType hM.1 v1 (fun t' ht' e => absurd ⟨t', ht', e⟩ hn) (fun hn => ⟨fun h => absurd h (by decide), fun _ => ?_⟩)
    exact ⟨q_us, fun h => absurd h (by decide), N, nt, tn, bn, dc, α 15, b, dp, dq, hK.ki, hM.s0 (fun k hk => pk_un hk), hV⟩
theorem p_write (hkd : ∀ i j, i < 4 → j < 4 → kd i = kd j → i = j) : op_14 kd x out (II kd x out) := by
  intro μ σ α p1 ⟨N, nt, tn, bn, dc, T, b, dp, dq, ⟨ad, C, dm, hK⟩, hM, hV⟩
  have hK : KC kd x out N nt tn bn dc T b dp dq μ ad C dm := hK
  have v1 := hV.1
  have v6 : tn ≤ 300 := hV.2.2.2.2.2.1
  have v7 : bn ≤ 240 := hV.2.2.2.2.2.2.1
  have e15 := hM.2.2.2.2.1
  subst e15
  refine ⟨⟨_, hK.cx⟩, _, _, hK.cx, rfl, ⟨_, hK.cx⟩, hK.num v1 (fun t ht e => ?_) (fun hn => Or.inl ⟨rfl, ?_⟩)⟩
  · subst e
    -- the reference refuses
    have bad : ∀ (μ' : Mm), KI kd x out N nt tn bn dc (α 15) b dp dq μ' → ∀ (σ' : Nat → Int32) (α' : Nat → Nat → Int32), MI N nt tn bn dc (α 15) b dp dq σ' α' → wb_X7_write_27 (fun b σ1 α1 => wp_X7_thrown σ1 α1 (fun t σ2 α2 => t = 2 ∧ ((2 : Int32) = 0 → ∃ n f, μ' out = some (eL n f) ∧ vp_in (0 : Int32) n ∧ f (0 : Int32).toNatClampNeg = b.toInt64) ∧ II kd x out μ' σ2 α2)) (nI t) (2 : Int32) σ' α' := fun μ' hK' σ' α' hM' => m_ref1 (by decide) ⟨fun h => absurd h (by decide), fun _ => ⟨q_us, fun h => absurd h (by decide), N, nt, tn, bn, dc, α 15, b, dp, dq, hK', hM'.s0 (fun k hk => pk_un hk), hV⟩⟩
    refine ⟨_, _, hK.cx, rfl, hK.walkW hkd hV ht (fun p' bs hv hp' hl μ' C' f' v hK' g7 g8 g9 gf => ⟨fun h => ?_, fun h => Or.inr ⟨rfl, ?_⟩⟩) (fun q hv hq μ' C' hK' => ⟨fun h => absurd h (q_nw hq), fun _ => Or.inr ⟨rfl, ?_⟩⟩)⟩
    · -- the tale is one
      have hle : tn ≤ p' := by
        by_cases c : tn ≤ p'
        · exact c
        · rw [if_neg c] at h; exact absurd h (q_nw hp')
      obtain ⟨f6, h6, _⟩ := hK'.c6
      have hb01 := btL_01 (vT_01 17 t 0 p' bs hv)
      refine ⟨_, _, hK'.cx, rfl, _, _, hK'.cx, rfl, _, _, g7, rfl, ⟨_, hK'.c5⟩, k_copy hK'.c5 h6 g8 g9 (by omega) (by omega) hl hl (by omega) hK'.nes.1 hK'.nes.2.1 ?_⟩
      obtain ⟨C2, hK2⟩ := hK'.msg (bn' := bs.length) (b' := btL bs) (f := cpF f6 f' bs.length) (fun i hi => by rw [cpF, if_pos hi, gf i hi, (hb01 i).1])
      refine ⟨_, _, hK2.cx, rfl, ⟨_, hK2.c5⟩, k_size hK2.c5 (hK2.ki.outQ _ (fun μ7 hK7 hO => ?_))⟩
      refine m_isType hM.1 v1 (fun t' ht' e => ⟨fun _ => ?_, fun h => absurd h (by decide)⟩) (fun hn => absurd ⟨t, ht, rfl⟩ hn)
      refine m_walk (tn := tn) (w := bn) (Or.inl rfl) hV.2.1 v1 v6 hM.2.1 ht hM.2.2.2.1 hM.2.2.2.2.2.1 (by omega) (fun h => absurd h (by decide)) (fun p2 bs2 hv2 hp2 σ' α' hS => ?_) (fun q2 hv2 hq2 σ' α' hF => by rw [hv] at hv2; cases hv2)
      rw [hv] at hv2
      cases hv2
      have hM1 := MS.mi hS hM
      rw [if_pos hle]
      refine ⟨fun _ => m_ref0 ⟨fun _ σ17 e => ?_, fun h => absurd rfl h⟩, fun h => absurd (by decide) h⟩
      subst e
      have hM2 : MI N nt tn 0 dc (α 15) b dp dq (upd (upd σ' 0 0) 16 0) α' := hM1.msg (fun k hk => by rw [pk_un (by omega), pk_un (by omega)]) (fun a _ _ => rfl) q_us (fun i hi => by omega)
      have hv15 : vT N (α' 15) tn 17 t 0 = .inr (p', bs) := by rw [hM1.2.2.2.2.1]; exact hv
      refine m_walk (tn := tn) (w := 0) (Or.inr rfl) hV.2.1 v1 v6 hM2.2.1 ht hM2.2.2.2.1 hM2.2.2.2.2.2.1 (by omega) (fun _ => ⟨p', bs, hv15, by omega⟩) (fun p2 bs2 hv2 hp2 σ2 α2 hS2 => ?_) (fun q2 hv2 hq2 σ' α' hF => by rw [hv15] at hv2; cases hv2)
      rw [hv15] at hv2
      cases hv2
      have e16 : σ2 16 = nI bs.length := by rw [hS2.2.2.2.1, Nat.zero_add]; rfl
      rw [e16]
      refine ⟨by rw [hS2.1 0 (by omega) (by omega) (by omega) (by omega), pk_un (by omega), q_us], fun _ => hO, N, nt, tn, bs.length, dc, α 15, btL bs, dp, dq, hK7, hM2.msg (fun k hk => hS2.1 k (by omega) (by omega) (by omega) (by omega)) (fun a h1 h2 => hS2.2.1 a (by omega) h2) e16 (fun i hi => ?_), ?_⟩
      · rw [hS2.2.2.1, ← (hb01 i).1]
        have := apL_hi (f := α' 17) (n := 0) (i := i) (bs := bs) hi
        rwa [Nat.zero_add] at this
      · unfold VI at *
        exact ⟨hV.1, hV.2.1, hV.2.2.1, hV.2.2.2.1, hV.2.2.2.2.1, hV.2.2.2.2.2.1, hl, fun i => (hb01 i).2, hV.2.2.2.2.2.2.2.2⟩
    · have hle : ¬ tn ≤ p' := fun c => h (if_pos c)
      refine m_isType hM.1 v1 (fun t' ht' e => ⟨fun _ => ?_, fun h => absurd h (by decide)⟩) (fun hn => absurd ⟨t, ht, rfl⟩ hn)
      refine m_walk (tn := tn) (w := bn) (Or.inl rfl) hV.2.1 v1 v6 hM.2.1 ht hM.2.2.2.1 hM.2.2.2.2.2.1 (by omega) (fun h => absurd h (by decide)) (fun p2 bs2 hv2 hp2 σ' α' hS => ?_) (fun q2 hv2 hq2 σ' α' hF => by rw [hv] at hv2; cases hv2)
      rw [hv] at hv2
      cases hv2
      rw [if_neg hle]
      exact ⟨fun h => absurd h (nI_pos (by omega)), fun _ => bad _ hK'.ki _ _ (MS.mi hS hM)⟩
    · refine m_isType hM.1 v1 (fun t' ht' e => ⟨fun _ => ?_, fun h => absurd h (by decide)⟩) (fun hn => absurd ⟨t, ht, rfl⟩ hn)
      refine m_walk (tn := tn) (w := bn) (Or.inl rfl) hV.2.1 v1 v6 hM.2.1 ht hM.2.2.2.1 hM.2.2.2.2.2.1 (by omega) (fun h => absurd h (by decide)) (fun p2 bs2 hv2 hp2 σ' α' hS => by rw [hv] at hv2; cases hv2) (fun q2 hv2 hq2 σ' α' hF => ?_)
      rw [hv] at hv2
      cases hv2
      exact ⟨fun h => absurd h (nI_pos (by omega)), fun _ => bad _ hK'.ki _ _ (FB.mi hF hM)⟩
  · refine m_isType hM.1 v1 (fun t' ht' e => absurd ⟨t', ht', e⟩ hn) (fun hn => ⟨fun h => absurd rfl h, fun _ => ?_⟩)
    exact m_ref1 (by decide) ⟨fun h => absurd h (by decide), fun _ => ⟨q_us, fun h => absurd h (by decide), N, nt, tn, bn, dc, α 15, b, dp, dq, hK.ki, hM.s0 (fun k hk => pk_un hk), hV⟩⟩
end OW
