/-! OPERATIONS: faultAt, read -/
section OX
variable {kd : Nat → Nat} {x out : Nat}
theorem KC.walkR {ad : Nat → Nat} {N : NT} {nt tn bn dc kn : Nat} {T : Nat → Int32} {b dp dq : Nat → Nat} {dm : Int32} {C μ : Mm} (hkd : ∀ i j, i < 4 → j < 4 → kd i = kd j → i = j) (h : KC kd x out N nt tn bn dc T b dp dq μ ad C dm) (hV : VI N nt tn bn dc b dp dq) {t : Nat} (ht : t < nt) (hkn : kn ≤ 3) {post : Int32 → Mm → Prop}
    (hg : ∀ p' l, rV N b bn kn 17 t 0 = .inr (p', l) → p' ≤ bn → l.length ≤ 240 → ∀ μ' C' f' v, KC kd x out N nt tn bn dc T b dp dq μ' ad C' dm → μ' (ad 10) = some (eO 0 (.ref (ad 11) :: v)) → μ' (ad 11) = some (eO 1 [.ref (ad 12), .int (nI l.length)]) → μ' (ad 12) = some (eI 240 f') → (∀ i, i < l.length → f' i = l.getD i 0) → post (if bn ≤ p' then -1 else nI p') μ')
    (hb : ∀ q, rV N b bn kn 17 t 0 = .inl q → q ≤ bn → ∀ μ' C', KC kd x out N nt tn bn dc T b dp dq μ' ad C' dm → post (nI q) μ') : (∃ v, μ (ad 10) = some (eO 0 v)) ∧ wp_X1_walk (ad 10) kd (ad (20 + 5 * t)) (ad 5) (nI kn) μ post := by
  have v1 := hV.1
  have v7 : bn ≤ 240 := hV.2.2.2.2.2.2.1
  have v8 : ∀ i, b i ≤ 1 := hV.2.2.2.2.2.2.2.1
  have hLw := NMe.lw hV.2.2.1 hV.2.2.2.1
  obtain ⟨hR, ⟨k, p, w, n, f, hn, hw⟩, hput⟩ := h.rd v7 v8
  refine ⟨hR.1, ?_⟩
  have W := r_walk (ty := fun s => ad (20 + 5 * s)) hR hV.2.1 v1 hkn hkd (fun s hs => h.tyc hs) (k0 := k) (p0 := p) (z0 := w) (f0 := f) ht hn (post := post) (fun p' l hv hp' n' f' hx => ?_) (fun q hv hq p n' f' hn' => ?_)
  · rwa [hw] at W
  · have hl : l.length ≤ 240 := Nat.le_trans (rV_len hV.2.1 hLw 17 t 0 p' l ht hv) (hV.2.2.1 t ht).2.2
    obtain ⟨e1, e2⟩ := hx.2 (by omega)
    rw [Nat.zero_add] at e1
    subst e1 e2
    obtain ⟨C', hK'⟩ := hput kn p' (if bn ≤ p' then -1 else nI p') l.length (apL f 0 l) hl
    refine hg p' l hv hp' hl _ C' _ _ hK' rS_o (rS_r hR) (rS_i hR) (fun i hi => ?_)
    have := apL_hi (f := f) (n := 0) (i := i) (bs := l) hi
    rwa [Nat.zero_add] at this
  · obtain ⟨C', hK'⟩ := hput kn p (nI q) n' f' hn'
    exact hb q hv hq _ C' hK'
theorem MSR.mi {N : NT} {nt tn bn dc : Nat} {T : Nat → Int32} {b dp dq : Nat → Nat} {σ σ' : Nat → Int32} {α α' : Nat → Nat → Int32} {l : List Int32} (h : MSR 0 0 l σ α σ' α') (hM : MI N nt tn bn dc T b dp dq σ α) : MI N nt tn bn dc T b dp dq σ' α' :=
  hM.cong (fun k hk => h.1 k (by omega) (by omega) (by omega) (by omega)) (fun a ha => h.2.1 a (by omega) (by omega))
theorem FBR.mi {N : NT} {nt tn bn dc : Nat} {T : Nat → Int32} {b dp dq : Nat → Nat} {σ σ' : Nat → Int32} {α α' : Nat → Nat → Int32} (h : FBR σ α σ' α') (hM : MI N nt tn bn dc T b dp dq σ α) : MI N nt tn bn dc T b dp dq σ' α' :=
  hM.cong (fun k hk => h.1 k (by omega) (by omega) (by omega) (by omega)) (fun a ha => h.2 a (by omega) (by omega))
theorem p_fault (hkd : ∀ i j, i < 4 → j < 4 → kd i = kd j → i = j) : op_20 kd x out (II kd x out) := by
  intro μ σ α p1 p2 ⟨N, nt, tn, bn, dc, T, b, dp, dq, ⟨ad, C, dm, hK⟩, hM, hV⟩
  have hK : KC kd x out N nt tn bn dc T b dp dq μ ad C dm := hK
  have v1 := hV.1
  have v7 : bn ≤ 240 := hV.2.2.2.2.2.2.1
  have v8 : ∀ i, b i ≤ 1 := hV.2.2.2.2.2.2.2.1
  have hLw := NMe.lw hV.2.2.1 hV.2.2.2.1
  have hM0 : MI N nt tn bn dc T b dp dq (upd σ 0 0) α := hM.s0 (fun k hk => pk_un hk)
  have hB0 : MB bn b (upd σ 0 0) α := ⟨hM0.2.2.2.2.2.1, hM0.2.2.2.2.2.2.1, v7, v8⟩
  refine ⟨⟨_, hK.cx⟩, ⟨_, hK.cx⟩, ⟨_, hK.cx⟩, hK.num v1 (fun t ht e => c_out ?_) (fun hn => Or.inl ⟨rfl, ?_⟩)⟩
  · subst e
    by_cases c : (0 : Int32) ≤ p2 ∧ p2 ≤ 3
    · rw [if_pos c]
      obtain ⟨kn, _, hkn, e⟩ := q_num (a := 0) (b := 3) c.1 c.2 (by omega) (by omega)
      subst e
      have hW := hK.walkR hkd hV ht hkn (post := fun r1 μ2 => ∃ n3 f4, μ2 out = some (eL n3 f4) ∧ vp_in (0 : Int32) n3 ∧ ∀ μ7, μ7 = ups μ2 out (eL n3 (vp_updL f4 (0 : Int32).toNatClampNeg r1.toInt64)) → wp_X7_faultAt (nI t) (nI kn) σ α (fun b σ1 α1 => wp_X7_thrown σ1 α1 (fun t σ2 α2 => t = 0 ∧ ((0 : Int32) = 0 → ∃ n f, μ7 out = some (eL n f) ∧ vp_in (0 : Int32) n ∧ f (0 : Int32).toNatClampNeg = b.toInt64) ∧ II kd x out μ7 σ2 α2)))
        (fun p' l hv hp' hl μ' C' f' v hK' g7 g8 g9 gf => ?_) (fun q hv hq μ' C' hK' => ?_)
      · exact ⟨fun _ => ⟨_, _, hK.cx, rfl, _, _, hK.cx, rfl, hW⟩, fun h => absurd rfl h⟩
      · refine hK'.ki.out (post := fun _ μ7 => wp_X7_faultAt (nI t) (nI kn) σ α (fun b σ1 α1 => wp_X7_thrown σ1 α1 (fun t σ2 α2 => t = 0 ∧ ((0 : Int32) = 0 → ∃ n f, μ7 out = some (eL n f) ∧ vp_in (0 : Int32) n ∧ f (0 : Int32).toNatClampNeg = b.toInt64) ∧ II kd x out μ7 σ2 α2))) _ (fun μ7 hK7 hO => ?_)
        refine m_isType hM.1 v1 (fun t' ht' e => ⟨fun _ => m_in ?_, fun h => absurd h (by decide)⟩) (fun hn => absurd ⟨t, ht, rfl⟩ hn)
        rw [if_pos c]
        refine ⟨fun h => absurd h (by decide), fun _ => m_ref0 ⟨fun _ => ?_, fun h => absurd rfl h⟩⟩
        refine m_walkB hV.2.1 hLw hkn v1 hM0.2.1 ht hB0 (fun p2 l2 hv2 hp2 σ' α' hS => ?_) (fun q2 hv2 hq2 σ' α' hF => by rw [hv] at hv2; cases hv2)
        rw [hv] at hv2
        cases hv2
        exact ⟨by rw [hS.1 0 (by omega) (by omega) (by omega) (by omega), q_us], fun _ => hO, N, nt, tn, bn, dc, T, b, dp, dq, hK7, MSR.mi hS hM0, hV⟩
      · refine hK'.ki.out (post := fun _ μ7 => wp_X7_faultAt (nI t) (nI kn) σ α (fun b σ1 α1 => wp_X7_thrown σ1 α1 (fun t σ2 α2 => t = 0 ∧ ((0 : Int32) = 0 → ∃ n f, μ7 out = some (eL n f) ∧ vp_in (0 : Int32) n ∧ f (0 : Int32).toNatClampNeg = b.toInt64) ∧ II kd x out μ7 σ2 α2))) _ (fun μ7 hK7 hO => ?_)
        refine m_isType hM.1 v1 (fun t' ht' e => ⟨fun _ => m_in ?_, fun h => absurd h (by decide)⟩) (fun hn => absurd ⟨t, ht, rfl⟩ hn)
        rw [if_pos c]
        refine ⟨fun h => absurd h (by decide), fun _ => m_ref0 ⟨fun _ => ?_, fun h => absurd rfl h⟩⟩
        refine m_walkB hV.2.1 hLw hkn v1 hM0.2.1 ht hB0 (fun p2 l2 hv2 hp2 σ' α' hS => by rw [hv] at hv2; cases hv2) (fun q2 hv2 hq2 σ' α' hF => ?_)
        rw [hv] at hv2
        cases hv2
        exact ⟨by rw [hF.1 0 (by omega) (by omega) (by omega) (by omega), q_us], fun _ => hO, N, nt, tn, bn, dc, T, b, dp, dq, hK7, FBR.mi hF hM0, hV⟩
    · rw [if_neg c]
      refine ⟨fun h => absurd h (by decide), fun _ => Or.inr ⟨rfl, ?_⟩⟩
      refine m_isType hM.1 v1 (fun t' ht' e => ⟨fun _ => m_in ?_, fun h => absurd h (by decide)⟩) (fun hn => absurd ⟨t, ht, rfl⟩ hn)
      rw [if_neg c]
      exact ⟨fun _ => m_ref1 (by decide) ⟨fun h => absurd h (by decide), fun _ => ⟨q_us, fun h => absurd h (by decide), N, nt, tn, bn, dc, T, b, dp, dq, hK.ki, hM.s0 (fun k hk => pk_un hk), hV⟩⟩, fun h => absurd rfl h⟩
  · refine m_isType hM.1 v1 (fun t' ht' e => absurd ⟨t', ht', e⟩ hn) (fun hn => ⟨fun h => absurd rfl h, fun _ => ?_⟩)
    exact m_ref1 (by decide) ⟨fun h => absurd h (by decide), fun _ => ⟨q_us, fun h => absurd h (by decide), N, nt, tn, bn, dc, T, b, dp, dq, hK.ki, hM.s0 (fun k hk => pk_un hk), hV⟩⟩
/-- the reference's copy of what was read -/
theorem m_copyT {post : Int32 → (Nat → Int32) → (Nat → Nat → Int32) → Prop} {σ : Nat → Int32} {α : Nat → Nat → Int32} {m : Nat} (h18 : σ 18 = nI m) (hm : m ≤ 300) (hp : post (nI m) (upd σ 14 (nI m)) (upA α 15 (cpF (α 15) (α 19) m))) : ∃ n, wb_X7_read_53 post n (0 : Int32) σ α := by
  have go : ∀ (j k : Nat), k + j = m → wb_X7_read_53 post (j + 1) (nI k) σ (upA α 15 (cpF (α 15) (α 19) k)) := by
    intro j
    induction j with
    | zero =>
      intro k hk
      have e : k = m := by omega
      subst e
      refine ⟨fun _ σ23 e => ?_, fun h => absurd ?_ h⟩
      · rw [h18] at e
        subst e
        rw [q_us]; exact hp
      · rw [h18, q_le (by omega) (by omega)]; exact Nat.le_refl _
    | succ j ih =>
      intro k hk
      refine ⟨fun h => ?_, fun _ => ⟨vp_in_nI (by omega) (by omega), vp_in_nI (by omega) (by omega), fun α27 e => ?_⟩⟩
      · rw [h18, q_le (by omega) (by omega)] at h; omega
      · rw [nI_clamp (by omega), upA_s, upA_n (by omega), upA_upA, cpF_s] at e
        subst e
        rw [← nI_succ]
        exact ih (k + 1) (by omega)
  have := go m 0 (by omega)
  rw [cpF_0, upA_id rfl] at this
  exact ⟨m + 1, this⟩
theorem cpF_cong {f g g' : Nat → Int32} {m : Nat} (h : ∀ i, i < m → g i = g' i) : cpF f g m = cpF f g' m := by
  funext i
  unfold cpF
  by_cases c : i < m
  · rw [if_pos c, if_pos c, h i c]
  · rw [if_neg c, if_neg c]
theorem p_read (hkd : ∀ i j, i < 4 → j < 4 → kd i = kd j → i = j) : op_19 kd x out (II kd x out) := by
  intro μ σ α p1 p2 ⟨N, nt, tn, bn, dc, T, b, dp, dq, ⟨ad, C, dm, hK⟩, hM, hV⟩
  have hK : KC kd x out N nt tn bn dc T b dp dq μ ad C dm := hK
  have v1 := hV.1
  have v6 : tn ≤ 300 := hV.2.2.2.2.2.1
  have v7 : bn ≤ 240 := hV.2.2.2.2.2.2.1
  have v8 : ∀ i, b i ≤ 1 := hV.2.2.2.2.2.2.2.1
  have hLw := NMe.lw hV.2.2.1 hV.2.2.2.1
  have hB0 : MB bn b σ α := ⟨hM.2.2.2.2.2.1, hM.2.2.2.2.2.2.1, v7, v8⟩
  -- the reference refuses
  have bad : ∀ (v : Int32), v ≠ 0 → ∀ (μ' : Mm), KI kd x out N nt tn bn dc T b dp dq μ' → ∀ (σ' : Nat → Int32) (α' : Nat → Nat → Int32), MI N nt tn bn dc T b dp dq σ' α' → wb_X7_read_42 (fun b σ1 α1 => wp_X7_thrown σ1 α1 (fun t σ2 α2 => t = v ∧ (v = 0 → ∃ n f, μ' out = some (eL n f) ∧ vp_in (0 : Int32) n ∧ f (0 : Int32).toNatClampNeg = b.toInt64) ∧ II kd x out μ' σ2 α2)) v σ' α' := fun v hv μ' hK' σ' α' hM' => m_ref1 hv ⟨fun h => absurd h (by decide), fun _ => ⟨q_us, fun h => absurd h hv, N, nt, tn, bn, dc, T, b, dp, dq, hK', hM'.s0 (fun k hk => pk_un hk), hV⟩⟩
  refine ⟨⟨_, hK.cx⟩, ⟨_, hK.cx⟩, ⟨_, hK.cx⟩, hK.num v1 (fun t ht e => c_out ?_) (fun hn => Or.inl ⟨rfl, ?_⟩)⟩
  · subst e
    by_cases c : (0 : Int32) ≤ p2 ∧ p2 ≤ 3
    · rw [if_pos c]
      obtain ⟨kn, _, hkn, e⟩ := q_num (a := 0) (b := 3) c.1 c.2 (by omega) (by omega)
      subst e
      refine ⟨fun _ => ⟨_, _, hK.cx, rfl, _, _, hK.cx, rfl, hK.walkR hkd hV ht hkn (fun p' l hv hp' hl μ' C' f' v hK' g7 g8 g9 gf => ⟨fun h => ?_, fun h => Or.inr (Or.inr ⟨rfl, ?_⟩)⟩) (fun q hv hq μ' C' hK' => ⟨fun h => absurd h (q_nw (by omega)), fun _ => Or.inr (Or.inr ⟨rfl, ?_⟩)⟩)⟩, fun h => absurd rfl h⟩
      · have hle : bn ≤ p' := by
          by_cases c : bn ≤ p'
          · exact c
          · rw [if_neg c] at h; exact absurd h (q_nw (by omega))
        refine ⟨_, _, hK'.cx, rfl, _, _, hK'.cx, rfl, _, _, g7, rfl, ⟨_, hK'.c3⟩, k_copy hK'.c3 hK'.c4 g8 g9 (by omega) (by omega) hl (by omega) (by omega) hK'.nes.2.2.1 hK'.nes.2.2.2 ?_⟩
        obtain ⟨C2, hK2⟩ := hK'.tale l.length (cpF T f' l.length)
        refine ⟨_, _, hK2.cx, rfl, ⟨_, hK2.c3⟩, k_size hK2.c3 (hK2.ki.outQ _ (fun μ7 hK7 hO => ?_))⟩
        refine m_in ?_
        rw [if_pos c]
        refine m_isType hM.1 v1 (fun t' ht' e => ⟨fun _ => ⟨fun _ => ?_, fun h => absurd h (by decide)⟩, fun h => absurd h (by decide)⟩) (fun hn => absurd ⟨t, ht, rfl⟩ hn)
        refine m_walkB hV.2.1 hLw hkn v1 hM.2.1 ht hB0 (fun p2 l2 hv2 hp2 σ' α' hS => ?_) (fun q2 hv2 hq2 σ' α' hF => by rw [hv] at hv2; cases hv2)
        rw [hv] at hv2
        cases hv2
        have hM1 := MSR.mi hS hM
        rw [if_pos hle]
        refine ⟨fun _ => m_ref0 ⟨fun _ => ?_, fun h => absurd rfl h⟩, fun h => absurd (by decide) h⟩
        have e18 : upd σ' 0 0 18 = nI l.length := by rw [pk_un (by omega), hS.2.2.2.1, Nat.zero_add]
        refine m_copyT e18 (by omega) ?_
        have eT : cpF (α' 15) (α' 19) l.length = cpF T f' l.length := by
          rw [hM1.2.2.2.2.1]
          refine cpF_cong (fun i hi => ?_)
          rw [gf i hi, hS.2.2.1]
          have := apL_hi (f := α 19) (n := 0) (i := i) (bs := l) hi
          rwa [Nat.zero_add] at this
        rw [eT]
        refine ⟨by show upd _ _ _ 0 = 0; rw [pk_un (by omega), q_us], fun _ => hO, N, nt, l.length, bn, dc, cpF T f' l.length, b, dp, dq, hK7, hM1.tale (fun k hk => by rw [pk_un (by omega), pk_un (by omega)]) (fun a h1 h2 => upA_n h2) q_us upA_s, ?_⟩
        unfold VI at *
        exact ⟨hV.1, hV.2.1, hV.2.2.1, hV.2.2.2.1, hV.2.2.2.2.1, by omega, hV.2.2.2.2.2.2⟩
      · have hle : ¬ bn ≤ p' := fun c => h (if_pos c)
        refine m_in ?_
        rw [if_pos c]
        refine m_isType hM.1 v1 (fun t' ht' e => ⟨fun _ => ⟨fun _ => ?_, fun h => absurd h (by decide)⟩, fun h => absurd h (by decide)⟩) (fun hn => absurd ⟨t, ht, rfl⟩ hn)
        refine m_walkB hV.2.1 hLw hkn v1 hM.2.1 ht hB0 (fun p2 l2 hv2 hp2 σ' α' hS => ?_) (fun q2 hv2 hq2 σ' α' hF => by rw [hv] at hv2; cases hv2)
        rw [hv] at hv2
        cases hv2
        rw [if_neg hle]
        exact ⟨fun h => absurd h (nI_pos (by omega)), fun _ => bad 3 (by decide) _ hK'.ki _ _ (MSR.mi hS hM)⟩
      · refine m_in ?_
        rw [if_pos c]
        refine m_isType hM.1 v1 (fun t' ht' e => ⟨fun _ => ⟨fun _ => ?_, fun h => absurd h (by decide)⟩, fun h => absurd h (by decide)⟩) (fun hn => absurd ⟨t, ht, rfl⟩ hn)
        refine m_walkB hV.2.1 hLw hkn v1 hM.2.1 ht hB0 (fun p2 l2 hv2 hp2 σ' α' hS => by rw [hv] at hv2; cases hv2) (fun q2 hv2 hq2 σ' α' hF => ?_)
        rw [hv] at hv2
        cases hv2
        exact ⟨fun h => absurd h (nI_pos (by omega)), fun _ => bad 3 (by decide) _ hK'.ki _ _ (FBR.mi hF hM)⟩
    · rw [if_neg c]
      refine ⟨fun h => absurd h (by decide), fun _ => Or.inr (Or.inl ⟨rfl, ?_⟩)⟩
      refine m_in ?_
      rw [if_neg c]
      refine m_isType hM.1 v1 (fun t' ht' e => ⟨fun _ => ⟨fun h => absurd rfl h, fun _ => ?_⟩, fun h => absurd h (by decide)⟩) (fun hn => absurd ⟨t, ht, rfl⟩ hn)
      exact bad 2 (by decide) _ hK.ki _ _ hM
  · refine m_in ?_
    refine m_isType hM.1 v1 (fun t' ht' e => absurd ⟨t', ht', e⟩ hn) (fun hn => ⟨fun h => absurd rfl h, fun _ => ?_⟩)
    exact bad 1 (by decide) _ hK.ki _ _ hM
end OX
