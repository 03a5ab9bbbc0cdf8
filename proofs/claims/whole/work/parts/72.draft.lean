/-! OPERATIONS: addSequence, addChoice -/
section DR
variable {kd ad : Nat → Nat} {x out : Nat} {N : NT} {nt tn bn dc : Nat} {T : Nat → Int32} {b dp dq : Nat → Nat} {dm : Int32} {C μ : Mm} {σ : Nat → Int32} {α : Nat → Nat → Int32}
theorem NWf.dft {K : Nat} (hK : K = 2 ∨ K = 3) (hV : VI N nt tn bn dc b dp dq) (hd : 0 < dc) : NWf (xtN N nt K dc dp dq (nI 0) (nI (if K = 3 then dc - 1 else 0))) (nt + 1) := by
  intro t ht
  have v9 : dc ≤ 6 := hV.2.2.2.2.2.2.2.2.1
  by_cases e : t = nt
  · subst e
    obtain ⟨x1, x2, x3, x4, x5, x6, x7, x8, x9, x10⟩ := xtN_at (N := N) (nt := t) (K := K) (C := dc) (P := dp) (O := dq) (lo := nI 0) (hi := nI (if K = 3 then dc - 1 else 0))
    rw [x1, x2, x3, x9, x10]
    simp only [x4, x5]
    refine ⟨by omega, v9, by omega, hV.2.2.2.2.2.2.2.2.2, fun k hk => by omega, fun h => by omega, fun h => by omega, fun h => ⟨trivial, by rw [if_neg (by omega)], hd⟩, fun h => ⟨trivial, by rw [if_pos h], hd⟩⟩
  · exact xtN_ag.wf hV.2.1 t (by omega)
theorem m_loop39 {post : Int32 → (Nat → Int32) → (Nat → Nat → Int32) → Prop} (h1 : σ 1 = nI nt) (h12 : σ 12 = nI dc) (hnt : nt < 16) (hdc : dc ≤ 6) : ∀ (j k : Nat) (α : Nat → Nat → Int32), k + j = dc → (∀ α', LO nt α α' → (∀ a, a ≠ 5 → α' a = α a) → (∀ i, i < dc → k ≤ i → α' 5 (6 * nt + i) = α 13 i) → (∀ i, i < k → α' 5 (6 * nt + i) = α 5 (6 * nt + i)) → wp_X7_measure (nI nt) σ α' (fun r11 σ12 α13 => wb_X7_addDraft_82 post r11 σ12 α13)) → wb_X7_addDraft_39 post (j + 1) (nI k) σ α := by
  intro j
  induction j with
  | zero =>
    intro k α hk hp
    refine ⟨fun _ => ?_, fun h => absurd ?_ h⟩
    · rw [h1]
      exact hp α LO.refl (fun _ _ => rfl) (fun i h2 h3 => by omega) (fun _ _ => rfl)
    · rw [h12, q_le (by omega) (by omega)]; omega
  | succ j ih =>
    intro k α hk hp
    refine ⟨fun h => ?_, fun _ => ?_⟩
    · rw [h12, q_le (by omega) (by omega)] at h; omega
    · rw [h1, q_l6, pk_mul, nI_add, nI_clamp (by omega), nI_clamp (by omega)]
      refine ⟨vp_in_nI (by omega) (by omega), vp_in_nI (by omega) (by omega), fun α18 e => ?_⟩
      have e : α18 = uA α 5 (6 * nt + k) (α 13 k) := e
      rw [← nI_succ]
      refine ih (k + 1) α18 (by omega) (fun α' hLO ha hi hi2 => hp α' ?_ (fun a h => ?_) (fun i h2 h3 => ?_) (fun i h2 => ?_))
      · have hL1 : LO nt α α18 := by
          rw [e]; exact LO.refl.uA (by omega) (by omega) (by omega) (fun _ => by omega) (by omega)
        exact ⟨fun a ha => (hLO.1 a ha).trans (hL1.1 a ha), fun a j z1 z2 z3 z4 => (hLO.2.1 a j z1 z2 z3 z4).trans (hL1.2.1 a j z1 z2 z3 z4), fun j hj => (hLO.2.2.1 j hj).trans (hL1.2.2.1 j hj), fun j hj => (hLO.2.2.2 j hj).trans (hL1.2.2.2 j hj)⟩
      · rw [ha a h, e, uA_a h]
      · by_cases e2 : i = k
        · subst e2
          rw [hi2 i (by omega), e, uA_s]
        · rw [hi i h2 (by omega), e, uA_a (by omega)]
      · rw [hi2 i (by omega), e, uA_j (by omega)]
theorem m_draft {K : Nat} {post : Int32 → (Nat → Int32) → (Nat → Nat → Int32) → Prop} (hK : K = 2 ∨ K = 3) (hM : MI N nt tn bn dc T b dp dq σ α) (hV : VI N nt tn bn dc b dp dq) (hd : 0 < dc) (hnt : nt < 16)
    (hp : ∀ α', LO nt α α' → NMo (xtN N nt K dc dp dq (nI 0) (nI (if K = 3 then dc - 1 else 0))) (nt + 1) α' → wb_X7_addDraft_92 post (if meM (xtN N nt K dc dp dq (nI 0) (nI (if K = 3 then dc - 1 else 0))) nt ≤ 240 ∧ meL (xtN N nt K dc dp dq (nI 0) (nI (if K = 3 then dc - 1 else 0))) nt ≤ 240 then 0 else 1) σ (mm α' nt (nI (meF (xtN N nt K dc dp dq (nI 0) (nI (if K = 3 then dc - 1 else 0))) nt)) (nI (meM (xtN N nt K dc dp dq (nI 0) (nI (if K = 3 then dc - 1 else 0))) nt)) (nI (meL (xtN N nt K dc dp dq (nI 0) (nI (if K = 3 then dc - 1 else 0))) nt)))) : wp_X7_addDraft (nI K) σ α post := by
  have v9 : dc ≤ 6 := hV.2.2.2.2.2.2.2.2.1
  have m1 := hM.1
  have m8 : σ 12 = nI dc := hM.2.2.2.2.2.2.2.1
  have hN1 := NWf.dft hK hV hd
  refine ⟨fun h => ?_, fun _ => ⟨fun h => ?_, fun _ => ⟨fun h => absurd h (by decide), fun _ => m_lay m1 hnt ⟨dc + 1, ?_⟩⟩⟩⟩
  · rw [m8, q_l0, q_le (by omega) (by omega)] at h; omega
  · rw [m1, q_l16, q_le (by omega) (by omega)] at h; omega
  · have hL0 : LO nt α (uA (uA (uA (uA (uA α 2 nt (nI K)) 3 nt 0) 4 nt 0) 6 nt (σ 12)) 8 nt 0) := ((((LO.refl.uA (by omega) (by omega) (fun _ _ => Nat.le_refl _) (by omega) (by omega)).uA (by omega) (by omega) (fun _ _ => Nat.le_refl _) (by omega) (by omega)).uA (by omega) (by omega) (fun _ _ => Nat.le_refl _) (by omega) (by omega)).uA (by omega) (by omega) (fun _ _ => Nat.le_refl _) (by omega) (by omega)).uA (by omega) (by omega) (fun _ _ => Nat.le_refl _) (by omega) (by omega)
    refine m_loop39 m1 m8 hnt v9 dc 0 _ (by omega) (fun α' hLO ha hi _ => ?_)
    have hLA : LO nt α α' := ⟨fun a ha => (hLO.1 a ha).trans (hL0.1 a ha), fun a j z1 z2 z3 z4 => (hLO.2.1 a j z1 z2 z3 z4).trans (hL0.2.1 a j z1 z2 z3 z4), fun j hj => (hLO.2.2.1 j hj).trans (hL0.2.2.1 j hj), fun j hj => (hLO.2.2.2 j hj).trans (hL0.2.2.2 j hj)⟩
    have hM1 : NMo (xtN N nt K dc dp dq (nI 0) (nI (if K = 3 then dc - 1 else 0))) (nt + 1) α' := by
      refine NMo.new hV.2.1 hM.2.1 hLA ?_ ?_ (fun z => ?_) ?_ ?_ (fun k hk => ?_)
      · rw [ha 2 (by omega), uA_a (by omega), uA_a (by omega), uA_a (by omega), uA_a (by omega), uA_s]
      · rw [ha 3 (by omega), uA_a (by omega), uA_a (by omega), uA_a (by omega), uA_s]; rfl
      · rw [ha 4 (by omega), uA_a (by omega), uA_a (by omega), uA_s, if_neg z]; rfl
      · rw [ha 6 (by omega), uA_a (by omega), uA_s, m8]
      · rw [ha 8 (by omega), uA_s]; rfl
      · rw [hi k hk (by omega), uA_a (by omega), uA_a (by omega), uA_a (by omega), uA_a (by omega), uA_a (by omega)]
        exact hM.2.2.2.2.2.2.2.2 k hk
    refine m_new hN1 (xtN_ag.bd hV.2.2.1) hM1 (xtN_ag.ex (hLA.ex hM.2.2.1)) hnt ?_
    have fin := hp α' hLA hM1
    by_cases ok : meM (xtN N nt K dc dp dq (nI 0) (nI (if K = 3 then dc - 1 else 0))) nt ≤ 240 ∧ meL (xtN N nt K dc dp dq (nI 0) (nI (if K = 3 then dc - 1 else 0))) nt ≤ 240
    · rw [if_pos ok] at fin ⊢
      exact ⟨fun h => absurd h (by decide), fun _ => fin⟩
    · rw [if_neg ok] at fin ⊢
      exact ⟨fun _ => fin, fun h => absurd rfl h⟩
theorem m_draft_no {K : Int32} {post : Int32 → (Nat → Int32) → (Nat → Nat → Int32) → Prop} (hM : MI N nt tn bn dc T b dp dq σ α) (hV : VI N nt tn bn dc b dp dq) (h : dc = 0 ∨ nt = 16) (hp : wb_X7_addDraft_92 post 1 σ α) : wp_X7_addDraft K σ α post := by
  have v9 : dc ≤ 6 := hV.2.2.2.2.2.2.2.2.1
  have v1 := hV.1
  have m1 := hM.1
  have m8 : σ 12 = nI dc := hM.2.2.2.2.2.2.2.1
  have r : wb_X7_addDraft_21 post K 0 σ α := ⟨fun _ => ⟨fun _ => hp, fun h => absurd rfl h⟩, fun h => absurd rfl h⟩
  refine ⟨fun _ => r, fun h0 => ⟨fun _ => r, fun h1 => ?_⟩⟩
  rw [m8, q_l0, q_le (by omega) (by omega)] at h0
  rw [m1, q_l16, q_le (by omega) (by omega)] at h1
  omega
/-- what the reference answers, both ways -/
theorem m_draft_bad {K : Nat} {μ' : Mm} (hK : K = 2 ∨ K = 3) (hM : MI N nt tn bn dc T b dp dq σ α) (hV : VI N nt tn bn dc b dp dq) (hno : dc = 0 ∨ (nt < 16 → ¬ (meM (xtN N nt K dc dp dq (nI 0) (nI (if K = 3 then dc - 1 else 0))) nt ≤ 240 ∧ meL (xtN N nt K dc dp dq (nI 0) (nI (if K = 3 then dc - 1 else 0))) nt ≤ 240))) (hK' : KI kd x out N nt tn bn dc T b dp dq μ') : wp_X7_addDraft (nI K) σ α (fun b σ1 α1 => wp_X7_thrown σ1 α1 (fun t σ2 α2 => t = 1 ∧ ((1 : Int32) = 0 → ∃ n f, μ' out = some (eL n f) ∧ vp_in (0 : Int32) n ∧ f (0 : Int32).toNatClampNeg = b.toInt64) ∧ II kd x out μ' σ2 α2)) := by
  have v1 := hV.1
  have bad : ∀ α', LO nt α α' → wb_X7_addDraft_92 (fun b σ1 α1 => wp_X7_thrown σ1 α1 (fun t σ2 α2 => t = 1 ∧ ((1 : Int32) = 0 → ∃ n f, μ' out = some (eL n f) ∧ vp_in (0 : Int32) n ∧ f (0 : Int32).toNatClampNeg = b.toInt64) ∧ II kd x out μ' σ2 α2)) 1 σ α' := fun α' hLO => m_ref1 (by decide) ⟨fun h => absurd h (by decide), fun _ => ⟨q_us, fun h => absurd h (by decide), N, nt, tn, bn, dc, T, b, dp, dq, hK', hLO.mi hV.2.1 hM (fun k hk => pk_un (by omega)), hV⟩⟩
  by_cases c : dc = 0 ∨ nt = 16
  · exact m_draft_no hM hV c (bad α LO.refl)
  · refine m_draft hK hM hV (by omega) (by omega) (fun α' hLO hM1 => ?_)
    rcases hno with z | z
    · exact absurd (Or.inl z) c
    · rw [if_neg (z (by omega))]
      exact bad _ hLO.mm
theorem m_draft_good {K : Nat} {μ' : Mm} (hK : K = 2 ∨ K = 3) (hM : MI N nt tn bn dc T b dp dq σ α) (hV : VI N nt tn bn dc b dp dq) (hd : 0 < dc) (hnt : nt < 16) (hMM : meM (xtN N nt K dc dp dq (nI 0) (nI (if K = 3 then dc - 1 else 0))) nt ≤ 240) (hLL : meL (xtN N nt K dc dp dq (nI 0) (nI (if K = 3 then dc - 1 else 0))) nt ≤ 240) (hK' : KI kd x out (setM (xtN N nt K dc dp dq (nI 0) (nI (if K = 3 then dc - 1 else 0))) nt (meF (xtN N nt K dc dp dq (nI 0) (nI (if K = 3 then dc - 1 else 0))) nt) (meM (xtN N nt K dc dp dq (nI 0) (nI (if K = 3 then dc - 1 else 0))) nt) (meL (xtN N nt K dc dp dq (nI 0) (nI (if K = 3 then dc - 1 else 0))) nt)) (nt + 1) tn bn 0 T b dp dq μ') (hO : ∃ n f, μ' out = some (eL n f) ∧ vp_in (0 : Int32) n ∧ f (0 : Int32).toNatClampNeg = (nI nt).toInt64) : wp_X7_addDraft (nI K) σ α (fun b σ1 α1 => wp_X7_thrown σ1 α1 (fun t σ2 α2 => t = 0 ∧ ((0 : Int32) = 0 → ∃ n f, μ' out = some (eL n f) ∧ vp_in (0 : Int32) n ∧ f (0 : Int32).toNatClampNeg = b.toInt64) ∧ II kd x out μ' σ2 α2)) := by
  have m1 := hM.1
  refine m_draft hK hM hV hd hnt (fun α' hLO hM1 => ?_)
  rw [if_pos ⟨hMM, hLL⟩]
  refine m_ref0 ⟨fun _ σ24 e24 σ26 e26 => ?_, fun h => absurd rfl h⟩
  have hs26 : σ26 1 = nI (nt + 1) := by rw [e26, q_us, e24, pk_un (by omega), pk_un (by omega), m1, nI_succ]
  rw [hs26, show nI (nt + 1) - 1 = nI nt from nI_pred nt]
  have hk : ∀ k, k ≠ 1 → k ≠ 0 → k ≠ 12 → σ26 k = σ k := fun k z1 z2 z3 => by rw [e26, pk_un z1, e24, pk_un z3, pk_un z2]
  exact ⟨by rw [e26, e24]; show upd (upd _ _ _) _ _ 0 = 0; rw [pk_un (by omega), pk_un (by omega), q_us], fun _ => hO, _, nt + 1, tn, bn, 0, T, b, dp, dq, hK', MI.new hM hLO xtN_ag hM1 hs26 (hk 14 (by omega) (by omega) (by omega)) (hk 16 (by omega) (by omega) (by omega)) (by rw [e26, pk_un (by omega), e24, q_us]; rfl) (fun k hk => by omega), VI.new hV xtN_ag (NWf.dft hK hV hd) hMM hLL hnt (by omega) (fun k hk => by omega)⟩
end DR
