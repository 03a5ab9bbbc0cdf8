/-! THE LAW: holds, whole -/
section HP
variable {kd : Nat → Nat} {j t : Nat}
/-- the tale is a value: written, read, turned, cut -/
theorem ho_196 (hkd : ∀ i j, i < 4 → j < 4 → kd i = kd j → i = j) {S : SS} (hV : VS S) (ht : t < snt S) (hj : j < 2 ^ 31) {bs : List Int32} (hv : vT (sN S) (sT S) (stn S) 17 t 0 = .inr (stn S, bs)) : 0 < stn S ∧ ∃ S', VS S' ∧ ∀ (x cz : Nat) (μ : Mm) (post : Int32 → Mm → Prop), cz ≤ 160 → KS kd x S μ → (∀ μ', KS kd x S' μ' → post 1 μ') → wb_L_holds_196 kd post x (nI j) (nI t) (nI (stn S)) (sT S 0) (sT S (stn S - 1)) μ cz := by
  obtain ⟨N, ⟨nt, tn, bn, dc⟩, T, b, dp, dq⟩ := S
  have hv : vT N T tn 17 t 0 = .inr (tn, bs) := hv
  have ht : t < nt := ht
  have v1 : nt ≤ 16 := hV.v1
  have v6 : tn ≤ 300 := hV.v6
  have hN : NWf N nt := hV.2.1
  have hM : NMw N nt := hV.nmw
  have e34 : nI j - nI j / (4 : Int32) * (4 : Int32) = nI (j % 4) := pk_rem (d := 4) hj (by omega) (by omega)
  have hbl : bs.length ≤ 240 := vT_240 hV ht hv
  obtain ⟨hb1, hA1, l, etn, hAT, hr1⟩ := go_write hN hM ht hv
  subst etn
  have hpos := rV_pos hr1
  obtain ⟨l', hr', _⟩ := go_read hN ht hb1 (show j % 4 ≤ 3 by omega) hr1
  obtain ⟨l2, r1, r2⟩ := go_read hN ht hb1 (Nat.le_refl 3) hr1
  rw [hr1] at r1
  cases r1
  obtain ⟨bs2, hv2, r3⟩ := r2 _ (AT_cp (T := T))
  obtain ⟨hbl2, hA2⟩ := r3 rfl
  obtain ⟨hb3, hA3, l3, _, _, hr3⟩ := go_write hN hM ht hv2
  have hF : nF N t ≤ bs.length := vT_min hN hV.2.2.2.1 17 t 0 _ _ ht hv
  have hMx : bs.length ≤ nM N t := vT_len hN hM 17 t 0 _ _ ht hv
  have hB := hV.2.2.1 t ht
  have hB1 : nF N t ≤ 240 := hB.1
  have hB2 : nM N t ≤ 240 := hB.2.1
  have hV1 : VS (N, (nt, l.length, bs.length, dc), T, btL bs, dp, dq) := hV.msg hbl hb1
  have q2 : l.length ≤ 240 := rV_240 hV ht hr1
  have hV2 : VS (N, (nt, l.length, bs.length, dc), cpF T (fun i => l.getD i 0) l.length, btL bs, dp, dq) := hV1.tale (by omega)
  have hV3 : VS (N, (nt, l.length, bs2.length, dc), cpF T (fun i => l.getD i 0) l.length, btL bs2, dp, dq) := hV2.msg (by omega) hb3
  obtain ⟨S', hV', hS'⟩ := ho_314 (n := bs.length) hkd ht hj 4 0 (N, (nt, l.length, bs2.length, dc), cpF T (fun i => l.getD i 0) l.length, btL bs2, dp, dq) rfl ⟨hV3, rfl, rfl, hbl2, l3, by rw [← hbl2]; exact hr3⟩
  refine ⟨hpos, S', hV', fun x cz μ post hc hK hp => ?_⟩
  refine ⟨by omega, x_writesG hkd hV hK ht hv (Nat.le_refl _) (fun _ μ hK => ⟨by omega, x_least hV1 hK ht (fun μ hK => ⟨fun h => absurd h (nI_nlt hF (by omega)), fun _ => ?_⟩)⟩)⟩
  refine ⟨by omega, x_most hV1 hK ht (fun μ hK => ⟨fun h => absurd h (nI_nlt hMx (show nM N t < 2 ^ 31 by omega)), fun _ => ?_⟩)⟩
  refine ⟨by omega, x_fault hkd hV1 hK ht (Nat.le_refl 3) (fun μ hK => ⟨fun h => absurd (fv_ok hr1) h, fun _ => ?_⟩)⟩
  rw [e34]
  refine ⟨by omega, x_fault hkd hV1 hK ht (show j % 4 ≤ 3 by omega) (fun μ hK => ⟨fun h => absurd (fv_ok hr') h, fun _ => ?_⟩)⟩
  refine ⟨by omega, x_readsG hkd hV1 hK ht (Nat.le_refl 3) hr1 (Nat.le_refl _) (fun _ μ hK => ⟨fun h => absurd rfl h, fun _ => ?_⟩)⟩
  refine ⟨by omega, x_wrong hkd hV2 hK ht (fun μ hK => ⟨fun h => absurd (wv_ok hv2) h, fun _ => ⟨fun h => absurd h (nI_ne0 hpos (show l.length < 2 ^ 31 by omega)), fun _ => ?_⟩⟩)⟩
  have hT2 := AT_cp (T := T) (l := l)
  have same : ∀ i, i < l.length → cpF T (fun i => l.getD i 0) l.length i = T i := fun i hi => by
    have a := AT_get l 0 i hT2 hi
    have b := AT_get l 0 i hAT hi
    rw [Nat.zero_add] at a b
    rw [a, b]
  have e0 : (0 : Int32) = nI 0 := rfl
  have e1 : nI l.length - (1 : Int32) = nI (l.length - 1) := q_sub (a := l.length) (b := 1) (by omega)
  refine ⟨by omega, x_told (j := 0) hV2 hK hpos (fun μ hK => ⟨fun h => absurd (same 0 hpos) h, fun _ => ?_⟩)⟩
  rw [e1]
  refine ⟨by omega, x_told hV2 hK (show l.length - 1 < l.length by omega) (fun μ hK => ⟨fun h => absurd (same _ (by omega)) h, fun _ => ?_⟩)⟩
  refine ⟨by omega, x_writesG hkd hV2 hK ht hv2 (Nat.le_refl _) (fun _ μ hK => ⟨fun h => absurd (congrArg nI hbl2) h, fun _ => ⟨5, ?_⟩⟩)⟩
  exact hS' x _ μ post (by omega) hK hp
/-- what is asked of each type -/
theorem ho_28 (hkd : ∀ i j, i < 4 → j < 4 → kd i = kd j → i = j) {S : SS} (hV : VS S) {x : Nat} {v1 : Int32} {post : Int32 → Mm → Prop} (hp : ∀ cz μ, cz ≤ 144 → KS kd x S μ → wb_L_holds_119 kd post x v1 1 μ cz) : ∀ (k i cz : Nat) (μ : Mm), i + k = snt S → cz ≤ 9 * i → KS kd x S μ → wb_L_holds_28 kd post (k + 1) x v1 1 (nI i) μ cz := by
  have hnt := hV.v1
  have v6 := hV.v6
  have v7 := hV.v7
  intro k
  induction k with
  | zero =>
    intro i cz μ hi hc hK
    exact ⟨by omega, y_types hV hK ⟨fun _ => hp cz _ (by omega) hK, fun h => absurd (nI_le (by omega) (by omega)) h⟩⟩
  | succ k ih =>
    intro i cz μ hi hc hK
    have ht : i < snt S := by omega
    obtain ⟨hB1, hB2, _⟩ := hV.2.2.1 i ht
    have hFM := hV.2.2.2.2.1 i ht
    have eK : nI i + 1 = nI (i + 1) := (nI_succ i).symm
    refine ⟨by omega, y_types hV hK ⟨fun h => absurd h (nI_ge ht (by omega)), fun _ => ⟨fun h => absurd h (by decide), fun _ => ?_⟩⟩⟩
    refine ⟨by omega, x_least hV hK ht (fun μ hK => ⟨fun h => absurd h (nI_pos (by omega)), fun _ => ?_⟩)⟩
    refine ⟨by omega, x_least hV hK ht (fun μ hK => ⟨by omega, x_most hV hK ht (fun μ hK => ⟨fun h => absurd h (nI_nlt hFM (by omega)), fun _ => ?_⟩)⟩)⟩
    refine ⟨by omega, x_most hV hK ht (fun μ hK => ⟨fun h => absurd h (nI_nlt (a := 240) hB2 (by omega)), fun _ => ?_⟩)⟩
    have hm1 : ∀ q, q < 2 ^ 20 → ¬ nI q < (-1 : Int32) := fun q hq => by
      rw [Int32.lt_iff_toInt_lt, nI_toInt (by omega)]
      have : (-1 : Int32).toInt = -1 := by decide
      omega
    have hm2 : ∀ q, q < 2 ^ 20 → ¬ nI q < (-1 : Int32) := hm1
    have lo : ∀ q, q < 2 ^ 20 → ¬ nI q < (-1 : Int32) := hm1
    refine ⟨by omega, x_fault hkd hV hK ht (Nat.le_refl 3) (fun μ hK => ⟨fun h => absurd h ?_, fun _ => ?_⟩)⟩
    · rcases fv_cases (N := sN S) (b := sb S) (bn := sbn S) (kn := 3) (t := i) with e | ⟨q, hq, e⟩
      · rw [e]; decide
      · rw [e]; exact hm1 q (by omega)
    refine ⟨by omega, x_fault hkd hV hK ht (Nat.le_refl 3) (fun μ hK => ⟨by omega, y_bits hV hK ⟨fun h => absurd h ?_, fun _ => ?_⟩⟩)⟩
    · rcases fv_cases (N := sN S) (b := sb S) (bn := sbn S) (kn := 3) (t := i) with e | ⟨q, hq, e⟩
      · rw [e]; exact hm1 _ (by omega)
      · rw [e]; exact nI_nlt hq (by omega)
    refine ⟨by omega, x_wrong hkd hV hK ht (fun μ hK => ⟨by omega, y_length hV hK ⟨fun h => absurd h ?_, fun _ => ?_⟩⟩)⟩
    · rcases wv_cases (N := sN S) (T := sT S) (tn := stn S) (t := i) with e | ⟨q, hq, e⟩
      · rw [e]; exact hm1 _ (by omega)
      · rw [e]; exact nI_nlt hq (by omega)
    show wb_L_holds_28 kd post (k + 1) x v1 1 (nI i + 1) μ (cz + 9)
    rw [eK]
    exact ih (i + 1) (cz + 9) μ (by omega) (by omega) hK
/-- holds: it answers true, and what stands behind it is known beforehand -/
theorem ho_ok (hkd : ∀ i j, i < 4 → j < 4 → kd i = kd j → i = j) {S : SS} (hV : VS S) (hj : j < 2 ^ 31) : ∃ S', VS S' ∧ ∀ (x : Nat) (μ : Mm) (post : Int32 → Mm → Prop), KS kd x S μ → (∀ μ', KS kd x S' μ' → post 1 μ') → wp_L_holds kd x (nI j) μ post := by
  have hnt := hV.v1
  have v6 := hV.v6
  have v7 := hV.v7
  -- up to the types
  have front : ∀ (x : Nat) (μ : Mm) (post : Int32 → Mm → Prop), KS kd x S μ → (∀ cz μ, cz ≤ 144 → KS kd x S μ → wb_L_holds_119 kd post x (nI j) 1 μ cz) → wp_L_holds kd x (nI j) μ post := by
    intro x μ post hK hp
    refine ⟨by omega, y_bits hV hK ⟨fun h => absurd h (nI_nlt (a := 240) v7 (by omega)), fun _ => ⟨by omega, y_length hV hK ⟨fun h => absurd h (nI_nlt (a := 300) v6 (by omega)), fun _ => ⟨snt S + 1, ?_⟩⟩⟩⟩⟩
    exact ho_28 hkd hV hp (snt S) 0 0 _ (by omega) (by omega) hK
  by_cases hn : snt S = 0
  · refine ⟨S, hV, fun x μ post hK hp => front x μ post hK (fun cz μ hc hK => ?_)⟩
    refine ⟨by omega, y_types hV hK ⟨fun h => absurd (by rw [hn]; rfl) h, fun _ => ?_⟩⟩
    exact ⟨fun h => absurd h (by decide), fun _ => ⟨by omega, y_types hV hK ⟨fun _ => ⟨by omega, Or.inr rfl, hp _ hK⟩, fun h => absurd (by rw [hn]; decide) h⟩⟩⟩
  · have ht : j % snt S < snt S := Nat.mod_lt _ (by omega)
    have eT : nI j - nI j / nI (snt S) * nI (snt S) = nI (j % snt S) := pk_rem hj (by omega) (by omega)
    -- up to the tale
    have mid : ∀ (x cz : Nat) (μ : Mm) (post : Int32 → Mm → Prop), cz ≤ 144 → KS kd x S μ → (∀ μ, KS kd x S μ → ((¬ wvN (sN S) (sT S) (stn S) (j % snt S) = (-1 : Int32) → (cz + 1 ≤ 1000 ∧ ((1 : Int32) = 0 ∨ (1 : Int32) = 1) ∧ post 1 μ)) ∧ (wvN (sN S) (sT S) (stn S) (j % snt S) = (-1 : Int32) → (cz + 1 ≤ 1000 ∧ (∃ f102, μ x = some (.inl (5, f102))) ∧ wp_X6_length x μ (fun r100 μ103 => (¬ r100 = 0 → (cz + 2 ≤ 1000 ∧ wp_L_told x (0 : Int32) μ103 (fun r106 μ109 => wb_L_holds_177 kd post x (nI j) (nI (j % snt S)) r100 r106 μ109 (cz + 2)))) ∧ (r100 = 0 → (wb_L_holds_177 kd post x (nI j) (nI (j % snt S)) r100 (0 : Int32) μ103 (cz + 1)))))))) → wb_L_holds_119 kd post x (nI j) 1 μ cz := by
      intro x cz μ post hc hK hp
      refine ⟨by omega, y_types hV hK ⟨fun _ => ⟨by omega, y_types hV hK ?_⟩, fun h => absurd h (nI_ne0 (by omega) (by omega))⟩⟩
      rw [eT]
      refine ⟨nI_ne0 (by omega) (by omega), fun h => absurd h (by decide), fun _ => ⟨by omega, y_types hV hK ⟨fun h => absurd h (nI_nle (by omega) (by omega)), fun _ => ⟨by omega, x_wrong hkd hV hK ht (fun μ hK => hp μ hK)⟩⟩⟩⟩
    by_cases hw : wvN (sN S) (sT S) (stn S) (j % snt S) = -1
    · obtain ⟨bs, hv⟩ := wv_m1 v6 hw
      obtain ⟨hpos, S', hV', hS'⟩ := ho_196 hkd hV ht hj hv
      refine ⟨S', hV', fun x μ post hK hp => front x μ post hK (fun cz μ hc hK => mid x cz μ post hc hK (fun μ hK => ⟨fun h => absurd hw h, fun _ => ?_⟩))⟩
      refine ⟨by omega, y_length hV hK ⟨fun _ => ⟨by omega, x_told (j := 0) hV hK hpos (fun μ hK => ?_)⟩, fun h => absurd h (nI_ne0 hpos (by omega))⟩⟩
      have e1 : nI (stn S) - (1 : Int32) = nI (stn S - 1) := q_sub (a := stn S) (b := 1) (by omega)
      refine ⟨fun _ => ?_, fun h => absurd h (nI_ne0 hpos (by omega))⟩
      rw [e1]
      exact ⟨by omega, x_told hV hK (show stn S - 1 < stn S by omega) (fun μ hK => hS' x _ μ post (by omega) hK hp)⟩
    · exact ⟨S, hV, fun x μ post hK hp => front x μ post hK (fun cz μ hc hK => mid x cz μ post hc hK (fun μ hK => ⟨fun _ => ⟨by omega, Or.inr rfl, hp _ hK⟩, fun h => absurd h hw⟩))⟩
end HP
