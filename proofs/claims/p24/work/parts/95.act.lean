/-! THE LAW: act -/
section AC
variable {kd : Nat → Nat} {S : SS}
theorem b_136 (hkd : ∀ i j, i < 4 → j < 4 → kd i = kd j → i = j) (hV : VS S) (v2 : Int32) : DT kd S (fun x μ post => wb_L_act_136 kd post x v2 μ 0) := by
  by_cases e : (v2 - v2 / (2 : Int32) * (2 : Int32)) = 0
  · obtain ⟨r, S', hV', h⟩ := d_numbers hkd hV ((v2 - v2 / (9 : Int32) * (9 : Int32)) - (4 : Int32)) (((v2 - v2 / (9 : Int32) * (9 : Int32)) - (4 : Int32)) + ((v2 / (9 : Int32)) - (v2 / (9 : Int32)) / (6 : Int32) * (6 : Int32)))
    refine ⟨r, S', hV', fun x μ post hK hp => ⟨fun z => absurd e z, fun _ => ⟨by decide, by omega, ?_⟩⟩⟩
    refine h x μ _ hK (fun μ hK => ?_)
    exact ⟨by omega, hp μ hK⟩
  · obtain ⟨r, S', hV', h⟩ := d_numbers hkd hV ((v2 - v2 / (9 : Int32) * (9 : Int32)) - (4 : Int32)) (((v2 - v2 / (9 : Int32) * (9 : Int32)) - (4 : Int32)) + ((v2 / (9 : Int32)) - (v2 / (9 : Int32)) / (40 : Int32) * (40 : Int32)))
    refine ⟨r, S', hV', fun x μ post hK hp => ⟨fun _ => ⟨by decide, by omega, ?_⟩, fun z => absurd z e⟩⟩
    refine h x μ _ hK (fun μ hK => ?_)
    exact ⟨by omega, hp μ hK⟩
theorem b_172 (hkd : ∀ i j, i < 4 → j < 4 → kd i = kd j → i = j) (hV : VS S) (v2 v4 : Int32) : DT kd S (fun x μ post => wb_L_act_172 kd post x v2 v4 μ 0) := by
  obtain ⟨r, S', hV', h⟩ := d_lists hkd hV v4 ((v2 / (16 : Int32)) - (v2 / (16 : Int32)) / (3 : Int32) * (3 : Int32)) (((v2 / (16 : Int32)) - (v2 / (16 : Int32)) / (3 : Int32) * (3 : Int32)) + ((v2 / (48 : Int32)) - (v2 / (48 : Int32)) / (4 : Int32) * (4 : Int32)))
  refine ⟨r, S', hV', fun x μ post hK hp => ⟨by omega, ?_⟩⟩
  refine h x μ _ hK (fun μ hK => ?_)
  exact ⟨by omega, hp μ hK⟩
theorem b_198 (hV : VS S) (v2 v4 : Int32) : DT kd S (fun x μ post => wb_L_act_198 kd post x v2 v4 μ 0) := by
  by_cases e : ((v2 / (16 : Int32)) - (v2 / (16 : Int32)) / (2 : Int32) * (2 : Int32)) = 0
  · obtain ⟨r, S', hV', h⟩ := d_parts (kd := kd) hV v4 1
    refine ⟨r, S', hV', fun x μ post hK hp => ⟨fun z => absurd e z, fun _ => ⟨by omega, ?_⟩⟩⟩
    refine h x μ _ hK (fun μ hK => ?_)
    exact ⟨by omega, hp μ hK⟩
  · obtain ⟨r, S', hV', h⟩ := d_parts (kd := kd) hV v4 0
    refine ⟨r, S', hV', fun x μ post hK hp => ⟨fun _ => ⟨by omega, ?_⟩, fun z => absurd z e⟩⟩
    refine h x μ _ hK (fun μ hK => ?_)
    exact ⟨by omega, hp μ hK⟩
theorem b_219 (hkd : ∀ i j, i < 4 → j < 4 → kd i = kd j → i = j) (hV : VS S) : DT kd S (fun x μ post => wb_L_act_219 kd post x μ 0) := by
  obtain ⟨r, S', hV', h⟩ := d_sequences hkd hV
  refine ⟨r, S', hV', fun x μ post hK hp => ⟨by omega, ?_⟩⟩
  refine h x μ _ hK (fun μ hK => ?_)
  exact ⟨by omega, hp μ hK⟩
theorem b_224 (hkd : ∀ i j, i < 4 → j < 4 → kd i = kd j → i = j) (hV : VS S) : DT kd S (fun x μ post => wb_L_act_224 kd post x μ 0) := by
  obtain ⟨r, S', hV', h⟩ := d_choices hkd hV
  refine ⟨r, S', hV', fun x μ post hK hp => ⟨by omega, ?_⟩⟩
  refine h x μ _ hK (fun μ hK => ?_)
  exact ⟨by omega, hp μ hK⟩
theorem b_229 (hkd : ∀ i j, i < 4 → j < 4 → kd i = kd j → i = j) (hV : VS S) (v2 v3 : Int32) : DT kd S (fun x μ post => wb_L_act_229 kd post x v2 v3 μ 0) := by
  by_cases e : v3 = 0
  · obtain ⟨r, S', hV', h⟩ := d_extend hkd hV 0 0
    refine ⟨r, S', hV', fun x μ post hK hp => ⟨fun z => absurd e z, fun _ => ⟨fun z => absurd e z, fun _ => ⟨by omega, ?_⟩⟩⟩⟩
    refine h x μ _ hK (fun μ hK => ?_)
    exact ⟨by omega, hp μ hK⟩
  · obtain ⟨r, S', hV', h⟩ := d_extend hkd hV ((v3 - (1 : Int32)) - (v2 - v2 / v3 * v3)) ((v2 / (16 : Int32)) - (v2 / (16 : Int32)) / v3 * v3)
    refine ⟨r, S', hV', fun x μ post hK hp => ⟨fun _ => ⟨e, fun _ => ⟨e, by omega, ?_⟩, fun z => absurd z e⟩, fun z => absurd z e⟩⟩
    refine h x μ _ hK (fun μ hK => ?_)
    exact ⟨by omega, hp μ hK⟩
theorem b_263 (hV : VS S) (v2 : Int32) : DT kd S (fun x μ post => wb_L_act_263 kd post x v2 μ 0) := by
  by_cases e : (v2 - v2 / (3 : Int32) * (3 : Int32)) = 0
  · obtain ⟨r, S', hV', h⟩ := d_tells (kd := kd) hV (((v2 / (3 : Int32)) - (v2 / (3 : Int32)) / (9 : Int32) * (9 : Int32)) - (4 : Int32))
    refine ⟨r, S', hV', fun x μ post hK hp => ⟨fun z => absurd e z, fun _ => ⟨by omega, ?_⟩⟩⟩
    refine h x μ _ hK (fun μ hK => ?_)
    exact ⟨by omega, hp μ hK⟩
  · obtain ⟨r, S', hV', h⟩ := d_tells (kd := kd) hV ((v2 / (3 : Int32)) - (v2 / (3 : Int32)) / (2 : Int32) * (2 : Int32))
    refine ⟨r, S', hV', fun x μ post hK hp => ⟨fun _ => ⟨by omega, ?_⟩, fun z => absurd z e⟩⟩
    refine h x μ _ hK (fun μ hK => ?_)
    exact ⟨by omega, hp μ hK⟩
theorem b_290 (hV : VS S) : DT kd S (fun x μ post => wb_L_act_290 kd post x μ 0) :=
  ⟨nI (stn S), s_tale S 0 (sT S), hV.tale (by omega), fun x μ post hK hp => ⟨by omega, y_forget hV hK (fun μ hK => ⟨by omega, hp μ hK⟩)⟩⟩
theorem b_295 (hkd : ∀ i j, i < 4 → j < 4 → kd i = kd j → i = j) (hV : VS S) (v4 : Int32) : DT kd S (fun x μ post => wb_L_act_295 kd post x v4 μ 0) := by
  obtain ⟨r, S', hV', h⟩ := d_writes hkd hV v4
  refine ⟨r, S', hV', fun x μ post hK hp => ⟨by omega, ?_⟩⟩
  refine h x μ _ hK (fun μ hK => ?_)
  exact ⟨by omega, hp μ hK⟩
theorem b_302 (hV : VS S) (v2 : Int32) : DT kd S (fun x μ post => wb_L_act_302 kd post x v2 μ 0) := by
  by_cases e : nI (sbn S) = 0
  · exact ⟨0, S, hV, fun x μ post hK hp => ⟨by omega, y_bits hV hK ⟨fun z => absurd e z, fun _ => ⟨by omega, hp _ hK⟩⟩⟩⟩
  · obtain ⟨r, S', hV', h⟩ := d_flips (kd := kd) hV (v2 - v2 / nI (sbn S) * nI (sbn S))
    refine ⟨r, S', hV', fun x μ post hK hp => ⟨by omega, y_bits hV hK ⟨fun _ => ⟨by omega, y_bits hV hK ⟨e, by omega, ?_⟩⟩, fun z => absurd z e⟩⟩⟩
    refine h x μ _ hK (fun μ hK => ?_)
    exact ⟨by omega, hp μ hK⟩
theorem b_349 (hV : VS S) : DT kd S (fun x μ post => wb_L_act_349 kd post x x μ 0) := by
  obtain ⟨r, S', hV', h⟩ := d_cuts (kd := kd) hV (nI (sbn S))
  refine ⟨r, S', hV', fun x μ post hK hp => ⟨by omega, y_bits hV hK ⟨by omega, ?_⟩⟩⟩
  refine h x μ _ hK (fun μ hK => ?_)
  exact ⟨by omega, hp μ hK⟩
theorem b_324 (hV : VS S) (v2 : Int32) : DT kd S (fun x μ post => wb_L_act_324 kd post x v2 μ 0) := by
  have v7 := hV.v7
  obtain ⟨r, S', hV', h⟩ := b_349 (kd := kd) hV
  by_cases e : (v2 - v2 / (3 : Int32) * (3 : Int32)) = 0
  · by_cases e2 : nI (sbn S) ≤ 0
    · exact ⟨r, S', hV', fun x μ post hK hp => ⟨fun z => absurd e z, fun _ => ⟨by omega, y_bits hV hK ⟨fun _ => h x μ post hK hp, fun z => absurd e2 z⟩⟩⟩⟩
    · have e3 : ¬ nI (sbn S) = 0 := fun z => e2 (by rw [z]; decide)
      obtain ⟨r, S', hV', h⟩ := d_cuts (kd := kd) hV ((v2 / (3 : Int32)) - (v2 / (3 : Int32)) / nI (sbn S) * nI (sbn S))
      refine ⟨r, S', hV', fun x μ post hK hp => ⟨fun z => absurd e z, fun _ => ⟨by omega, y_bits hV hK ⟨fun z => absurd z e2, fun _ => ⟨by omega, y_bits hV hK ⟨e3, by omega, ?_⟩⟩⟩⟩⟩⟩
      refine h x μ _ hK (fun μ hK => ?_)
      exact ⟨by omega, hp μ hK⟩
  · exact ⟨r, S', hV', fun x μ post hK hp => ⟨fun _ => h x μ post hK hp, fun z => absurd z e⟩⟩
theorem b_357 (hkd : ∀ i j, i < 4 → j < 4 → kd i = kd j → i = j) (hV : VS S) (v2 v4 : Int32) : DT kd S (fun x μ post => wb_L_act_357 kd post x v2 v4 μ 0) := by
  obtain ⟨r, S', hV', h⟩ := d_reads hkd hV v4 ((v2 / (16 : Int32)) - (v2 / (16 : Int32)) / (4 : Int32) * (4 : Int32))
  refine ⟨r, S', hV', fun x μ post hK hp => ⟨by omega, ?_⟩⟩
  refine h x μ _ hK (fun μ hK => ?_)
  exact ⟨by omega, hp μ hK⟩
/-- the end of the search for a tale -/
theorem b_491 (hkd : ∀ i j, i < 4 → j < 4 → kd i = kd j → i = j) (hV : VS S) {v3 v5 v6 : Int32} (h3 : ¬ v3 = 0) : ∃ r S', VS S' ∧ ∀ (x cz : Nat) (μ : Mm) (post : Int32 → Mm → Prop), cz ≤ 2900 → KS kd x S μ → (∀ μ', KS kd x S' μ' → post r μ') → wb_L_act_491 kd post x v3 v5 v6 μ cz := by
  obtain ⟨r, S', hV', h⟩ := d_writes hkd hV v5
  by_cases e : 0 ≤ r
  · refine ⟨v6 + (1000 : Int32) * r, S', hV', fun x cz μ post hc hK hp => ⟨fun _ => ⟨by omega, ?_⟩, fun z => absurd z h3⟩⟩
    refine h x μ _ hK (fun μ hK => ?_)
    exact ⟨fun _ => ⟨by omega, hp μ hK⟩, fun z => absurd e z⟩
  · refine ⟨r, S', hV', fun x cz μ post hc hK hp => ⟨fun _ => ⟨by omega, ?_⟩, fun z => absurd z h3⟩⟩
    refine h x μ _ hK (fun μ hK => ?_)
    exact ⟨fun z => absurd z e, fun _ => ⟨by omega, hp μ hK⟩⟩
theorem tr_r : ∀ w, w < 5 → ((-1000 : Int32) ≤ nI w - 1 ∧ nI w - 1 ≤ 1000) := by decide
theorem tr_e {y i : Nat} (hy : y < 2 ^ 31) (hi : i < 24) : ((nI y >>> ((nI i - nI i / (24 : Int32) * (24 : Int32)) &&& 31)) - (nI y >>> ((nI i - nI i / (24 : Int32) * (24 : Int32)) &&& 31)) / (5 : Int32) * (5 : Int32)) - (1 : Int32) = nI (y / 2 ^ i % 5) - 1 := by
  have e1 : nI i - nI i / (24 : Int32) * (24 : Int32) = nI (i % 24) := pk_rem (d := 24) (by omega) (by omega) (by omega)
  rw [e1, Nat.mod_eq_of_lt hi, pk_shrN hy (nI i &&& 31) i (q_s32 i (by omega))]
  have e2 : nI (y / 2 ^ i) - nI (y / 2 ^ i) / (5 : Int32) * (5 : Int32) = nI (y / 2 ^ i % 5) := pk_rem (d := 5) (Nat.lt_of_le_of_lt (Nat.div_le_self _ _) hy) (by omega) (by omega)
  rw [e2]
/-- the search for a tale -/
theorem ac_412 (hkd : ∀ i j, i < 4 → j < 4 → kd i = kd j → i = j) (hV : VS S) {t y : Nat} (ht : t < snt S) (hy : y < 2 ^ 31) {v3 v6 : Int32} (h3 : ¬ v3 = 0) : ∀ (k i : Nat), i + k = 24 → ∀ (tn : Nat) (T' : Nat → Int32) (at_ : Int32), tn ≤ i → (∀ i', i' < tn → rgI (T' i')) → ∃ r S', VS S' ∧ ∀ (x cz : Nat) (μ : Mm) (post : Int32 → Mm → Prop), cz ≤ 10 + 102 * i → KS kd x (s_tale S tn T') μ → (∀ μ', KS kd x S' μ' → post r μ') → wb_L_act_412 kd post (k + 1) x (nI y) v3 (nI t) v6 at_ (nI i) μ cz := by
  intro k
  induction k with
  | zero =>
    intro i hi tn T' at_ htn hT
    obtain ⟨r, S', hV', h⟩ := b_491 (v3 := v3) (v5 := nI t) (v6 := v6) hkd (hV.tale (tn' := tn) (T' := T') (by omega)) h3
    exact ⟨r, S', hV', fun x cz μ post hc hK hp => ⟨fun _ => h x cz μ post (by omega) hK hp, fun z => absurd (nI_le (a := 24) (by omega) (by omega)) z⟩⟩
  | succ k ih =>
    intro i hi tn T' at_ htn hT
    have hVt : VS (s_tale S tn T') := hV.tale (by omega)
    have n24 : ¬ (24 : Int32) ≤ nI i := nI_ge (b := 24) (by omega) (by omega)
    obtain ⟨r0, S0, hV0, h0⟩ := b_491 (v3 := v3) (v5 := nI t) (v6 := v6) hkd hVt h3
    by_cases c1 : at_ < 0
    · exact ⟨r0, S0, hV0, fun x cz μ post hc hK hp => ⟨fun z => absurd z n24, fun _ => ⟨fun _ => h0 x cz μ post (by omega) hK hp, fun z => absurd c1 z⟩⟩⟩
    · by_cases c2 : at_ = nI tn
      · subst c2
        have hw5 : y / 2 ^ i % 5 < 5 := Nat.mod_lt _ (by omega)
        have hr := tr_r _ hw5
        have hT2 : ∀ i', i' < tn + 1 → rgI (upd T' tn (nI (y / 2 ^ i % 5) - 1) i') := fun i' hi' => by
          by_cases e : i' = tn
          · subst e; rw [q_us]; exact hr
          · rw [pk_un e]; exact hT i' (by omega)
        have hV2 : VS (s_tale S (tn + 1) (upd T' tn (nI (y / 2 ^ i % 5) - 1))) := hV.tale (by omega)
        have eK : nI i + 1 = nI (i + 1) := (nI_succ i).symm
        -- up to where it is looked again
        have front : ∀ (x cz : Nat) (μ : Mm) (post : Int32 → Mm → Prop), cz ≤ 10 + 102 * i → KS kd x (s_tale S tn T') μ → (∀ μ, KS kd x (s_tale S (tn + 1) (upd T' tn (nI (y / 2 ^ i % 5) - 1))) μ → ((¬ wvN (sN S) (upd T' tn (nI (y / 2 ^ i % 5) - 1)) (tn + 1) t = nI tn → (wb_L_act_412 kd post (k + 1) x (nI y) v3 (nI t) v6 (wvN (sN S) (upd T' tn (nI (y / 2 ^ i % 5) - 1)) (tn + 1) t) (nI (i + 1)) μ (cz + 2))) ∧ (wvN (sN S) (upd T' tn (nI (y / 2 ^ i % 5) - 1)) (tn + 1) t = nI tn → (cz + 102 ≤ 3000 ∧ wp_L_again x kd (nI t) (nI tn) μ (fun r154 μ157 => wb_L_act_412 kd post (k + 1) x (nI y) v3 (nI t) v6 r154 (nI (i + 1)) μ157 (cz + 102)))))) → wb_L_act_412 kd post (k + 1 + 1) x (nI y) v3 (nI t) v6 (nI tn) (nI i) μ cz := by
          intro x cz μ post hc hK hp
          refine ⟨fun z => absurd z n24, fun _ => ⟨fun z => absurd z c1, fun _ => ⟨by omega, y_length hVt hK ⟨fun z => absurd rfl z, fun _ => ⟨by omega, ?_⟩⟩⟩⟩⟩
          rw [tr_e hy (show i < 24 by omega), eK]
          exact x_tells hVt hK hr (show tn < 300 by omega) (fun μ hK => ⟨by omega, x_wrong hkd hV2 hK ht (fun μ hK => hp μ hK)⟩)
        by_cases c3 : wvN (sN S) (upd T' tn (nI (y / 2 ^ i % 5) - 1)) (tn + 1) t = nI tn
        · obtain ⟨ra, T2, g1, g2⟩ := ag_ok hkd hV2 ht (show tn ≤ 23 by omega) rfl hT2
          obtain ⟨r, S', hV', h⟩ := ih (i + 1) (by omega) (tn + 1) T2 ra (by omega) g1
          refine ⟨r, S', hV', fun x cz μ post hc hK hp => front x cz μ post hc hK (fun μ hK => ⟨fun z => absurd c3 z, fun _ => ⟨by omega, ?_⟩⟩)⟩
          refine g2 x μ _ hK (fun μ hK => ?_)
          exact h x (cz + 102) μ post (by omega) hK hp
        · obtain ⟨r, S', hV', h⟩ := ih (i + 1) (by omega) (tn + 1) (upd T' tn (nI (y / 2 ^ i % 5) - 1)) (wvN (sN S) (upd T' tn (nI (y / 2 ^ i % 5) - 1)) (tn + 1) t) (by omega) hT2
          exact ⟨r, S', hV', fun x cz μ post hc hK hp => front x cz μ post hc hK (fun μ hK => ⟨fun _ => h x (cz + 2) μ post (by omega) hK hp, fun z => absurd z c3⟩)⟩
      · exact ⟨r0, S0, hV0, fun x cz μ post hc hK hp => ⟨fun z => absurd z n24, fun _ => ⟨fun z => absurd z c1, fun _ => ⟨by omega, y_length hVt hK ⟨fun _ => h0 x cz μ post (by omega) hK hp, fun z => absurd z c2⟩⟩⟩⟩⟩
theorem b_370 (hkd : ∀ i j, i < 4 → j < 4 → kd i = kd j → i = j) (hV : VS S) {y : Nat} (hy : y < 2 ^ 31) : DT kd S (fun x μ post => wb_L_act_370 kd post x (nI y) (nI (snt S)) μ 0) := by
  have v1 := hV.v1
  have hV0 : VS (s_tale S 0 (sT S)) := hV.tale (by omega)
  by_cases hn : snt S = 0
  · have z0 : nI (snt S) = 0 := by rw [hn]; rfl
    refine ⟨nI (stn S) + (1000 : Int32) * 0, s_tale S 0 (sT S), hV0, fun x μ post hK hp => ⟨fun z => absurd z0 z, fun _ => ⟨by omega, y_forget hV hK (fun μ hK => ⟨fun z => absurd z0 z, fun _ => ⟨1, ?_⟩⟩)⟩⟩⟩
    exact ⟨fun z => absurd z (by decide), fun _ => ⟨fun _ => ⟨fun z => absurd z0 z, fun _ => ⟨fun _ => ⟨by omega, hp μ hK⟩, fun z => absurd (by decide) z⟩⟩, fun z => absurd (by decide) z⟩⟩
  · have z0 : ¬ nI (snt S) = 0 := nI_ne0 (by omega) (by omega)
    have hlt : y % snt S < snt S := Nat.mod_lt _ (by omega)
    have eT : (nI (snt S) - (1 : Int32)) - (nI y - nI y / nI (snt S) * nI (snt S)) = nI (snt S - 1 - y % snt S) := by
      have e1 : nI (snt S) - (1 : Int32) = nI (snt S - 1) := q_sub (a := snt S) (b := 1) (by omega)
      have e2 : nI y - nI y / nI (snt S) * nI (snt S) = nI (y % snt S) := pk_rem hy (by omega) (by omega)
      rw [e1, e2, q_sub (by omega)]
    have ht : snt S - 1 - y % snt S < snt S := by omega
    obtain ⟨r, S', hV', h⟩ := ac_412 (v3 := nI (snt S)) (v6 := nI (stn S)) hkd hV ht hy z0 24 0 rfl 0 (sT S) (wvN (sN S) (sT S) 0 (snt S - 1 - y % snt S)) (by omega) (fun i' hi' => by omega)
    refine ⟨r, S', hV', fun x μ post hK hp => ⟨fun _ => ⟨z0, ?_⟩, fun z => absurd z z0⟩⟩
    rw [eT]
    refine ⟨by omega, y_forget hV hK (fun μ hK => ⟨fun _ => ⟨by omega, x_wrong hkd hV0 hK ht (fun μ hK => ⟨25, ?_⟩)⟩, fun z => absurd z z0⟩)⟩
    exact h x _ μ post (by omega) hK hp
/-- which way it goes -/
theorem ac_21 {j c : Nat} (hj : j < 2 ^ 31) (hc : j % 32 = c) {x : Nat} {v2 v3 s0 : Int32} {μ : Mm} {post : Int32 → Mm → Prop} (h370 : 24 ≤ c → wb_L_act_370 kd post x v2 v3 μ 0) (h136 : c ≤ 2 → wb_L_act_136 kd post x v2 μ 0) (h172 : 3 ≤ c → c ≤ 4 → wb_L_act_172 kd post x v2 s0 μ 0) (h198 : 5 ≤ c → c ≤ 9 → wb_L_act_198 kd post x v2 s0 μ 0) (h219 : 10 ≤ c → c ≤ 11 → wb_L_act_219 kd post x μ 0) (h224 : c = 12 → wb_L_act_224 kd post x μ 0) (h229 : 13 ≤ c → c ≤ 14 → wb_L_act_229 kd post x v2 v3 μ 0) (h263 : 15 ≤ c → c ≤ 18 → wb_L_act_263 kd post x v2 μ 0) (h290 : c = 19 → wb_L_act_290 kd post x μ 0) (h295 : c = 20 → wb_L_act_295 kd post x s0 μ 0) (h302 : c = 21 → wb_L_act_302 kd post x v2 μ 0) (h324 : c = 22 → wb_L_act_324 kd post x v2 μ 0) (h357 : c = 23 → wb_L_act_357 kd post x v2 s0 μ 0) : wb_L_act_21 kd post x (nI j) v2 v3 s0 μ 0 := by
  intro xs e
  have e32 : nI j - nI j / (32 : Int32) * (32 : Int32) = nI (j % 32) := pk_rem (d := 32) hj (by omega) (by omega)
  have hlt : c < 32 := by omega
  rw [e32, hc] at e
  subst e
  rw [nI_toInt (by omega)]
  simp only [nI_leI (show (0 : Nat) < 2 ^ 31 by omega) (show c < 2 ^ 31 by omega)]
  have le1 : ∀ a : Nat, a < 30 → (nI a ≤ nI c → a ≤ c) := fun a ha h => (nI_leI (by omega) (by omega)).mp h
  have le2 : ∀ a : Nat, a < 30 → (nI c ≤ nI a → c ≤ a) := fun a ha h => (nI_leI (by omega) (by omega)).mp h
  refine ⟨fun h => h370 (by omega), fun h => h136 (le2 2 (by omega) h.2), fun h => h172 (le1 3 (by omega) h.1) (le2 4 (by omega) h.2), fun h => h198 (le1 5 (by omega) h.1) (le2 9 (by omega) h.2), fun h => h219 (le1 10 (by omega) h.1) (le2 11 (by omega) h.2), fun h => h224 ?_, fun h => h229 (le1 13 (by omega) h.1) (le2 14 (by omega) h.2), fun h => h263 (le1 15 (by omega) h.1) (le2 18 (by omega) h.2), fun h => h290 ?_, fun h => h295 ?_, fun h => h302 ?_, fun h => h324 ?_, fun h => h357 ?_⟩
  · have := le1 12 (by omega) h.1; have := le2 12 (by omega) h.2; omega
  · have := le1 19 (by omega) h.1; have := le2 19 (by omega) h.2; omega
  · have := le1 20 (by omega) h.1; have := le2 20 (by omega) h.2; omega
  · have := le1 21 (by omega) h.1; have := le2 21 (by omega) h.2; omega
  · have := le1 22 (by omega) h.1; have := le2 22 (by omega) h.2; omega
  · have := le1 23 (by omega) h.1; have := le2 23 (by omega) h.2; omega
theorem ac_front {j : Nat} (hV : VS S) (hj : j < 2 ^ 31) {x : Nat} {μ : Mm} {post : Int32 → Mm → Prop} (hK : KS kd x S μ) (h : ∀ μ, KS kd x S μ → wb_L_act_21 kd post x (nI j) (nI (j / 32)) (nI (snt S)) (nI (if snt S = 0 then 0 else j / 32 % snt S)) μ 0) : wp_L_act kd x (nI j) μ post := by
  have v1 := hV.v1
  have e32 : nI j / (32 : Int32) = nI (j / 32) := pk_div (d := 32) hj (by omega) (by omega)
  unfold wp_L_act
  rw [e32]
  refine ⟨by omega, y_types hV hK ⟨fun z => ⟨z, ?_⟩, fun z => ?_⟩⟩
  · have hn : ¬ snt S = 0 := fun e => z (by rw [e]; rfl)
    have e2 : nI (j / 32) - nI (j / 32) / nI (snt S) * nI (snt S) = nI (j / 32 % snt S) := pk_rem (by omega) (by omega) (by omega)
    have := h μ hK
    rw [if_neg hn] at this
    rw [e2]; exact this
  · have hn : snt S = 0 := by
      by_cases e : snt S = 0
      · exact e
      · exact absurd z (nI_ne0 (by omega) (by omega))
    have := h μ hK
    rw [if_pos hn] at this
    exact this
/-- act: what it answers and leaves is known beforehand -/
theorem act_ok (hkd : ∀ i j, i < 4 → j < 4 → kd i = kd j → i = j) (hV : VS S) {j : Nat} (hj : j < 2 ^ 31) : DT kd S (fun x μ post => wp_L_act kd x (nI j) μ post) := by
  have fin : ∀ (c : Nat) (w : Nat → Mm → (Int32 → Mm → Prop) → Prop), DT kd S w → (∀ (x : Nat) (μ : Mm) (post : Int32 → Mm → Prop), w x μ post → wb_L_act_21 kd post x (nI j) (nI (j / 32)) (nI (snt S)) (nI (if snt S = 0 then 0 else j / 32 % snt S)) μ 0) → DT kd S (fun x μ post => wp_L_act kd x (nI j) μ post) := by
    intro c w ⟨r, S', hV', h⟩ hw
    exact ⟨r, S', hV', fun x μ post hK hp => ac_front hV hj hK (fun μ hK => hw x μ post (h x μ post hK hp))⟩
  have hlt : j % 32 < 32 := Nat.mod_lt _ (by omega)
  have hy : j / 32 < 2 ^ 31 := by omega
  by_cases c1 : j % 32 ≤ 2
  · exact fin 0 _ (b_136 hkd hV (nI (j / 32))) (fun x μ post hw => ac_21 hj rfl (by omega) (fun _ => hw) (by omega) (by omega) (by omega) (by omega) (by omega) (by omega) (by omega) (by omega) (by omega) (by omega) (by omega))
  by_cases c2 : j % 32 ≤ 4
  · exact fin 0 _ (b_172 hkd hV (nI (j / 32)) (nI (if snt S = 0 then 0 else j / 32 % snt S))) (fun x μ post hw => ac_21 hj rfl (by omega) (by omega) (fun _ _ => hw) (by omega) (by omega) (by omega) (by omega) (by omega) (by omega) (by omega) (by omega) (by omega) (by omega))
  by_cases c3 : j % 32 ≤ 9
  · exact fin 0 _ (b_198 hV (nI (j / 32)) (nI (if snt S = 0 then 0 else j / 32 % snt S))) (fun x μ post hw => ac_21 hj rfl (by omega) (by omega) (by omega) (fun _ _ => hw) (by omega) (by omega) (by omega) (by omega) (by omega) (by omega) (by omega) (by omega) (by omega))
  by_cases c4 : j % 32 ≤ 11
  · exact fin 0 _ (b_219 hkd hV) (fun x μ post hw => ac_21 hj rfl (by omega) (by omega) (by omega) (by omega) (fun _ _ => hw) (by omega) (by omega) (by omega) (by omega) (by omega) (by omega) (by omega) (by omega))
  by_cases c5 : j % 32 = 12
  · exact fin 0 _ (b_224 hkd hV) (fun x μ post hw => ac_21 hj rfl (by omega) (by omega) (by omega) (by omega) (by omega) (fun _ => hw) (by omega) (by omega) (by omega) (by omega) (by omega) (by omega) (by omega))
  by_cases c6 : j % 32 ≤ 14
  · exact fin 0 _ (b_229 hkd hV (nI (j / 32)) (nI (snt S))) (fun x μ post hw => ac_21 hj rfl (by omega) (by omega) (by omega) (by omega) (by omega) (by omega) (fun _ _ => hw) (by omega) (by omega) (by omega) (by omega) (by omega) (by omega))
  by_cases c7 : j % 32 ≤ 18
  · exact fin 0 _ (b_263 hV (nI (j / 32))) (fun x μ post hw => ac_21 hj rfl (by omega) (by omega) (by omega) (by omega) (by omega) (by omega) (by omega) (fun _ _ => hw) (by omega) (by omega) (by omega) (by omega) (by omega))
  by_cases c8 : j % 32 = 19
  · exact fin 0 _ (b_290 hV) (fun x μ post hw => ac_21 hj rfl (by omega) (by omega) (by omega) (by omega) (by omega) (by omega) (by omega) (by omega) (fun _ => hw) (by omega) (by omega) (by omega) (by omega))
  by_cases c9 : j % 32 = 20
  · exact fin 0 _ (b_295 hkd hV (nI (if snt S = 0 then 0 else j / 32 % snt S))) (fun x μ post hw => ac_21 hj rfl (by omega) (by omega) (by omega) (by omega) (by omega) (by omega) (by omega) (by omega) (by omega) (fun _ => hw) (by omega) (by omega) (by omega))
  by_cases c10 : j % 32 = 21
  · exact fin 0 _ (b_302 hV (nI (j / 32))) (fun x μ post hw => ac_21 hj rfl (by omega) (by omega) (by omega) (by omega) (by omega) (by omega) (by omega) (by omega) (by omega) (by omega) (fun _ => hw) (by omega) (by omega))
  by_cases c11 : j % 32 = 22
  · exact fin 0 _ (b_324 hV (nI (j / 32))) (fun x μ post hw => ac_21 hj rfl (by omega) (by omega) (by omega) (by omega) (by omega) (by omega) (by omega) (by omega) (by omega) (by omega) (by omega) (fun _ => hw) (by omega))
  by_cases c12 : j % 32 = 23
  · exact fin 0 _ (b_357 hkd hV (nI (j / 32)) (nI (if snt S = 0 then 0 else j / 32 % snt S))) (fun x μ post hw => ac_21 hj rfl (by omega) (by omega) (by omega) (by omega) (by omega) (by omega) (by omega) (by omega) (by omega) (by omega) (by omega) (by omega) (fun _ => hw))
  exact fin 0 _ (b_370 hkd hV hy) (fun x μ post hw => ac_21 hj rfl (fun _ => hw) (by omega) (by omega) (by omega) (by omega) (by omega) (by omega) (by omega) (by omega) (by omega) (by omega) (by omega) (by omega))
end AC
