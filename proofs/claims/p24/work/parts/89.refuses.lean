/-! THE LAW: calls that throw -/
section RF
variable {kd : Nat → Nat} {x j : Nat} {S : SS} {μ : Mm} {post : Int32 → Mm → Prop}
theorem rf_512 (hkd : ∀ i j, i < 4 → j < 4 → kd i = kd j → i = j) (hV : VS S) (hK : KS kd x S μ) {t cz : Nat} (ht : t < snt S) (hj : j < 10000) (hc : cz ≤ 100) (hp : ∀ μ', KS kd x S μ' → post 1 μ') : wb_L_refuses_512 kd post x (nI j) (nI t) μ cz := by
  have e4 : nI j - nI j / (4 : Int32) * (4 : Int32) = nI (j % 4) := pk_rem (d := 4) (by omega) (by omega) (by omega)
  unfold wb_L_refuses_512
  rw [e4]
  refine ⟨by omega, x_fault hkd hV hK ht (show j % 4 ≤ 3 by omega) (fun μ hK => ⟨fun _ => ⟨by omega, hp _ hK⟩, fun hf => ⟨by omega, x_readsB hkd hV hK ht (show j % 4 ≤ 3 by omega) hf (fun μ hK => ⟨fun h => absurd rfl h, fun _ => ⟨by omega, hp _ hK⟩⟩)⟩⟩)⟩
theorem rf_358 (hkd : ∀ i j, i < 4 → j < 4 → kd i = kd j → i = j) (hV : VS S) (hK : KS kd x S μ) {v2 : Int32} {cz : Nat} (h2 : ¬ ∃ t, t < snt S ∧ v2 = nI t) (hj : j < 10000) (hc : cz ≤ 61) (hp : ∀ μ', KS kd x S μ' → post 1 μ') : wb_L_refuses_358 kd post x (nI j) v2 1 μ cz := by
  have v1 := hV.v1
  refine ⟨fun h => absurd h (by decide), fun _ => ⟨by omega, y_types hV hK ⟨fun _ => ⟨by omega, Or.inr rfl, hp _ hK⟩, fun hn0 => ⟨by omega, y_types hV hK ?_⟩⟩⟩⟩
  have hn : 0 < snt S := by
    by_cases c : 0 < snt S
    · exact c
    · exact absurd (by rw [show snt S = 0 by omega]; decide) hn0
  have e5 : nI j - nI j / nI (snt S) * nI (snt S) = nI (j % snt S) := pk_rem (by omega) hn (by omega)
  have ht : j % snt S < snt S := Nat.mod_lt _ hn
  rw [e5]
  have tm := t_m1 (k := j) (by omega)
  have z0 : (0 : Int32).toInt = 0 := by decide
  have z3 : (3 : Int32).toInt = 3 := by decide
  have z8 : (8 : Int32).toInt = 8 := by decide
  have t9 := t_ad (c := 9) (n := 9) (k := j) rfl (by omega) (by omega)
  have t4 := t_ad (c := 4) (n := 4) (k := j) rfl (by omega) (by omega)
  refine ⟨nI_ne0 hn (by omega), by omega, x_lists1 hkd hV hK ht (fun h => by have := le_t.mp h.1.1; omega) (fun μ hK => ⟨fun h => absurd rfl h, fun _ => ?_⟩)⟩
  refine ⟨by omega, x_lists1 hkd hV hK ht (by decide) (fun μ hK => ⟨fun h => absurd rfl h, fun _ => ?_⟩)⟩
  refine ⟨by omega, x_lists1 hkd hV hK ht (fun h => by have := le_t.mp h.2.2; omega) (fun μ hK => ⟨fun h => absurd rfl h, fun _ => ?_⟩)⟩
  refine ⟨by omega, x_ext0 hkd hV hK (Or.inr h2) (fun μ hK => ⟨fun h => absurd rfl h, fun _ => ?_⟩)⟩
  refine ⟨by omega, x_ext1 hkd hV hK ht (fun μ hK => ⟨fun h => absurd rfl h, fun _ => ?_⟩)⟩
  refine ⟨by omega, x_reads1 hkd hV hK ht (fun h => by have := le_t.mp h.2; omega) (fun μ hK => ⟨fun h => absurd rfl h, fun _ => ?_⟩)⟩
  refine ⟨by omega, x_reads1 hkd hV hK ht (fun h => by have := le_t.mp h.1; omega) (fun μ hK => ⟨fun h => absurd rfl h, fun _ => ?_⟩)⟩
  refine ⟨by omega, x_fault1 hkd hV hK ht (fun h => by have := le_t.mp h.2; omega) (fun μ hK => ⟨fun h => absurd rfl h, fun _ => ?_⟩)⟩
  refine ⟨by omega, x_wrong hkd hV hK ht (fun μ hK => ⟨fun _ => ?_, fun hw => ?_⟩)⟩
  · exact rf_512 hkd hV hK ht hj (by omega) hp
  · exact ⟨by omega, x_writesB hkd hV hK ht hw (fun μ hK => ⟨fun h => absurd rfl h, fun _ => rf_512 hkd hV hK ht hj (by omega) hp⟩)⟩
theorem rf_333 (hkd : ∀ i j, i < 4 → j < 4 → kd i = kd j → i = j) (hV : VS S) (hK : KS kd x S μ) {v2 : Int32} {cz : Nat} (h2 : ¬ ∃ t, t < snt S ∧ v2 = nI t) (hj : j < 10000) (hc : cz ≤ 60) (hp : ∀ μ', KS kd x S μ' → post 1 μ') : wb_L_refuses_333 kd post x (nI j) v2 μ cz := by
  have v6 := hV.v6
  refine ⟨by omega, y_length hV hK ⟨fun _ => rf_358 hkd hV hK h2 hj (by omega) hp, fun hl => ⟨by omega, x_tellsF hV hK (by decide) ?_ (fun μ hK => ⟨fun h => absurd rfl h, fun _ => rf_358 hkd hV hK h2 hj (by omega) hp⟩)⟩⟩⟩
  by_cases c : stn S = 300
  · exact c
  · exact absurd (nI_lt (b := 300) (by omega) (by omega)) hl
theorem rf_49 (hkd : ∀ i j, i < 4 → j < 4 → kd i = kd j → i = j) (hV : VS S) (hK : KS kd x S μ) {v2 s0 : Int32} (h2 : ¬ ∃ t, t < snt S ∧ v2 = nI t) (h3 : ¬ ∃ t, t < sbn S ∧ s0 = nI t) (hj : j < 10000) (hp : ∀ μ', KS kd x S μ' → post 1 μ') : wb_L_refuses_49 kd post x (nI j) v2 s0 μ 0 := by
  have v1 := hV.v1
  have v6 := hV.v6
  have v7 := hV.v7
  have tm := t_m1 (k := j) (by omega)
  have tm2 := t_m1001 (k := j) (by omega)
  have z0 : (0 : Int32).toInt = 0 := by decide
  have zl : (-1000 : Int32).toInt = -1000 := by decide
  have zh : (1000 : Int32).toInt = 1000 := by decide
  have t1001 := t_ad (c := 1001) (n := 1001) (k := j) rfl (by omega) (by omega)
  refine ⟨by omega, x_num hkd hV hK (fun h => by have := le_t.mp h.1.1; omega) (fun μ hK => ⟨fun h => absurd rfl h, fun _ => ?_⟩)⟩
  refine ⟨by omega, x_num hkd hV hK (fun h => by have := le_t.mp h.1.2; omega) (fun μ hK => ⟨fun h => absurd rfl h, fun _ => ?_⟩)⟩
  refine ⟨by omega, x_num hkd hV hK (by decide) (fun μ hK => ⟨fun h => absurd rfl h, fun _ => ?_⟩)⟩
  refine ⟨by omega, x_num hkd hV hK (fun h => by have := le_t.mp h.2.2; omega) (fun μ hK => ⟨fun h => absurd rfl h, fun _ => ?_⟩)⟩
  refine ⟨by omega, x_lists0 hkd hV hK h2 (fun μ hK => ⟨fun h => absurd rfl h, fun _ => ?_⟩)⟩
  refine ⟨by omega, x_parts0 hV hK h2 (fun μ hK => ⟨fun h => absurd rfl h, fun _ => ?_⟩)⟩
  refine ⟨by omega, x_ext0 hkd hV hK (Or.inl h2) (fun μ hK => ⟨fun h => absurd rfl h, fun _ => ?_⟩)⟩
  refine ⟨by omega, x_least0 hV hK h2 (fun μ hK => ⟨fun h => absurd rfl h, fun _ => ?_⟩)⟩
  refine ⟨by omega, x_most0 hV hK h2 (fun μ hK => ⟨fun h => absurd rfl h, fun _ => ?_⟩)⟩
  refine ⟨by omega, x_tells0 hV hK (fun h => by have := le_t.mp h.2; omega) (fun μ hK => ⟨fun h => absurd rfl h, fun _ => ?_⟩)⟩
  refine ⟨by omega, x_tells0 hV hK (fun h => by have := le_t.mp h.1; omega) (fun μ hK => ⟨fun h => absurd rfl h, fun _ => ?_⟩)⟩
  refine ⟨by omega, x_told0 hV hK (no_neg (by omega) (by omega)) (fun μ hK => ⟨fun h => absurd rfl h, fun _ => ?_⟩)⟩
  refine ⟨by omega, y_length hV hK ?_⟩
  refine ⟨by omega, x_told0 hV hK (no_big (by omega) (by omega)) (fun μ hK => ⟨fun h => absurd rfl h, fun _ => ?_⟩)⟩
  refine ⟨by omega, x_wrong0 hkd hV hK h2 (fun μ hK => ⟨fun h => absurd rfl h, fun _ => ?_⟩)⟩
  refine ⟨by omega, x_writes0 hkd hV hK h2 (fun μ hK => ⟨fun h => absurd rfl h, fun _ => ?_⟩)⟩
  refine ⟨by omega, x_bit0 hV hK h3 (fun μ hK => ⟨fun h => absurd rfl h, fun _ => ?_⟩)⟩
  refine ⟨by omega, x_flips0 hV hK h3 (fun μ hK => ⟨fun h => absurd rfl h, fun _ => ?_⟩)⟩
  refine ⟨by omega, x_cuts0 hV hK (fun h => by have := le_t.mp h.1; omega) (fun μ hK => ⟨fun h => absurd rfl h, fun _ => ?_⟩)⟩
  refine ⟨by omega, y_bits hV hK ?_⟩
  refine ⟨by omega, x_cuts0 hV hK (fun h => by
    have h := h.2
    rw [nI_1, nI_add, nI_leI (by omega) (by omega)] at h; omega) (fun μ hK => ⟨fun h => absurd rfl h, fun _ => ?_⟩)⟩
  refine ⟨by omega, x_reads0 hkd hV hK h2 (fun μ hK => ⟨fun h => absurd rfl h, fun _ => ?_⟩)⟩
  refine ⟨by omega, x_fault0 hkd hV hK h2 (fun μ hK => ⟨fun h => absurd rfl h, fun _ => ?_⟩)⟩
  refine ⟨by omega, y_types hV hK ⟨fun _ => rf_333 hkd hV hK h2 hj (by omega) hp, fun hf => ?_⟩⟩
  have e16 : snt S = 16 := by
    by_cases c : snt S = 16
    · exact c
    · exact absurd (nI_lt (b := 16) (by omega) (by omega)) hf
  exact ⟨by omega, x_numF hkd hV hK (by decide) e16 (fun μ hK => ⟨fun h => absurd rfl h, fun _ => rf_333 hkd hV hK h2 hj (by omega) hp⟩)⟩
/-- calls that throw change nothing, and throw what they should -/
theorem rf_ok (hkd : ∀ i j, i < 4 → j < 4 → kd i = kd j → i = j) (hV : VS S) (hK : KS kd x S μ) (hj : j < 10000) (hp : ∀ μ', KS kd x S μ' → post 1 μ') : wp_L_refuses kd x (nI j) μ post := by
  have v1 := hV.v1
  have v7 := hV.v7
  have e50 : nI j - nI j / (50 : Int32) * (50 : Int32) = nI (j % 50) := pk_rem (d := 50) (by omega) (by omega) (by omega)
  have r24 : ∀ (v2 : Int32) (μ : Mm), KS kd x S μ → (¬ ∃ t, t < snt S ∧ v2 = nI t) → wb_L_refuses_24 kd post x (nI j) v2 μ 0 := by
    intro v2 μ hK h2
    unfold wb_L_refuses_24
    rw [e50]
    exact ⟨fun _ => ⟨by omega, y_bits hV hK (rf_49 hkd hV hK h2 (no_big (by omega) (by omega)) hj hp)⟩, fun _ => rf_49 hkd hV hK h2 (no_neg (by omega) (by omega)) hj hp⟩
  unfold wp_L_refuses
  rw [e50]
  exact ⟨fun _ => ⟨by omega, y_types hV hK (r24 _ _ hK (no_big (by omega) (by omega)))⟩, fun _ => r24 _ _ hK (no_neg (by omega) (by omega))⟩
end RF
