/-! THE LAW: alike -/
section AL
variable {kd : Nat → Nat} {S : SS} {x y : Nat} {post : Int32 → Mm → Mm → Prop}
theorem al_164 (hV : VS S) (hp : ∀ μ1' μ2', KS kd x S μ1' → KS kd y S μ2' → post 1 μ1' μ2') : ∀ (k i cz : Nat) (μ1 μ2 : Mm), i ≤ 245 → sbn S ≤ i + 5 * k → cz ≤ 500 + i → KS kd x S μ1 → KS kd y S μ2 → wb_L_alike_164 x y kd post (k + 1) 1 (nI i) μ1 μ2 cz := by
  have v7 := hV.v7
  intro k
  induction k with
  | zero =>
    intro i cz μ1 μ2 h245 hi hc hK1 hK2
    exact ⟨by omega, y_bits hV hK1 ⟨fun _ => ⟨by omega, Or.inr rfl, hp _ _ hK1 hK2⟩, fun z => absurd (nI_le (by omega) (by omega)) z⟩⟩
  | succ k ih =>
    intro i cz μ1 μ2 h245 hi hc hK1 hK2
    by_cases c : sbn S ≤ i
    · exact ⟨by omega, y_bits hV hK1 ⟨fun _ => ⟨by omega, Or.inr rfl, hp _ _ hK1 hK2⟩, fun z => absurd (nI_le (by omega) (by omega)) z⟩⟩
    · have e5 : nI i + 5 = nI (i + 5) := nI_add i 5
      refine ⟨by omega, y_bits hV hK1 ⟨fun z => absurd z (nI_ge (by omega) (by omega)), fun _ => ⟨fun z => absurd z (by decide), fun _ => ?_⟩⟩⟩
      refine ⟨by omega, x_bit hV hK1 (show i < sbn S by omega) (fun μ1 hK1 => ⟨by omega, x_bit hV hK2 (show i < sbn S by omega) (fun μ2 hK2 => ⟨fun z => absurd rfl z, fun _ => ?_⟩)⟩)⟩
      show wb_L_alike_164 x y kd post (k + 1) 1 (nI i + 5) μ1 μ2 (cz + 2)
      rw [e5]
      exact ih (i + 5) (cz + 2) μ1 μ2 (by omega) (by omega) (by omega) hK1 hK2
theorem al_125 (hV : VS S) (hp : ∀ μ1' μ2', KS kd x S μ1' → KS kd y S μ2' → post 1 μ1' μ2') : ∀ (k i cz : Nat) (μ1 μ2 : Mm), i ≤ 305 → stn S ≤ i + 3 * k → cz ≤ 160 + i → KS kd x S μ1 → KS kd y S μ2 → wb_L_alike_125 x y kd post (k + 1) 1 (nI i) μ1 μ2 cz := by
  have v6 := hV.v6
  have v7 := hV.v7
  have done : ∀ (cz : Nat) (μ1 μ2 : Mm), cz ≤ 500 → KS kd x S μ1 → KS kd y S μ2 → wb_L_alike_162 x y kd post 1 μ1 μ2 cz := fun cz μ1 μ2 hc hK1 hK2 => ⟨50, al_164 hV hp 49 0 cz μ1 μ2 (by omega) (by omega) (by omega) hK1 hK2⟩
  intro k
  induction k with
  | zero =>
    intro i cz μ1 μ2 h305 hi hc hK1 hK2
    exact ⟨by omega, y_length hV hK1 ⟨fun _ => done cz _ _ (by omega) hK1 hK2, fun z => absurd (nI_le (by omega) (by omega)) z⟩⟩
  | succ k ih =>
    intro i cz μ1 μ2 h305 hi hc hK1 hK2
    by_cases c : stn S ≤ i
    · exact ⟨by omega, y_length hV hK1 ⟨fun _ => done cz _ _ (by omega) hK1 hK2, fun z => absurd (nI_le (by omega) (by omega)) z⟩⟩
    · have e3 : nI i + 3 = nI (i + 3) := nI_add i 3
      refine ⟨by omega, y_length hV hK1 ⟨fun z => absurd z (nI_ge (by omega) (by omega)), fun _ => ⟨fun z => absurd z (by decide), fun _ => ?_⟩⟩⟩
      refine ⟨by omega, x_told hV hK1 (show i < stn S by omega) (fun μ1 hK1 => ⟨by omega, x_told hV hK2 (show i < stn S by omega) (fun μ2 hK2 => ⟨fun z => absurd rfl z, fun _ => ?_⟩)⟩)⟩
      show wb_L_alike_125 x y kd post (k + 1) 1 (nI i + 3) μ1 μ2 (cz + 2)
      rw [e3]
      exact ih (i + 3) (cz + 2) μ1 μ2 (by omega) (by omega) (by omega) hK1 hK2
theorem al_41 (hkd : ∀ i j, i < 4 → j < 4 → kd i = kd j → i = j) (hV : VS S) (hp : ∀ μ1' μ2', KS kd x S μ1' → KS kd y S μ2' → post 1 μ1' μ2') : ∀ (k i cz : Nat) (μ1 μ2 : Mm), i + k = snt S → cz ≤ 10 * i → KS kd x S μ1 → KS kd y S μ2 → wb_L_alike_41 x y kd post (k + 1) 1 (nI i) μ1 μ2 cz := by
  have v1 := hV.v1
  have v6 := hV.v6
  have done : ∀ (cz : Nat) (μ1 μ2 : Mm), cz ≤ 160 → KS kd x S μ1 → KS kd y S μ2 → wb_L_alike_123 x y kd post 1 μ1 μ2 cz := fun cz μ1 μ2 hc hK1 hK2 => ⟨101, al_125 hV hp 100 0 cz μ1 μ2 (by omega) (by omega) (by omega) hK1 hK2⟩
  intro k
  induction k with
  | zero =>
    intro i cz μ1 μ2 hi hc hK1 hK2
    exact ⟨by omega, y_types hV hK1 ⟨fun _ => done cz _ _ (by omega) hK1 hK2, fun z => absurd (nI_le (by omega) (by omega)) z⟩⟩
  | succ k ih =>
    intro i cz μ1 μ2 hi hc hK1 hK2
    have ht : i < snt S := by omega
    have e1 : nI i + 1 = nI (i + 1) := (nI_succ i).symm
    have e4 : nI i - nI i / (4 : Int32) * (4 : Int32) = nI (i % 4) := pk_rem (d := 4) (by omega) (by omega) (by omega)
    refine ⟨by omega, y_types hV hK1 ⟨fun z => absurd z (nI_ge (by omega) (by omega)), fun _ => ⟨fun z => absurd z (by decide), fun _ => ?_⟩⟩⟩
    refine ⟨by omega, x_least hV hK1 ht (fun μ1 hK1 => ⟨by omega, x_least hV hK2 ht (fun μ2 hK2 => ⟨fun z => absurd rfl z, fun _ => ?_⟩)⟩)⟩
    refine ⟨by omega, x_most hV hK1 ht (fun μ1 hK1 => ⟨by omega, x_most hV hK2 ht (fun μ2 hK2 => ⟨fun z => absurd rfl z, fun _ => ?_⟩)⟩)⟩
    refine ⟨by omega, x_wrong hkd hV hK1 ht (fun μ1 hK1 => ⟨by omega, x_wrong hkd hV hK2 ht (fun μ2 hK2 => ⟨fun z => absurd rfl z, fun _ => ?_⟩)⟩)⟩
    rw [e4]
    refine ⟨by omega, x_fault hkd hV hK1 ht (show i % 4 ≤ 3 by omega) (fun μ1 hK1 => ⟨by omega, x_fault hkd hV hK2 ht (show i % 4 ≤ 3 by omega) (fun μ2 hK2 => ⟨fun z => absurd rfl z, fun _ => ?_⟩)⟩)⟩
    show wb_L_alike_41 x y kd post (k + 1) 1 (nI i + 1) μ1 μ2 (cz + 10)
    rw [e1]
    exact ih (i + 1) (cz + 10) μ1 μ2 (by omega) (by omega) hK1 hK2
theorem al_ok (hkd : ∀ i j, i < 4 → j < 4 → kd i = kd j → i = j) (hV : VS S) {μ1 μ2 : Mm} (hK1 : KS kd x S μ1) (hK2 : KS kd y S μ2) (hp : ∀ μ1' μ2', KS kd x S μ1' → KS kd y S μ2' → post 1 μ1' μ2') : wp_L_alike x y kd μ1 μ2 post := by
  have v1 := hV.v1
  refine ⟨by omega, y_types hV hK1 ⟨by omega, y_types hV hK2 ⟨fun z => absurd rfl z, fun _ => ?_⟩⟩⟩
  refine ⟨by omega, y_length hV hK1 ⟨by omega, y_length hV hK2 ⟨fun z => absurd rfl z, fun _ => ?_⟩⟩⟩
  refine ⟨by omega, y_bits hV hK1 ⟨by omega, y_bits hV hK2 ⟨fun z => absurd rfl z, fun _ => ?_⟩⟩⟩
  exact ⟨snt S + 1, al_41 hkd hV hp (snt S) 0 0 μ1 μ2 (by omega) (by omega) hK1 hK2⟩
end AL
