/-! THE REFERENCE'S MEASURES: choices, and all -/
def fmn (g : Nat → Int32) : Nat → Nat → Int32 → Int32
  | 0, _, a => a
  | n + 1, k, a => fmn g n (k + 1) (if a ≤ g k then a else g k)
def fmx (g : Nat → Int32) : Nat → Nat → Int32 → Int32
  | 0, _, a => a
  | n + 1, k, a => fmx g n (k + 1) (if g k ≤ a then a else g k)
theorem fmn_nI {g : Nat → Int32} {h : Nat → Nat} : ∀ n k a, a < 2 ^ 20 → (∀ i, k ≤ i → i < k + n → g i = nI (h i) ∧ h i < 2 ^ 20) → fmn g n k (nI a) = nI (minL h n k a)
  | 0, k, a, _, _ => rfl
  | n + 1, k, a, ha, e => by
    obtain ⟨e1, e2⟩ := e k (Nat.le_refl _) (by omega)
    rw [fmn, minL, e1]
    by_cases hc : a ≤ h k
    · rw [if_pos (by rw [q_le (by omega) (by omega)]; exact hc), if_neg (by omega)]
      exact fmn_nI n (k + 1) a ha (fun i h1 h2 => e i (by omega) (by omega))
    · rw [if_neg (by rw [q_le (by omega) (by omega)]; exact hc), if_pos (by omega)]
      exact fmn_nI n (k + 1) _ e2 (fun i h1 h2 => e i (by omega) (by omega))
theorem fmx_nI {g : Nat → Int32} {h : Nat → Nat} : ∀ n k a, a < 2 ^ 20 → (∀ i, k ≤ i → i < k + n → g i = nI (h i) ∧ h i < 2 ^ 20) → fmx g n k (nI a) = nI (maxL h n k a)
  | 0, k, a, _, _ => rfl
  | n + 1, k, a, ha, e => by
    obtain ⟨e1, e2⟩ := e k (Nat.le_refl _) (by omega)
    rw [fmx, maxL, e1]
    by_cases hc : h k ≤ a
    · rw [if_pos (by rw [q_le (by omega) (by omega)]; exact hc), if_neg (by omega)]
      exact fmx_nI n (k + 1) a ha (fun i h1 h2 => e i (by omega) (by omega))
    · rw [if_neg (by rw [q_le (by omega) (by omega)]; exact hc), if_pos (by omega)]
      exact fmx_nI n (k + 1) _ e2 (fun i h1 h2 => e i (by omega) (by omega))
section MN
variable {N : NT} {nt t : Nat} {σ : Nat → Int32} {α : Nat → Nat → Int32}
def iL (N : NT) (α : Nat → Nat → Int32) (t : Nat) : Int32 := if nK N t = 2 then fsum (sL N α t) (nC N t) 0 (nI 1 + nI (sumN (nO N t) (nC N t) 0)) else if nK N t = 3 then nI (nW N t) + fmn (fun k => α 9 (nP N t k)) (nC N t) 0 (nI 241) else if nK N t = 1 then nI (nW N t) + nlo N t * α 9 (nP N t 0) else nI (nW N t) + nI 0
def iH (N : NT) (α : Nat → Nat → Int32) (t : Nat) : Int32 := if nK N t = 2 then fsum (fun j => nI 8 + α 10 (nD N t j)) (nA N t) 0 (fsum (fun k => α 10 (nP N t k)) (nC N t) 0 (nI 1 + nI (sumN (nO N t) (nC N t) 0) + nI (if nA N t = 0 then 0 else 2))) else if nK N t = 3 then nI (nW N t) + fmx (fun k => α 10 (nP N t k)) (nC N t) 0 (nI 0) else if nK N t = 1 then nI (nW N t) + nhi N t * α 10 (nP N t 0) else nI (nW N t) + nI 0
def iG (N : NT) (α : Nat → Nat → Int32) (t : Nat) : Int32 := if nK N t = 2 then fsum (fun j => α 11 (nD N t j)) (nA N t) 0 (fsum (fun k => α 11 (nP N t k)) (nC N t) 0 (nI 1 + nI (sumN (nO N t) (nC N t) 0))) else if nK N t = 3 then nI 1 + fmx (fun k => α 11 (nP N t k)) (nC N t) 0 (nI 0) else if nK N t = 1 then nI 1 + nhi N t * α 11 (nP N t 0) else nI 1 + nI 0
theorem mo_choice {post : (Nat → Int32) → (Nat → Nat → Int32) → Prop} (hN : NWf N nt) (hM : NMo N nt α) (ht : t < nt) (hnt : nt ≤ 16) : ∀ (i k : Nat) (x y z : Int32), k + i = nC N t → post σ (mm α t (nI (nW N t) + fmn (fun k => α 9 (nP N t k)) i k x) (nI (nW N t) + fmx (fun k => α 10 (nP N t k)) i k y) (nI 1 + fmx (fun k => α 11 (nP N t k)) i k z)) → wb_X7_measureChoice_12 post (i + 1) (nI t) x y z (nI k) σ α := by
  have hi : vp_in (nI t) 16 := vp_in_nI (by omega) (by omega)
  have hwf := hN t ht
  obtain ⟨e2, e3, e4, e6, e8, _⟩ := hM t ht
  intro i
  induction i with
  | zero =>
    intro k x y z hk hp
    refine ⟨hi, fun _ => m_widthOf hN hM ht hnt ⟨hi, fun α7 e => ?_⟩, fun h => ?_⟩
    · have e' : α7 = uA α 9 t (nI (nW N t) + x) := by rw [e, nI_clamp (n := t) (by omega)]; rfl
      clear e; subst e'
      refine m_widthOf hN (hM.uA (by omega)) ht hnt ⟨hi, fun α13 e => ?_⟩
      have e' : α13 = uA (uA α 9 t (nI (nW N t) + x)) 10 t (nI (nW N t) + y) := by rw [e, nI_clamp (n := t) (by omega)]; rfl
      clear e; subst e'
      refine ⟨hi, fun α16 e => ?_⟩
      have e' : α16 = mm α t (nI (nW N t) + x) (nI (nW N t) + y) (nI 1 + z) := by rw [e, nI_clamp (n := t) (by omega)]; rfl
      clear e; subst e'
      exact hp
    · rw [nI_clamp (by omega), e6, q_le (by omega) (by omega)] at h; omega
  | succ i ih =>
    intro k x y z hk hp
    have hP := hwf.2.2.2.1 k (by omega)
    have hPi : vp_in (nI (nP N t k)) 16 := vp_in_nI (by omega) (by omega)
    rw [fmn, fmx, fmx] at hp
    have c1 : ∀ x' y' z' : Int32, x' = (if x ≤ α 9 (nP N t k) then x else α 9 (nP N t k)) → y' = (if α 10 (nP N t k) ≤ y then y else α 10 (nP N t k)) → z' = (if α 11 (nP N t k) ≤ z then z else α 11 (nP N t k)) → wb_X7_measureChoice_102 post (wb_X7_measureChoice_12 post (i + 1)) (nI t) x' y' (nI k) z' σ α := by
      intro x' y' z' ex ey ez
      subst ex ey ez
      show wb_X7_measureChoice_12 post (i + 1) (nI t) _ _ _ (nI k + 1) σ α
      rw [← nI_succ]
      exact ih (k + 1) _ _ _ (by omega) hp
    have c2 : ∀ x' y' : Int32, x' = (if x ≤ α 9 (nP N t k) then x else α 9 (nP N t k)) → y' = (if α 10 (nP N t k) ≤ y then y else α 10 (nP N t k)) → wb_X7_measureChoice_77 post (wb_X7_measureChoice_12 post (i + 1)) (nI t) x' z (nI k) (nI (nP N t k)) y' σ α := by
      intro x' y' ex ey
      unfold wb_X7_measureChoice_77
      rw [nI_clamp (n := nP N t k) (by omega)]
      exact ⟨hPi, fun h => c1 x' y' z ex ey (by rw [if_pos h]), fun h => ⟨hPi, c1 x' y' _ ex ey (by rw [if_neg h])⟩⟩
    have c3 : ∀ x' : Int32, x' = (if x ≤ α 9 (nP N t k) then x else α 9 (nP N t k)) → wb_X7_measureChoice_54 post (wb_X7_measureChoice_12 post (i + 1)) (nI t) y z (nI k) (nI (nP N t k)) x' σ α := by
      intro x' ex
      unfold wb_X7_measureChoice_54
      rw [nI_clamp (n := nP N t k) (by omega)]
      exact ⟨hPi, fun h => c2 x' y ex (by rw [if_pos h]), fun h => ⟨hPi, c2 x' _ ex (by rw [if_neg h])⟩⟩
    refine ⟨hi, fun h => ?_, fun _ => m_partOf hN hM ht hnt (by omega) ?_⟩
    · rw [nI_clamp (by omega), e6, q_le (by omega) (by omega)] at h; omega
    · rw [nI_clamp (n := nP N t k) (by omega)]
      exact ⟨hPi, fun h => c3 x (by rw [if_pos h]), fun h => ⟨hPi, c3 _ (by rw [if_neg h])⟩⟩
theorem m_meas {post : Int32 → (Nat → Int32) → (Nat → Nat → Int32) → Prop} (hN : NWf N nt) (hM : NMo N nt α) (ht : t < nt) (hnt : nt ≤ 16) (hp : post (if (240 : Int32) < iH N α t ∨ (240 : Int32) < iG N α t then 0 else 1) σ (mm α t (iL N α t) (iH N α t) (iG N α t))) : wp_X7_measure (nI t) σ α post := by
  have hi : vp_in (nI t) 16 := vp_in_nI (by omega) (by omega)
  have hwf := hN t ht
  obtain ⟨e2, e3, e4, e6, e8, _⟩ := hM t ht
  have f154 : wb_X7_measure_154 post (nI t) σ (mm α t (iL N α t) (iH N α t) (iG N α t)) := by
    unfold wb_X7_measure_154
    rw [nI_clamp (n := t) (by omega), mm_10, mm_11]
    refine ⟨hi, fun h => ?_, fun h => ⟨hi, fun h2 => ?_, fun h2 => ?_⟩⟩
    · rwa [if_pos (Or.inl h)] at hp
    · rwa [if_pos (Or.inr h2)] at hp
    · rwa [if_neg (fun h3 => h3.elim h h2)] at hp
  unfold wp_X7_measure
  rw [nI_clamp (n := t) (by omega), e2]
  by_cases hk2 : nK N t = 2
  · rw [hk2]
    refine ⟨hi, fun h => absurd rfl h, fun _ => mo_opt hN hM ht hnt ⟨hi, fun α5 e => ⟨hi, ?_⟩⟩⟩
    have e' : α5 = uA α 9 t (nI 1 + nI (sumN (nO N t) (nC N t) 0)) := by rw [e, nI_clamp (n := t) (by omega)]; rfl
    clear e; subst e'
    rw [nI_clamp (n := t) (by omega), uA_a (a := 8) (by omega), e8]
    have go : ∀ s0 : Int32, s0 = nI (if nA N t = 0 then 0 else 2) → wb_X7_measureSequence_37 (fun σ13 α14 => wb_X7_measure_154 post (nI t) σ13 α14) (nI t) (nI (sumN (nO N t) (nC N t) 0)) s0 (nI 1 + nI (sumN (nO N t) (nC N t) 0)) (nI t) σ (uA α 9 t (nI 1 + nI (sumN (nO N t) (nC N t) 0))) := by
      intro s0 es
      refine ⟨hi, fun α12 e => ?_⟩
      have e' : α12 = uA (uA α 9 t (nI 1 + nI (sumN (nO N t) (nC N t) 0))) 10 t (nI 1 + nI (sumN (nO N t) (nC N t) 0) + nI (if nA N t = 0 then 0 else 2)) := by rw [e, nI_clamp (n := t) (by omega), es]; rfl
      clear e; subst e'
      refine ⟨hi, fun α15 e => ⟨nC N t + 1, ?_⟩⟩
      have e' : α15 = mm α t (nI 1 + nI (sumN (nO N t) (nC N t) 0)) (nI 1 + nI (sumN (nO N t) (nC N t) 0) + nI (if nA N t = 0 then 0 else 2)) (nI 1 + nI (sumN (nO N t) (nC N t) 0)) := by rw [e, nI_clamp (n := t) (by omega)]; rfl
      clear e; subst e'
      refine mo_parts hN hM ht hnt (nC N t) 0 _ _ _ (by omega) ?_
      unfold iL iH iG at f154
      rw [if_pos hk2, if_pos hk2, if_pos hk2] at f154
      exact f154
    refine ⟨fun h => go _ ?_, fun h => go _ ?_⟩
    · rw [show (0 : Int32) = nI 0 from rfl, q_le (by omega) (by omega)] at h
      rw [if_pos (by omega)]; rfl
    · rw [show (0 : Int32) = nI 0 from rfl, q_le (by omega) (by omega)] at h
      rw [if_neg (by omega)]; rfl
  · by_cases hk3 : nK N t = 3
    · rw [hk3]
      refine ⟨hi, fun _ => ⟨hi, fun h => absurd rfl h, fun _ => ⟨nC N t + 1, mo_choice hN hM ht hnt (nC N t) 0 _ _ _ (by omega) ?_⟩⟩, fun h => absurd h (by decide)⟩
      unfold iL iH iG at f154
      rw [if_neg hk2, if_pos hk3, if_neg hk2, if_pos hk3, if_neg hk2, if_pos hk3] at f154
      exact f154
    · have f51 : ∀ x : Int32, (x = 0 → nK N t ≠ 1) → (x ≠ 0 → nK N t = 1) → wb_X7_measure_51 post (nI t) x σ α := by
        intro x hx0 hx1
        unfold iL iH iG at f154
        rw [if_neg hk2, if_neg hk3, if_neg hk2, if_neg hk3, if_neg hk2, if_neg hk3] at f154
        have h6 : (6 : Int32) * nI t + (0 : Int32) = nI (6 * t) := by rw [q_l6, pk_mul, show (0 : Int32) = nI 0 from rfl, nI_add, Nat.add_zero]
        by_cases hk1 : nK N t = 1
        · rw [if_pos hk1, if_pos hk1, if_pos hk1] at f154
          obtain ⟨hC1, _⟩ := hwf.2.2.2.2.2.2.1 hk1
          have hP := hwf.2.2.2.1 0 (by omega)
          have hPi : vp_in (nI (nP N t 0)) 16 := vp_in_nI (by omega) (by omega)
          have hx : x ≠ 0 := fun h => hx0 h hk1
          refine m_partOf (k := 0) hN hM ht hnt (by omega) (m_widthOf hN hM ht hnt ⟨fun h => absurd h hx, fun _ => ⟨hi, hPi, ?_⟩⟩)
          rw [nI_clamp (n := t) (by omega), nI_clamp (n := nP N t 0) (by omega), e3]
          refine ⟨hi, fun α35 e => ?_⟩
          have e' : α35 = uA α 9 t (nI (nW N t) + nlo N t * α 9 (nP N t 0)) := by rw [e, nI_clamp (n := t) (by omega)]; rfl
          clear e; subst e'
          refine m_widthOf hN (hM.uA (by omega)) ht hnt ⟨fun h => absurd h hx, fun _ => ⟨hi, hPi, ?_⟩⟩
          rw [nI_clamp (n := t) (by omega), nI_clamp (n := nP N t 0) (by omega), uA_a (a := 4) (by omega), uA_a (a := 10) (by omega), e4 (by omega)]
          refine ⟨hi, fun α46 e => ⟨fun h => absurd h hx, fun _ => ⟨hi, hPi, ?_⟩⟩⟩
          have e' : α46 = uA (uA α 9 t (nI (nW N t) + nlo N t * α 9 (nP N t 0))) 10 t (nI (nW N t) + nhi N t * α 10 (nP N t 0)) := by rw [e, nI_clamp (n := t) (by omega)]; rfl
          clear e; subst e'
          rw [nI_clamp (n := t) (by omega), nI_clamp (n := nP N t 0) (by omega), uA_a (a := 4) (by omega), uA_a (a := 4) (by omega), uA_a (a := 11) (by omega), uA_a (a := 11) (by omega), e4 (by omega)]
          refine ⟨hi, fun α52 e => ?_⟩
          have e' : α52 = mm α t (nI (nW N t) + nlo N t * α 9 (nP N t 0)) (nI (nW N t) + nhi N t * α 10 (nP N t 0)) (nI 1 + nhi N t * α 11 (nP N t 0)) := by rw [e, nI_clamp (n := t) (by omega)]; rfl
          clear e; subst e'
          exact f154
        · rw [if_neg hk1, if_neg hk1, if_neg hk1] at f154
          have hx : x = 0 := Classical.byContradiction fun h => hk1 (hx1 h)
          unfold wb_X7_measure_51 wp_X7_partOf
          rw [h6]
          refine ⟨vp_in_nI (by omega) (by omega), m_widthOf hN hM ht hnt ⟨fun _ => ⟨hi, fun α35 e => ?_⟩, fun h => absurd hx h⟩⟩
          have e' : α35 = uA α 9 t (nI (nW N t) + nI 0) := by rw [e, nI_clamp (n := t) (by omega)]; rfl
          clear e; subst e'
          refine m_widthOf hN (hM.uA (by omega)) ht hnt ⟨fun _ => ⟨hi, fun α46 e => ⟨fun _ => ⟨hi, fun α52 e2 => ?_⟩, fun h => absurd hx h⟩⟩, fun h => absurd hx h⟩
          have e' : α46 = uA (uA α 9 t (nI (nW N t) + nI 0)) 10 t (nI (nW N t) + nI 0) := by rw [e, nI_clamp (n := t) (by omega)]; rfl
          clear e; subst e'
          have e' : α52 = mm α t (nI (nW N t) + nI 0) (nI (nW N t) + nI 0) (nI 1 + nI 0) := by rw [e2, nI_clamp (n := t) (by omega)]; rfl
          clear e2; subst e'
          exact f154
      rw [q_l2, q_l3, q_l1, q_eq (by omega) (by omega), q_eq (by omega) (by omega), q_eq (by omega) (by omega)]
      refine ⟨hi, fun _ => ⟨hi, fun _ => ⟨hi, fun h1 => f51 0 (fun _ => h1) (fun h => absurd rfl h), fun h1 => f51 1 (fun h => absurd h (by decide)) (fun _ => h1)⟩, fun h => absurd h hk3⟩, fun h => absurd h hk2⟩
end MN
