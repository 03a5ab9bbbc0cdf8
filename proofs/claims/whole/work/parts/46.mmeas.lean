/-! THE REFERENCE'S MEASURES -/
def mm (α : Nat → Nat → Int32) (t : Nat) (L H G : Int32) : Nat → Nat → Int32 := uA (uA (uA α 9 t L) 10 t H) 11 t G
theorem mm_9 {α : Nat → Nat → Int32} {t : Nat} {L H G : Int32} : mm α t L H G 9 t = L := by rw [mm, uA_a (by omega), uA_a (by omega), uA_s]
theorem mm_10 {α : Nat → Nat → Int32} {t : Nat} {L H G : Int32} : mm α t L H G 10 t = H := by rw [mm, uA_a (by omega), uA_s]
theorem mm_11 {α : Nat → Nat → Int32} {t : Nat} {L H G : Int32} : mm α t L H G 11 t = G := by rw [mm, uA_s]
theorem mm_j {α : Nat → Nat → Int32} {t a j : Nat} {L H G : Int32} (h : j ≠ t) : mm α t L H G a j = α a j := by rw [mm, uA_j h, uA_j h, uA_j h]
theorem mm_a {α : Nat → Nat → Int32} {t a : Nat} {L H G : Int32} (h1 : a ≠ 9) (h2 : a ≠ 10) (h3 : a ≠ 11) : mm α t L H G a = α a := by rw [mm, uA_a h3, uA_a h2, uA_a h1]
theorem mm_ext {α : Nat → Nat → Int32} {t : Nat} {L H G : Int32} {β : Nat → Nat → Int32} (h1 : ∀ a j, j ≠ t → β a j = α a j) (h2 : ∀ a, a ≠ 9 → a ≠ 10 → a ≠ 11 → β a = α a) (h3 : β 9 t = L) (h4 : β 10 t = H) (h5 : β 11 t = G) : β = mm α t L H G := by
  funext a j
  by_cases hj : j = t
  · subst hj
    by_cases e1 : a = 9
    · subst e1; rw [mm_9, h3]
    · by_cases e2 : a = 10
      · subst e2; rw [mm_10, h4]
      · by_cases e3 : a = 11
        · subst e3; rw [mm_11, h5]
        · rw [mm_a e1 e2 e3, h2 a e1 e2 e3]
  · rw [mm_j hj, h1 a j hj]
theorem mm_u9 {α : Nat → Nat → Int32} {t : Nat} {L H G x : Int32} : uA (mm α t L H G) 9 t x = mm α t x H G :=
  mm_ext (fun a j h => by rw [uA_j h, mm_j h]) (fun a h1 h2 h3 => by rw [uA_a h1, mm_a h1 h2 h3]) uA_s (by rw [uA_a (by omega), mm_10]) (by rw [uA_a (by omega), mm_11])
theorem mm_u10 {α : Nat → Nat → Int32} {t : Nat} {L H G x : Int32} : uA (mm α t L H G) 10 t x = mm α t L x G :=
  mm_ext (fun a j h => by rw [uA_j h, mm_j h]) (fun a h1 h2 h3 => by rw [uA_a h2, mm_a h1 h2 h3]) (by rw [uA_a (by omega), mm_9]) uA_s (by rw [uA_a (by omega), mm_11])
theorem mm_u11 {α : Nat → Nat → Int32} {t : Nat} {L H G x : Int32} : uA (mm α t L H G) 11 t x = mm α t L H x :=
  mm_ext (fun a j h => by rw [uA_j h, mm_j h]) (fun a h1 h2 h3 => by rw [uA_a h3, mm_a h1 h2 h3]) (by rw [uA_a (by omega), mm_9]) (by rw [uA_a (by omega), mm_10]) uA_s
theorem NMo.mm {N : NT} {nt : Nat} {α : Nat → Nat → Int32} (h : NMo N nt α) {t : Nat} {L H G : Int32} : NMo N nt (mm α t L H G) := h.cong (fun a ha => mm_a (by omega) (by omega) (by omega))
/-- sums of the machine -/
def fsum (g : Nat → Int32) : Nat → Nat → Int32 → Int32
  | 0, _, a => a
  | n + 1, k, a => fsum g n (k + 1) (a + g k)
theorem fsum_nI {g : Nat → Int32} {h : Nat → Nat} : ∀ n k a, (∀ i, k ≤ i → i < k + n → g i = nI (h i)) → fsum g n k (nI a) = nI (a + sumN h n k)
  | 0, k, a, _ => by simp [fsum, sumN]
  | n + 1, k, a, e => by
    rw [fsum, e k (Nat.le_refl _) (by omega), nI_add, fsum_nI n (k + 1) (a + h k) (fun i h1 h2 => e i (by omega) (by omega)), sumN, Nat.add_assoc]
section MM
variable {N : NT} {nt t : Nat} {σ : Nat → Int32} {α : Nat → Nat → Int32}
theorem mo_opt {post : Int32 → (Nat → Int32) → (Nat → Nat → Int32) → Prop} (hN : NWf N nt) (hM : NMo N nt α) (ht : t < nt) (hnt : nt ≤ 16) (hp : post (nI (sumN (nO N t) (nC N t) 0)) σ α) : wp_X7_optionals (nI t) σ α post := by
  have hi : vp_in (nI t) 16 := vp_in_nI (by omega) (by omega)
  have hwf := hN t ht
  obtain ⟨e2, e3, e4, e6, _⟩ := hM t ht
  have go : ∀ (j k s : Nat), k + j = nC N t → post (nI (s + sumN (nO N t) j k)) σ α → wb_X7_optionals_4 post (j + 1) (nI t) (nI s) (nI k) σ α := by
    intro j
    induction j with
    | zero =>
      intro k s hk h
      refine ⟨hi, fun _ => h, fun h2 => ?_⟩
      rw [nI_clamp (by omega), e6, q_le (by omega) (by omega)] at h2; omega
    | succ j ih =>
      intro k s hk h
      rw [sumN, ← Nat.add_assoc] at h
      refine ⟨hi, fun h2 => ?_, fun _ => m_isOpt hN hM ht hnt (by omega) (fun ho => ⟨fun h2 => absurd h2 (by decide), fun _ => ?_⟩) (fun ho => ⟨fun _ => ?_, fun h2 => absurd rfl h2⟩)⟩
      · rw [nI_clamp (by omega), e6, q_le (by omega) (by omega)] at h2; omega
      · show wb_X7_optionals_4 post (j + 1) (nI t) (nI s + nI 1) (nI k + 1) σ α
        rw [nI_add, ← nI_succ]
        rw [ho] at h
        exact ih (k + 1) (s + 1) (by omega) h
      · show wb_X7_optionals_4 post (j + 1) (nI t) (nI s + nI 0) (nI k + 1) σ α
        rw [nI_add, ← nI_succ]
        rw [ho] at h
        exact ih (k + 1) (s + 0) (by omega) h
  exact ⟨nC N t + 1, go (nC N t) 0 0 (by omega) (by rw [Nat.zero_add]; exact hp)⟩
def sL (N : NT) (α : Nat → Nat → Int32) (t k : Nat) : Int32 := if nO N t k = 1 then 0 else α 9 (nP N t k)
theorem mo_adds {post : (Nat → Int32) → (Nat → Nat → Int32) → Prop} (hN : NWf N nt) (hM : NMo N nt α) (ht : t < nt) (hnt : nt ≤ 16) : ∀ (i j : Nat) (L H G : Int32), j + i = nA N t → post σ (mm α t L (fsum (fun j => nI 8 + α 10 (nD N t j)) i j H) (fsum (fun j => α 11 (nD N t j)) i j G)) → wb_X7_measureSequence_137 post (i + 1) (nI t) (nI j) σ (mm α t L H G) := by
  have hi : vp_in (nI t) 16 := vp_in_nI (by omega) (by omega)
  have hwf := hN t ht
  intro i
  induction i with
  | zero =>
    intro j L H G hj hp
    obtain ⟨e2, e3, e4, e6, e8, _⟩ := (hM.mm (t := t) (L := L) (H := H) (G := G)) t ht
    refine ⟨hi, fun _ => hp, fun h => ?_⟩
    rw [nI_clamp (by omega), e8, q_le (by omega) (by omega)] at h; omega
  | succ i ih =>
    intro j L H G hj hp
    obtain ⟨e2, e3, e4, e6, e8, _, e7⟩ := (hM.mm (t := t) (L := L) (H := H) (G := G)) t ht
    have hD := hwf.2.2.2.2.1 j (by omega)
    have e3j : (3 : Int32) * nI t + nI j = nI (3 * t + j) := by rw [q_l3, pk_mul, nI_add]
    unfold wb_X7_measureSequence_137
    rw [nI_clamp (n := t) (by omega), e8, e3j, nI_clamp (n := 3 * t + j) (by omega), e7 j (by omega), nI_clamp (n := nD N t j) (by omega)]
    refine ⟨hi, fun h => ?_, fun _ => ⟨hi, vp_in_nI (by omega) (by omega), vp_in_nI (by omega) (by omega), hi, fun α38 e => ?_⟩⟩
    · rw [q_le (by omega) (by omega)] at h; omega
    · have e' : α38 = mm α t L (H + (nI 8 + α 10 (nD N t j))) G := by
        rw [e, mm_10, mm_j (by omega)]; exact mm_u10
      clear e; subst e'
      have e7' : (mm α t L (H + (nI 8 + α 10 (nD N t j))) G) 7 (3 * t + j) = nI (nD N t j) := by rw [mm_a (by omega) (by omega) (by omega)]; exact (hM t ht).2.2.2.2.2.2 j (by omega)
      rw [e7', nI_clamp (n := nD N t j) (by omega)]
      refine ⟨hi, vp_in_nI (by omega) (by omega), vp_in_nI (by omega) (by omega), hi, fun α44 e => ?_⟩
      have e' : α44 = mm α t L (H + (nI 8 + α 10 (nD N t j))) (G + α 11 (nD N t j)) := by
        rw [e, mm_11, mm_j (by omega)]; exact mm_u11
      clear e; subst e'
      rw [← nI_succ]
      exact ih (j + 1) _ _ _ (by omega) hp
theorem mo_parts {post : (Nat → Int32) → (Nat → Nat → Int32) → Prop} (hN : NWf N nt) (hM : NMo N nt α) (ht : t < nt) (hnt : nt ≤ 16) : ∀ (i k : Nat) (L H G : Int32), k + i = nC N t → post σ (mm α t (fsum (sL N α t) i k L) (fsum (fun j => nI 8 + α 10 (nD N t j)) (nA N t) 0 (fsum (fun k => α 10 (nP N t k)) i k H)) (fsum (fun j => α 11 (nD N t j)) (nA N t) 0 (fsum (fun k => α 11 (nP N t k)) i k G))) → wb_X7_measureSequence_50 post (i + 1) (nI t) (nI k) σ (mm α t L H G) := by
  have hi : vp_in (nI t) 16 := vp_in_nI (by omega) (by omega)
  have hwf := hN t ht
  intro i
  induction i with
  | zero =>
    intro k L H G hk hp
    obtain ⟨e2, e3, e4, e6, e8, _⟩ := (hM.mm (t := t) (L := L) (H := H) (G := G)) t ht
    refine ⟨hi, fun _ => ⟨nA N t + 1, mo_adds hN hM ht hnt (nA N t) 0 _ _ _ (by omega) hp⟩, fun h => ?_⟩
    rw [nI_clamp (by omega), e6, q_le (by omega) (by omega)] at h; omega
  | succ i ih =>
    intro k L H G hk hp
    have hM1 : NMo N nt (mm α t L H G) := hM.mm
    obtain ⟨e2, e3, e4, e6, e8, _⟩ := hM1 t ht
    have hP := hwf.2.2.2.1 k (by omega)
    have h95 : ∀ x : Int32, x = sL N α t k → wb_X7_measureSequence_95 post (wb_X7_measureSequence_50 post (i + 1)) (nI t) (nI k) (nI (nP N t k)) x ((mm α t L H G) 9 (nI t).toNatClampNeg) (nI t) σ (mm α t L H G) := by
      intro x ex
      unfold wb_X7_measureSequence_95
      rw [nI_clamp (n := t) (by omega), nI_clamp (n := nP N t k) (by omega), mm_9, ex]
      refine ⟨hi, fun α47 e => ?_⟩
      have e' : α47 = mm α t (L + sL N α t k) H G := by rw [e]; exact mm_u9
      clear e; subst e'
      refine ⟨hi, vp_in_nI (by omega) (by omega), hi, fun α52 e => ?_⟩
      have e' : α52 = mm α t (L + sL N α t k) (H + α 10 (nP N t k)) G := by rw [e, mm_10, mm_j (by omega)]; exact mm_u10
      clear e; subst e'
      refine ⟨hi, vp_in_nI (by omega) (by omega), hi, fun α57 e => ?_⟩
      have e' : α57 = mm α t (L + sL N α t k) (H + α 10 (nP N t k)) (G + α 11 (nP N t k)) := by rw [e, mm_11, mm_j (by omega)]; exact mm_u11
      clear e; subst e'
      rw [← nI_succ]
      exact ih (k + 1) _ _ _ (by omega) hp
    refine ⟨hi, fun h => ?_, fun _ => m_partOf hN hM1 ht hnt (by omega) ⟨hi, m_isOpt hN hM1 ht hnt (by omega) (fun ho => ⟨fun h => absurd h (by decide), fun _ => ?_⟩) (fun ho => ⟨fun _ => ⟨vp_in_nI (by omega) (by omega), ?_⟩, fun h => absurd rfl h⟩)⟩⟩
    · rw [nI_clamp (by omega), e6, q_le (by omega) (by omega)] at h; omega
    · exact h95 0 (by unfold sL; rw [if_pos ho])
    · refine h95 _ ?_
      rw [nI_clamp (n := nP N t k) (by omega), mm_j (by omega)]
      unfold sL; rw [if_neg (by omega)]
end MM
