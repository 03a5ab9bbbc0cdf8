/-! MEASURES -/
/-- what the measures of a type are, by those of its parts -/
def minL (g : Nat → Nat) : Nat → Nat → Nat → Nat
  | 0, _, a => a
  | n + 1, k, a => minL g n (k + 1) (if g k < a then g k else a)
def maxL (g : Nat → Nat) : Nat → Nat → Nat → Nat
  | 0, _, a => a
  | n + 1, k, a => maxL g n (k + 1) (if a < g k then g k else a)
def meF (N : NT) (t : Nat) : Nat := match nK N t with
  | 0 => nW N t
  | 1 => nW N t + (nlo N t).toNatClampNeg * nF N (nP N t 0)
  | 2 => 1 + sumN (fun k => if nO N t k = 1 then 1 else nF N (nP N t k)) (nC N t) 0
  | _ => nW N t + minL (fun k => nF N (nP N t k)) (nC N t) 0 240
def meM (N : NT) (t : Nat) : Nat := match nK N t with
  | 0 => nW N t
  | 1 => nW N t + (nhi N t).toNatClampNeg * nM N (nP N t 0)
  | 2 => 1 + sumN (fun k => nO N t k + nM N (nP N t k)) (nC N t) 0 + (if nA N t = 0 then 0 else 2) + sumN (fun j => 8 + nM N (nD N t j)) (nA N t) 0
  | _ => nW N t + maxL (fun k => nM N (nP N t k)) (nC N t) 0 0
def meL (N : NT) (t : Nat) : Nat := match nK N t with
  | 0 => 1
  | 1 => 1 + (nhi N t).toNatClampNeg * nL N (nP N t 0)
  | 2 => 1 + sumN (fun k => nO N t k + nL N (nP N t k)) (nC N t) 0 + sumN (fun j => nL N (nD N t j)) (nA N t) 0
  | _ => 1 + maxL (fun k => nL N (nP N t k)) (nC N t) 0 0
theorem maxL_ge (g : Nat → Nat) : ∀ n k a, a ≤ maxL g n k a ∧ ∀ i, k ≤ i → i < k + n → g i ≤ maxL g n k a
  | 0, k, a => ⟨Nat.le_refl _, fun i h1 h2 => by omega⟩
  | n + 1, k, a => by
    obtain ⟨h1, h2⟩ := maxL_ge g n (k + 1) (if a < g k then g k else a)
    rw [maxL]
    have h3 : a ≤ (if a < g k then g k else a) ∧ g k ≤ (if a < g k then g k else a) := by split <;> omega
    refine ⟨by omega, fun i h4 h5 => ?_⟩
    by_cases e : i = k
    · subst e; omega
    · exact h2 i (by omega) (by omega)
theorem sumN_le (g : Nat → Nat) (c : Nat) : ∀ n k, (∀ i, k ≤ i → i < k + n → g i ≤ c) → sumN g n k ≤ n * c
  | 0, k, _ => by simp [sumN]
  | n + 1, k, h => by
    have h1 := h k (Nat.le_refl _) (by omega)
    have h2 := sumN_le g c n (k + 1) (fun i h3 h4 => h i (by omega) (by omega))
    rw [sumN, Nat.succ_mul]; omega
theorem maxL_le (g : Nat → Nat) (c : Nat) : ∀ n k a, a ≤ c → (∀ i, k ≤ i → i < k + n → g i ≤ c) → maxL g n k a ≤ c
  | 0, k, a, h, _ => h
  | n + 1, k, a, h, hg => by
    rw [maxL]
    exact maxL_le g c n (k + 1) _ (by have := hg k (Nat.le_refl _) (by omega); split <;> omega) (fun i h1 h2 => hg i (by omega) (by omega))
/-- the parts' measures are in bounds -/
def NBd (N : NT) (nt : Nat) : Prop := ∀ t, t < nt → nF N t ≤ 240 ∧ nM N t ≤ 240 ∧ nL N t ≤ 240
/-- all measures are as the parts' say -/
def NMe (N : NT) (nt : Nat) : Prop := ∀ t, t < nt → nF N t = meF N t ∧ nM N t = meM N t ∧ nL N t = meL N t
theorem NMe.mw {N : NT} {nt : Nat} (hB : NBd N nt) (h : NMe N nt) : NMw N nt := by
  intro t ht
  obtain ⟨h1, h2, h3⟩ := h t ht
  rw [h2]
  have hb := (hB t ht).2.1
  rw [h2] at hb
  refine ⟨fun hk => ?_, fun hk b eb hb8 => ?_, fun hk => ?_, fun hk j hj => ?_, hb⟩
  · unfold meM; rw [hk]; exact Nat.le_refl _
  · unfold meM; rw [hk]
    exact Nat.le_of_eq (by rw [eb, nI_clamp (by omega)]; rfl)
  · have e := sumN_add (nO N t) (fun k => nM N (nP N t k)) (nC N t) 0
    unfold meM; rw [hk]
    simp only [] at e ⊢
    omega
  · unfold meM; rw [hk]
    simp only []
    have := (maxL_ge (fun k => nM N (nP N t k)) (nC N t) 0 0).2 j (by omega) (by omega)
    omega
theorem NMe.lw {N : NT} {nt : Nat} (hB : NBd N nt) (h : NMe N nt) : NLw N nt := by
  intro t ht
  obtain ⟨h1, h2, h3⟩ := h t ht
  rw [h3]
  have hb := (hB t ht).2.2
  rw [h3] at hb
  refine ⟨fun hk => ?_, fun hk b eb hb8 => ?_, fun hk => ?_, fun hk j hj => ?_, hb⟩
  · unfold meL; rw [hk]; exact Nat.le_refl _
  · unfold meL; rw [hk]
    exact Nat.le_of_eq (by rw [eb, nI_clamp (by omega)]; rfl)
  · have e := sumN_add (nO N t) (fun k => nL N (nP N t k)) (nC N t) 0
    unfold meL; rw [hk]
    simp only [] at e ⊢
    omega
  · unfold meL; rw [hk]
    simp only []
    have := (maxL_ge (fun k => nL N (nP N t k)) (nC N t) 0 0).2 j (by omega) (by omega)
    omega
