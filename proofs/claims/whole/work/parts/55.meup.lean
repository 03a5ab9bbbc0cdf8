/-! MEASURES recomputed -/
theorem sumN_le2 (g h : Nat → Nat) : ∀ n k, (∀ i, k ≤ i → i < k + n → g i ≤ h i) → sumN g n k ≤ sumN h n k
  | 0, k, _ => Nat.le_refl _
  | n + 1, k, e => by
    have h1 := e k (Nat.le_refl _) (by omega)
    have h2 := sumN_le2 g h n (k + 1) (fun i h3 h4 => e i (by omega) (by omega))
    rw [sumN, sumN]; omega
theorem minL_le (g : Nat → Nat) : ∀ n k a, minL g n k a ≤ a ∧ ∀ i, k ≤ i → i < k + n → minL g n k a ≤ g i
  | 0, k, a => ⟨Nat.le_refl _, fun i h1 h2 => by omega⟩
  | n + 1, k, a => by
    obtain ⟨h1, h2⟩ := minL_le g n (k + 1) (if g k < a then g k else a)
    rw [minL]
    have h3 : (if g k < a then g k else a) ≤ a ∧ (if g k < a then g k else a) ≤ g k := by split <;> omega
    refine ⟨by omega, fun i h4 h5 => ?_⟩
    by_cases e : i = k
    · subst e; omega
    · exact h2 i (by omega) (by omega)
def NFM (N : NT) (n : Nat) : Prop := ∀ s, s < n → nF N s ≤ nM N s
theorem me_fm {N : NT} {nt t : Nat} (hN : NWf N nt) (ht : t < nt) (hF : NFM N t) : meF N t ≤ meM N t := by
  have hwf := hN t ht
  have hP : ∀ k, k < nC N t → nP N t k < t := fun k hk => (hwf.2.2.2.1 k hk).1
  unfold meF meM
  by_cases h2 : nK N t = 2
  · rw [h2]
    have s1 := sumN_le2 (fun k => if nO N t k = 1 then 1 else nF N (nP N t k)) (fun k => nO N t k + nM N (nP N t k)) (nC N t) 0 (fun i _ hi => by
      have h1 := hF _ (hP i (by omega))
      by_cases ho : nO N t i = 1
      · simp only [if_pos ho]; omega
      · simp only [if_neg ho]; omega)
    simp only []
    omega
  · by_cases h3 : nK N t = 3
    · obtain ⟨_, _, hC⟩ := hwf.2.2.2.2.2.2.2.2 h3
      rw [h3]
      have s1 := (minL_le (fun k => nF N (nP N t k)) (nC N t) 0 240).2 0 (by omega) (by omega)
      have s2 := (maxL_ge (fun k => nM N (nP N t k)) (nC N t) 0 0).2 0 (by omega) (by omega)
      have s3 := hF _ (hP 0 (by omega))
      simp only [] at s1 s2 ⊢
      omega
    · by_cases h1 : nK N t = 1
      · obtain ⟨hC, a, b, ea, eb, hab, hb⟩ := hwf.2.2.2.2.2.2.1 h1
        rw [h1]
        simp only []
        rw [ea, eb, nI_clamp (by omega), nI_clamp (by omega)]
        have s1 : a * nF N (nP N t 0) ≤ b * nM N (nP N t 0) := Nat.mul_le_mul hab (hF _ (hP 0 (by omega)))
        omega
      · have h0 : nK N t = 0 := by omega
        rw [h0]; exact Nat.le_refl _
