/-! THE REFERENCE'S MEASURES: exact where the parts' are -/
def MEx (N : NT) (n : Nat) (α : Nat → Nat → Int32) : Prop := ∀ s, s < n → α 9 s = nI (nF N s) ∧ α 10 s = nI (nM N s) ∧ α 11 s = nI (nL N s)
theorem minL_start (g : Nat → Nat) (n k : Nat) (hn : 0 < n) (hg : g k ≤ 240) : minL g n k 241 = minL g n k 240 := by
  obtain ⟨n, rfl⟩ : ∃ e, n = e + 1 := ⟨n - 1, by omega⟩
  rw [minL, minL]
  by_cases h : g k < 240
  · rw [if_pos (by omega), if_pos h]
  · rw [if_pos (by omega), if_neg h]; congr 1; omega
section ME
variable {N : NT} {nt t : Nat} {α : Nat → Nat → Int32}
theorem iL_ex (hN : NWf N nt) (ht : t < nt) (hB : NBd N t) (hE : MEx N t α) : iL N α t = nI (meF N t) := by
  have hwf := hN t ht
  have hP : ∀ k, k < nC N t → nP N t k < t := fun k hk => (hwf.2.2.2.1 k hk).1
  unfold iL meF
  by_cases h2 : nK N t = 2
  · rw [if_pos h2, h2, nI_add]
    rw [fsum_nI (h := fun k => if nO N t k = 1 then 0 else nF N (nP N t k)) (nC N t) 0 _ (fun i _ hi => by
      unfold sL
      by_cases ho : nO N t i = 1
      · rw [if_pos ho]; simp only [if_pos ho]; rfl
      · rw [if_neg ho]; simp only [if_neg ho]; exact (hE _ (hP i (by omega))).1)]
    have e1 := sumN_add (nO N t) (fun k => if nO N t k = 1 then 0 else nF N (nP N t k)) (nC N t) 0
    have e2 := sumN_cong (fun i => nO N t i + if nO N t i = 1 then 0 else nF N (nP N t i)) (fun k => if nO N t k = 1 then 1 else nF N (nP N t k)) (nC N t) 0 (fun i _ hi => by
      have := (hwf.2.2.2.1 i (by omega)).2
      by_cases ho : nO N t i = 1
      · simp only [if_pos ho]; omega
      · simp only [if_neg ho]; omega)
    simp only [] at e1 e2 ⊢
    rw [e2] at e1
    congr 1; omega
  · by_cases h3 : nK N t = 3
    · obtain ⟨_, _, hC⟩ := hwf.2.2.2.2.2.2.2.2 h3
      rw [if_neg h2, if_pos h3, h3]
      rw [fmn_nI (h := fun k => nF N (nP N t k)) (nC N t) 0 241 (by omega) (fun i _ hi => ⟨(hE _ (hP i (by omega))).1, by have := (hB _ (hP i (by omega))).1; omega⟩)]
      rw [minL_start (fun k => nF N (nP N t k)) (nC N t) 0 (by omega) (hB _ (hP 0 (by omega))).1, nI_add]; rfl
    · by_cases h1 : nK N t = 1
      · obtain ⟨hC, a, b, ea, eb, hab, hb⟩ := hwf.2.2.2.2.2.2.1 h1
        rw [if_neg h2, if_neg h3, if_pos h1, h1, (hE _ (hP 0 (by omega))).1, ea, pk_mul, nI_add, nI_clamp (by omega)]; rfl
      · have h0 : nK N t = 0 := by omega
        rw [if_neg h2, if_neg h3, if_neg h1, h0, nI_add]; rfl
theorem iH_ex (hN : NWf N nt) (ht : t < nt) (hB : NBd N t) (hE : MEx N t α) : iH N α t = nI (meM N t) := by
  have hwf := hN t ht
  have hP : ∀ k, k < nC N t → nP N t k < t := fun k hk => (hwf.2.2.2.1 k hk).1
  have hD : ∀ k, k < nA N t → nD N t k < t := fun k hk => hwf.2.2.2.2.1 k hk
  unfold iH meM
  by_cases h2 : nK N t = 2
  · rw [if_pos h2, h2, nI_add, nI_add]
    rw [fsum_nI (h := fun k => nM N (nP N t k)) (nC N t) 0 _ (fun i _ hi => (hE _ (hP i (by omega))).2.1)]
    rw [fsum_nI (h := fun j => 8 + nM N (nD N t j)) (nA N t) 0 _ (fun i _ hi => by rw [(hE _ (hD i (by omega))).2.1, nI_add])]
    have e1 := sumN_add (nO N t) (fun k => nM N (nP N t k)) (nC N t) 0
    simp only [] at e1 ⊢
    congr 1; omega
  · by_cases h3 : nK N t = 3
    · rw [if_neg h2, if_pos h3, h3]
      rw [fmx_nI (h := fun k => nM N (nP N t k)) (nC N t) 0 0 (by omega) (fun i _ hi => ⟨(hE _ (hP i (by omega))).2.1, by have := (hB _ (hP i (by omega))).2.1; omega⟩), nI_add]; rfl
    · by_cases h1 : nK N t = 1
      · obtain ⟨hC, a, b, ea, eb, hab, hb⟩ := hwf.2.2.2.2.2.2.1 h1
        rw [if_neg h2, if_neg h3, if_pos h1, h1, (hE _ (hP 0 (by omega))).2.1, eb, pk_mul, nI_add, nI_clamp (by omega)]; rfl
      · have h0 : nK N t = 0 := by omega
        rw [if_neg h2, if_neg h3, if_neg h1, h0, nI_add]; rfl
theorem iG_ex (hN : NWf N nt) (ht : t < nt) (hB : NBd N t) (hE : MEx N t α) : iG N α t = nI (meL N t) := by
  have hwf := hN t ht
  have hP : ∀ k, k < nC N t → nP N t k < t := fun k hk => (hwf.2.2.2.1 k hk).1
  have hD : ∀ k, k < nA N t → nD N t k < t := fun k hk => hwf.2.2.2.2.1 k hk
  unfold iG meL
  by_cases h2 : nK N t = 2
  · rw [if_pos h2, h2, nI_add]
    rw [fsum_nI (h := fun k => nL N (nP N t k)) (nC N t) 0 _ (fun i _ hi => (hE _ (hP i (by omega))).2.2)]
    rw [fsum_nI (h := fun j => nL N (nD N t j)) (nA N t) 0 _ (fun i _ hi => (hE _ (hD i (by omega))).2.2)]
    have e1 := sumN_add (nO N t) (fun k => nL N (nP N t k)) (nC N t) 0
    simp only [] at e1 ⊢
    congr 1; omega
  · by_cases h3 : nK N t = 3
    · rw [if_neg h2, if_pos h3, h3]
      rw [fmx_nI (h := fun k => nL N (nP N t k)) (nC N t) 0 0 (by omega) (fun i _ hi => ⟨(hE _ (hP i (by omega))).2.2, by have := (hB _ (hP i (by omega))).2.2; omega⟩), nI_add]; rfl
    · by_cases h1 : nK N t = 1
      · obtain ⟨hC, a, b, ea, eb, hab, hb⟩ := hwf.2.2.2.2.2.2.1 h1
        rw [if_neg h2, if_neg h3, if_pos h1, h1, (hE _ (hP 0 (by omega))).2.2, eb, pk_mul, nI_add, nI_clamp (by omega)]; rfl
      · have h0 : nK N t = 0 := by omega
        rw [if_neg h2, if_neg h3, if_neg h1, h0, nI_add]; rfl
end ME
