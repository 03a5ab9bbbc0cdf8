/-! MEASURES recomputed: there is a notation with right measures up to the first type that is too long -/
theorem minL_cong (g h : Nat → Nat) : ∀ n k a, (∀ i, k ≤ i → i < k + n → g i = h i) → minL g n k a = minL h n k a
  | 0, k, a, _ => rfl
  | n + 1, k, a, e => by rw [minL, minL, e k (Nat.le_refl _) (by omega), minL_cong g h n (k + 1) _ (fun i h1 h2 => e i (by omega) (by omega))]
theorem maxL_cong (g h : Nat → Nat) : ∀ n k a, (∀ i, k ≤ i → i < k + n → g i = h i) → maxL g n k a = maxL h n k a
  | 0, k, a, _ => rfl
  | n + 1, k, a, e => by rw [maxL, maxL, e k (Nat.le_refl _) (by omega), maxL_cong g h n (k + 1) _ (fun i h1 h2 => e i (by omega) (by omega))]
def sameN (N N' : NT) : Prop := (∀ i t j, i < 6 → N'.1 i t j = N.1 i t j) ∧ N'.2 = N.2
theorem sameN.wf {N N' : NT} {nt : Nat} (h : sameN N N') (hN : NWf N nt) : NWf N' nt := by
  obtain ⟨h1, h2⟩ := h
  intro t ht
  have := hN t ht
  unfold nK nC nA nP nO nD nlo nhi at *
  rw [h1 0 t 0 (by omega), h1 1 t 0 (by omega), h1 2 t 0 (by omega), h2]
  refine ⟨this.1, this.2.1, this.2.2.1, fun k hk => ?_, fun k hk => ?_, this.2.2.2.2.2⟩
  · rw [h1 3 t k (by omega), h1 4 t k (by omega)]; exact this.2.2.2.1 k hk
  · rw [h1 5 t k (by omega)]; exact this.2.2.2.2.1 k hk
theorem sameN.w {N N' : NT} (h : sameN N N') (t : Nat) : nW N' t = nW N t := by
  obtain ⟨h1, h2⟩ := h
  unfold nW nV nK nC nlo nhi
  rw [h1 0 t 0 (by omega), h1 1 t 0 (by omega), h2]
theorem me_cong {N N' : NT} {nt t : Nat} (h : sameN N N') (hN : NWf N nt) (ht : t < nt) (hm : ∀ s, s < t → nF N' s = nF N s ∧ nM N' s = nM N s ∧ nL N' s = nL N s) : meF N' t = meF N t ∧ meM N' t = meM N t ∧ meL N' t = meL N t := by
  have hwf := hN t ht
  have hP : ∀ k, k < nC N t → nP N t k < t := fun k hk => (hwf.2.2.2.1 k hk).1
  have hD : ∀ k, k < nA N t → nD N t k < t := fun k hk => hwf.2.2.2.2.1 k hk
  have hW := h.w t
  have eK : nK N' t = nK N t := h.1 0 t 0 (by omega)
  have eC : nC N' t = nC N t := h.1 1 t 0 (by omega)
  have eA : nA N' t = nA N t := h.1 2 t 0 (by omega)
  have eP : ∀ k, nP N' t k = nP N t k := fun k => h.1 3 t k (by omega)
  have eO : ∀ k, nO N' t k = nO N t k := fun k => h.1 4 t k (by omega)
  have eD : ∀ k, nD N' t k = nD N t k := fun k => h.1 5 t k (by omega)
  have el : nlo N' t = nlo N t := by unfold nlo; rw [h.2]
  have eh : nhi N' t = nhi N t := by unfold nhi; rw [h.2]
  unfold meF meM meL
  rw [eK, eC, eA, hW, el, eh]
  simp only [eP, eO, eD]
  by_cases h2 : nK N t = 2
  · rw [h2]
    simp only []
    have e1 := sumN_cong (fun k => if nO N t k = 1 then 1 else nF N' (nP N t k)) (fun k => if nO N t k = 1 then 1 else nF N (nP N t k)) (nC N t) 0 (fun i _ hi => by show (if nO N t i = 1 then 1 else nF N' (nP N t i)) = _; rw [(hm _ (hP i (by omega))).1])
    have e2 := sumN_cong (fun k => nO N t k + nM N' (nP N t k)) (fun k => nO N t k + nM N (nP N t k)) (nC N t) 0 (fun i _ hi => by show nO N t i + nM N' (nP N t i) = _; rw [(hm _ (hP i (by omega))).2.1])
    have e3 := sumN_cong (fun j => 8 + nM N' (nD N t j)) (fun j => 8 + nM N (nD N t j)) (nA N t) 0 (fun i _ hi => by show 8 + nM N' (nD N t i) = _; rw [(hm _ (hD i (by omega))).2.1])
    have e4 := sumN_cong (fun k => nO N t k + nL N' (nP N t k)) (fun k => nO N t k + nL N (nP N t k)) (nC N t) 0 (fun i _ hi => by show nO N t i + nL N' (nP N t i) = _; rw [(hm _ (hP i (by omega))).2.2])
    have e5 := sumN_cong (fun j => nL N' (nD N t j)) (fun j => nL N (nD N t j)) (nA N t) 0 (fun i _ hi => by show nL N' (nD N t i) = _; rw [(hm _ (hD i (by omega))).2.2])
    rw [e1, e2, e3, e4, e5]
    exact ⟨rfl, rfl, rfl⟩
  · by_cases h3 : nK N t = 3
    · rw [h3]
      simp only []
      have e1 := minL_cong (fun k => nF N' (nP N t k)) (fun k => nF N (nP N t k)) (nC N t) 0 240 (fun i _ hi => by show nF N' (nP N t i) = _; rw [(hm _ (hP i (by omega))).1])
      have e2 := maxL_cong (fun k => nM N' (nP N t k)) (fun k => nM N (nP N t k)) (nC N t) 0 0 (fun i _ hi => by show nM N' (nP N t i) = _; rw [(hm _ (hP i (by omega))).2.1])
      have e3 := maxL_cong (fun k => nL N' (nP N t k)) (fun k => nL N (nP N t k)) (nC N t) 0 0 (fun i _ hi => by show nL N' (nP N t i) = _; rw [(hm _ (hP i (by omega))).2.2])
      rw [e1, e2, e3]
      exact ⟨rfl, rfl, rfl⟩
    · by_cases h1 : nK N t = 1
      · obtain ⟨hC, _⟩ := hwf.2.2.2.2.2.2.1 h1
        obtain ⟨m1, m2, m3⟩ := hm _ (hP 0 (by omega))
        rw [h1]
        simp only []
        rw [m1, m2, m3]
        exact ⟨rfl, rfl, rfl⟩
      · have h0 : nK N t = 0 := by omega
        rw [h0]; exact ⟨rfl, rfl, rfl⟩
