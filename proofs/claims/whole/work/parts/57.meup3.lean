/-! MEASURES recomputed: it exists -/
def setM (N : NT) (k a b c : Nat) : NT := (fun i t j => if t = k then (if i = 6 then a else if i = 7 then b else if i = 8 then c else N.1 i t j) else N.1 i t j, N.2)
theorem setM_same {N : NT} {k a b c : Nat} : sameN N (setM N k a b c) := by
  refine ⟨fun i t j hi => ?_, rfl⟩
  show (if t = k then (if i = 6 then a else if i = 7 then b else if i = 8 then c else N.1 i t j) else N.1 i t j) = N.1 i t j
  rw [if_neg (show ¬ i = 6 by omega), if_neg (show ¬ i = 7 by omega), if_neg (show ¬ i = 8 by omega)]
  split <;> rfl
theorem sameN.trans {N N' N2 : NT} (h1 : sameN N N') (h2 : sameN N' N2) : sameN N N2 := ⟨fun i t j hi => (h2.1 i t j hi).trans (h1.1 i t j hi), h2.2.trans h1.2⟩
theorem up_ex {N : NT} {nt : Nat} (hN : NWf N nt) : ∃ N2 t0, sameN N N2 ∧ NUp N2 nt t0 ∧ NFM N2 t0 := by
  have go : ∀ k, k ≤ nt → (∃ N2, sameN N N2 ∧ NBd N2 k ∧ NMe N2 k ∧ NFM N2 k) ∨ (∃ N2 t0, sameN N N2 ∧ NUp N2 nt t0 ∧ NFM N2 t0) := by
    intro k
    induction k with
    | zero => intro _; exact Or.inl ⟨N, ⟨fun _ _ _ _ => rfl, rfl⟩, fun s hs => by omega, fun s hs => by omega, fun s hs => by omega⟩
    | succ k ih =>
      intro hk
      rcases ih (by omega) with ⟨N2, h1, h2, h3, h4⟩ | h
      · have hN2 := h1.wf hN
        by_cases ok : meM N2 k ≤ 240 ∧ meL N2 k ≤ 240
        · left
          refine ⟨setM N2 k (meF N2 k) (meM N2 k) (meL N2 k), h1.trans setM_same, ?_⟩
          have old : ∀ s, s ≠ k → nF (setM N2 k (meF N2 k) (meM N2 k) (meL N2 k)) s = nF N2 s ∧ nM (setM N2 k (meF N2 k) (meM N2 k) (meL N2 k)) s = nM N2 s ∧ nL (setM N2 k (meF N2 k) (meM N2 k) (meL N2 k)) s = nL N2 s := by
            intro s hs
            unfold nF nM nL setM
            simp only [if_neg hs]
            exact ⟨trivial, trivial, trivial⟩
          have new : nF (setM N2 k (meF N2 k) (meM N2 k) (meL N2 k)) k = meF N2 k ∧ nM (setM N2 k (meF N2 k) (meM N2 k) (meL N2 k)) k = meM N2 k ∧ nL (setM N2 k (meF N2 k) (meM N2 k) (meL N2 k)) k = meL N2 k := ⟨by simp [nF, setM], by simp [nM, setM], by simp [nL, setM]⟩
          have me : ∀ s, s ≤ k → meF (setM N2 k (meF N2 k) (meM N2 k) (meL N2 k)) s = meF N2 s ∧ meM (setM N2 k (meF N2 k) (meM N2 k) (meL N2 k)) s = meM N2 s ∧ meL (setM N2 k (meF N2 k) (meM N2 k) (meL N2 k)) s = meL N2 s := fun s hs => me_cong setM_same hN2 (by omega) (fun u hu => old u (by omega))
          have fm := me_fm hN2 (by omega : k < nt) h4
          refine ⟨fun s hs => ?_, fun s hs => ?_, fun s hs => ?_⟩
          · by_cases e : s = k
            · subst e; rw [new.1, new.2.1, new.2.2]; omega
            · obtain ⟨a, b, c⟩ := old s e
              rw [a, b, c]; exact h2 s (by omega)
          · obtain ⟨x, y, z⟩ := me s (by omega)
            by_cases e : s = k
            · subst e; rw [new.1, new.2.1, new.2.2, x, y, z]; exact ⟨rfl, rfl, rfl⟩
            · obtain ⟨a, b, c⟩ := old s e
              rw [a, b, c, x, y, z]; exact h3 s (by omega)
          · by_cases e : s = k
            · subst e; rw [new.1, new.2.1]; exact fm
            · obtain ⟨a, b, c⟩ := old s e
              rw [a, b]; exact h4 s (by omega)
        · exact Or.inr ⟨N2, k, h1, ⟨by omega, h2, h3, fun _ => ok⟩, h4⟩
      · exact Or.inr h
  rcases go nt (Nat.le_refl _) with ⟨N2, h1, h2, h3, h4⟩ | h
  · exact ⟨N2, nt, h1, ⟨Nat.le_refl _, h2, h3, fun h => by omega⟩, h4⟩
  · exact h
