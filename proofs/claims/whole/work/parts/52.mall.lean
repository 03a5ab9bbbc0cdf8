/-! THE REFERENCE'S measureAll: exact up to the first type that is too long -/
section MAL
variable {N : NT} {nt t0 : Nat} {σ : Nat → Int32}
/-- up to t0 all measures are right and in bounds; at t0, if it is a type, they are too great -/
def NUp (N : NT) (nt t0 : Nat) : Prop := t0 ≤ nt ∧ NBd N t0 ∧ NMe N t0 ∧ (t0 < nt → ¬ (meM N t0 ≤ 240 ∧ meL N t0 ≤ 240))
theorem m_all {post : Int32 → (Nat → Int32) → (Nat → Nat → Int32) → Prop} {α0 : Nat → Nat → Int32} (hN : NWf N nt) (hM : NMo N nt α0) (hnt : nt ≤ 16) (h1 : σ 1 = nI nt) (hU : NUp N nt t0)
    (hp : ∀ α', (∀ a, a ≠ 9 → a ≠ 10 → a ≠ 11 → α' a = α0 a) → MEx N t0 α' → post (if t0 = nt then 1 else 0) σ α') : wp_X7_measureAll σ α0 post := by
  obtain ⟨u1, u2, u3, u4⟩ := hU
  have go : ∀ (j k : Nat) (v : Int32) (α : Nat → Nat → Int32), k + j = nt → (∀ a, a ≠ 9 → a ≠ 10 → a ≠ 11 → α a = α0 a) → MEx N (min k t0) α → v = (if k ≤ t0 then 1 else 0) → wb_X7_measureAll_4 post (j + 1) v (nI k) σ α := by
    intro j
    induction j with
    | zero =>
      intro k v α hk hf hE hv
      have hkn : k = nt := by omega
      subst hkn
      rw [Nat.min_eq_right u1] at hE
      have hv2 : v = (if t0 = k then 1 else 0) := by
        rw [hv]
        by_cases h : t0 = k
        · rw [if_pos (by omega), if_pos h]
        · rw [if_neg (by omega), if_neg h]
      refine ⟨fun _ => ⟨?_, ?_⟩, fun h => ?_⟩
      · rw [hv2]; split
        · exact Or.inr rfl
        · exact Or.inl rfl
      · rw [hv2]; exact hp α hf hE
      · rw [h1, q_le (by omega) (by omega)] at h; omega
    | succ j ih =>
      intro k v α hk hf hE hv
      have hMα : NMo N nt α := hM.cong (fun a ha => hf a (by omega) (by omega) (by omega))
      have hfr : ∀ (L H G : Int32) (a : Nat), a ≠ 9 → a ≠ 10 → a ≠ 11 → mm α k L H G a = α0 a := fun L H G a z1 z2 z3 => by rw [mm_a z1 z2 z3, hf a z1 z2 z3]
      have hEx : ∀ (L H G : Int32) (n : Nat), n ≤ k → MEx N n α → MEx N n (mm α k L H G) := fun L H G n hn he s hs => by
        rw [mm_j (by omega), mm_j (by omega), mm_j (by omega)]; exact he s hs
      refine ⟨fun h => ?_, fun _ => m_meas hN hMα (by omega) hnt ?_⟩
      · rw [h1, q_le (by omega) (by omega)] at h; omega
      · rw [← nI_succ]
        by_cases hkt : k ≤ t0
        · rw [Nat.min_eq_left hkt] at hE
          have hBk : NBd N k := fun s hs => u2 s (by omega)
          obtain ⟨bM, bL⟩ := me_bd hN (by omega : k < nt) hBk
          rw [iH_ex hN (by omega) hBk hE, iG_ex hN (by omega) hBk hE, iL_ex hN (by omega) hBk hE, hv, if_pos hkt, q_l240]
          by_cases hlt : k < t0
          · obtain ⟨m1, m2, m3⟩ := u3 k hlt
            obtain ⟨d1, d2, d3⟩ := u2 k hlt
            rw [if_neg (by rw [q_lt (by omega) (by omega), q_lt (by omega) (by omega)]; omega)]
            refine ih (k + 1) _ _ (by omega) (hfr _ _ _) ?_ (by rw [if_pos (by omega)]; rfl)
            rw [Nat.min_eq_left (by omega)]
            intro s hs
            by_cases e : s = k
            · subst e; rw [mm_9, mm_10, mm_11, ← m1, ← m2, ← m3]; exact ⟨rfl, rfl, rfl⟩
            · exact hEx _ _ _ k (Nat.le_refl _) hE s (by omega)
          · have e : k = t0 := by omega
            subst e
            have := u4 (by omega)
            rw [if_pos (by rw [q_lt (by omega) (by omega), q_lt (by omega) (by omega)]; omega)]
            refine ih (k + 1) _ _ (by omega) (hfr _ _ _) ?_ (by rw [if_neg (by omega)]; rfl)
            rw [Nat.min_eq_right (by omega)]
            exact hEx _ _ _ k (Nat.le_refl _) hE
        · rw [hv, if_neg hkt, Int32.zero_and]
          rw [Nat.min_eq_right (by omega)] at hE
          refine ih (k + 1) _ _ (by omega) (hfr _ _ _) ?_ (by rw [if_neg (by omega)])
          rw [Nat.min_eq_right (by omega)]
          exact hEx _ _ _ t0 (by omega) hE
  exact ⟨nt + 1, go nt 0 1 α0 (by omega) (fun _ _ _ _ => rfl) (fun s hs => by omega) (by rw [if_pos (by omega)])⟩
end MAL
