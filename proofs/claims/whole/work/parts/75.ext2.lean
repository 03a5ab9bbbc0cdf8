/-! OPERATIONS: extend -/
theorem ar_1 {r s : Nat} (h : r < 20) : r ≠ 20 + 5 * s := by omega
theorem ar_2 {s s' : Nat} (h : 20 + 5 * s = 20 + 5 * s') : s = s' := by omega
theorem ar_3 {r s s' : Nat} (h : r = 21 + 5 * s' ∨ r = 22 + 5 * s' ∨ r = 23 + 5 * s' ∨ r = 24 + 5 * s') : r ≠ 20 + 5 * s := by omega
section EXA
variable {kd ad : Nat → Nat} {x out : Nat} {M N2 : NT} {nt tn bn dc t0 : Nat} {T : Nat → Int32} {b dp dq : Nat → Nat} {dm : Int32} {C μ : Mm}
/-- what is left of a memory after the types' cells have changed -/
def lfC (C μ' : Mm) (ad : Nat → Nat) : Mm := fun r => match C r with
  | none => none
  | some _ => μ' (ad r)
theorem lfC_n {C μ' : Mm} {ad : Nat → Nat} {r : Nat} (h : C r = none) : lfC C μ' ad r = none := by
  unfold lfC; rw [h]
theorem lfC_s {C μ' : Mm} {ad : Nat → Nat} {r : Nat} {e : En} (h : C r = some e) : lfC C μ' ad r = μ' (ad r) := by
  unfold lfC; rw [h]
theorem KC.left {μ' : Mm} {N4 : NT} {om : Nat → Int32} (h : KC kd x out M nt tn bn dc T b dp dq μ ad C dm) (hs : sameN M N4) (hom : ∀ s, s < nt → nK M s = 2 → ∀ k, k < nC M s → msk (om s) k = nI (nO M s k)) (fr : ∀ a, (∀ s, s < nt → a ≠ ad (20 + 5 * s)) → μ' a = μ a) (res : ∀ s, s < nt → μ' (ad (20 + 5 * s)) = some (eO 2 [.ref (kd (nK M s)), .int (nlo M s), .int (nhi M s), .int (nI (nW M s)), .ref (ad (21 + 5 * s)), .int (om s), .ref (ad (23 + 5 * s)), .int (nI (nF N4 s)), .int (nI (nM N4 s)), .int (nI (nL N4 s))])) : ∃ C', KC kd x out N4 nt tn bn dc T b dp dq μ' ad C' dm := by
  obtain ⟨hR, h0, h15, ⟨g, hg⟩, hC⟩ := id h
  obtain ⟨k0, k1, k3, k5, k7, k10, k13, km, kt, kn⟩ := id hC
  have cE : ∀ r, (∀ s, s < nt → r ≠ 20 + 5 * s) → lfC C μ' ad r = C r := by
    intro r hr
    cases e : C r with
    | none => exact lfC_n e
    | some v =>
      rw [lfC_s e, fr (ad r) (fun s hs z => ?_)]
      · exact hR.get e
      · obtain ⟨om', pn, pf, an, af, t1, _⟩ := kt s hs
        exact hr s hs (hR.2 r (20 + 5 * s) (by rw [e]; simp) (by rw [t1]; simp) z)
  refine ⟨lfC C μ' ad, ⟨fun r e hr => ?_, fun r s h1 h2 => hR.2 r s (fun z => h1 (lfC_n z)) (fun z => h2 (lfC_n z))⟩, h0, h15, ⟨g, (cE 15 (fun s _ => ar_1 (by decide))).trans hg⟩, hC.tys (fun r hr => cE r (fun s _ => ar_1 hr)) (fun s hs' => ?_) (fun r hr => lfC_n (kn r hr))⟩
  · cases e' : C r with
    | none => rw [lfC_n e'] at hr; cases hr
    | some v => rw [lfC_s e'] at hr; exact hr
  · obtain ⟨om', pn, pf, an, af, t1, t2, t3, t4, t5, t6, t7, t8, t9, t10, t11, t12, t13⟩ := kt s hs'
    obtain ⟨f1, f2, f3, f4, f5, f6, f7, f8, f9⟩ := hs.f s
    have q : ∀ r, (∃ s', r = 21 + 5 * s' ∨ r = 22 + 5 * s' ∨ r = 23 + 5 * s' ∨ r = 24 + 5 * s') → lfC C μ' ad r = C r := fun r ⟨s', hr⟩ => cE r (fun s'' _ => ar_3 hr)
    unfold TyR
    rw [f1, f2, f3, f7, f8, f9]
    simp only [f4, f5, f6]
    exact ⟨om s, pn, pf, an, af, (lfC_s t1).trans (res s hs'), (q _ ⟨s, Or.inl rfl⟩).trans t2, (q _ ⟨s, Or.inr (Or.inl rfl)⟩).trans t3, t4, t5, t6, hom s hs', (q _ ⟨s, Or.inr (Or.inr (Or.inl rfl))⟩).trans t8, (q _ ⟨s, Or.inr (Or.inr (Or.inr rfl))⟩).trans t9, t10, t11, t12, t13⟩
theorem KC.all {post : Int32 → Mm → Prop} (hkd : ∀ i j, i < 4 → j < 4 → kd i = kd j → i = j) (h : KC kd x out M nt tn bn dc T b dp dq μ ad C dm) (hM : NWf M nt) (hnt : nt ≤ 16) (hs : sameN M N2) (hU : NUp N2 nt t0)
    (ok : t0 = nt → ∀ μ' C', KC kd x out N2 nt tn bn dc T b dp dq μ' ad C' dm → post 1 μ')
    (no : t0 ≠ nt → ∀ μ' C' M', sameN M M' → KC kd x out M' nt tn bn dc T b dp dq μ' ad C' dm → post 0 μ') : wp_X4_measureAll (ad 1) kd μ post := by
  obtain ⟨nf, n1, n2⟩ := h.c2
  have hR := h.1
  have hch : ∀ s, ∃ om : Int32, s < nt → (∃ y1 y2 y3 : Int32, μ (ad (20 + 5 * s)) = some (eO 2 [.ref (kd (nK M s)), .int (nlo M s), .int (nhi M s), .int (nI (nW M s)), .ref (ad (21 + 5 * s)), .int om, .ref (ad (23 + 5 * s)), .int y1, .int y2, .int y3])) ∧ (nK M s = 2 → ∀ k, k < nC M s → msk om k = nI (nO M s k)) := by
    intro s
    by_cases c : s < nt
    · obtain ⟨om', pn, pf, an, af, t1, t2, t3, t4, t5, t6, t7, t8⟩ := h.tyr c
      exact ⟨om', fun _ => ⟨⟨_, _, _, hR.get t1⟩, t7⟩⟩
    · exact ⟨0, fun h => absurd h c⟩
  obtain ⟨om, hom⟩ := Classical.skolem.mp hch
  refine c_all (N := N2) (ty := fun s => ad (20 + 5 * s)) (pr := fun s => ad (21 + 5 * s)) (ar := fun s => ad (23 + 5 * s)) (om := om) hkd (hs.wf hM) hnt hU h.c1 n1 hnt (Nat.le_refl _) n2 (fun s s' h1 h2 e => ?_) (fun s hs' => ?_) (fun s hs' => ?_) (fun s hs' => ?_) (fun s hs' => ?_) (fun μ' fr res => ?_)
  · obtain ⟨_, _, _, _, _, t1, _⟩ := h.tyr h1
    obtain ⟨_, _, _, _, _, t1', _⟩ := h.tyr h2
    exact ar_2 (hR.2 (20 + 5 * s) (20 + 5 * s') (by rw [t1]; simp) (by rw [t1']; simp) e)
  · obtain ⟨f1, f2, f3, f4, f5, f6, f7, f8, f9⟩ := hs.f s
    obtain ⟨⟨y1, y2, y3, hy⟩, _⟩ := hom s hs'
    refine ⟨y1, y2, y3, ?_⟩
    unfold ObT
    rw [f1, f7, f8, f9]; exact hy
  · obtain ⟨f1, f2, f3, f4, f5, f6, f7, f8, f9⟩ := hs.f s
    obtain ⟨om', pn, pf, an, af, t1, t2, t3, t4, t5, t6, t7, t8⟩ := h.tyr hs'
    unfold RwT
    rw [f2]
    simp only [f4]
    exact ⟨_, pn, pf, hR.get t2, hR.get t3, t4, t5, t6⟩
  · obtain ⟨f1, f2, f3, f4, f5, f6, f7, f8, f9⟩ := hs.f s
    obtain ⟨om', pn, pf, an, af, t1, t2, t3, t4, t5, t6, t7, t8, t9, t10, t11, t12, t13⟩ := h.tyr hs'
    unfold RwT
    rw [f3]
    simp only [f6]
    exact ⟨_, an, af, hR.get t8, hR.get t9, t10, Nat.le_trans t11 (by decide), t13⟩
  · obtain ⟨f1, f2, f3, f4, f5, f6, f7, f8, f9⟩ := hs.f s
    rw [f1, f2]
    simp only [f5]
    exact (hom s hs').2
  · have res2 : ∀ s, ∃ X : Int32 × Int32 × Int32, s < nt → μ' (ad (20 + 5 * s)) = some (eO 2 [.ref (kd (nK M s)), .int (nlo M s), .int (nhi M s), .int (nI (nW M s)), .ref (ad (21 + 5 * s)), .int (om s), .ref (ad (23 + 5 * s)), .int X.1, .int X.2.1, .int X.2.2]) ∧ (s < t0 → X.1 = nI (nF N2 s) ∧ X.2.1 = nI (nM N2 s) ∧ X.2.2 = nI (nL N2 s)) := by
      intro s
      by_cases c : s < nt
      · obtain ⟨f1, f2, f3, f4, f5, f6, f7, f8, f9⟩ := hs.f s
        obtain ⟨y1, y2, y3, hy, hz⟩ := res s c
        unfold ObT at hy
        rw [f1, f7, f8, f9] at hy
        exact ⟨(y1, y2, y3), fun _ => ⟨hy, hz⟩⟩
      · exact ⟨(0, 0, 0), fun h => absurd h c⟩
    obtain ⟨X, hX⟩ := Classical.skolem.mp res2
    by_cases e : t0 = nt
    · rw [if_pos e]
      obtain ⟨C', hK'⟩ := h.left (μ' := μ') (N4 := N2) (om := om) hs (fun s hs' => (hom s hs').2) fr (fun s hs' => by
        obtain ⟨z1, z2⟩ := hX s hs'
        obtain ⟨w1, w2, w3⟩ := z2 (by rw [e]; exact hs')
        rw [w1, w2, w3] at z1
        exact z1)
      exact ok e μ' C' hK'
    · rw [if_neg e]
      have hsM : sameN M ((fun i t j => if i < 6 then M.1 i t j else if i = 6 then natOf (X t).1 else if i = 7 then natOf (X t).2.1 else natOf (X t).2.2, M.2) : NT) := ⟨fun i t j hi => if_pos hi, rfl⟩
      obtain ⟨C', hK'⟩ := h.left (μ' := μ') (N4 := ((fun i t j => if i < 6 then M.1 i t j else if i = 6 then natOf (X t).1 else if i = 7 then natOf (X t).2.1 else natOf (X t).2.2, M.2) : NT)) (om := om) hsM (fun s hs' => (hom s hs').2) fr (fun s hs' => by
        have z1 := (hX s hs').1
        have y1 : nI (nF ((fun i t j => if i < 6 then M.1 i t j else if i = 6 then natOf (X t).1 else if i = 7 then natOf (X t).2.1 else natOf (X t).2.2, M.2) : NT) s) = (X s).1 := nI_natOf _
        have y2 : nI (nM ((fun i t j => if i < 6 then M.1 i t j else if i = 6 then natOf (X t).1 else if i = 7 then natOf (X t).2.1 else natOf (X t).2.2, M.2) : NT) s) = (X s).2.1 := nI_natOf _
        have y3 : nI (nL ((fun i t j => if i < 6 then M.1 i t j else if i = 6 then natOf (X t).1 else if i = 7 then natOf (X t).2.1 else natOf (X t).2.2, M.2) : NT) s) = (X s).2.2 := nI_natOf _
        rw [y1, y2, y3]; exact z1)
      exact no e μ' C' _ hsM hK'
end EXA
