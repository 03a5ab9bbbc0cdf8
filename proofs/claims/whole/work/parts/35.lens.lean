/-! HOW LONG a value's bits and tale can be -/
def sumN (g : Nat → Nat) : Nat → Nat → Nat
  | 0, _ => 0
  | n + 1, k => g k + sumN g n (k + 1)
theorem sumN_add (g h : Nat → Nat) : ∀ n k, sumN (fun i => g i + h i) n k = sumN g n k + sumN h n k
  | 0, k => rfl
  | n + 1, k => by rw [sumN, sumN, sumN, sumN_add g h n (k + 1)]; omega
theorem sumN_mono (g : Nat → Nat) : ∀ m n k, m ≤ n → sumN g m k ≤ sumN g n k
  | 0, n, k, _ => by simp [sumN]
  | m + 1, 0, k, h => by omega
  | m + 1, n + 1, k, h => by rw [sumN, sumN]; have := sumN_mono g m n (k + 1) (by omega); omega
theorem sumN_cong (g h : Nat → Nat) : ∀ n k, (∀ i, k ≤ i → i < k + n → g i = h i) → sumN g n k = sumN h n k
  | 0, k, _ => rfl
  | n + 1, k, e => by rw [sumN, sumN, e k (Nat.le_refl _) (by omega), sumN_cong g h n (k + 1) (fun i h1 h2 => e i (by omega) (by omega))]
def NMw (N : NT) (nt : Nat) : Prop := ∀ t, t < nt → (nK N t = 0 → nW N t ≤ nM N t) ∧ (nK N t = 1 → ∀ b, nhi N t = nI b → b ≤ 8 → nW N t + b * nM N (nP N t 0) ≤ nM N t) ∧
  (nK N t = 2 → 1 + sumN (nO N t) (nC N t) 0 + sumN (fun k => nM N (nP N t k)) (nC N t) 0 + (if nA N t = 0 then 0 else 2) + sumN (fun j => 8 + nM N (nD N t j)) (nA N t) 0 ≤ nM N t) ∧ (nK N t = 3 → ∀ j, j < nC N t → nW N t + nM N (nP N t j) ≤ nM N t) ∧ nM N t ≤ 240
def NLw (N : NT) (nt : Nat) : Prop := ∀ t, t < nt → (nK N t = 0 → 1 ≤ nL N t) ∧ (nK N t = 1 → ∀ b, nhi N t = nI b → b ≤ 8 → 1 + b * nL N (nP N t 0) ≤ nL N t) ∧
  (nK N t = 2 → 1 + sumN (nO N t) (nC N t) 0 + sumN (fun k => nL N (nP N t k)) (nC N t) 0 + sumN (fun j => nL N (nD N t j)) (nA N t) 0 ≤ nL N t) ∧ (nK N t = 3 → ∀ j, j < nC N t → 1 + nL N (nP N t j) ≤ nL N t) ∧ nL N t ≤ 240
theorem rptT_len {f : Nat → RT} {c : Nat} (h : ∀ p p' l, f p = .inr (p', l) → l.length ≤ c) : ∀ n p p' l, rptT f n p = .inr (p', l) → l.length ≤ n * c
  | 0, p, p', l, e => by cases e; simp
  | n + 1, p, p', l, e => by
    obtain ⟨p1, b, b', e1, e2, e3⟩ := bnd_inr e
    have h1 := h _ _ _ e1
    have h2 := rptT_len h n p1 p' b' e2
    rw [e3, List.length_append, Nat.succ_mul]; omega
theorem ptT_len {f : Nat → Nat → RT} {N : NT} {t : Nat} {m : Int32} {g : Nat → Nat} {C : Nat} (h : ∀ k, k < C → ∀ p p' l, f (nP N t k) p = .inr (p', l) → l.length ≤ g k) : ∀ j k p p' l, k + j ≤ C → ptT f N t m j k p = .inr (p', l) → l.length ≤ sumN g j k
  | 0, k, p, p', l, _, e => by cases e; simp
  | j + 1, k, p, p', l, hk, e => by
    unfold ptT at e
    rw [sumN]
    split at e
    · obtain ⟨p1, b, b', e1, e2, e3⟩ := bnd_inr e
      have h1 := h k (by omega) _ _ _ e1
      have h2 := ptT_len h j (k + 1) p1 p' b' (by omega) e2
      rw [e3, List.length_append]; omega
    · have h2 := ptT_len h j (k + 1) p p' l (by omega) e
      omega
theorem adT_len {f : Nat → Nat → RT} {N : NT} {t : Nat} {g : Nat → Nat} {A : Nat} (h : ∀ j, j < A → ∀ p p' l, f (nD N t j) p = .inr (p', l) → l.length ≤ g j) : ∀ i j p p' l, j + i ≤ A → adT f N t i j p = .inr (p', l) → l.length ≤ sumN (fun j => 8 + g j) i j
  | 0, j, p, p', l, _, e => by cases e; simp
  | i + 1, j, p, p', l, hj, e => by
    unfold adT at e
    rw [sumN]
    obtain ⟨p1, b, b', e1, e2, e3⟩ := bnd_inr e
    have h2 := adT_len h i (j + 1) p1 p' b' (by omega) e2
    cases hf : f (nD N t j) p with
    | inl q => rw [hf] at e1; cases e1
    | inr c =>
      obtain ⟨c1, c2⟩ := c
      rw [hf] at e1; cases e1
      have h1 := h j (by omega) _ _ _ hf
      rw [e3, List.length_append, List.length_append, bin_len]; omega
theorem ad1_len {f : Nat → Nat → RT} {N : NT} {b : Nat → Nat} {bn kn t j p p' c : Nat} {l : List Int32} (h : ∀ p p' l, f (nD N t j) p = .inr (p', l) → l.length ≤ c) (e : ad1 f N b bn kn t j p = .inr (p', l)) : l.length ≤ c := by
  unfold ad1 at e
  cases hv : tkB b bn 8 p 256 with
  | inl q => rw [hv] at e; cases e
  | inr x =>
    obtain ⟨p1, len⟩ := x
    rw [hv] at e
    simp only [] at e
    split at e
    · cases hf : f (nD N t j) p1 with
      | inl q => rw [hf] at e; cases e
      | inr y =>
        obtain ⟨p2, l2⟩ := y
        rw [hf] at e
        simp only [ckT] at e
        split at e
        · cases e; exact h _ _ _ hf
        · cases e
    · split at e
      · cases e
      · cases e; simp
theorem adR_len {f : Nat → Nat → RT} {N : NT} {b : Nat → Nat} {bn kn t : Nat} {g : Nat → Nat} {A : Nat} (h : ∀ j, j < A → ∀ p p' l, f (nD N t j) p = .inr (p', l) → l.length ≤ g j) : ∀ i j p p' l, j + i ≤ A → adR f N b bn kn t i j p = .inr (p', l) → l.length ≤ sumN g i j
  | 0, j, p, p', l, _, e => by cases e; simp
  | i + 1, j, p, p', l, hj, e => by
    unfold adR at e
    rw [sumN]
    obtain ⟨p1, b1, b', e1, e2, e3⟩ := bnd_inr e
    have h2 := adR_len h i (j + 1) p1 p' b' (by omega) e2
    have h1 := ad1_len (h j (by omega)) e1
    rw [e3, List.length_append]; omega
theorem flB_len {N : NT} {t : Nat} {m : Int32} : ∀ j k, (flB N t m j k).length ≤ sumN (nO N t) j k
  | 0, k => by simp [flB]
  | j + 1, k => by
    have := flB_len (N := N) (t := t) (m := m) j (k + 1)
    rw [flB, sumN, List.length_append]
    split
    · rw [bin_len]; omega
    · simp; omega
theorem flR_len {N : NT} {b : Nat → Nat} {bn t : Nat} : ∀ j k m p p' m' l, flR N b bn t j k m p = .inr (p', m', l) → l.length ≤ sumN (nO N t) j k
  | 0, k, m, p, p', m', l, e => by cases e; simp
  | j + 1, k, m, p, p', m', l, e => by
    unfold flR at e
    rw [sumN]
    split at e
    · cases hv : tkB b bn 1 p 2 with
      | inl q => rw [hv] at e; cases e
      | inr x =>
        obtain ⟨p1, v⟩ := x
        rw [hv] at e
        simp only [] at e
        cases hr : flR N b bn t j (k + 1) (m ||| (nI v <<< (nI k &&& 31))) p1 with
        | inl q => rw [hr] at e; cases e
        | inr y =>
          obtain ⟨p2, m2, l2⟩ := y
          rw [hr] at e
          cases e
          have := flR_len _ _ _ _ _ _ _ hr
          rw [List.length_cons]; omega
    · have := flR_len _ _ _ _ _ _ _ e
      omega
theorem vT_len {N : NT} {nt tn : Nat} {T : Nat → Int32} (hN : NWf N nt) (hM : NMw N nt) : ∀ d t p p' l, t < nt → vT N T tn d t p = .inr (p', l) → l.length ≤ nM N t := by
  intro d
  induction d with
  | zero => intro t p p' l _ e; cases e
  | succ d ih =>
    intro t p p' l ht e
    have hwf := hN t ht
    obtain ⟨m0, m1, m2, m3, m4⟩ := hM t ht
    have ihP : ∀ k, k < nC N t → ∀ p p' l, vT N T tn d (nP N t k) p = .inr (p', l) → l.length ≤ nM N (nP N t k) := fun k hk p p' l e => ih _ p p' l (by have := (hwf.2.2.2.1 k hk).1; omega) e
    have ihD : ∀ k, k < nA N t → ∀ p p' l, vT N T tn d (nD N t k) p = .inr (p', l) → l.length ≤ nM N (nD N t k) := fun k hk p p' l e => ih _ p p' l (by have := hwf.2.2.2.2.1 k hk; omega) e
    unfold vT at e
    by_cases hk : nK N t = 2
    · rw [if_pos hk] at e
      unfold sqT at e
      cases hf : flT N T tn t (nC N t) 0 0 p with
      | inl q => rw [hf] at e; cases e
      | inr x =>
        obtain ⟨p1, m⟩ := x
        rw [hf] at e
        simp only [] at e
        by_cases hx : nxt T tn p1 0 (nI (nA N t))
        · rw [if_pos hx] at e
          obtain ⟨a, _, ha, ea⟩ := q_num (x := T p1) (a := 0) hx.2.1 hx.2.2 (by omega) (by omega)
          rw [ea, nI_clamp (by omega)] at e
          obtain ⟨q1, b1, b1', e1, e2, e3⟩ := bnd_inr e
          cases e1
          obtain ⟨q2, b2, b2', f1, f2, f3⟩ := bnd_inr e2
          obtain ⟨q3, b3, b3', g1, g2, g3⟩ := bnd_inr f2
          cases g1
          have l1 := flB_len (N := N) (t := t) (m := m) (nC N t) 0
          have l2 := ptT_len (C := nC N t) ihP (nC N t) 0 _ _ _ (by omega) f1
          have l3 := adT_len (A := nA N t) ihD a 0 _ _ _ (by omega) g2
          have l4 := sumN_mono (fun j => 8 + nM N (nD N t j)) a (nA N t) 0 ha
          have l5 : (if nI a ≤ 0 then [] else bin 2 (nI a - 1)).length ≤ (if nA N t = 0 then 0 else 2) := by
            by_cases h0 : a = 0
            · subst h0; rw [if_pos (by decide)]; simp
            · rw [if_neg (by rw [show (0 : Int32) = nI 0 from rfl, q_le (by omega) (by omega)]; omega), if_neg (by omega), bin_len]; omega
          have := m2 hk
          rw [e3, f3, g3]
          simp only [List.length_append, bin_len] at *
          omega
        · rw [if_neg hx] at e; cases e
    · rw [if_neg hk] at e
      by_cases hx : nxt T tn p (nlo N t) (nhi N t)
      · rw [if_pos hx] at e
        obtain ⟨q1, b1, b1', e1, e2, e3⟩ := bnd_inr e
        cases e1
        rw [e3, List.length_append, bin_len]
        by_cases hk1 : nK N t = 1
        · rw [if_pos hk1] at e2
          obtain ⟨e0, a, b, ea, eb, hab, hb8⟩ := hwf.2.2.2.2.2.2.1 hk1
          obtain ⟨j, _, hj, ej⟩ := q_num (x := T p) (a := a) (b := b) (by rw [← ea]; exact hx.2.1) (by rw [← eb]; exact hx.2.2) hab (by omega)
          rw [ej, nI_clamp (by omega)] at e2
          have l1 := rptT_len (ihP 0 (by omega)) j _ _ _ e2
          have l2 := m1 hk1 b eb hb8
          have l3 : j * nM N (nP N t 0) ≤ b * nM N (nP N t 0) := Nat.mul_le_mul_right _ hj
          omega
        · rw [if_neg hk1] at e2
          by_cases hk3 : nK N t = 3
          · rw [if_pos hk3] at e2
            obtain ⟨h1, h2, h3⟩ := hwf.2.2.2.2.2.2.2.2 hk3
            obtain ⟨j, _, hj, ej⟩ := q_num (x := T p) (a := 0) (b := nC N t - 1) (by rw [← h1]; exact hx.2.1) (by rw [← h2]; exact hx.2.2) (by omega) (by omega)
            rw [ej, nI_clamp (by omega)] at e2
            have l1 := ihP j (by omega) _ _ _ e2
            have l2 := m3 hk3 j (by omega)
            omega
          · rw [if_neg hk3] at e2
            cases e2
            have := m0 (by omega)
            simp; omega
      · rw [if_neg hx] at e; cases e
theorem NWf.list {N : NT} {nt t a c : Nat} (hk : nK N t = 1) (ea : nlo N t = nI a) (ec : nhi N t = nI c) (hac : a ≤ c) (hc : c ≤ 8) : nV N t = c - a + 1 := by
  unfold nV
  rw [if_neg (by omega), ea, ec, nI_toInt (by omega), nI_toInt (by omega)]; omega
theorem rV_len {N : NT} {nt bn kn : Nat} {b : Nat → Nat} (hN : NWf N nt) (hM : NLw N nt) : ∀ d t p p' l, t < nt → rV N b bn kn d t p = .inr (p', l) → l.length ≤ nL N t := by
  intro d
  induction d with
  | zero => intro t p p' l _ e; cases e
  | succ d ih =>
    intro t p p' l ht e
    have hwf := hN t ht
    obtain ⟨m0, m1, m2, m3, m4⟩ := hM t ht
    have ihP : ∀ k, k < nC N t → ∀ p p' l, rV N b bn kn d (nP N t k) p = .inr (p', l) → l.length ≤ nL N (nP N t k) := fun k hk p p' l e => ih _ p p' l (by have := (hwf.2.2.2.1 k hk).1; omega) e
    have ihD : ∀ k, k < nA N t → ∀ p p' l, rV N b bn kn d (nD N t k) p = .inr (p', l) → l.length ≤ nL N (nD N t k) := fun k hk p p' l e => ih _ p p' l (by have := hwf.2.2.2.2.1 k hk; omega) e
    unfold rV at e
    by_cases hk : nK N t = 2
    · rw [if_pos hk] at e
      unfold sqR at e
      cases hv : tkB b bn 1 p 2 with
      | inl q => rw [hv] at e; cases e
      | inr x =>
        obtain ⟨p1, ha⟩ := x
        rw [hv] at e
        simp only [] at e
        cases hf : flR N b bn t (nC N t) 0 0 p1 with
        | inl q => rw [hf] at e; cases e
        | inr y =>
          obtain ⟨p2, m, fl⟩ := y
          rw [hf] at e
          simp only [] at e
          cases hp : ptT (rV N b bn kn d) N t m (nC N t) 0 p2 with
          | inl q => rw [hp] at e; cases e
          | inr z =>
            obtain ⟨p3, pl⟩ := z
            rw [hp] at e
            simp only [] at e
            have l1 := flR_len _ _ _ _ _ _ _ hf
            have l2 := ptT_len (C := nC N t) ihP (nC N t) 0 _ _ _ (by omega) hp
            have := m2 hk
            by_cases h0 : ha = 0
            · rw [if_pos h0] at e
              cases e
              simp only [List.length_append, List.length_cons]; omega
            · rw [if_neg h0] at e
              cases hv2 : tkB b bn 2 p3 (nA N t) with
              | inl q => rw [hv2] at e; cases e
              | inr x2 =>
                obtain ⟨p4, v⟩ := x2
                rw [hv2] at e
                obtain ⟨q1, b1, b1', e1, e2, e3⟩ := bnd_inr e
                cases e1
                have hvA := (tkB_le hv2).1
                have l3 := adR_len (A := nA N t) ihD (v + 1) 0 _ _ _ (by omega) e2
                have l4 := sumN_mono (fun j => nL N (nD N t j)) (v + 1) (nA N t) 0 hvA
                rw [e3]
                simp only [List.length_append, List.length_cons]; omega
    · rw [if_neg hk] at e
      cases hv : tkB b bn (nW N t) p (nV N t) with
      | inl q => rw [hv] at e; cases e
      | inr x =>
        obtain ⟨p1, v⟩ := x
        rw [hv] at e
        obtain ⟨q1, b1, b1', e1, e2, e3⟩ := bnd_inr e
        cases e1
        rw [e3, List.length_append]
        have hv1 := (tkB_le hv).1
        by_cases hk1 : nK N t = 1
        · rw [if_pos hk1] at e2
          obtain ⟨e0, a, c, ea, ec, hac, hc8⟩ := hwf.2.2.2.2.2.2.1 hk1
          rw [NWf.list (nt := nt) hk1 ea ec hac hc8] at hv1
          rw [ea, nI_add, nI_clamp (by omega)] at e2
          have l1 := rptT_len (ihP 0 (by omega)) (a + v) _ _ _ e2
          have l2 := m1 hk1 c ec hc8
          have l3 : (a + v) * nL N (nP N t 0) ≤ c * nL N (nP N t 0) := Nat.mul_le_mul_right _ (by omega)
          simp only [List.length_cons, List.length_nil]; omega
        · rw [if_neg hk1] at e2
          by_cases hk3 : nK N t = 3
          · rw [if_pos hk3] at e2
            obtain ⟨h1, h2, h3⟩ := hwf.2.2.2.2.2.2.2.2 hk3
            unfold nV at hv1
            rw [if_pos hk3] at hv1
            rw [h1, nI_add, Nat.zero_add, nI_clamp (by omega)] at e2
            have l1 := ihP v (by omega) _ _ _ e2
            have l2 := m3 hk3 v (by omega)
            simp only [List.length_cons, List.length_nil]; omega
          · rw [if_neg hk3] at e2
            cases e2
            have := m0 (by omega)
            simp; omega
