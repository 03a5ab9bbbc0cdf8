/-! HOW LONG a value's bits and tale can be -/
def sumN (g : Nat → Nat) : Nat → Nat → Nat
  | 0, _ => 0
  | n + 1, k => g k + sumN g n (k + 1)
theorem sumN_add (g h : Nat → Nat) : ∀ n k, sumN (fun i => g i + h i) n k = sumN g n k + sumN h n k
  | 0, k => rfl
  | n + 1, k => by rw [sumN, sumN, sumN, sumN_add g h n (k + 1)]; omega
theorem sumN_mono (g : Nat → Nat) : ∀ m n k, m ≤ n → sumN g m k ≤ sumN g n k
  | 0, n, k, _ => by simp [sumN]
  | m + 1, 0, k, h => by omega
  | m + 1, n + 1, k, h => by rw [sumN, sumN]; have := sumN_mono g m n (k + 1) (by omega); omega
theorem sumN_cong (g h : Nat → Nat) : ∀ n k, (∀ i, k ≤ i → i < k + n → g i = h i) → sumN g n k = sumN h n k
  | 0, k, _ => rfl
  | n + 1, k, e => by rw [sumN, sumN, e k (Nat.le_refl _) (by omega), sumN_cong g h n (k + 1) (fun i h1 h2 => e i (by omega) (by omega))]
def NMw (N : NT) (nt : Nat) : Prop := ∀ t, t < nt → (nK N t = 0 → nW N t ≤ nM N t) ∧ (nK N t = 1 → ∀ b, nhi N t = nI b → b ≤ 8 → nW N t + b * nM N (nP N t 0) ≤ nM N t) ∧
  (nK N t = 2 → 1 + sumN (nO N t) (nC N t) 0 + sumN (fun k => nM N (nP N t k)) (nC N t) 0 + (if nA N t = 0 then 0 else 2) + sumN (fun j => 8 + nM N (nD N t j)) (nA N t) 0 ≤ nM N t) ∧ (nK N t = 3 → ∀ j, j < nC N t → nW N t + nM N (nP N t j) ≤ nM N t) ∧ nM N t ≤ 240
def NLw (N : NT) (nt : Nat) : Prop := ∀ t, t < nt → (nK N t = 0 → 1 ≤ nL N t) ∧ (nK N t = 1 → ∀ b, nhi N t = nI b → b ≤ 8 → 1 + b * nL N (nP N t 0) ≤ nL N t) ∧
  (nK N t = 2 → 1 + sumN (nO N t) (nC N t) 0 + sumN (fun k => nL N (nP N t k)) (nC N t) 0 + sumN (fun j => nL N (nD N t j)) (nA N t) 0 ≤ nL N t) ∧ (nK N t = 3 → ∀ j, j < nC N t → 1 + nL N (nP N t j) ≤ nL N t) ∧ nL N t ≤ 240
theorem rptT_len {f : Nat → RT} {c : Nat} (h : ∀ p p' l, f p = .inr (p', l) → l.length ≤ c) : ∀ n p p' l, rptT f n p = .inr (p', l) → l.length ≤ n * c
  | 0, p, p', l, e => by cases e; simp
  | n + 1, p, p', l, e => by
    obtain ⟨p1, b, b', e1, e2, e3⟩ := bnd_inr e
    have h1 := h _ _ _ e1
    have h2 := rptT_len h n p1 p' b' e2
    rw [e3, List.length_append, Nat.succ_mul]; omega
theorem ptT_len {f : Nat → Nat → RT} {N : NT} {t : Nat} {m : Int32} {g : Nat → Nat} {C : Nat} (h : ∀ k, k < C → ∀ p p' l, f (nP N t k) p = .inr (p', l) → l.length ≤ g k) : ∀ j k p p' l, k + j ≤ C → ptT f N t m j k p = .inr (p', l) → l.length ≤ sumN g j k
  | 0, k, p, p', l, _, e => by cases e; simp
  | j + 1, k, p, p', l, hk, e => by
    unfold ptT at e
    rw [sumN]
    split at e
    · obtain ⟨p1, b, b', e1, e2, e3⟩ := bnd_inr e
      have h1 := h k (by omega) _ _ _ e1
      have h2 := ptT_len h j (k + 1) p1 p' b' (by omega) e2
      rw [e3, List.length_append]; omega
    · have h2 := ptT_len h j (k + 1) p p' l (by omega) e
      omega
theorem adT_len {f : Nat → Nat → RT} {N : NT} {t : Nat} {g : Nat → Nat} {A : Nat} (h : ∀ j, j < A → ∀ p p' l, f (nD N t j) p = .inr (p', l) → l.length ≤ g j) : ∀ i j p p' l, j + i ≤ A → adT f N t i j p = .inr (p', l) → l.length ≤ sumN (fun j => 8 + g j) i j
  | 0, j, p, p', l, _, e => by cases e; simp
  | i + 1, j, p, p', l, hj, e => by
    unfold adT at e
    rw [sumN]
    obtain ⟨p1, b, b', e1, e2, e3⟩ := bnd_inr e
    have h2 := adT_len h i (j + 1) p1 p' b' (by omega) e2
    cases hf : f (nD N t j) p with
    | inl q => rw [hf] at e1; cases e1
    | inr c =>
      obtain ⟨c1, c2⟩ := c
      rw [hf] at e1; cases e1
      have h1 := h j (by omega) _ _ _ hf
      rw [e3, List.length_append, List.length_append, bin_len]; omega
theorem ad1_len {f : Nat → Nat → RT} {N : NT} {b : Nat → Nat} {bn kn t j p p' c : Nat} {l : List Int32} (h : ∀ p p' l, f (nD N t j) p = .inr (p', l) → l.length ≤ c) (e : ad1 f N b bn kn t j p = .inr (p', l)) : l.length ≤ c := by
  unfold ad1 at e
  cases hv : tkB b bn 8 p 256 with
  | inl q => rw [hv] at e; cases e
  | inr x =>
    obtain ⟨p1, len⟩ := x
    rw [hv] at e
    simp only [] at e
    split at e
    · cases hf : f (nD N t j) p1 with
      | inl q => rw [hf] at e; cases e
      | inr y =>
        obtain ⟨p2, l2⟩ := y
        rw [hf] at e
        simp only [ckT] at e
        split at e
        · cases e; exact h _ _ _ hf
        · cases e
    · split at e
      · cases e
      · cases e; simp
theorem adR_len {f : Nat → Nat → RT} {N : NT} {b : Nat → Nat} {bn kn t : Nat} {g : Nat → Nat} {A : Nat} (h : ∀ j, j < A → ∀ p p' l, f (nD N t j) p = .inr (p', l) → l.length ≤ g j) : ∀ i j p p' l, j + i ≤ A → adR f N b bn kn t i j p = .inr (p', l) → l.length ≤ sumN g i j
  | 0, j, p, p', l, _, e => by cases e; simp
  | i + 1, j, p, p', l, hj, e => by
    unfold adR at e
    rw [sumN]
    obtain ⟨p1, b1, b', e1, e2, e3⟩ := bnd_inr e
    have h2 := adR_len h i (j + 1) p1 p' b' (by omega) e2
    have h1 := ad1_len (h j (by omega)) e1
    rw [e3, List.length_append]; omega
theorem flB_len {N : NT} {t : Nat} {m : Int32} : ∀ j k, (flB N t m j k).length ≤ sumN (nO N t) j k
  | 0, k => by simp [flB]
  | j + 1, k => by
    have := flB_len (N := N) (t := t) (m := m) j (k + 1)
    rw [flB, sumN, List.length_append]
    split
    · rw [bin_len]; omega
    · simp; omega
theorem flR_len {N : NT} {b : Nat → Nat} {bn t : Nat} : ∀ j k m p p' m' l, flR N b bn t j k m p = .inr (p', m', l) → l.length ≤ sumN (nO N t) j k
  | 0, k, m, p, p', m', l, e => by cases e; simp
  | j + 1, k, m, p, p', m', l, e => by
    unfold flR at e
    rw [sumN]
    split at e
    · cases hv : tkB b bn 1 p 2 with
      | inl q => rw [hv] at e; cases e
      | inr x =>
        obtain ⟨p1, v⟩ := x
        rw [hv] at e
        simp only [] at e
        cases hr : flR N b bn t j (k + 1) (m ||| (nI v <<< (nI k &&& 31))) p1 with
        | inl q => rw [hr] at e; cases e
        | inr y =>
          obtain ⟨p2, m2, l2⟩ := y
          rw [hr] at e
          cases e
          have := flR_len _ _ _ _ _ _ _ hr
          rw [List.length_cons]; omega
    · have := flR_len _ _ _ _ _ _ _ e
      omega
theorem vT_len {N : NT} {nt tn : Nat} {T : Nat → Int32} (hN : NWf N nt) (hM : NMw N nt) : ∀ d t p p' l, t < nt → vT N T tn d t p = .inr (p', l) → l.length ≤ nM N t := by
  intro d
  induction d with
  | zero => intro t p p' l _ e; cases e
  | succ d ih =>
    intro t p p' l ht e
    have hwf := hN t ht
    obtain ⟨m0, m1, m2, m3, m4⟩ := hM t ht
    have ihP : ∀ k, k < nC N t → ∀ p p' l, vT N T tn d (nP N t k) p = .inr (p', l) → l.length ≤ nM N (nP N t k) := fun k hk p p' l e => ih _ p p' l (by have := (hwf.2.2.2.1 k hk).1; omega) e
    have ihD : ∀ k, k < nA N t → ∀ p p' l, vT N T tn d (nD N t k) p = .inr (p', l) → l.length ≤ nM N (nD N t k) := fun k hk p p' l e => ih _ p p' l (by have := hwf.2.2.2.2.1 k hk; omega) e
    unfold vT at e
    by_cases hk : nK N t = 2
    · rw [if_pos hk] at e
      unfold sqT at e
      cases hf : flT N T tn t (nC N t) 0 0 p with
      | inl q => rw [hf] at e; cases e
      | inr x =>
        obtain ⟨p1, m⟩ := x
        rw [hf] at e
        simp only [] at e
        by_cases hx : nxt T tn p1 0 (nI (nA N t))
        · rw [if_pos hx] at e
          obtain ⟨a, _, ha, ea⟩ := q_num (x := T p1) (a := 0) hx.2.1 hx.2.2 (by omega) (by omega)
          rw [ea, nI_clamp (by omega)] at e
          obtain ⟨q1, b1, b1', e1, e2, e3⟩ := bnd_inr e
          cases e1
          obtain ⟨q2, b2, b2', f1, f2, f3⟩ := bnd_inr e2
          obtain ⟨q3, b3, b3', g1, g2, g3⟩ := bnd_inr f2
          cases g1
          have l1 := flB_len (N := N) (t := t) (m := m) (nC N t) 0
          have l2 := ptT_len (C := nC N t) ihP (nC N t) 0 _ _ _ (by omega) f1
          have l3 := adT_len (A := nA N t) ihD a 0 _ _ _ (by omega) g2
          have l4 := sumN_mono (fun j => 8 + nM N (nD N t j)) a (nA N t) 0 ha
          have l5 : (if nI a ≤ 0 then [] else bin 2 (nI a - 1)).length ≤ (if nA N t = 0 then 0 else 2) := by
            by_cases h0 : a = 0
            · subst h0; rw [if_pos (by decide)]; simp
            · rw [if_neg (by rw [show (0 : Int32) = nI 0 from rfl, q_le (by omega) (by omega)]; omega), if_neg (by omega), bin_len]; omega
          have := m2 hk
          rw [e3, f3, g3]
          simp only [List.length_append, bin_len] at *
          omega
        · rw [if_neg hx] at e; cases e
    · rw [if_neg hk] at e
      by_cases hx : nxt T tn p (nlo N t) (nhi N t)
      · rw [if_pos hx] at e
        obtain ⟨q1, b1, b1', e1, e2, e3⟩ := bnd_inr e
        cases e1
        rw [e3, List.length_append, bin_len]
        by_cases hk1 : nK N t = 1
        · rw [if_pos hk1] at e2
          obtain ⟨e0, a, b, ea, eb, hab, hb8⟩ := hwf.2.2.2.2.2.2.1 hk1
          obtain ⟨j, _, hj, ej⟩ := q_num (x := T p) (a := a) (b := b) (by rw [← ea]; exact hx.2.1) (by rw [← eb]; exact hx.2.2) hab (by omega)
          rw [ej, nI_clamp (by omega)] at e2
          have l1 := rptT_len (ihP 0 (by omega)) j _ _ _ e2
          have l2 := m1 hk1 b eb hb8
          have l3 : j * nM N (nP N t 0) ≤ b * nM N (nP N t 0) := Nat.mul_le_mul_right _ hj
          omega
        · rw [if_neg hk1] at e2
          by_cases hk3 : nK N t = 3
          · rw [if_pos hk3] at e2
            obtain ⟨h1, h2, h3⟩ := hwf.2.2.2.2.2.2.2.2 hk3
            obtain ⟨j, _, hj, ej⟩ := q_num (x := T p) (a := 0) (b := nC N t - 1) (by rw [← h1]; exact hx.2.1) (by rw [← h2]; exact hx.2.2) (by omega) (by omega)
            rw [ej, nI_clamp (by omega)] at e2
            have l1 := ihP j (by omega) _ _ _ e2
            have l2 := m3 hk3 j (by omega)
            omega
          · rw [if_neg hk3] at e2
            cases e2
            have := m0 (by omega)
            simp; omega
      · rw [if_neg hx] at e; cases e
theorem NWf.list {N : NT} {nt t a c : Nat} (hk : nK N t = 1) (ea : nlo N t = nI a) (ec : nhi N t = nI c) (hac : a ≤ c) (hc : c ≤ 8) : nV N t = c - a + 1 := by
  unfold nV
  rw [if_neg (by omega), ea, ec, nI_toInt (by omega), nI_toInt (by omega)]; omega
theorem rV_len {N : NT} {nt bn kn : Nat} {b : Nat → Nat} (hN : NWf N nt) (hM : NLw N nt) : ∀ d t p p' l, t < nt → rV N b bn kn d t p = .inr (p', l) → l.length ≤ nL N t := by
  intro d
  induction d with
  | zero => intro t p p' l _ e; cases e
  | succ d ih =>
    intro t p p' l ht e
    have hwf := hN t ht
    obtain ⟨m0, m1, m2, m3, m4⟩ := hM t ht
    have ihP : ∀ k, k < nC N t → ∀ p p' l, rV N b bn kn d (nP N t k) p = .inr (p', l) → l.length ≤ nL N (nP N t k) := fun k hk p p' l e => ih _ p p' l (by have := (hwf.2.2.2.1 k hk).1; omega) e
    have ihD : ∀ k, k < nA N t → ∀ p p' l, rV N b bn kn d (nD N t k) p = .inr (p', l) → l.length ≤ nL N (nD N t k) := fun k hk p p' l e => ih _ p p' l (by have := hwf.2.2.2.2.1 k hk; omega) e
    unfold rV at e
    by_cases hk : nK N t = 2
    · rw [if_pos hk] at e
      unfold sqR at e
      cases hv : tkB b bn 1 p 2 with
      | inl q => rw [hv] at e; cases e
      | inr x =>
        obtain ⟨p1, ha⟩ := x
        rw [hv] at e
        simp only [] at e
        cases hf : flR N b bn t (nC N t) 0 0 p1 with
        | inl q => rw [hf] at e; cases e
        | inr y =>
          obtain ⟨p2, m, fl⟩ := y
          rw [hf] at e
          simp only [] at e
          cases hp : ptT (rV N b bn kn d) N t m (nC N t) 0 p2 with
          | inl q => rw [hp] at e; cases e
          | inr z =>
            obtain ⟨p3, pl⟩ := z
            rw [hp] at e
            simp only [] at e
            have l1 := flR_len _ _ _ _ _ _ _ hf
            have l2 := ptT_len (C := nC N t) ihP (nC N t) 0 _ _ _ (by omega) hp
            have := m2 hk
            by_cases h0 : ha = 0
            · rw [if_pos h0] at e
              cases e
              simp only [List.length_append, List.length_cons]; omega
            · rw [if_neg h0] at e
              cases hv2 : tkB b bn 2 p3 (nA N t) with
              | inl q => rw [hv2] at e; cases e
              | inr x2 =>
                obtain ⟨p4, v⟩ := x2
                rw [hv2] at e
                obtain ⟨q1, b1, b1', e1, e2, e3⟩ := bnd_inr e
                cases e1
                have hvA := (tkB_le hv2).1
                have l3 := adR_len (A := nA N t) ihD (v + 1) 0 _ _ _ (by omega) e2
                have l4 := sumN_mono (fun j => nL N (nD N t j)) (v + 1) (nA N t) 0 hvA
                rw [e3]
                simp only [List.length_append, List.length_cons]; omega
    · rw [if_neg hk] at e
      cases hv : tkB b bn (nW N t) p (nV N t) with
      | inl q => rw [hv] at e; cases e
      | inr x =>
        obtain ⟨p1, v⟩ := x
        rw [hv] at e
        obtain ⟨q1, b1, b1', e1, e2, e3⟩ := bnd_inr e
        cases e1
        rw [e3, List.length_append]
        have hv1 := (tkB_le hv).1
        by_cases hk1 : nK N t = 1
        · rw [if_pos hk1] at e2
          obtain ⟨e0, a, c, ea, ec, hac, hc8⟩ := hwf.2.2.2.2.2.2.1 hk1
          rw [NWf.list (nt := nt) hk1 ea ec hac hc8] at hv1
          rw [ea, nI_add, nI_clamp (by omega)] at e2
          have l1 := rptT_len (ihP 0 (by omega)) (a + v) _ _ _ e2
          have l2 := m1 hk1 c ec hc8
          have l3 : (a + v) * nL N (nP N t 0) ≤ c * nL N (nP N t 0) := Nat.mul_le_mul_right _ (by omega)
          simp only [List.length_cons, List.length_nil]; omega
        · rw [if_neg hk1] at e2
          by_cases hk3 : nK N t = 3
          · rw [if_pos hk3] at e2
            obtain ⟨h1, h2, h3⟩ := hwf.2.2.2.2.2.2.2.2 hk3
            unfold nV at hv1
            rw [if_pos hk3] at hv1
            rw [h1, nI_add, Nat.zero_add, nI_clamp (by omega)] at e2
            have l1 := ihP v (by omega) _ _ _ e2
            have l2 := m3 hk3 v (by omega)
            simp only [List.length_cons, List.length_nil]; omega
          · rw [if_neg hk3] at e2
            cases e2
            have := m0 (by omega)
            simp; omega
/-! THE REFERENCE over bits: leaves -/
def MB (bn : Nat) (b : Nat → Nat) (σ : Nat → Int32) (α : Nat → Nat → Int32) : Prop := σ 16 = nI bn ∧ (∀ i, i < bn → α 17 i = nI (b i)) ∧ bn ≤ 240 ∧ ∀ i, b i ≤ 1
theorem MB.cong {bn : Nat} {b : Nat → Nat} {σ σ' : Nat → Int32} {α α' : Nat → Nat → Int32} (h : MB bn b σ α) (h1 : σ' 16 = σ 16) (h2 : α' 17 = α 17) : MB bn b σ' α' := ⟨by rw [h1, h.1], by rw [h2]; exact h.2.1, h.2.2⟩
section MBL
variable {σ : Nat → Int32} {α : Nat → Nat → Int32} {bn : Nat} {b : Nat → Nat}
end MBL
/-- other things stay -/
def FBR (σ : Nat → Int32) (α : Nat → Nat → Int32) (σ' : Nat → Int32) (α' : Nat → Nat → Int32) : Prop := (∀ k, k ≠ 18 → k ≠ 20 → k ≠ 28 → k ≠ 29 → σ' k = σ k) ∧ (∀ a, a < 21 → a ≠ 19 → α' a = α a)
theorem FBR.trans {σ σ1 σ2 : Nat → Int32} {α α1 α2 : Nat → Nat → Int32} (h1 : FBR σ α σ1 α1) (h2 : FBR σ1 α1 σ2 α2) : FBR σ α σ2 α2 :=
  ⟨fun k e1 e2 e3 e4 => (h2.1 k e1 e2 e3 e4).trans (h1.1 k e1 e2 e3 e4), fun a e1 e2 => (h2.2 a e1 e2).trans (h1.2 a e1 e2)⟩
theorem FBR.refl {σ : Nat → Int32} {α : Nat → Nat → Int32} : FBR σ α σ α := ⟨fun _ _ _ _ _ => rfl, fun _ _ _ => rfl⟩
/-! THE REFERENCE over bits: heads and steps -/
def MSR (δ n : Nat) (l : List Int32) (σ : Nat → Int32) (α : Nat → Nat → Int32) (σ' : Nat → Int32) (α' : Nat → Nat → Int32) : Prop := (∀ k, k ≠ 18 → k ≠ 20 → k ≠ 28 → k ≠ 29 → σ' k = σ k) ∧ (∀ a, a < 21 → a ≠ 19 → α' a = α a) ∧ α' 19 = apL (α 19) n l ∧ σ' 18 = nI (n + l.length) ∧ (∀ a j, a ≠ 19 → j < δ → α' a j = α a j)
theorem MSR.trans {δ δ2 n : Nat} {as bs : List Int32} {σ σ1 σ2 : Nat → Int32} {α α1 α2 : Nat → Nat → Int32} (hδ : δ ≤ δ2) (h1 : MSR δ n as σ α σ1 α1) (h2 : MSR δ2 (n + as.length) bs σ1 α1 σ2 α2) : MSR δ n (as ++ bs) σ α σ2 α2 := by
  obtain ⟨a1, a2, a3, a4, a5⟩ := h1
  obtain ⟨b1, b2, b3, b4, b5⟩ := h2
  refine ⟨fun k h1 h2 h3 h4 => (b1 k h1 h2 h3 h4).trans (a1 k h1 h2 h3 h4), fun a h1 h2 => (b2 a h1 h2).trans (a2 a h1 h2), ?_, ?_, fun a j h1 h2 => (b5 a j h1 (by omega)).trans (a5 a j h1 h2)⟩
  · rw [b3, a3, apL_app]
  · rw [b4, List.length_append, Nat.add_assoc]
theorem MSR.fb {δ n : Nat} {l : List Int32} {σ σ' : Nat → Int32} {α α' : Nat → Nat → Int32} (h : MSR δ n l σ α σ' α') : FBR σ α σ' α' := ⟨h.1, h.2.1⟩
section MBS
variable {N : NT} {nt t δ bn kn : Nat} {b : Nat → Nat}
section
variable {post : (Nat → Int32) → (Nat → Nat → Int32) → Prop} {σ : Nat → Int32} {α β : Nat → Nat → Int32}
end
end MBS
/-! THE REFERENCE over bits: the head of a value, the steps of a sequence -/
section MBV
variable {N : NT} {nt t δ bn kn : Nat} {b : Nat → Nat}
def hdV (N : NT) (t v : Nat) : Int32 := nlo N t + nI v
section
variable {post : (Nat → Int32) → (Nat → Nat → Int32) → Prop} {σ : Nat → Int32} {α β : Nat → Nat → Int32}
end
end MBV
/-! THE REFERENCE over bits: additions; the run -/
theorem MSR.mono {δ δ2 n : Nat} {l : List Int32} {σ σ1 : Nat → Int32} {α α1 : Nat → Nat → Int32} (hδ : δ ≤ δ2) (h : MSR δ2 n l σ α σ1 α1) : MSR δ n l σ α σ1 α1 := ⟨h.1, h.2.1, h.2.2.1, h.2.2.2.1, fun a j h1 h2 => h.2.2.2.2 a j h1 (by omega)⟩
section MBR
variable {post : Int32 → (Nat → Int32) → (Nat → Nat → Int32) → Prop} {N : NT} {nt bn kn : Nat} {b : Nat → Nat}
section
variable {t δ : Nat} {postS : (Nat → Int32) → (Nat → Nat → Int32) → Prop} {σ : Nat → Int32} {β : Nat → Nat → Int32}
end
end MBR
/-! THE REFERENCE over bits: the induction -/
section MBX
variable {post : Int32 → (Nat → Int32) → (Nat → Nat → Int32) → Prop} {N : NT} {nt bn kn : Nat} {b : Nat → Nat}
theorem tkB_q {w p bd q : Nat} (hp : p ≤ bn) (hv : tkB b bn w p bd = .inl q) : q ≤ bn := by
  unfold tkB at hv
  split at hv
  · cases hv; exact Nat.le_refl _
  · split at hv
    · cases hv
    · cases hv; exact hp
end MBX
/-! THE REFERENCE over bits: all of it -/
section MBY
variable {post : Int32 → (Nat → Int32) → (Nat → Nat → Int32) → Prop} {N : NT} {nt bn kn : Nat} {b : Nat → Nat}
theorem MSR.refl {δ n : Nat} {σ : Nat → Int32} {α : Nat → Nat → Int32} (h : σ 18 = nI n) : MSR δ n [] σ α σ α := ⟨fun _ _ _ _ _ => rfl, fun _ _ _ => rfl, apL_nil.symm, h, fun _ _ _ _ => rfl⟩
end MBY
/-! THE REFERENCE over bits: the walk; small leaves -/
section MBZ
variable {post : Int32 → (Nat → Int32) → (Nat → Nat → Int32) → Prop} {N : NT} {nt bn kn : Nat} {b : Nat → Nat}
end MBZ
/-! small leaves of the reference -/
section MSL
variable {σ : Nat → Int32} {α : Nat → Nat → Int32}
theorem c_out {post : Int32 → Prop} {x lo hi : Int32} (hp : post (if lo ≤ x ∧ x ≤ hi then 0 else 1)) : wp_X6_isOutside x lo hi post := by
  refine ⟨fun h => ?_, fun h => ⟨fun h2 => ?_, fun h2 => ?_⟩⟩
  · rwa [if_neg (fun h2 => absurd h2.1 (Int32.not_le.mpr h))] at hp
  · rwa [if_pos ⟨Int32.not_lt.mp h, h2⟩] at hp
  · rwa [if_neg (fun h3 => absurd h3.2 h2)] at hp
/-- a place below n, as the reference asks: 0 ≤ x ≤ n - 1 -/
theorem q_below {n : Nat} {x : Int32} (hn : n < 2 ^ 30) : ((0 : Int32) ≤ x ∧ x ≤ nI n - (1 : Int32)) ↔ ∃ j, j < n ∧ x = nI j := by
  show (nI 0 ≤ x ∧ x ≤ nI n - nI 1) ↔ ∃ j, j < n ∧ x = nI j
  cases n with
  | zero =>
    rw [q_dec0]
    constructor
    · rintro ⟨h1, h2⟩
      have e1 : (-nI 1 : Int32).toInt = -1 := by decide
      have e0 : (nI 0 : Int32).toInt = 0 := by decide
      rw [Int32.le_iff_toInt_le] at h1 h2
      omega
    · rintro ⟨j, hj, _⟩; omega
  | succ n =>
    rw [q_sub (by omega)]
    constructor
    · rintro ⟨h1, h2⟩
      have e2 := nI_toInt (n := n + 1 - 1) (by omega)
      have e0 : (0 : Int32).toInt = 0 := by decide
      have e0' : (nI 0 : Int32).toInt = 0 := by decide
      have h0 : ¬ x < 0 := by rw [Int32.lt_iff_toInt_lt, e0]; rw [Int32.le_iff_toInt_le, e0'] at h1; omega
      obtain ⟨j, hj, e⟩ := nI_of2 (x := x) (M := nI (n + 1 - 1)) (n := n + 1 - 1) e2 h0 h2
      exact ⟨j, by omega, e⟩
    · rintro ⟨j, hj, e⟩
      subst e
      exact ⟨by rw [q_le (by omega) (by omega)]; omega, by rw [q_le (by omega) (by omega)]; omega⟩
end MSL
