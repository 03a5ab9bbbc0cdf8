/-! A MEMORY BY ROLES: ad says where a role's cell lies, C what it holds -/
def Rp (μ : Mm) (ad : Nat → Nat) (C : Mm) : Prop := (∀ r e, C r = some e → μ (ad r) = some e) ∧ ∀ r s, C r ≠ none → C s ≠ none → ad r = ad s → r = s
theorem Rp.get {μ : Mm} {ad : Nat → Nat} {C : Mm} (h : Rp μ ad C) {r : Nat} {e : En} (hr : C r = some e) : μ (ad r) = some e := h.1 r e hr
theorem Rp.ne {μ : Mm} {ad : Nat → Nat} {C : Mm} (h : Rp μ ad C) {r s : Nat} {e e' : En} (hr : C r = some e) (hs : C s = some e') (n : r ≠ s) : ad r ≠ ad s := fun q => n (h.2 r s (by rw [hr]; simp) (by rw [hs]; simp) q)
theorem Rp.cong {μ : Mm} {ad : Nat → Nat} {C C' : Mm} (h : Rp μ ad C) (e : ∀ r, C' r = C r) : Rp μ ad C' := by
  have : C' = C := funext e
  rw [this]; exact h
/-- a write moves one role -/
theorem Rp.put {μ : Mm} {ad : Nat → Nat} {C : Mm} (h : Rp μ ad C) {r : Nat} {e0 : En} (e : En) (hr : C r = some e0) : Rp (ups μ (ad r) e) ad (ups C r e) := by
  have hn : ∀ s, ups C r e s ≠ none → C s ≠ none := by
    intro s hs
    by_cases q : s = r
    · subst q; rw [hr]; simp
    · rwa [ups_n q] at hs
  refine ⟨fun s e' hs => ?_, fun s s' h1 h2 q => h.2 s s' (hn s h1) (hn s' h2) q⟩
  by_cases q : s = r
  · subst q
    rw [ups_s] at hs ⊢; exact hs
  · rw [ups_n q] at hs
    rw [ups_n (h.ne hs hr q)]
    exact h.1 s e' hs
/-- a fresh place takes a new role -/
theorem Rp.new {μ : Mm} {ad : Nat → Nat} {C : Mm} (h : Rp μ ad C) {r q : Nat} (e : En) (hq : μ q = none) (hr : C r = none) : Rp (ups μ q e) (fun s => if s = r then q else ad s) (ups C r e) := by
  have hf : ∀ s e', C s = some e' → ad s ≠ q := fun s e' hs z => by
    have := h.1 s e' hs
    rw [z, hq] at this; cases this
  refine ⟨fun s e' hs => ?_, fun s s' h1 h2 z => ?_⟩
  · by_cases z : s = r
    · subst z
      rw [ups_s] at hs
      simp only [if_true]
      rw [ups_s]; exact hs
    · rw [ups_n z] at hs
      simp only [if_neg z]
      rw [ups_n (hf s e' hs)]
      exact h.1 s e' hs
  · by_cases z1 : s = r
    · by_cases z2 : s' = r
      · rw [z1, z2]
      · simp only [if_pos z1, if_neg z2] at z
        rw [ups_n z2] at h2
        obtain ⟨e', he⟩ := Option.ne_none_iff_exists'.mp h2
        exact absurd z.symm (hf s' e' he)
    · by_cases z2 : s' = r
      · simp only [if_neg z1, if_pos z2] at z
        rw [ups_n z1] at h1
        obtain ⟨e', he⟩ := Option.ne_none_iff_exists'.mp h1
        exact absurd z (hf s e' he)
      · simp only [if_neg z1, if_neg z2] at z
        rw [ups_n z1] at h1
        rw [ups_n z2] at h2
        exact h.2 s s' h1 h2 z
/-- a fresh place that nobody keeps -/
theorem Rp.junk {μ : Mm} {ad : Nat → Nat} {C : Mm} (h : Rp μ ad C) {q : Nat} (e : En) (hq : μ q = none) : Rp (ups μ q e) ad C := by
  refine ⟨fun s e' hs => ?_, h.2⟩
  have hn : ad s ≠ q := fun z => by
    have := h.1 s e' hs
    rw [z, hq] at this; cases this
  rw [ups_n hn]
  exact h.1 s e' hs
/-- a write at a place that has no role -/
theorem Rp.out {μ : Mm} {ad : Nat → Nat} {C : Mm} (h : Rp μ ad C) {q : Nat} (e : En) (hq : ∀ s, C s ≠ none → ad s ≠ q) : Rp (ups μ q e) ad C := by
  refine ⟨fun s e' hs => ?_, h.2⟩
  rw [ups_n (hq s (by rw [hs]; simp))]
  exact h.1 s e' hs
