/-! THE LAW: bounds; what is written is read; turned bits -/
section LER
variable {N : NT} {b : Nat → Nat} {bn kn t : Nat}
theorem flR_le : ∀ n k m0 p, p ≤ bn → (∀ q, flR N b bn t n k m0 p = .inl q → q ≤ bn) ∧ ∀ p' m l, flR N b bn t n k m0 p = .inr (p', m, l) → p' ≤ bn
  | 0, k, m0, p, hp => ⟨fun q e => (by rw [flR] at e; cases e), fun p' m l e => by rw [flR] at e; cases e; exact hp⟩
  | n + 1, k, m0, p, hp => by
    by_cases c : nO N t k = 1
    · rw [flR, if_pos c]
      cases hv : tkB b bn 1 p 2 with
      | inl q => exact ⟨fun q' e => (by cases e; exact tkB_q hp hv), fun p' m l e => by cases e⟩
      | inr x =>
        obtain ⟨p1, x⟩ := x
        have h1 := (tkB_le hv).2.2
        simp only []
        obtain ⟨a1, a2⟩ := flR_le n (k + 1) (m0 ||| (nI x <<< (nI k &&& 31))) p1 h1
        cases hr : flR N b bn t n (k + 1) (m0 ||| (nI x <<< (nI k &&& 31))) p1 with
        | inl q => exact ⟨fun q' e => (by cases e; exact a1 q hr), fun p' m l e => by cases e⟩
        | inr y =>
          obtain ⟨p2, m2, l2⟩ := y
          exact ⟨fun q' e => (by cases e), fun p' m l e => by cases e; exact a2 _ _ _ hr⟩
    · rw [flR, if_neg c]
      exact flR_le n (k + 1) _ p hp
theorem LEp.a1 {j : Nat} {f : Nat → Nat → RT} (h : ∀ s, LEp bn (f s)) : LEp bn (ad1 f N b bn kn t j) := by
  intro p hp
  unfold ad1
  cases hv : tkB b bn 8 p 256 with
  | inl q => exact ⟨fun q' e => (by cases e; exact tkB_q hp hv), fun p' l e => by cases e⟩
  | inr x =>
    obtain ⟨p1, len⟩ := x
    have h1 := (tkB_le hv).2.2
    simp only []
    by_cases hj : j < kn
    · rw [if_pos hj]
      obtain ⟨a1, a2⟩ := h (nD N t j) p1 h1
      cases hf : f (nD N t j) p1 with
      | inl q => exact ⟨fun q' e => (by cases e; exact a1 q hf), fun p' l e => by cases e⟩
      | inr y =>
        obtain ⟨p2, l2⟩ := y
        unfold ckT
        simp only []
        by_cases hl : p2 = p1 + len
        · rw [if_pos hl]
          exact ⟨fun q' e => (by cases e), fun p' l e => by cases e; exact a2 _ _ hf⟩
        · rw [if_neg hl]
          exact ⟨fun q' e => (by cases e; exact h1), fun p' l e => by cases e⟩
    · rw [if_neg hj]
      by_cases hl : bn < p1 + len
      · rw [if_pos hl]
        exact ⟨fun q' e => (by cases e; exact Nat.le_refl _), fun p' l e => by cases e⟩
      · rw [if_neg hl]
        exact ⟨fun q' e => (by cases e), fun p' l e => by cases e; omega⟩
theorem LEp.adR {f : Nat → Nat → RT} (h : ∀ s, LEp bn (f s)) : ∀ n j, LEp bn (adR f N b bn kn t n j)
  | 0, j => LEp.nil
  | n + 1, j => LEp.seq (LEp.a1 h) (LEp.adR h n (j + 1))
theorem leR : ∀ d t, LEp bn (rV N b bn kn d t)
  | 0, t => fun p hp => ⟨fun q e => (by rw [rV] at e; cases e; exact hp), fun p' l e => by rw [rV] at e; cases e⟩
  | d + 1, t => by
    intro p hp
    by_cases h2 : nK N t = 2
    · rw [rV, if_pos h2]
      unfold sqR
      cases h1 : tkB b bn 1 p 2 with
      | inl q => exact ⟨fun q' e => (by cases e; exact tkB_q hp h1), fun p' l e => by cases e⟩
      | inr x =>
      obtain ⟨p1, ha⟩ := x
      have g1 := (tkB_le h1).2.2
      simp only []
      obtain ⟨a1, a2⟩ := flR_le (N := N) (b := b) (t := t) (nC N t) 0 0 p1 g1
      cases hf : flR N b bn t (nC N t) 0 0 p1 with
      | inl q => exact ⟨fun q' e => (by cases e; exact a1 q hf), fun p' l e => by cases e⟩
      | inr y =>
      obtain ⟨p2, m, fl⟩ := y
      have g2 := a2 _ _ _ hf
      simp only []
      obtain ⟨b1, b2⟩ := LEp.pt (N := N) (t := t) (m := m) (f := rV N b bn kn d) (fun s => leR d s) (nC N t) 0 p2 g2
      cases h3 : ptT (rV N b bn kn d) N t m (nC N t) 0 p2 with
      | inl q => exact ⟨fun q' e => (by cases e; exact b1 q h3), fun p' l e => by cases e⟩
      | inr z =>
      obtain ⟨p3, pl⟩ := z
      have g3 := b2 _ _ h3
      simp only []
      by_cases hz : ha = 0
      · rw [if_pos hz]
        exact ⟨fun q' e => (by cases e), fun p' l e => by cases e; exact g3⟩
      · rw [if_neg hz]
        cases h4 : tkB b bn 2 p3 (nA N t) with
        | inl q => exact ⟨fun q' e => (by cases e; exact tkB_q g3 h4), fun p' l e => by cases e⟩
        | inr w =>
        obtain ⟨p4, v⟩ := w
        have g4 := (tkB_le h4).2.2
        simp only []
        exact LEp.seq (f := fun _ => .inr (p4, fl ++ nI (min kn (v + 1)) :: pl)) (fun p hp => ⟨fun q e => (by cases e), fun p' l e => (by cases e; exact g4)⟩) (LEp.adR (fun s => leR d s) (v + 1) 0) p hp
    · cases h1 : tkB b bn (nW N t) p (nV N t) with
      | inl q =>
        rw [rV_hq h2 h1]
        exact ⟨fun q' e => (by cases e; exact tkB_q hp h1), fun p' l e => by cases e⟩
      | inr x =>
        obtain ⟨p1, v⟩ := x
        have g1 := (tkB_le h1).2.2
        rw [rV_h h2 h1]
        have s1 : LEp bn (hdF N (rV N b bn kn d) t (nlo N t + nI v)) := by
          unfold hdF
          by_cases k1 : nK N t = 1
          · simp only [if_pos k1]; exact LEp.rpt (leR d _) _
          · by_cases k3 : nK N t = 3
            · simp only [if_neg k1, if_pos k3]; exact leR d _
            · simp only [if_neg k1, if_neg k3]; exact LEp.nil
        exact LEp.seq (f := fun _ => .inr (p1, [nlo N t + nI v])) (fun p' hp => ⟨fun q e => (by cases e), fun p' l e => (by cases e; exact g1)⟩) s1 p hp
theorem fv_cases : fvN N b bn kn t = -1 ∨ ∃ q, q ≤ bn ∧ fvN N b bn kn t = nI q := by
  obtain ⟨a1, a2⟩ := leR (N := N) (b := b) (bn := bn) (kn := kn) 17 t 0 (Nat.zero_le _)
  unfold fvN
  cases h : rV N b bn kn 17 t 0 with
  | inl q => exact Or.inr ⟨q, a1 q h, rfl⟩
  | inr y =>
    obtain ⟨p', l⟩ := y
    simp only []
    by_cases c : bn ≤ p'
    · rw [if_pos c]; exact Or.inl rfl
    · rw [if_neg c]; exact Or.inr ⟨p', a2 _ _ h, rfl⟩
theorem wv_cases {T : Nat → Int32} {tn : Nat} : wvN N T tn t = -1 ∨ ∃ q, q ≤ tn ∧ wvN N T tn t = nI q := by
  obtain ⟨a1, a2⟩ := leV (N := N) (T := T) (tn := tn) 17 t 0 (Nat.zero_le _)
  unfold wvN
  cases h : vT N T tn 17 t 0 with
  | inl q => exact Or.inr ⟨q, a1 q h, rfl⟩
  | inr y =>
    obtain ⟨p', l⟩ := y
    simp only []
    by_cases c : tn ≤ p'
    · rw [if_pos c]; exact Or.inl rfl
    · rw [if_neg c]; exact Or.inr ⟨p', a2 _ _ h, rfl⟩
theorem wv_m1 {T : Nat → Int32} {tn : Nat} (htn : tn ≤ 300) (h : wvN N T tn t = -1) : ∃ bs, vT N T tn 17 t 0 = .inr (tn, bs) := by
  obtain ⟨a1, a2⟩ := leV (N := N) (T := T) (tn := tn) 17 t 0 (Nat.zero_le _)
  unfold wvN at h
  cases hv : vT N T tn 17 t 0 with
  | inl q =>
    rw [hv] at h
    exact absurd h (q_nw (by have := a1 q hv; omega))
  | inr y =>
    obtain ⟨p', l⟩ := y
    rw [hv] at h
    simp only [] at h
    have h2 := a2 _ _ hv
    by_cases c : tn ≤ p'
    · rw [show p' = tn by omega]; exact ⟨l, rfl⟩
    · rw [if_neg c] at h
      exact absurd h (q_nw (by omega))
theorem fv_m1 (hbn : bn ≤ 240) (h : fvN N b bn kn t = -1) : ∃ l, rV N b bn kn 17 t 0 = .inr (bn, l) := by
  obtain ⟨a1, a2⟩ := leR (N := N) (b := b) (bn := bn) (kn := kn) 17 t 0 (Nat.zero_le _)
  unfold fvN at h
  cases hv : rV N b bn kn 17 t 0 with
  | inl q =>
    rw [hv] at h
    exact absurd h (q_nw (by have := a1 q hv; omega))
  | inr y =>
    obtain ⟨p', l⟩ := y
    rw [hv] at h
    simp only [] at h
    have h2 := a2 _ _ hv
    by_cases c : bn ≤ p'
    · rw [show p' = bn by omega]; exact ⟨l, rfl⟩
    · rw [if_neg c] at h
      exact absurd h (q_nw (by omega))
end LER
/-! .. bits and tales that go together -/
theorem AT_btL {bs : List Int32} (h : is01 bs) : AT (bI (btL bs)) 0 bs := AT_of bs 0 (fun i _ => by rw [Nat.zero_add]; exact (btL_01 h i).1.symm)
theorem AT_cp {T : Nat → Int32} {l : List Int32} : AT (cpF T (fun i => l.getD i 0) l.length) 0 l := AT_of l 0 (fun i hi => by rw [Nat.zero_add, cpF, if_pos hi])
section GO
variable {N : NT} {nt t : Nat} {b : Nat → Nat} {n kn : Nat}
/-- what is read is a tale, with fewer additions known as well -/
theorem go_read (hN : NWf N nt) (ht : t < nt) (hb : ∀ i, b i ≤ 1) (hkn : kn ≤ 3) {l : List Int32} (h : rV N b n 3 17 t 0 = .inr (n, l)) : ∃ l' : List Int32, rV N b n kn 17 t 0 = .inr (n, l') ∧ ∀ T, AT T 0 l' → ∃ bs : List Int32, vT N T l'.length 17 t 0 = .inr (l'.length, bs) ∧ (kn = 3 → bs.length = n ∧ AT (bI b) 0 bs) := by
  obtain ⟨a1, a2⟩ := rkV (kn := kn) hN hb hkn 17 t ht 0 n l h
  obtain ⟨_, l', a4, a5⟩ := a2 (Nat.zero_le _)
  refine ⟨l', a4, fun T hT => ?_⟩
  obtain ⟨bs, d1, d2⟩ := a5 T l'.length 0 hT (by omega)
  have d1 : vT N T l'.length 17 t 0 = .inr (0 + l'.length, bs) := d1
  rw [Nat.zero_add] at d1
  refine ⟨bs, d1, fun hk => ?_⟩
  obtain ⟨y1, y2⟩ := d2 hk
  exact ⟨by omega, y2⟩
/-- what is written is read -/
theorem go_write (hN : NWf N nt) (hM : NMw N nt) (ht : t < nt) {T : Nat → Int32} {tn : Nat} {bs : List Int32} (h : vT N T tn 17 t 0 = .inr (tn, bs)) : (∀ i, btL bs i ≤ 1) ∧ AT (bI (btL bs)) 0 bs ∧ ∃ l : List Int32, tn = l.length ∧ AT T 0 l ∧ rV N (btL bs) bs.length 3 17 t 0 = .inr (bs.length, l) := by
  have h01 := vT_01 17 t 0 _ _ h
  have hb : ∀ i, btL bs i ≤ 1 := fun i => (btL_01 h01 i).2
  obtain ⟨l, a1, a2, _, a4⟩ := wrV (b := btL bs) (bn := bs.length) hN hM hb 17 t ht 0 tn bs h
  have := a4 0 (AT_btL h01) (by omega)
  rw [Nat.zero_add] at this
  exact ⟨hb, AT_btL h01, l, by omega, a2, this⟩
/-- bits cut off -/
theorem go_cut (hN : NWf N nt) (ht : t < nt) {c : Nat} (hc : c < n) {l : List Int32} (h : rV N b n kn 17 t 0 = .inr (n, l)) : fvN N b c kn t = nI c := by
  obtain ⟨_, _, a3⟩ := ctV (c := b) (cn := c) hN (fun _ _ => rfl) (by omega) 17 t ht 0 n l h
  exact fvN_l (a3 (Nat.zero_le _) hc)
theorem fv_ok {l : List Int32} (h : rV N b n kn 17 t 0 = .inr (n, l)) : fvN N b n kn t = -1 := by rw [fvN_r h, if_pos (Nat.le_refl _)]
theorem wv_ok {T : Nat → Int32} {m : Nat} {bs : List Int32} (h : vT N T m 17 t 0 = .inr (m, bs)) : wvN N T m t = -1 := by rw [wvN_r h, if_pos (Nat.le_refl _)]
end GO
