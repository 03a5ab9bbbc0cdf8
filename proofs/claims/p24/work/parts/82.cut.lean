/-! BITS CUT OFF: where reading comes to a fault -/
def CTp (b' : Nat) (f f' : Nat → RT) : Prop := ∀ p p' l, f p = .inr (p', l) → p ≤ p' ∧ (p' ≤ b' → f' p = .inr (p', l)) ∧ (p ≤ b' → b' < p' → f' p = .inl b')
section CTS
variable {N : NT} {b c : Nat → Nat} {bn cn kn t nt : Nat}
theorem CTp.nil : CTp cn (fun p => .inr (p, [])) (fun p => .inr (p, [])) := by
  intro p p' l e
  cases e
  exact ⟨Nat.le_refl _, fun _ => rfl, fun h1 h2 => by omega⟩
theorem CTp.seq {f f' g g' : Nat → RT} (h1 : CTp cn f f') (h2 : CTp cn g g') : CTp cn (fun p => bnd (f p) g) (fun p => bnd (f' p) g') := by
  intro p p' l e
  obtain ⟨p1, b1, b2, e1, e2, e3⟩ := bnd_inr e
  obtain ⟨a1, a2, a3⟩ := h1 p p1 b1 e1
  obtain ⟨c1, c2, c3⟩ := h2 p1 p' b2 e2
  refine ⟨by omega, fun hp => by rw [e3]; exact bnd_of (a2 (by omega)) (c2 hp), fun hp hq => ?_⟩
  by_cases c : p1 ≤ cn
  · exact bnd_in2 (a2 c) (c3 c hq)
  · exact bnd_in1 (a3 hp (by omega))
theorem CTp.rpt {f f' : Nat → RT} (h : CTp cn f f') : ∀ n, CTp cn (rptT f n) (rptT f' n)
  | 0 => CTp.nil
  | n + 1 => CTp.seq h (CTp.rpt h n)
theorem CTp.pt {m : Int32} {C : Nat} {f f' : Nat → Nat → RT} (h : ∀ k, k < C → CTp cn (f (nP N t k)) (f' (nP N t k))) : ∀ n k, k + n ≤ C → CTp cn (ptT f N t m n k) (ptT f' N t m n k)
  | 0, k, _ => CTp.nil
  | n + 1, k, hk => by
    have ih := CTp.pt (m := m) h n (k + 1) (by omega)
    by_cases c : msk m k = 1
    · rw [ptT_1 c, ptT_1 c]
      exact CTp.seq (h k (by omega)) ih
    · rw [ptT_0 c, ptT_0 c]
      exact ih
theorem nmB_cong : ∀ w p a, (∀ i, p ≤ i → i < p + w → c i = b i) → nmB c w p a = nmB b w p a
  | 0, p, a, _ => rfl
  | w + 1, p, a, h => by
    have e1 : nmB c (w + 1) p a = nmB c w (p + 1) (2 * a + c p) := rfl
    have e2 : nmB b (w + 1) p a = nmB b w (p + 1) (2 * a + b p) := rfl
    rw [e1, e2, h p (by omega) (by omega), nmB_cong w (p + 1) _ (fun i h1 h2 => h i (by omega) (by omega))]
theorem tkB_ct (hag : ∀ i, i < cn → c i = b i) {w p bd p' v : Nat} (h : tkB b bn w p bd = .inr (p', v)) : p' = p + w ∧ (p' ≤ cn → tkB c cn w p bd = .inr (p', v)) ∧ (cn < p' → tkB c cn w p bd = .inl cn) := by
  obtain ⟨h1, h2, h3⟩ := tkB_le h
  refine ⟨h2, fun hp => ?_, fun hp => ?_⟩
  · unfold tkB at h ⊢
    rw [if_neg (by omega)] at h ⊢
    rw [nmB_cong (b := b) w p 0 (fun i _ h2 => hag i (by omega))]
    exact h
  · unfold tkB
    rw [if_pos (by omega)]
theorem flR_ct (hag : ∀ i, i < cn → c i = b i) : ∀ n k m0 p p' m l, flR N b bn t n k m0 p = .inr (p', m, l) → p ≤ p' ∧ (p' ≤ cn → flR N c cn t n k m0 p = .inr (p', m, l)) ∧ (p ≤ cn → cn < p' → flR N c cn t n k m0 p = .inl cn)
  | 0, k, m0, p, p', m, l, e => by
    rw [flR] at e; cases e
    exact ⟨Nat.le_refl _, fun _ => rfl, fun h1 h2 => by omega⟩
  | n + 1, k, m0, p, p', m, l, e => by
    rw [flR] at e
    by_cases co : nO N t k = 1
    · rw [if_pos co] at e
      cases hv : tkB b bn 1 p 2 with
      | inl q => rw [hv] at e; cases e
      | inr x =>
        obtain ⟨p1, x⟩ := x
        rw [hv] at e
        simp only [] at e
        cases hr : flR N b bn t n (k + 1) (m0 ||| (nI x <<< (nI k &&& 31))) p1 with
        | inl q => rw [hr] at e; cases e
        | inr y =>
          obtain ⟨p2, m2, l2⟩ := y
          rw [hr] at e
          cases e
          obtain ⟨t1, t2, t3⟩ := tkB_ct hag hv
          obtain ⟨s1, s2, s3⟩ := flR_ct hag n (k + 1) _ p1 _ _ _ hr
          refine ⟨by omega, fun hp => ?_, fun h1 h2 => ?_⟩
          · rw [flR, if_pos co, t2 (by omega)]
            simp only []
            rw [s2 hp]
          · rw [flR, if_pos co]
            by_cases z : p1 ≤ cn
            · rw [t2 z]
              simp only []
              rw [s3 z h2]
            · rw [t3 (by omega)]
    · rw [if_neg co] at e
      obtain ⟨s1, s2, s3⟩ := flR_ct hag n (k + 1) _ p _ _ _ e
      rw [flR, if_neg co]
      exact ⟨s1, s2, s3⟩
theorem CTp.a1 (hag : ∀ i, i < cn → c i = b i) (hle : cn ≤ bn) {j : Nat} {f f' : Nat → Nat → RT} (h : CTp cn (f (nD N t j)) (f' (nD N t j))) : CTp cn (ad1 f N b bn kn t j) (ad1 f' N c cn kn t j) := by
  intro p p' l e
  unfold ad1 at e
  cases hv : tkB b bn 8 p 256 with
  | inl q => rw [hv] at e; cases e
  | inr x =>
    obtain ⟨p1, len⟩ := x
    rw [hv] at e
    simp only [] at e
    obtain ⟨t1, t2, t3⟩ := tkB_ct hag hv
    by_cases hj : j < kn
    · rw [if_pos hj] at e
      cases hf : f (nD N t j) p1 with
      | inl q => rw [hf] at e; cases e
      | inr y =>
        obtain ⟨p2, l2⟩ := y
        rw [hf] at e
        unfold ckT at e
        simp only [] at e
        by_cases hl : p2 = p1 + len
        · rw [if_pos hl] at e
          cases e
          obtain ⟨s1, s2, s3⟩ := h p1 _ _ hf
          refine ⟨by omega, fun hp => ?_, fun h1 h2 => ?_⟩
          · unfold ad1
            rw [t2 (by omega)]
            simp only []
            rw [if_pos hj, s2 hp]
            unfold ckT
            simp only []
            rw [if_pos hl]
          · unfold ad1
            by_cases z : p1 ≤ cn
            · rw [t2 z]
              simp only []
              rw [if_pos hj, s3 z h2]
              rfl
            · rw [t3 (by omega)]
        · rw [if_neg hl] at e; cases e
    · rw [if_neg hj] at e
      by_cases hl : bn < p1 + len
      · rw [if_pos hl] at e; cases e
      · rw [if_neg hl] at e
        cases e
        refine ⟨by omega, fun hp => ?_, fun h1 h2 => ?_⟩
        · unfold ad1
          rw [t2 (by omega)]
          simp only []
          rw [if_neg hj, if_neg (by omega)]
        · unfold ad1
          by_cases z : p1 ≤ cn
          · rw [t2 z]
            simp only []
            rw [if_neg hj, if_pos (by omega)]
          · rw [t3 (by omega)]
theorem CTp.ad (hag : ∀ i, i < cn → c i = b i) (hle : cn ≤ bn) {A : Nat} {f f' : Nat → Nat → RT} (h : ∀ j, j < A → CTp cn (f (nD N t j)) (f' (nD N t j))) : ∀ n j, j + n ≤ A → CTp cn (adR f N b bn kn t n j) (adR f' N c cn kn t n j)
  | 0, j, _ => CTp.nil
  | n + 1, j, hj => CTp.seq (CTp.a1 hag hle (h j (by omega))) (CTp.ad hag hle h n (j + 1) (by omega))
theorem CTp.hd {v : Nat} {f f' : Nat → Nat → RT} (hN : NWf N nt) (ht : t < nt) (hv : v < nV N t) (h : ∀ s, s < t → CTp cn (f s) (f' s)) : CTp cn (hdF N f t (nlo N t + nI v)) (hdF N f' t (nlo N t + nI v)) := by
  have hw := hN t ht
  unfold hdF
  by_cases h1 : nK N t = 1
  · simp only [if_pos h1]
    obtain ⟨hC, _⟩ := hw.2.2.2.2.2.2.1 h1
    exact CTp.rpt (h _ (hw.2.2.2.1 0 (by omega)).1) _
  · by_cases h3 : nK N t = 3
    · simp only [if_neg h1, if_pos h3]
      obtain ⟨c1, c2, c3⟩ := hN.child ht h3 hv
      rw [c1]
      exact h _ c3
    · simp only [if_neg h1, if_neg h3]
      exact CTp.nil
theorem ctS (hN : NWf N nt) (hag : ∀ i, i < cn → c i = b i) (hle : cn ≤ bn) {d : Nat} (ht : t < nt) (h2 : nK N t = 2) (ih : ∀ s, s < t → CTp cn (rV N b bn kn d s) (rV N c cn kn d s)) : CTp cn (rV N b bn kn (d + 1) t) (rV N c cn kn (d + 1) t) := by
  have hw := hN t ht
  intro p p' l e
  rw [rV, if_pos h2] at e
  unfold sqR at e
  cases h1 : tkB b bn 1 p 2 with
  | inl q => rw [h1] at e; cases e
  | inr x =>
  obtain ⟨p1, ha⟩ := x
  rw [h1] at e
  simp only [] at e
  cases hf : flR N b bn t (nC N t) 0 0 p1 with
  | inl q => rw [hf] at e; cases e
  | inr y =>
  obtain ⟨p2, m, fl⟩ := y
  rw [hf] at e
  simp only [] at e
  cases h3 : ptT (rV N b bn kn d) N t m (nC N t) 0 p2 with
  | inl q => rw [h3] at e; cases e
  | inr z =>
  obtain ⟨p3, pl⟩ := z
  rw [h3] at e
  simp only [] at e
  obtain ⟨t1, t2, t3⟩ := tkB_ct hag h1
  obtain ⟨s1, s2, s3⟩ := flR_ct hag (nC N t) 0 0 p1 _ _ _ hf
  obtain ⟨u1, u2, u3⟩ := CTp.pt (C := nC N t) (t := t) (m := m) (f := rV N b bn kn d) (f' := rV N c cn kn d) (fun k hk => ih _ (hw.2.2.2.1 k hk).1) (nC N t) 0 (by omega) p2 p3 pl h3
  -- a fault on the way
  have out : p ≤ cn → cn < p3 → rV N c cn kn (d + 1) t p = .inl cn := by
    intro hp hq
    rw [rV, if_pos h2]
    unfold sqR
    by_cases z1 : p1 ≤ cn
    · rw [t2 z1]
      simp only []
      by_cases z2 : p2 ≤ cn
      · rw [s2 z2]
        simp only []
        rw [u3 z2 hq]
      · rw [s3 z1 (by omega)]
    · rw [t3 (by omega)]
  by_cases hz : ha = 0
  · rw [if_pos hz] at e
    cases e
    refine ⟨by omega, fun hp => ?_, fun hp hq => out hp hq⟩
    rw [rV, if_pos h2]
    unfold sqR
    rw [t2 (by omega)]
    simp only []
    rw [s2 (by omega)]
    simp only []
    rw [u2 (by omega)]
    simp only []
    rw [if_pos hz]
  · rw [if_neg hz] at e
    cases h4 : tkB b bn 2 p3 (nA N t) with
    | inl q => rw [h4] at e; cases e
    | inr w =>
    obtain ⟨p4, v⟩ := w
    rw [h4] at e
    simp only [] at e
    obtain ⟨p5, b1, al, e1, e2, e3⟩ := bnd_inr e
    cases e1
    obtain ⟨w1, w2, w3⟩ := tkB_ct hag h4
    have w4 := (tkB_le h4).1
    obtain ⟨v1, v2, v3⟩ := CTp.ad (kn := kn) (A := nA N t) (t := t) (f := rV N b bn kn d) (f' := rV N c cn kn d) hag hle (fun j hj => ih _ (hw.2.2.2.2.1 j hj)) (v + 1) 0 (by omega) p4 p' al e2
    refine ⟨by omega, fun hp => ?_, fun hp hq => ?_⟩
    · rw [rV, if_pos h2]
      unfold sqR
      rw [t2 (by omega)]
      simp only []
      rw [s2 (by omega)]
      simp only []
      rw [u2 (by omega)]
      simp only []
      rw [if_neg hz, w2 (by omega)]
      simp only []
      rw [e3]
      exact bnd_of rfl (v2 hp)
    · by_cases z3 : p3 ≤ cn
      · rw [rV, if_pos h2]
        unfold sqR
        rw [t2 (by omega)]
        simp only []
        rw [s2 (by omega)]
        simp only []
        rw [u2 (by omega)]
        simp only []
        rw [if_neg hz]
        by_cases z4 : p4 ≤ cn
        · rw [w2 z4]
          simp only []
          exact bnd_in2 rfl (v3 z4 hq)
        · rw [w3 (by omega)]
      · exact out hp (by omega)
theorem ctV (hN : NWf N nt) (hag : ∀ i, i < cn → c i = b i) (hle : cn ≤ bn) : ∀ d t, t < nt → CTp cn (rV N b bn kn d t) (rV N c cn kn d t)
  | 0, t, _ => fun p p' l e => by rw [rV] at e; cases e
  | d + 1, t, ht => by
    by_cases h2 : nK N t = 2
    · exact ctS hN hag hle ht h2 (fun s hs => ctV hN hag hle d s (by omega))
    · intro p p' l e
      cases h1 : tkB b bn (nW N t) p (nV N t) with
      | inl q => rw [rV_hq h2 h1] at e; cases e
      | inr x =>
      obtain ⟨p1, v⟩ := x
      rw [rV_h h2 h1] at e
      obtain ⟨p5, b1, l2, e1, e2, e3⟩ := bnd_inr e
      cases e1
      obtain ⟨t1, t2, t3⟩ := tkB_ct hag h1
      have t4 := (tkB_le h1).1
      obtain ⟨u1, u2, u3⟩ := CTp.hd hN ht t4 (fun s hs => ctV hN hag hle d s (by omega)) p1 p' l2 e2
      refine ⟨by omega, fun hp => ?_, fun hp hq => ?_⟩
      · rw [rV_h h2 (t2 (by omega)), e3]
        exact bnd_of rfl (u2 hp)
      · by_cases z : p1 ≤ cn
        · rw [rV_h h2 (t2 z)]
          exact bnd_in2 rfl (u3 z hq)
        · exact rV_hq h2 (t3 (by omega))
theorem rV_pos {d p p' : Nat} {l : List Int32} (e : rV N b bn kn d t p = .inr (p', l)) : 0 < l.length := by
  cases d with
  | zero => rw [rV] at e; cases e
  | succ d =>
    by_cases h2 : nK N t = 2
    · rw [rV, if_pos h2] at e
      unfold sqR at e
      split at e
      · cases e
      · split at e
        · cases e
        · split at e
          · cases e
          · split at e
            · cases e
              rw [List.length_append, List.length_cons]; omega
            · split at e
              · cases e
              · obtain ⟨p5, b1, al, e1, e2, e3⟩ := bnd_inr e
                cases e1
                rw [e3, List.length_append, List.length_append, List.length_cons]; omega
    · cases h1 : tkB b bn (nW N t) p (nV N t) with
      | inl q => rw [rV_hq h2 h1] at e; cases e
      | inr x =>
      obtain ⟨p1, v⟩ := x
      rw [rV_h h2 h1] at e
      obtain ⟨p5, b1, l2, e1, e2, e3⟩ := bnd_inr e
      cases e1
      rw [e3, List.length_append, List.length_cons]; omega
end CTS
/-! WHERE A TALE IS WRONG: not behind its end -/
def LEp (tn : Nat) (f : Nat → RT) : Prop := ∀ p, p ≤ tn → (∀ q, f p = .inl q → q ≤ tn) ∧ ∀ p' l, f p = .inr (p', l) → p' ≤ tn
section LES
variable {N : NT} {T : Nat → Int32} {tn t nt : Nat}
theorem LEp.nil : LEp tn (fun p => .inr (p, [])) := fun p hp => ⟨fun q e => (by cases e), fun p' l e => by cases e; exact hp⟩
theorem LEp.seq {f g : Nat → RT} (h1 : LEp tn f) (h2 : LEp tn g) : LEp tn (fun p => bnd (f p) g) := by
  intro p hp
  obtain ⟨a1, a2⟩ := h1 p hp
  refine ⟨fun q e => ?_, fun p' l e => ?_⟩
  · rcases bnd_inl e with e1 | ⟨p1, b1, e1, e2⟩
    · exact a1 q e1
    · exact (h2 p1 (a2 p1 b1 e1)).1 q e2
  · obtain ⟨p1, b1, b2, e1, e2, e3⟩ := bnd_inr e
    exact (h2 p1 (a2 p1 b1 e1)).2 _ _ e2
theorem LEp.rpt {f : Nat → RT} (h : LEp tn f) : ∀ n, LEp tn (rptT f n)
  | 0 => LEp.nil
  | n + 1 => LEp.seq h (LEp.rpt h n)
theorem LEp.pt {m : Int32} {f : Nat → Nat → RT} (h : ∀ s, LEp tn (f s)) : ∀ n k, LEp tn (ptT f N t m n k)
  | 0, k => LEp.nil
  | n + 1, k => by
    by_cases c : msk m k = 1
    · rw [ptT_1 c]
      exact LEp.seq (h _) (LEp.pt h n (k + 1))
    · rw [ptT_0 c]
      exact LEp.pt h n (k + 1)
theorem LEp.ln {f : Nat → RT} (h : LEp tn f) : LEp tn (fun p => lnT (f p)) := by
  intro p hp
  obtain ⟨a1, a2⟩ := h p hp
  cases hf : f p with
  | inl q => exact ⟨fun q' e => by
      have e : lnT (f p) = .inl q' := e
      rw [hf] at e; cases e; exact a1 q hf, fun p' l e => by
      have e : lnT (f p) = .inr (p', l) := e
      rw [hf] at e; cases e⟩
  | inr y =>
    obtain ⟨p1, b1⟩ := y
    refine ⟨fun q' e => ?_, fun p' l e => ?_⟩
    · have e : lnT (f p) = .inl q' := e
      rw [hf] at e; cases e
    · have e : lnT (f p) = .inr (p', l) := e
      rw [hf] at e; cases e; exact a2 p1 b1 hf
theorem LEp.ad {f : Nat → Nat → RT} (h : ∀ s, LEp tn (f s)) : ∀ n j, LEp tn (adT f N t n j)
  | 0, j => LEp.nil
  | n + 1, j => LEp.seq (LEp.ln (h _)) (LEp.ad h n (j + 1))
theorem flT_le : ∀ n k m0 q, q ≤ tn → (∀ q', flT N T tn t n k m0 q = .inl q' → q' ≤ tn) ∧ ∀ q' m, flT N T tn t n k m0 q = .inr (q', m) → q' ≤ tn
  | 0, k, m0, q, hq => ⟨fun q' e => (by rw [flT] at e; cases e), fun q' m e => by rw [flT] at e; cases e; exact hq⟩
  | n + 1, k, m0, q, hq => by
    by_cases c : nO N t k = 1
    · by_cases hx : nxt T tn q 0 1
      · rw [flT, if_pos c, if_pos hx]
        exact flT_le n (k + 1) _ (q + 1) hx.1
      · rw [flT, if_pos c, if_neg hx]
        exact ⟨fun q' e => by cases e; exact hq, fun q' m e => by cases e⟩
    · rw [flT, if_neg c]
      exact flT_le n (k + 1) _ q hq
theorem leV : ∀ d t, LEp tn (vT N T tn d t)
  | 0, t => fun p hp => ⟨fun q e => (by rw [vT] at e; cases e; exact hp), fun p' l e => by rw [vT] at e; cases e⟩
  | d + 1, t => by
    intro p hp
    by_cases h2 : nK N t = 2
    · rw [vT, if_pos h2]
      unfold sqT
      obtain ⟨a1, a2⟩ := flT_le (N := N) (T := T) (t := t) (nC N t) 0 0 p hp
      cases hf : flT N T tn t (nC N t) 0 0 p with
      | inl q => exact ⟨fun q' e => (by cases e; exact a1 q hf), fun p' l e => by cases e⟩
      | inr y =>
        obtain ⟨p1, m⟩ := y
        have hp1 := a2 p1 m hf
        simp only []
        by_cases hx : nxt T tn p1 0 (nI (nA N t))
        · rw [if_pos hx]
          have s1 : LEp tn (fun p3 => bnd (.inr (p3, if T p1 ≤ 0 then [] else bin 2 (T p1 - 1))) fun p4 => adT (vT N T tn d) N t (T p1).toNatClampNeg 0 p4) := LEp.seq (f := fun p3 => .inr (p3, if T p1 ≤ 0 then [] else bin 2 (T p1 - 1))) (fun p hp => ⟨fun q e => (by cases e), fun p' l e => (by cases e; exact hp)⟩) (LEp.ad (fun s => leV d s) _ _)
          have s2 : LEp tn (fun p2 => bnd (ptT (vT N T tn d) N t m (nC N t) 0 p2) fun p3 => bnd (.inr (p3, if T p1 ≤ 0 then [] else bin 2 (T p1 - 1))) fun p4 => adT (vT N T tn d) N t (T p1).toNatClampNeg 0 p4) := LEp.seq (LEp.pt (fun s => leV d s) _ _) s1
          exact LEp.seq (f := fun _ => .inr (p1 + 1, bin 1 (if T p1 ≤ 0 then 0 else 1) ++ flB N t m (nC N t) 0)) (fun p hp => ⟨fun q e => (by cases e), fun p' l e => (by cases e; exact hx.1)⟩) s2 p hp
        · rw [if_neg hx]
          exact ⟨fun q' e => (by cases e; exact hp1), fun p' l e => by cases e⟩
    · by_cases hx : nxt T tn p (nlo N t) (nhi N t)
      · rw [vT_h h2 hx]
        have s1 : LEp tn (hdF N (vT N T tn d) t (T p)) := by
          unfold hdF
          by_cases h1 : nK N t = 1
          · simp only [if_pos h1]; exact LEp.rpt (leV d _) _
          · by_cases h3 : nK N t = 3
            · simp only [if_neg h1, if_pos h3]; exact leV d _
            · simp only [if_neg h1, if_neg h3]; exact LEp.nil
        exact LEp.seq (f := fun _ => .inr (p + 1, bin (nW N t) (T p - nlo N t))) (fun p' hp => ⟨fun q e => (by cases e), fun p' l e => (by cases e; exact hx.1)⟩) s1 p hp
      · rw [vT_hq h2 hx]
        exact ⟨fun q' e => (by cases e; exact hp), fun p' l e => by cases e⟩
end LES
/-! AT LEAST so many bits -/
section MIN
variable {N : NT} {T : Nat → Int32} {tn t nt : Nat}
theorem flT_set : ∀ n k m0 q q' m, k + n ≤ 6 → mk0 m0 k → flT N T tn t n k m0 q = .inr (q', m) → ∀ i, k ≤ i → i < k + n → nO N t i ≠ 1 → msk m i = 1
  | 0, k, m0, q, q', m, _, _, _, i, h1, h2, _ => by omega
  | n + 1, k, m0, q, q', m, hk, h0, e, i, h1, h2, hi => by
    rw [flT] at e
    by_cases c : nO N t k = 1
    · rw [if_pos c] at e
      by_cases hx : nxt T tn q 0 1
      · rw [if_pos hx] at e
        obtain ⟨x, _, hx1, hx2⟩ := q_num (a := 0) (b := 1) hx.2.1 hx.2.2 (by omega) (by omega)
        rw [hx2] at e
        have hne : i ≠ k := fun z => hi (by rw [z]; exact c)
        exact flT_set n (k + 1) _ (q + 1) _ _ (by omega) (h0.set hx1 (by omega)) e i (by omega) (by omega) hi
      · rw [if_neg hx] at e; cases e
    · rw [if_neg c] at e
      by_cases hik : i = k
      · rw [hik, flT_mk n (k + 1) _ q _ _ (by omega) e k (by omega)]
        exact msk_at (x := 1) (by omega) (by omega) (h0 k (by omega) (by omega))
      · exact flT_set n (k + 1) _ q _ _ (by omega) (h0.set (x := 1) (by omega) (by omega)) e i (by omega) (by omega) hi
theorem rptT_min {f : Nat → RT} {c : Nat} (h : ∀ p p' l, f p = .inr (p', l) → c ≤ l.length) : ∀ n p p' l, rptT f n p = .inr (p', l) → n * c ≤ l.length
  | 0, p, p', l, e => by simp
  | n + 1, p, p', l, e => by
    obtain ⟨p1, b, b', e1, e2, e3⟩ := bnd_inr e
    have h1 := h _ _ _ e1
    have h2 := rptT_min h n p1 p' b' e2
    rw [e3, List.length_append, Nat.succ_mul]; omega
theorem ptT_min {f : Nat → Nat → RT} {m : Int32} {g : Nat → Nat} {C : Nat} (hm : ∀ k, k < C → nO N t k ≠ 1 → msk m k = 1) (h : ∀ k, k < C → ∀ p p' l, f (nP N t k) p = .inr (p', l) → g k ≤ l.length) : ∀ n k p p' l, k + n ≤ C → ptT f N t m n k p = .inr (p', l) → sumN (fun k => if nO N t k = 1 then 1 else g k) n k ≤ (flB N t m n k).length + l.length
  | 0, k, p, p', l, _, e => by simp [sumN]
  | n + 1, k, p, p', l, hk, e => by
    rw [sumN, flB, List.length_append]
    by_cases c : nO N t k = 1
    · rw [if_pos c, if_pos c, bin_len]
      by_cases z : msk m k = 1
      · rw [ptT_1 z] at e
        obtain ⟨p1, b, b', e1, e2, e3⟩ := bnd_inr e
        have h2 := ptT_min hm h n (k + 1) p1 p' b' (by omega) e2
        rw [e3, List.length_append]; omega
      · rw [ptT_0 z] at e
        have h2 := ptT_min hm h n (k + 1) p p' l (by omega) e
        omega
    · rw [if_neg c, if_neg c]
      have z := hm k (by omega) c
      rw [ptT_1 z] at e
      obtain ⟨p1, b, b', e1, e2, e3⟩ := bnd_inr e
      have h1 := h k (by omega) _ _ _ e1
      have h2 := ptT_min hm h n (k + 1) p1 p' b' (by omega) e2
      rw [e3, List.length_append]
      simp only [List.length_nil]
      omega
theorem vT_min (hN : NWf N nt) (hE : NMe N nt) : ∀ d t p p' l, t < nt → vT N T tn d t p = .inr (p', l) → nF N t ≤ l.length
  | 0, t, p, p', l, _, e => by rw [vT] at e; cases e
  | d + 1, t, p, p', l, ht, e => by
    have hw := hN t ht
    rw [(hE t ht).1]
    unfold meF
    by_cases h2 : nK N t = 2
    · rw [h2]
      simp only []
      rw [vT, if_pos h2] at e
      unfold sqT at e
      cases hf : flT N T tn t (nC N t) 0 0 p with
      | inl q => rw [hf] at e; cases e
      | inr y =>
        obtain ⟨q1, m⟩ := y
        rw [hf] at e
        simp only [] at e
        by_cases hx : nxt T tn q1 0 (nI (nA N t))
        · rw [if_pos hx] at e
          obtain ⟨qa, ba, bb, e1, e2, e3⟩ := bnd_inr e
          cases e1
          obtain ⟨qb, bp, bc, e4, e5, e6⟩ := bnd_inr e2
          have hs := flT_set (nC N t) 0 0 p _ _ (by omega) mk0_0 hf
          have := ptT_min (f := vT N T tn d) (g := fun k => nF N (nP N t k)) (C := nC N t) (fun k hk hO => hs k (by omega) (by omega) hO) (fun k hk p p' l hv => vT_min hN hE d _ p p' l (by have := (hw.2.2.2.1 k hk).1; omega) hv) (nC N t) 0 _ _ _ (by omega) e4
          rw [e3, e6, List.length_append, List.length_append, List.length_append, bin_len]
          omega
        · rw [if_neg hx] at e; cases e
    · by_cases hx : nxt T tn p (nlo N t) (nhi N t)
      · rw [vT_h h2 hx] at e
        obtain ⟨qa, ba, b2, e1, e2, e3⟩ := bnd_inr e
        cases e1
        rw [e3, List.length_append, bin_len]
        unfold hdF at e2
        by_cases h1 : nK N t = 1
        · rw [if_pos h1] at e2
          rw [h1]
          simp only []
          obtain ⟨hC, a, c, ea, ec, hac, hc8⟩ := hw.2.2.2.2.2.2.1 h1
          have hp0 := (hw.2.2.2.1 0 (by omega)).1
          have hr := rptT_min (c := nF N (nP N t 0)) (fun p p' l hv => vT_min hN hE d _ p p' l (by omega) hv) _ _ _ _ e2
          have hx1 := hx.2.1
          have hx2 := hx.2.2
          rw [ea] at hx1
          rw [ec] at hx2
          obtain ⟨j, j1, j2, ej⟩ := q_num hx1 hx2 hac (by omega)
          rw [ej, nI_clamp (by omega)] at hr
          rw [ea, nI_clamp (by omega)]
          have := Nat.mul_le_mul_right (nF N (nP N t 0)) j1
          omega
        · by_cases h3 : nK N t = 3
          · rw [if_neg h1, if_pos h3] at e2
            rw [h3]
            simp only []
            obtain ⟨z1, z2, z3, z4⟩ := hN.hd ht h2
            obtain ⟨v, hv, ev, ex⟩ := q_hdA z1 z2 ⟨hx.2.1, hx.2.2⟩
            rw [← z3] at hv
            obtain ⟨c1, c2, c3⟩ := hN.child ht h3 hv
            rw [ex, c1] at e2
            have h4 := vT_min hN hE d _ _ _ _ (show nP N t v < nt by omega) e2
            have h5 := (minL_le (fun k => nF N (nP N t k)) (nC N t) 0 240).2 v (by omega) (by omega)
            omega
          · have h0 : nK N t = 0 := by have := hw.1; clear hw; omega
            rw [h0]
            simp only []
            omega
      · rw [vT_hq h2 hx] at e; cases e
end MIN
