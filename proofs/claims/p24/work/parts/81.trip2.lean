/-! WHAT IS READ, over all types -/
section RKM
variable {N : NT} {b : Nat → Nat} {bn kn nt : Nat}
theorem rkS (hN : NWf N nt) (hb : ∀ i, b i ≤ 1) (hkn : kn ≤ 3) {d t : Nat} (ht : t < nt) (h2 : nK N t = 2) (ih : ∀ s, s < t → RK (bI b) bn kn (rV N b bn 3 d s) (rV N b bn kn d s) (fun T tn => vT N T tn d s)) : RK (bI b) bn kn (rV N b bn 3 (d + 1) t) (rV N b bn kn (d + 1) t) (fun T tn => vT N T tn (d + 1) t) := by
  have hw := hN t ht
  intro p p' l e
  rw [rV, if_pos h2] at e
  unfold sqR at e
  cases h1 : tkB b bn 1 p 2 with
  | inl q => rw [h1] at e; cases e
  | inr x =>
  obtain ⟨p1, ha⟩ := x
  rw [h1] at e
  simp only [] at e
  cases hf : flR N b bn t (nC N t) 0 0 p1 with
  | inl q => rw [hf] at e; cases e
  | inr y =>
  obtain ⟨p2, m, fl⟩ := y
  rw [hf] at e
  simp only [] at e
  cases h3 : ptT (rV N b bn 3 d) N t m (nC N t) 0 p2 with
  | inl q => rw [h3] at e; cases e
  | inr z =>
  obtain ⟨p3, pl⟩ := z
  rw [h3] at e
  simp only [] at e
  obtain ⟨t1, t2, t3, t4⟩ := tkB_bits hb (by omega) h1
  obtain ⟨s1, s2, s3, s4, s5⟩ := flRW hb (nC N t) 0 0 p1 _ _ _ (by omega) mk0_0 hf
  obtain ⟨u1, u2⟩ := RK.pt (C := nC N t) (t := t) (m := m) (f3 := rV N b bn 3 d) (fk := rV N b bn kn d) (fT := fun T tn => vT N T tn d) (fun k hk => ih _ (hw.2.2.2.1 k hk).1) (nC N t) 0 (by omega) p2 p3 pl h3
  obtain ⟨u3, pl', u4, u5⟩ := u2 (s2 t3)
  -- the tale's side, up to the additions
  have tale : ∀ (T : Nat → Int32) (tn q c : Nat), c ≤ nA N t → AT T q (fl ++ nI c :: pl') → q + (fl ++ nI c :: pl').length ≤ tn → ∃ bs : List Int32, (kn = 3 → p2 + bs.length = p3 ∧ AT (bI b) p2 bs) ∧ ∀ q' bs', bnd (.inr (q + (fl ++ nI c :: pl').length, if nI c ≤ 0 then [] else bin 2 (nI c - 1))) (fun p4 => adT (vT N T tn d) N t (nI c).toNatClampNeg 0 p4) = .inr (q', bs') → vT N T tn (d + 1) t q = .inr (q', (bin 1 (if nI c ≤ 0 then 0 else 1) ++ flB N t m (nC N t) 0) ++ (bs ++ bs')) := by
    intro T tn q c hc hT hq
    rw [List.length_append, List.length_cons] at hq
    obtain ⟨g1, g2, g3⟩ := (AT_app _ _ _).mp hT
    obtain ⟨bs, d1, d2⟩ := u5 T tn _ g3 (by omega)
    have d1 : ptT (vT N T tn d) N t m (nC N t) 0 (q + fl.length + 1) = .inr (q + fl.length + 1 + pl'.length, bs) := d1
    refine ⟨bs, d2, fun q' bs' hE => ?_⟩
    have hA3 : nA N t ≤ 3 := hw.2.2.1
    have hx : nxt T tn (q + fl.length) 0 (nI (nA N t)) := by
      refine ⟨by omega, ?_, ?_⟩
      · rw [g2]; exact nI_pos' (by omega)
      · rw [g2]; exact nI_le hc (by omega)
    rw [vT, if_pos h2]
    unfold sqT
    rw [s5 T tn q g1 (by omega)]
    simp only []
    rw [if_pos hx, g2]
    have eL : q + (fl ++ nI c :: pl').length = q + fl.length + 1 + pl'.length := by rw [List.length_append, List.length_cons]; omega
    rw [eL] at hE
    exact bnd_of rfl (bnd_of d1 hE)
  by_cases hz : ha = 0
  · rw [if_pos hz] at e
    cases e
    refine ⟨by omega, fun hp => ⟨u3, fl ++ nI 0 :: pl', ?_, fun T tn q hT hq => ?_⟩⟩
    · rw [rV, if_pos h2]
      unfold sqR
      rw [h1]
      simp only []
      rw [hf]
      simp only []
      rw [u4]
      simp only []
      rw [if_pos hz]
    · obtain ⟨bs, d2, d3⟩ := tale T tn q 0 (by omega) hT hq
      refine ⟨_, d3 _ ([] ++ []) (bnd_of (by rw [if_pos (show nI 0 ≤ (0 : Int32) by decide)]) rfl), fun hk => ?_⟩
      obtain ⟨y1, y2⟩ := d2 hk
      rw [hz] at t1
      rw [if_pos (show nI 0 ≤ (0 : Int32) by decide), List.append_nil, List.append_nil, List.length_append, List.length_append, bin_len]
      refine ⟨by omega, (AT_app _ _ _).mpr ⟨(AT_app _ _ _).mpr ⟨t1, by rw [bin_len, ← t2]; exact s3⟩, ?_⟩⟩
      rw [List.length_append, bin_len, show p + (1 + (flB N t m (nC N t) 0).length) = p2 by omega]
      exact y2
  · rw [if_neg hz] at e
    cases h4 : tkB b bn 2 p3 (nA N t) with
    | inl q => rw [h4] at e; cases e
    | inr w =>
    obtain ⟨p4, v⟩ := w
    rw [h4] at e
    simp only [] at e
    obtain ⟨p5, b1, al, e1, e2, e3⟩ := bnd_inr e
    cases e1
    obtain ⟨w1, w2, w3, w4⟩ := tkB_bits hb (by omega) h4
    have hA3 : nA N t ≤ 3 := hw.2.2.1
    obtain ⟨v1, v2⟩ := RK.ad (kn := kn) (A := nA N t) (t := t) (f3 := rV N b bn 3 d) (fk := rV N b bn kn d) (fT := fun T tn => vT N T tn d) hb hA3 (fun j hj => ih _ (hw.2.2.2.2.1 j hj)) (v + 1) 0 (by omega) p4 p' al e2
    refine ⟨by omega, fun hp => ?_⟩
    obtain ⟨v3, al', v4, v5⟩ := v2 w3
    refine ⟨v3, (fl ++ nI (min kn (v + 1)) :: pl') ++ al', ?_, fun T tn q hT hq => ?_⟩
    · rw [rV, if_pos h2]
      unfold sqR
      rw [h1]
      simp only []
      rw [hf]
      simp only []
      rw [u4]
      simp only []
      rw [if_neg hz, h4]
      simp only []
      exact bnd_of rfl v4
    · rw [List.length_append] at hq
      obtain ⟨g1, g2⟩ := (AT_app _ _ _).mp hT
      obtain ⟨bs, d2, d3⟩ := tale T tn q (min kn (v + 1)) (by omega) g1 (by omega)
      obtain ⟨ba, y1, y2⟩ := v5 T tn _ g2 (by omega)
      have y1 : adT (vT N T tn d) N t (min kn (0 + (v + 1)) - 0) 0 (q + (fl ++ nI (min kn (v + 1)) :: pl').length) = .inr (q + (fl ++ nI (min kn (v + 1)) :: pl').length + al'.length, ba) := y1
      rw [Nat.zero_add, Nat.sub_zero] at y1
      have hv := d3 _ _ (bnd_of rfl (show adT (vT N T tn d) N t (nI (min kn (v + 1))).toNatClampNeg 0 _ = _ by rw [nI_clamp (by omega)]; exact y1))
      have eL : q + ((fl ++ nI (min kn (v + 1)) :: pl') ++ al').length = q + (fl ++ nI (min kn (v + 1)) :: pl').length + al'.length := by rw [List.length_append (as := fl ++ nI (min kn (v + 1)) :: pl')]; omega
      rw [← eL] at hv
      refine ⟨_, hv, fun hk => ?_⟩
      · obtain ⟨x1, x2⟩ := d2 hk
        obtain ⟨x3, x4⟩ := y2 hk
        have em : min kn (v + 1) = v + 1 := by omega
        have h1a : ha = 1 := by omega
        rw [h1a] at t1
        have hpos : ¬ nI (v + 1) ≤ (0 : Int32) := nI_nle (by omega) (by omega)
        rw [em, if_neg hpos, if_neg hpos, nI_pred]
        rw [List.length_append, List.length_append, List.length_append, List.length_append, bin_len, bin_len]
        refine ⟨by omega, (AT_app _ _ _).mpr ⟨(AT_app _ _ _).mpr ⟨t1, by rw [bin_len, ← t2]; exact s3⟩, ?_⟩⟩
        rw [List.length_append, bin_len, show p + (1 + (flB N t m (nC N t) 0).length) = p2 by omega]
        refine (AT_app _ _ _).mpr ⟨x2, ?_⟩
        rw [x1]
        exact (AT_app _ _ _).mpr ⟨w1, by rw [bin_len, ← w2]; exact x4⟩
theorem rkV (hN : NWf N nt) (hb : ∀ i, b i ≤ 1) (hkn : kn ≤ 3) : ∀ d t, t < nt → RK (bI b) bn kn (rV N b bn 3 d t) (rV N b bn kn d t) (fun T tn => vT N T tn d t)
  | 0, t, _ => fun p p' l e => by rw [rV] at e; cases e
  | d + 1, t, ht => by
    by_cases h2 : nK N t = 2
    · exact rkS hN hb hkn ht h2 (fun s hs => rkV hN hb hkn d s (by omega))
    · intro p p' l e
      cases h1 : tkB b bn (nW N t) p (nV N t) with
      | inl q => rw [rV_hq h2 h1] at e; cases e
      | inr x =>
      obtain ⟨p1, v⟩ := x
      rw [rV_h h2 h1] at e
      obtain ⟨p5, b1, l2, e1, e2, e3⟩ := bnd_inr e
      cases e1
      have hW : nW N t ≤ 11 := wdN_le _
      obtain ⟨t1, t2, t3, t4⟩ := tkB_bits hb (by omega) h1
      obtain ⟨z1, z2, z3, z4⟩ := hN.hd ht h2
      rw [z3] at t4
      obtain ⟨y1, y2⟩ := q_hdB z1 z2 t4
      rw [← z3] at t4
      obtain ⟨u1, u2⟩ := RK.hd hN ht t4 (fun s hs => rkV hN hb hkn d s (by omega)) p1 p' l2 e2
      refine ⟨by omega, fun hp => ?_⟩
      obtain ⟨u3, l', u4, u5⟩ := u2 t3
      refine ⟨u3, (nlo N t + nI v) :: l', ?_, fun T tn q hT hq => ?_⟩
      · rw [rV_h h2 h1]
        exact bnd_of rfl u4
      · rw [List.length_cons] at hq ⊢
        obtain ⟨g1, g2⟩ := hT
        obtain ⟨bs, d1, d2⟩ := u5 T tn _ g2 (by omega)
        have hx : nxt T tn q (nlo N t) (nhi N t) := ⟨by omega, by rw [g1]; exact y1.1, by rw [g1]; exact y1.2⟩
        refine ⟨bin (nW N t) (nI v) ++ bs, ?_, fun hk => ?_⟩
        · show vT N T tn (d + 1) t q = _
          rw [vT_h h2 hx, g1, y2, show q + (l'.length + 1) = q + 1 + l'.length by omega]
          exact bnd_of rfl d1
        · obtain ⟨x1, x2⟩ := d2 hk
          rw [List.length_append, bin_len]
          exact ⟨by omega, (AT_app _ _ _).mpr ⟨t1, by rw [bin_len, ← t2]; exact x2⟩⟩
end RKM
/-! WHAT IS WRITTEN is read again -/
def WRp (b : Nat → Nat) (bn tn : Nat) (T : Nat → Int32) (f3 fT : Nat → RT) : Prop := ∀ q q' bs, fT q = .inr (q', bs) → ∃ l : List Int32, q' = q + l.length ∧ AT T q l ∧ (q ≤ tn → q' ≤ tn) ∧ ∀ p, AT (bI b) p bs → p + bs.length ≤ bn → f3 p = .inr (p + bs.length, l)
section WRS
variable {N : NT} {b : Nat → Nat} {T : Nat → Int32} {bn tn t nt : Nat}
theorem WRp.nil : WRp b bn tn T (fun p => .inr (p, [])) (fun p => .inr (p, [])) := by
  intro q q' bs e
  cases e
  exact ⟨[], rfl, trivial, fun h => h, fun p _ _ => rfl⟩
theorem WRp.seq {f3 fT g3 gT : Nat → RT} (h1 : WRp b bn tn T f3 fT) (h2 : WRp b bn tn T g3 gT) : WRp b bn tn T (fun p => bnd (f3 p) g3) (fun q => bnd (fT q) gT) := by
  intro q q' bs e
  obtain ⟨q1, b1, b2, e1, e2, e3⟩ := bnd_inr e
  obtain ⟨l1, a1, a2, a3, a4⟩ := h1 q q1 b1 e1
  obtain ⟨l2, c1, c2, c3, c4⟩ := h2 q1 q' b2 e2
  rw [e3]
  refine ⟨l1 ++ l2, by rw [List.length_append]; omega, (AT_app _ _ _).mpr ⟨a2, by rw [← a1]; exact c2⟩, fun h => c3 (a3 h), fun p hA hp => ?_⟩
  rw [List.length_append] at hp ⊢
  obtain ⟨g1, g2⟩ := (AT_app _ _ _).mp hA
  rw [← Nat.add_assoc]
  exact bnd_of (a4 p g1 (by omega)) (c4 _ g2 (by omega))
theorem WRp.rpt {f3 fT : Nat → RT} (h : WRp b bn tn T f3 fT) : ∀ n, WRp b bn tn T (rptT f3 n) (rptT fT n)
  | 0 => WRp.nil
  | n + 1 => WRp.seq h (WRp.rpt h n)
theorem WRp.pt {m : Int32} {C : Nat} {f3 fT : Nat → Nat → RT} (h : ∀ k, k < C → WRp b bn tn T (f3 (nP N t k)) (fT (nP N t k))) : ∀ n k, k + n ≤ C → WRp b bn tn T (ptT f3 N t m n k) (ptT fT N t m n k)
  | 0, k, _ => WRp.nil
  | n + 1, k, hk => by
    have ih := WRp.pt (m := m) h n (k + 1) (by omega)
    by_cases c : msk m k = 1
    · rw [ptT_1 c, ptT_1 c]
      exact WRp.seq (h k (by omega)) ih
    · rw [ptT_0 c, ptT_0 c]
      exact ih
theorem WRp.a1 {j : Nat} {f3 fT : Nat → Nat → RT} (hb : ∀ i, b i ≤ 1) (hj3 : j < 3) (h : WRp b bn tn T (f3 (nD N t j)) (fT (nD N t j))) (hl : ∀ q q' bs, fT (nD N t j) q = .inr (q', bs) → bs.length < 256) : WRp b bn tn T (ad1 f3 N b bn 3 t j) (fun q => lnT (fT (nD N t j) q)) := by
  intro q q' bs e
  have e : lnT (fT (nD N t j) q) = .inr (q', bs) := e
  cases hf : fT (nD N t j) q with
  | inl q => rw [hf] at e; cases e
  | inr y =>
    obtain ⟨q1, b1⟩ := y
    rw [hf] at e
    cases e
    obtain ⟨l, a1, a2, a3, a4⟩ := h q _ _ hf
    have hlen := hl q _ _ hf
    refine ⟨l, a1, a2, a3, fun p hA hp => ?_⟩
    rw [List.length_append, bin_len] at hp ⊢
    obtain ⟨g1, g2⟩ := (AT_app _ _ _).mp hA
    rw [bin_len] at g2
    have tk := tkB_of (bn := bn) (bd := 256) hb (by omega) (show b1.length < 2 ^ 8 by omega) hlen (by omega) g1
    unfold ad1
    rw [tk]
    simp only []
    rw [if_pos hj3, a4 (p + 8) g2 (by omega)]
    unfold ckT
    simp only []
    rw [if_pos True.intro, Nat.add_assoc]
theorem WRp.ad {A : Nat} {f3 fT : Nat → Nat → RT} (hb : ∀ i, b i ≤ 1) (hA : A ≤ 3) (h : ∀ j, j < A → WRp b bn tn T (f3 (nD N t j)) (fT (nD N t j))) (hl : ∀ j, j < A → ∀ q q' bs, fT (nD N t j) q = .inr (q', bs) → bs.length < 256) : ∀ n j, j + n ≤ A → WRp b bn tn T (adR f3 N b bn 3 t n j) (adT fT N t n j)
  | 0, j, _ => WRp.nil
  | n + 1, j, hj => WRp.seq (WRp.a1 hb (by omega) (h j (by omega)) (hl j (by omega))) (WRp.ad hb hA h hl n (j + 1) (by omega))
theorem wrS (hN : NWf N nt) (hM : NMw N nt) (hb : ∀ i, b i ≤ 1) {d : Nat} (ht : t < nt) (h2 : nK N t = 2) (ih : ∀ s, s < t → WRp b bn tn T (rV N b bn 3 d s) (vT N T tn d s)) : WRp b bn tn T (rV N b bn 3 (d + 1) t) (vT N T tn (d + 1) t) := by
  have hw := hN t ht
  have hA3 : nA N t ≤ 3 := hw.2.2.1
  intro q q' bs e
  rw [vT, if_pos h2] at e
  unfold sqT at e
  cases hf : flT N T tn t (nC N t) 0 0 q with
  | inl q => rw [hf] at e; cases e
  | inr y =>
  obtain ⟨q1, m⟩ := y
  rw [hf] at e
  simp only [] at e
  by_cases hx : nxt T tn q1 0 (nI (nA N t))
  · rw [if_pos hx] at e
    obtain ⟨c, _, hc, eT⟩ := q_num (a := 0) (b := nA N t) hx.2.1 hx.2.2 (by omega) (by omega)
    rw [eT] at e
    obtain ⟨qa, ba, bb, e1, e2, e3⟩ := bnd_inr e
    cases e1
    obtain ⟨qb, bp, bc, e4, e5, e6⟩ := bnd_inr e2
    obtain ⟨qc, bd, be, e7, e8, e9⟩ := bnd_inr e5
    cases e7
    rw [nI_clamp (by omega)] at e8
    obtain ⟨fl, a1, a2, a3, a4⟩ := flWR (b := b) (bn := bn) hb (nC N t) 0 0 q _ _ (by omega) mk0_0 hf
    obtain ⟨pl, c1, c2, c3, c4⟩ := WRp.pt (C := nC N t) (m := m) (f3 := rV N b bn 3 d) (fT := vT N T tn d) (fun k hk => ih _ (hw.2.2.2.1 k hk).1) (nC N t) 0 (by omega) _ _ _ e4
    obtain ⟨al, d1, d2, d3, d4⟩ := WRp.ad (A := nA N t) (f3 := rV N b bn 3 d) (fT := vT N T tn d) hb hA3 (fun j hj => ih _ (hw.2.2.2.2.1 j hj)) (fun j hj q q' bs hv => by
      have hjt := hw.2.2.2.2.1 j hj
      have := vT_len hN hM d _ q q' bs (show nD N t j < nt by omega) hv
      have := (hM _ (show nD N t j < nt by omega)).2.2.2.2
      omega) c 0 (by omega) _ _ _ e8
    rw [e3, e6, e9]
    have hq1 : q1 < tn := hx.1
    refine ⟨fl ++ nI c :: (pl ++ al), ?_, ?_, fun _ => d3 (c3 (by omega)), fun p hA hp => ?_⟩
    · rw [List.length_append, List.length_cons, List.length_append]; omega
    · refine (AT_app _ _ _).mpr ⟨a2, ?_⟩
      rw [← a1]
      refine ⟨eT, (AT_app _ _ _).mpr ⟨c2, ?_⟩⟩
      rw [← c1]; exact d2
    · obtain ⟨g1, g2⟩ := (AT_app _ _ _).mp hA
      obtain ⟨g3, g4⟩ := (AT_app _ _ _).mp g1
      obtain ⟨g5, g6⟩ := (AT_app _ _ _).mp g2
      obtain ⟨g7, g8⟩ := (AT_app _ _ _).mp g6
      rw [bin_len] at g4
      rw [List.length_append, bin_len] at g5 g7 g8
      rw [List.length_append, List.length_append, List.length_append, List.length_append, bin_len] at hp ⊢
      rw [rV, if_pos h2]
      unfold sqR
      have r2 := a4 (p + 1) g4 (by omega)
      have r3 := c4 _ (show AT (bI b) (p + 1 + (flB N t m (nC N t) 0).length) bp by rw [Nat.add_assoc]; exact g5) (by omega)
      by_cases hz : c = 0
      · rw [hz] at g3 e8
        rw [if_pos (show nI 0 ≤ (0 : Int32) by decide)] at g3
        rw [adT] at e8
        cases e8
        have el : al = [] := by
          cases al with
          | nil => rfl
          | cons x l => rw [List.length_cons] at d1; omega
        have r1 := tkB_of (bn := bn) (bd := 2) (v := 0) hb (by omega) (show 0 < 2 ^ 1 by omega) (by omega) (by omega) g3
        rw [r1]
        simp only []
        rw [r2]
        simp only []
        rw [r3]
        simp only []
        rw [if_pos True.intro, el, List.append_nil, hz, if_pos (show nI 0 ≤ (0 : Int32) by decide)]
        simp only [List.length_nil]
        congr 2; omega
      · have hpos : ¬ nI c ≤ (0 : Int32) := nI_nle (by omega) (by omega)
        have ec : nI c - 1 = nI (c - 1) := q_sub (a := c) (b := 1) (by omega)
        rw [if_neg hpos] at g3 g7 g8 hp ⊢
        rw [ec] at g7
        rw [bin_len] at g8 hp ⊢
        have r1 := tkB_of (bn := bn) (bd := 2) (v := 1) hb (by omega) (show 1 < 2 ^ 1 by omega) (by omega) (by omega) g3
        rw [r1]
        simp only []
        rw [r2]
        simp only []
        rw [r3]
        simp only []
        have r4 := tkB_of (bn := bn) (bd := nA N t) (v := c - 1) hb (by omega) (show c - 1 < 2 ^ 2 by omega) (by omega) (show (p + 1 + (flB N t m (nC N t) 0).length + bp.length) + 2 ≤ bn by omega) (by rw [show p + 1 + (flB N t m (nC N t) 0).length + bp.length = p + (1 + (flB N t m (nC N t) 0).length) + bp.length by omega]; exact g7)
        rw [if_neg (by omega), r4]
        simp only []
        rw [show c - 1 + 1 = c by omega, show min 3 c = c by omega]
        have r5 := d4 (p + 1 + (flB N t m (nC N t) 0).length + bp.length + 2) (by rw [show p + 1 + (flB N t m (nC N t) 0).length + bp.length + 2 = p + (1 + (flB N t m (nC N t) 0).length) + bp.length + 2 by omega]; exact g8) (by omega)
        rw [show fl ++ nI c :: (pl ++ al) = (fl ++ nI c :: pl) ++ al by rw [List.append_assoc, List.cons_append]]
        rw [show p + (1 + (flB N t m (nC N t) 0).length + (bp.length + (2 + be.length))) = p + 1 + (flB N t m (nC N t) 0).length + bp.length + 2 + be.length by omega]
        exact bnd_of rfl r5
  · rw [if_neg hx] at e; cases e
theorem WRp.hd {x : Int32} {f3 fT : Nat → Nat → RT} (hN : NWf N nt) (ht : t < nt) {v : Nat} (ex : x = nlo N t + nI v) (hv : v < nV N t) (h : ∀ s, s < t → WRp b bn tn T (f3 s) (fT s)) : WRp b bn tn T (hdF N f3 t x) (hdF N fT t x) := by
  have hw := hN t ht
  unfold hdF
  by_cases h1 : nK N t = 1
  · simp only [if_pos h1]
    obtain ⟨hC, _⟩ := hw.2.2.2.2.2.2.1 h1
    exact WRp.rpt (h _ (hw.2.2.2.1 0 (by omega)).1) _
  · by_cases h3 : nK N t = 3
    · simp only [if_neg h1, if_pos h3]
      obtain ⟨c1, c2, c3⟩ := hN.child ht h3 hv
      rw [ex, c1]
      exact h _ c3
    · simp only [if_neg h1, if_neg h3]
      exact WRp.nil
theorem wrV (hN : NWf N nt) (hM : NMw N nt) (hb : ∀ i, b i ≤ 1) : ∀ d t, t < nt → WRp b bn tn T (rV N b bn 3 d t) (vT N T tn d t)
  | 0, t, _ => fun q q' bs e => by rw [vT] at e; cases e
  | d + 1, t, ht => by
    by_cases h2 : nK N t = 2
    · exact wrS hN hM hb ht h2 (fun s hs => wrV hN hM hb d s (by omega))
    · intro q q' bs e
      by_cases hx : nxt T tn q (nlo N t) (nhi N t)
      · rw [vT_h h2 hx] at e
        obtain ⟨qa, ba, b2, e1, e2, e3⟩ := bnd_inr e
        cases e1
        obtain ⟨z1, z2, z3, z4⟩ := hN.hd ht h2
        obtain ⟨v, hv, ev, ex⟩ := q_hdA z1 z2 ⟨hx.2.1, hx.2.2⟩
        rw [← z3] at hv
        obtain ⟨l, a1, a2, a3, a4⟩ := WRp.hd hN ht ex hv (fun s hs => wrV hN hM hb d s (by omega)) _ _ _ e2
        have hq := hx.1
        rw [e3]
        refine ⟨T q :: l, by rw [List.length_cons]; omega, ⟨rfl, a2⟩, fun _ => a3 (by omega), fun p hA hp => ?_⟩
        rw [List.length_append, bin_len] at hp ⊢
        obtain ⟨g1, g2⟩ := (AT_app _ _ _).mp hA
        rw [ev] at g1
        rw [bin_len] at g2
        have hW : nW N t ≤ 11 := wdN_le _
        have hV := wdN_ge (hN.span ht).2.1
        have tk := tkB_of (bn := bn) (bd := nV N t) hb (by omega) (show v < 2 ^ nW N t from Nat.lt_of_lt_of_le hv hV) hv (by omega) g1
        rw [rV_h h2 tk, ← ex, ← Nat.add_assoc]
        exact bnd_of rfl (a4 _ g2 (by omega))
      · rw [vT_hq h2 hx] at e; cases e
end WRS
