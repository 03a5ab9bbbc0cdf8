/-! THE LAW: what a call answers and leaves is known beforehand -/
def DT (kd : Nat → Nat) (S : SS) (w : Nat → Mm → (Int32 → Mm → Prop) → Prop) : Prop := ∃ r S', VS S' ∧ ∀ (x : Nat) (μ : Mm) (post : Int32 → Mm → Prop), KS kd x S μ → (∀ μ', KS kd x S' μ' → post r μ') → w x μ post
section DTS
variable {kd : Nat → Nat} {S : SS}
theorem d_numbers (hkd : ∀ i j, i < 4 → j < 4 → kd i = kd j → i = j) (hV : VS S) (p1 p2 : Int32) : DT kd S (fun x μ post => wp_L_numbers kd x p1 p2 μ post) := by
  by_cases c : (((-1000 : Int32) ≤ p1 ∧ p1 ≤ 1000) ∧ p1 ≤ p2 ∧ p2 ≤ 1000)
  · by_cases h : snt S < 16
    · refine ⟨_, _, hV.new xtN_ag (num_wf hV.2.1 c) num_small.1 num_small.2 h (Nat.le_refl _), fun x μ post hK hp => y_numbers hkd hV hK (fun z => absurd c z) (fun _ z => by omega) (fun _ _ => hp)⟩
    · exact ⟨_, S, hV, fun x μ post hK hp => y_numbers hkd hV hK (fun z => absurd c z) (fun _ _ => hp) (fun _ z => by omega)⟩
  · exact ⟨_, S, hV, fun x μ post hK hp => y_numbers hkd hV hK (fun _ => hp) (fun z => absurd z c) (fun z => absurd z c)⟩
theorem d_lists (hkd : ∀ i j, i < 4 → j < 4 → kd i = kd j → i = j) (hV : VS S) (p1 p2 p3 : Int32) : DT kd S (fun x μ post => wp_L_lists kd x p1 p2 p3 μ post) := by
  have v1 := hV.v1
  by_cases c : ∃ t, t < snt S ∧ p1 = nI t
  · obtain ⟨t, ht, e⟩ := c
    by_cases c2 : (((0 : Int32) ≤ p2 ∧ p2 ≤ 8) ∧ p2 ≤ p3 ∧ p3 ≤ 8)
    · obtain ⟨a, _, ha8, ea⟩ := q_num (a := 0) (b := 8) c2.1.1 c2.1.2 (by omega) (by omega)
      have c3 := c2.2
      rw [ea] at c3
      obtain ⟨d, had, hd8, ed⟩ := q_num (a := a) (b := 8) c3.1 c3.2 ha8 (by omega)
      have same : ∀ t' a' c', t' < snt S → p1 = nI t' → p2 = nI a' → p3 = nI c' → a' ≤ c' → c' ≤ 8 → t' = t ∧ a' = a ∧ c' = d := by
        intro t' a' c' h1 h2 h3 h4 h5 h6
        rw [e] at h2
        rw [ea] at h3
        rw [ed] at h4
        exact ⟨ty_inj hV ht h1 h2, ((nI_eq (by omega) (by omega)).mp h3).symm, ((nI_eq (by omega) (by omega)).mp h4).symm⟩
      by_cases ok : snt S < 16 ∧ meM (xtN (sN S) (snt S) 1 1 (fun _ => t) (fun _ => 0) (nI a) (nI d)) (snt S) ≤ 240 ∧ meL (xtN (sN S) (snt S) 1 1 (fun _ => t) (fun _ => 0) (nI a) (nI d)) (snt S) ≤ 240
      · refine ⟨nI (snt S), _, hV.new xtN_ag (hV.2.1.lst had hd8 ht) ok.2.1 ok.2.2 ok.1 (Nat.le_refl _), fun x μ post hK hp => y_lists hkd hV hK (fun z => absurd ⟨t, ht, e⟩ z) (fun _ z => absurd c2 z) (fun t' a' c' h1 h2 h3 h4 h5 h6 z => ?_) (fun t' a' c' h1 h2 h3 h4 h5 h6 _ _ _ => ?_)⟩
        · obtain ⟨r1, r2, r3⟩ := same t' a' c' h1 h2 h3 h4 h5 h6
          subst r1 r2 r3
          exact absurd ok.2 (z ok.1)
        · obtain ⟨r1, r2, r3⟩ := same t' a' c' h1 h2 h3 h4 h5 h6
          subst r1 r2 r3
          exact hp
      · refine ⟨_, S, hV, fun x μ post hK hp => y_lists hkd hV hK (fun z => absurd ⟨t, ht, e⟩ z) (fun _ z => absurd c2 z) (fun _ _ _ _ _ _ _ _ _ _ => hp) (fun t' a' c' h1 h2 h3 h4 h5 h6 z1 z2 z3 => ?_)⟩
        obtain ⟨r1, r2, r3⟩ := same t' a' c' h1 h2 h3 h4 h5 h6
        subst r1 r2 r3
        exact absurd ⟨z1, z2, z3⟩ ok
    · refine ⟨_, S, hV, fun x μ post hK hp => y_lists hkd hV hK (fun z => absurd ⟨t, ht, e⟩ z) (fun _ _ => hp) (fun t' a' c' h1 h2 h3 h4 h5 h6 _ => absurd ?_ c2) (fun t' a' c' h1 h2 h3 h4 h5 h6 _ _ _ => absurd ?_ c2)⟩ <;> rw [h3, h4] <;> exact ⟨⟨nI_pos' (by omega), nI_le (b := 8) (by omega) (by omega)⟩, nI_le h5 (by omega), nI_le (b := 8) h6 (by omega)⟩
  · exact ⟨_, S, hV, fun x μ post hK hp => y_lists hkd hV hK (fun _ => hp) (fun z => absurd z c) (fun t' _ _ h1 h2 => absurd ⟨t', h1, h2⟩ c) (fun t' _ _ h1 h2 => absurd ⟨t', h1, h2⟩ c)⟩
theorem d_parts (hV : VS S) (p1 p2 : Int32) : DT kd S (fun x μ post => wp_L_parts x p1 p2 μ post) := by
  have v9 : sdc S ≤ 6 := hV.2.2.2.2.2.2.2.2.1
  by_cases c : ∃ t, t < snt S ∧ p1 = nI t
  · obtain ⟨t, ht, e⟩ := c
    by_cases h6 : sdc S < 6
    · refine ⟨nI (sdc S + 1), s_dr S (sdc S + 1) (fun k => if k = sdc S then t else sdp S k) (fun k => if k = sdc S then (if p2 = 0 then 0 else 1) else sdq S k), hV.dr (by omega) (fun k hk => ?_), fun x μ post hK hp => y_parts hV hK (fun z => absurd ⟨t, ht, e⟩ z) (fun _ z => by omega) (fun t' h1 h2 _ => ?_)⟩
      · show (if k = sdc S then t else sdp S k) < snt S ∧ (if k = sdc S then (if p2 = 0 then 0 else 1) else sdq S k) ≤ 1
        by_cases z : k = sdc S
        · rw [if_pos z, if_pos z]
          refine ⟨ht, ?_⟩
          split <;> omega
        · rw [if_neg z, if_neg z]
          exact hV.2.2.2.2.2.2.2.2.2 k (by omega)
      · rw [e] at h2
        rw [ty_inj hV ht h1 h2]
        exact hp
    · exact ⟨_, S, hV, fun x μ post hK hp => y_parts hV hK (fun z => absurd ⟨t, ht, e⟩ z) (fun _ _ => hp) (fun _ _ _ z => absurd z h6)⟩
  · exact ⟨_, S, hV, fun x μ post hK hp => y_parts hV hK (fun _ => hp) (fun z => absurd z c) (fun t' h1 h2 => absurd ⟨t', h1, h2⟩ c)⟩
theorem d_sequences (hkd : ∀ i j, i < 4 → j < 4 → kd i = kd j → i = j) (hV : VS S) : DT kd S (fun x μ post => wp_L_sequences kd x μ post) := by
  by_cases ok : 0 < sdc S ∧ snt S < 16 ∧ meM (xtN (sN S) (snt S) 2 (sdc S) (sdp S) (sdq S) (nI 0) (nI (if 2 = 3 then sdc S - 1 else 0))) (snt S) ≤ 240 ∧ meL (xtN (sN S) (snt S) 2 (sdc S) (sdp S) (sdq S) (nI 0) (nI (if 2 = 3 then sdc S - 1 else 0))) (snt S) ≤ 240
  · refine ⟨_, _, hV.new xtN_ag (NWf.dft (Or.inl rfl) hV ok.1) ok.2.2.1 ok.2.2.2 ok.2.1 (Nat.zero_le _), fun x μ post hK hp => y_sequences hkd hV hK (fun z => ?_) (fun _ _ _ _ => hp)⟩
    rcases z with z | z
    · omega
    · exact absurd ok.2.2 (z ok.2.1)
  · exact ⟨_, S, hV, fun x μ post hK hp => y_sequences hkd hV hK (fun _ => hp) (fun z1 z2 z3 z4 => absurd ⟨z1, z2, z3, z4⟩ ok)⟩
theorem d_choices (hkd : ∀ i j, i < 4 → j < 4 → kd i = kd j → i = j) (hV : VS S) : DT kd S (fun x μ post => wp_L_choices kd x μ post) := by
  by_cases ok : 0 < sdc S ∧ snt S < 16 ∧ meM (xtN (sN S) (snt S) 3 (sdc S) (sdp S) (sdq S) (nI 0) (nI (if 3 = 3 then sdc S - 1 else 0))) (snt S) ≤ 240 ∧ meL (xtN (sN S) (snt S) 3 (sdc S) (sdp S) (sdq S) (nI 0) (nI (if 3 = 3 then sdc S - 1 else 0))) (snt S) ≤ 240
  · refine ⟨_, _, hV.new xtN_ag (NWf.dft (Or.inr rfl) hV ok.1) ok.2.2.1 ok.2.2.2 ok.2.1 (Nat.zero_le _), fun x μ post hK hp => y_choices hkd hV hK (fun z => ?_) (fun _ _ _ _ => hp)⟩
    rcases z with z | z
    · omega
    · exact absurd ok.2.2 (z ok.2.1)
  · exact ⟨_, S, hV, fun x μ post hK hp => y_choices hkd hV hK (fun _ => hp) (fun z1 z2 z3 z4 => absurd ⟨z1, z2, z3, z4⟩ ok)⟩
theorem d_extend (hkd : ∀ i j, i < 4 → j < 4 → kd i = kd j → i = j) (hV : VS S) (p1 p2 : Int32) : DT kd S (fun x μ post => wp_L_extend kd x p1 p2 μ post) := by
  by_cases c : (∃ t, t < snt S ∧ p1 = nI t) ∧ (∃ t, t < snt S ∧ p2 = nI t)
  · obtain ⟨⟨s, hs, e1⟩, ⟨o, ho, e2⟩⟩ := c
    have n0 : ((¬ ∃ t, t < snt S ∧ p1 = nI t) ∨ (¬ ∃ t, t < snt S ∧ p2 = nI t)) → False := fun z => z.elim (fun z => z ⟨s, hs, e1⟩) (fun z => z ⟨o, ho, e2⟩)
    have same : ∀ s' o', s' < snt S → o' < snt S → p1 = nI s' → p2 = nI o' → s' = s ∧ o' = o := by
      intro s' o' h1 h2 h3 h4
      rw [e1] at h3
      rw [e2] at h4
      exact ⟨ty_inj hV hs h1 h3, ty_inj hV ho h2 h4⟩
    by_cases c1 : nK (sN S) s = 2 ∧ o < s
    · have hA3 : nA (sN S) s ≤ 3 := (hV.2.1 s hs).2.2.1
      by_cases c2 : nA (sN S) s < 3
      · obtain ⟨N2, t0, hsame, hU, hF⟩ := up_ex (adN_wf hV.2.1 c1.2 c2)
        by_cases c3 : t0 = snt S
        · have hV' : VS (s_ext S N2) := by
            subst c3
            obtain ⟨_, u2, u3, _⟩ := hU
            exact ⟨hV.v1, hsame.wf (adN_wf hV.2.1 c1.2 c2), u2, u3, hF, hV.2.2.2.2.2⟩
          refine ⟨nI (nA (sN S) s + 1), s_ext S N2, hV', fun x μ post hK hp => y_extend hkd hV hK (fun z => (n0 z).elim) (fun s' o' h1 h2 h3 h4 z => ?_) (fun s' o' h1 h2 h3 h4 _ _ z => ?_) (fun s' o' h1 h2 h3 h4 _ _ _ => ?_)⟩
          · obtain ⟨r1, r2⟩ := same s' o' h1 h2 h3 h4
            subst r1 r2
            exact absurd c1 z
          · obtain ⟨r1, r2⟩ := same s' o' h1 h2 h3 h4
            subst r1 r2
            omega
          · obtain ⟨r1, r2⟩ := same s' o' h1 h2 h3 h4
            subst r1 r2
            exact ⟨N2, t0, hsame, hU, hF, fun z => absurd c3 z, fun _ => hp⟩
        · refine ⟨-2000000003, S, hV, fun x μ post hK hp => y_extend hkd hV hK (fun z => (n0 z).elim) (fun s' o' h1 h2 h3 h4 z => ?_) (fun s' o' h1 h2 h3 h4 _ _ z => ?_) (fun s' o' h1 h2 h3 h4 _ _ _ => ?_)⟩
          · obtain ⟨r1, r2⟩ := same s' o' h1 h2 h3 h4
            subst r1 r2
            exact absurd c1 z
          · obtain ⟨r1, r2⟩ := same s' o' h1 h2 h3 h4
            subst r1 r2
            omega
          · obtain ⟨r1, r2⟩ := same s' o' h1 h2 h3 h4
            subst r1 r2
            exact ⟨N2, t0, hsame, hU, hF, fun _ => hp, fun z => absurd z c3⟩
      · refine ⟨_, S, hV, fun x μ post hK hp => y_extend hkd hV hK (fun z => (n0 z).elim) (fun s' o' h1 h2 h3 h4 z => ?_) (fun _ _ _ _ _ _ _ _ _ => hp) (fun s' o' h1 h2 h3 h4 _ _ z => ?_)⟩
        · obtain ⟨r1, r2⟩ := same s' o' h1 h2 h3 h4
          subst r1 r2
          exact absurd c1 z
        · obtain ⟨r1, r2⟩ := same s' o' h1 h2 h3 h4
          subst r1 r2
          exact absurd z c2
    · refine ⟨_, S, hV, fun x μ post hK hp => y_extend hkd hV hK (fun z => (n0 z).elim) (fun _ _ _ _ _ _ _ => hp) (fun s' o' h1 h2 h3 h4 k1 k2 _ => ?_) (fun s' o' h1 h2 h3 h4 k1 k2 _ => ?_)⟩
      · obtain ⟨r1, r2⟩ := same s' o' h1 h2 h3 h4
        subst r1 r2
        exact absurd ⟨k1, k2⟩ c1
      · obtain ⟨r1, r2⟩ := same s' o' h1 h2 h3 h4
        subst r1 r2
        exact absurd ⟨k1, k2⟩ c1
  · have n0 : (¬ ∃ t, t < snt S ∧ p1 = nI t) ∨ (¬ ∃ t, t < snt S ∧ p2 = nI t) := by
      by_cases z : ∃ t, t < snt S ∧ p1 = nI t
      · exact Or.inr (fun z2 => c ⟨z, z2⟩)
      · exact Or.inl z
    exact ⟨_, S, hV, fun x μ post hK hp => x_ext0 hkd hV hK n0 hp⟩
theorem d_tells (hV : VS S) (p1 : Int32) : DT kd S (fun x μ post => wp_L_tells x p1 μ post) := by
  have v6 := hV.v6
  by_cases c : ((-1000 : Int32) ≤ p1 ∧ p1 ≤ 1000)
  · by_cases h : stn S < 300
    · exact ⟨_, _, hV.tale (by omega), fun x μ post hK hp => x_tells hV hK c h hp⟩
    · exact ⟨_, S, hV, fun x μ post hK hp => x_tellsF hV hK c (by omega) hp⟩
  · exact ⟨_, S, hV, fun x μ post hK hp => x_tells0 hV hK c hp⟩
theorem d_writes (hkd : ∀ i j, i < 4 → j < 4 → kd i = kd j → i = j) (hV : VS S) (p1 : Int32) : DT kd S (fun x μ post => wp_L_writes kd x p1 μ post) := by
  by_cases c : ∃ t, t < snt S ∧ p1 = nI t
  · obtain ⟨t, ht, e⟩ := c
    subst e
    by_cases hw : wvN (sN S) (sT S) (stn S) t = -1
    · obtain ⟨bs, hv⟩ := wv_m1 hV.v6 hw
      exact ⟨_, _, hV.msg (vT_240 hV ht hv) (fun i => (btL_01 (vT_01 17 t 0 _ _ hv) i).2), fun x μ post hK hp => x_writesG hkd hV hK ht hv (Nat.le_refl _) (fun _ => hp)⟩
    · exact ⟨_, S, hV, fun x μ post hK hp => x_writesB hkd hV hK ht hw hp⟩
  · exact ⟨_, S, hV, fun x μ post hK hp => x_writes0 hkd hV hK c hp⟩
theorem d_flips (hV : VS S) (p1 : Int32) : DT kd S (fun x μ post => wp_L_flips x p1 μ post) := by
  by_cases c : ∃ j, j < sbn S ∧ p1 = nI j
  · obtain ⟨j, hj, e⟩ := c
    subst e
    exact ⟨_, _, hV.msg hV.v7 (fl_01 hV.v8), fun x μ post hK hp => x_flips hV hK hj hp⟩
  · exact ⟨_, S, hV, fun x μ post hK hp => x_flips0 hV hK c hp⟩
theorem d_cuts (hV : VS S) (p1 : Int32) : DT kd S (fun x μ post => wp_L_cuts x p1 μ post) := by
  have v7 := hV.v7
  by_cases c : ((0 : Int32) ≤ p1 ∧ p1 ≤ nI (sbn S))
  · obtain ⟨j, _, hj, e⟩ := q_num (a := 0) (b := sbn S) c.1 c.2 (by omega) (by omega)
    subst e
    exact ⟨_, s_msg S j (sb S), hV.msg (by omega) hV.v8, fun x μ post hK hp => x_cuts hV hK hj hp⟩
  · exact ⟨_, S, hV, fun x μ post hK hp => x_cuts0 hV hK c hp⟩
theorem d_reads (hkd : ∀ i j, i < 4 → j < 4 → kd i = kd j → i = j) (hV : VS S) (p1 p2 : Int32) : DT kd S (fun x μ post => wp_L_reads kd x p1 p2 μ post) := by
  by_cases c : ∃ t, t < snt S ∧ p1 = nI t
  · obtain ⟨t, ht, e⟩ := c
    subst e
    by_cases c2 : ((0 : Int32) ≤ p2 ∧ p2 ≤ 3)
    · obtain ⟨kn, _, hkn, e2⟩ := q_num (a := 0) (b := 3) c2.1 c2.2 (by omega) (by omega)
      subst e2
      by_cases hf : fvN (sN S) (sb S) (sbn S) kn t = -1
      · obtain ⟨l, hr⟩ := fv_m1 hV.v7 hf
        have := rV_240 hV ht hr
        exact ⟨_, _, hV.tale (by omega), fun x μ post hK hp => x_readsG hkd hV hK ht hkn hr (Nat.le_refl _) (fun _ => hp)⟩
      · exact ⟨_, S, hV, fun x μ post hK hp => x_readsB hkd hV hK ht hkn hf hp⟩
    · exact ⟨_, S, hV, fun x μ post hK hp => x_reads1 hkd hV hK ht c2 hp⟩
  · exact ⟨_, S, hV, fun x μ post hK hp => x_reads0 hkd hV hK c hp⟩
end DTS
