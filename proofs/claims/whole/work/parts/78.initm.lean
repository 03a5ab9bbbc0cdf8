/-! THE TWO SYSTEMS' BEGINNINGS: the reference; both -/
/-- what the reference has made so far: rows by their slots -/
def YS (base : Mm) (o : Nat) (ks : List Nat) (rf : Nat → Nat) (μ : Mm) : Prop := (∀ k, k ∈ ks → rf k ≠ o) ∧ (∀ k, k ∈ ks → ∀ j, j ∈ ks → rf k = rf j → k = j) ∧ (∀ k, k ∈ ks → base (rf k) = none) ∧ (∀ k, k ∈ ks → μ (rf k) = some (eI (mLen k) (fun _ => 0))) ∧ ∀ a, a ≠ o → (∀ k, k ∈ ks → a ≠ rf k) → μ a = base a
/-- the reference's cell, as far as it is made -/
def oF (ks : List Nat) (rf : Nat → Nat) : List Value := (List.range 30).map (fun i => if ks.elem i = true then .ref (rf i) else if mKs.elem i = true then .null else .int 0)
theorem oF_len {ks : List Nat} {rf : Nat → Nat} : (oF ks rf).length = 30 := by simp [oF]
theorem oF_set {ks : List Nat} {rf : Nat → Nat} {k q : Nat} (hk : k < 30) : (oF ks rf).set k (.ref q) = oF (k :: ks) (fun j => if j = k then q else rf j) := by
  apply List.ext_getElem?
  intro i
  rw [List.getElem?_set, oF_len]
  unfold oF
  rw [List.getElem?_map, List.getElem?_map]
  by_cases e : k = i
  · subst e
    rw [if_pos rfl, if_pos hk, List.getElem?_range hk]
    simp
  · rw [if_neg e]
    cases c : (List.range 30)[i]? with
    | none => rfl
    | some j =>
      have hj : j = i := by
        by_cases z : i < 30
        · rw [List.getElem?_range z] at c; cases c; rfl
        · rw [List.getElem?_eq_none (by simpa using z)] at c; cases c
      subst hj
      have e2 : ¬ j = k := fun z => e z.symm
      have e3 : (k :: ks).elem j = ks.elem j := by
        rw [List.elem_cons, show (j == k) = false from by simp [e2]]
      simp only [Option.map_some, e3, if_neg e2]
theorem y_step {base : Mm} {o k : Nat} {ks : List Nat} {rf : Nat → Nat} {μ : Mm} {P : Mm → Prop} (h : YS base o ks rf μ) (ho : μ o = some (.inl (6, oF ks rf))) (hk : k < 30) (hn : k ∉ ks) {n : Nat} (hl : mLen k = n) (hp : ∀ rf' μ', YS base o (k :: ks) rf' μ' → μ' o = some (.inl (6, oF (k :: ks) rf')) → P μ') : ∀ q, μ q = none → ∀ μ3, μ3 = ups μ q (eI n (fun _ => 0)) → ∃ f5, μ3 o = some (.inl (6, f5)) ∧ k < f5.length ∧ ∀ μ8, μ8 = ups μ3 o (.inl (6, f5.set k (.ref q))) → P μ8 := by
  intro q hq μ3 e3
  subst e3
  have hqo : o ≠ q := fun z => by rw [← z, ho] at hq; cases hq
  obtain ⟨h1, h2, h3, h4, h5⟩ := h
  have hqk : ∀ j, j ∈ ks → rf j ≠ q := fun j hj z => by
    have := h4 j hj
    rw [z, hq] at this; cases this
  refine ⟨oF ks rf, by rw [ups_n hqo]; exact ho, by rw [oF_len]; exact hk, fun μ8 e8 => ?_⟩
  rw [oF_set hk] at e8
  subst e8
  refine hp (fun j => if j = k then q else rf j) _ ⟨fun j hj => ?_, fun j hj i hi z => ?_, fun j hj => ?_, fun j hj => ?_, fun a h6 h7 => ?_⟩ ups_s
  · show (if j = k then q else rf j) ≠ o
    by_cases c : j = k
    · rw [if_pos c]; exact hqo.symm
    · rw [if_neg c]
      exact h1 j (by rcases List.mem_cons.mp hj with z | z; exact absurd z c; exact z)
  · have z : (if j = k then q else rf j) = (if i = k then q else rf i) := z
    by_cases c : j = k
    · by_cases c2 : i = k
      · rw [c, c2]
      · rw [if_pos c, if_neg c2] at z
        exact absurd z.symm (hqk i (by rcases List.mem_cons.mp hi with w | w; exact absurd w c2; exact w))
    · by_cases c2 : i = k
      · rw [if_neg c, if_pos c2] at z
        exact absurd z (hqk j (by rcases List.mem_cons.mp hj with w | w; exact absurd w c; exact w))
      · rw [if_neg c, if_neg c2] at z
        exact h2 j (by rcases List.mem_cons.mp hj with w | w; exact absurd w c; exact w) i (by rcases List.mem_cons.mp hi with w | w; exact absurd w c2; exact w) z
  · show base (if j = k then q else rf j) = none
    by_cases c : j = k
    · rw [if_pos c]
      rw [← h5 q hqo.symm (fun j hj z => hqk j hj z.symm)]; exact hq
    · rw [if_neg c]
      exact h3 j (by rcases List.mem_cons.mp hj with w | w; exact absurd w c; exact w)
  · show ups (ups μ q (eI n (fun _ => 0))) o (.inl (6, oF (k :: ks) (fun j => if j = k then q else rf j))) (if j = k then q else rf j) = some (eI (mLen j) (fun _ => 0))
    by_cases c : j = k
    · rw [if_pos c, ups_n hqo.symm, ups_s, c, hl]
    · rw [if_neg c]
      have hj' : j ∈ ks := by rcases List.mem_cons.mp hj with w | w; exact absurd w c; exact w
      rw [ups_n (h1 j hj'), ups_n (hqk j hj')]
      exact h4 j hj'
  · have hk' : a ≠ q := by
      have := h7 k (List.mem_cons_self ..)
      have this : a ≠ (if k = k then q else rf k) := this
      rwa [if_pos rfl] at this
    rw [ups_n h6, ups_n hk']
    refine h5 a h6 (fun j hj z => ?_)
    by_cases c : j = k
    · exact hn (c ▸ hj)
    · have := h7 j (List.mem_cons_of_mem _ hj)
      have this : a ≠ (if j = k then q else rf j) := this
      rw [if_neg c] at this
      exact this z
theorem mset_no {mm : Nat} {rf : Nat → Nat} {σ : Nat → Int32} {α : Nat → Nat → Int32} {a : Nat} (h1 : a ≠ mm) (h2 : ∀ k, k ∈ mKs → a ≠ rf k) : mset mN mm rf σ α a = none := by
  unfold mset
  rw [if_neg h1]
  have : mKs.find? (fun k => rf k == a) = none := List.find?_eq_none.mpr (fun k hk z => h2 k hk (by simpa using z : rf k = a).symm)
  rw [this]; rfl
theorem i_ref {base : Mm} {mm : Nat} {post : Mm → Prop} (hb : base mm = none) (hp : ∀ μ4 rf, YS base mm [27, 26, 25, 24, 23, 22, 21, 19, 17, 15, 13, 11, 10, 9, 8, 7, 6, 5, 4, 3, 2] rf μ4 → μ4 mm = some (.inl (6, mF (fun _ => 0) rf)) → post μ4) : wp_X7_init mm (ups base mm (.inl (6, [.int 0, .int 0, .null, .null, .null, .null, .null, .null, .null, .null, .null, .null, .int 0, .null, .int 0, .null, .int 0, .null, .int 0, .null, .int 0, .null, .null, .null, .null, .null, .null, .null, .int 0, .int 0]))) post := by
  have hl0 : ([.int 0, .int 0, .null, .null, .null, .null, .null, .null, .null, .null, .null, .null, .int 0, .null, .int 0, .null, .int 0, .null, .int 0, .null, .int 0, .null, .null, .null, .null, .null, .null, .null, .int 0, .int 0] : List Value) = oF [] (fun _ => 0) := rfl
  rw [hl0]
  have h0 : YS base mm [] (fun _ => 0) (ups base mm (.inl (6, oF [] (fun _ => 0)))) := ⟨fun k hk => (by cases hk), fun k hk => (by cases hk), fun k hk => (by cases hk), fun k hk => (by cases hk), fun a h1 _ => ups_n h1⟩
  have o0 : ups base mm (.inl (6, oF [] (fun _ => 0))) mm = some (.inl (6, oF [] (fun _ => 0))) := ups_s
  revert o0 h0
  generalize ups base mm (.inl (6, oF [] (fun _ => 0))) = μ0
  generalize (fun _ => 0 : Nat → Nat) = rf0
  intro h0 o0
  unfold wp_X7_init
  refine y_step (k := 2) h0 o0 (by decide) (by decide) rfl (fun rf2 μ2 h2 o2 => ?_)
  refine y_step (k := 3) h2 o2 (by decide) (by decide) rfl (fun rf3 μ3 h3 o3 => ?_)
  refine y_step (k := 4) h3 o3 (by decide) (by decide) rfl (fun rf4 μ4 h4 o4 => ?_)
  refine y_step (k := 5) h4 o4 (by decide) (by decide) rfl (fun rf5 μ5 h5 o5 => ?_)
  refine y_step (k := 6) h5 o5 (by decide) (by decide) rfl (fun rf6 μ6 h6 o6 => ?_)
  refine y_step (k := 7) h6 o6 (by decide) (by decide) rfl (fun rf7 μ7 h7 o7 => ?_)
  refine y_step (k := 8) h7 o7 (by decide) (by decide) rfl (fun rf8 μ8 h8 o8 => ?_)
  refine y_step (k := 9) h8 o8 (by decide) (by decide) rfl (fun rf9 μ9 h9 o9 => ?_)
  refine y_step (k := 10) h9 o9 (by decide) (by decide) rfl (fun rf10 μ10 h10 o10 => ?_)
  refine y_step (k := 11) h10 o10 (by decide) (by decide) rfl (fun rf11 μ11 h11 o11 => ?_)
  refine y_step (k := 13) h11 o11 (by decide) (by decide) rfl (fun rf13 μ13 h13 o13 => ?_)
  refine y_step (k := 15) h13 o13 (by decide) (by decide) rfl (fun rf15 μ15 h15 o15 => ?_)
  refine y_step (k := 17) h15 o15 (by decide) (by decide) rfl (fun rf17 μ17 h17 o17 => ?_)
  refine y_step (k := 19) h17 o17 (by decide) (by decide) rfl (fun rf19 μ19 h19 o19 => ?_)
  refine y_step (k := 21) h19 o19 (by decide) (by decide) rfl (fun rf21 μ21 h21 o21 => ?_)
  refine y_step (k := 22) h21 o21 (by decide) (by decide) rfl (fun rf22 μ22 h22 o22 => ?_)
  refine y_step (k := 23) h22 o22 (by decide) (by decide) rfl (fun rf23 μ23 h23 o23 => ?_)
  refine y_step (k := 24) h23 o23 (by decide) (by decide) rfl (fun rf24 μ24 h24 o24 => ?_)
  refine y_step (k := 25) h24 o24 (by decide) (by decide) rfl (fun rf25 μ25 h25 o25 => ?_)
  refine y_step (k := 26) h25 o25 (by decide) (by decide) rfl (fun rf26 μ26 h26 o26 => ?_)
  refine y_step (k := 27) h26 o26 (by decide) (by decide) rfl (fun rf27 μ27 h27 o27 => ?_)
  refine hp μ27 rf27 h27 ?_
  rw [o27]
  rfl
theorem init_ok (kd : Nat → Nat) (hkd : ∀ i j, i < 4 → j < 4 → kd i = kd j → i = j) : initOK kd := by
  intro x μ1 e1
  have e1 : μ1 = ups mN x E0 := e1
  subst e1
  refine i_class (fun μ2 ad C hR hB mm hmm μ3 e3 => ?_)
  subst e3
  refine i_ref hmm (fun μ4 rf hY hF out hout μ5 e5 => ?_)
  subst e5
  obtain ⟨h1, h2, h3, h4, h5⟩ := hY
  have hmem : ∀ k, k ∈ mKs → k ∈ [27, 26, 25, 24, 23, 22, 21, 19, 17, 15, 13, 11, 10, 9, 8, 7, 6, 5, 4, 3, 2] := by decide
  have hmem2 : ∀ k, k ∈ [27, 26, 25, 24, 23, 22, 21, 19, 17, 15, 13, 11, 10, 9, 8, 7, 6, 5, 4, 3, 2] → k ∈ mKs := by decide
  have hMO : MOk mm rf := ⟨fun k hk => h1 k (hmem k hk), fun k hk j hj => h2 k (hmem k hk) j (hmem j hj)⟩
  have hom : out ≠ mm := fun z => by rw [z, hF] at hout; cases hout
  have hok : ∀ k, k ∈ mKs → out ≠ rf k := fun k hk z => by
    have := h4 k (hmem k hk)
    rw [← z, hout] at this; cases this
  have hob : μ2 out = none := by
    rw [← h5 out hom (fun k hk => hok k (hmem2 k hk))]; exact hout
  obtain ⟨ad2, C2, hR2, b1, b2, b3, b4⟩ := hR.one (r := 15) (e := eL 1 (fun _ => 0)) hob
  obtain ⟨c0, d0, d1, d2, d3, d4, d5, d6, d7, d8, d9, d10, d11, d12, d13, d14, d15⟩ := hB
  refine ⟨ups μ2 out (eL 1 (fun _ => 0)), rf, fun _ => 0, fun _ _ => 0, II kd x out, ?_, ?_, hMO, ?_, ?_⟩
  · funext a
    by_cases c : a = out
    · subst c
      rw [ups_s]
      exact (join_1 ups_s).symm
    · rw [ups_n c]
      by_cases c2 : a = mm
      · subst c2
        rw [hF]
        unfold joinM
        rw [ups_n c, hmm]
        exact mset_o.symm
      · by_cases c3 : ∃ k, k ∈ mKs ∧ a = rf k
        · obtain ⟨k, hk, e⟩ := c3
          subst e
          rw [h4 k (hmem k hk)]
          unfold joinM
          rw [ups_n c, h3 k (hmem k hk)]
          exact (mset_a (μ0 := mN) (σ := fun _ => 0) (α := fun _ _ => 0) hMO k hk).symm
        · have c4 : ∀ k, k ∈ mKs → a ≠ rf k := fun k hk z => c3 ⟨k, hk, z⟩
          rw [h5 a c2 (fun k hk => c4 k (hmem2 k hk))]
          unfold joinM
          rw [ups_n c, mset_no c2 c4]
          cases μ2 a with
          | none => rfl
          | some v => rfl
  · intro a ha
    by_cases c : a = out
    · subst c; exact mset_no hom hok
    · rw [ups_n c] at ha
      refine mset_no (fun z => ha (by rw [z]; exact hmm)) (fun k hk z => ha (by rw [z]; exact h3 k (hmem k hk)))
  · refine ⟨(fun _ _ _ => 0, fun _ => 0, fun _ => 0), 0, 0, 0, 0, fun _ => 0, fun _ => 0, fun _ => 0, fun _ => 0, ⟨ad2, C2, 0, hR2, by rw [b3 0 (by omega)]; exact c0, b1, ⟨_, b2⟩, ?_⟩, ?_, ?_⟩
    · unfold CI
      rw [b3 1 (by omega), b3 2 (by omega), b3 3 (by omega), b3 4 (by omega), b3 5 (by omega), b3 6 (by omega), b3 7 (by omega), b3 8 (by omega), b3 9 (by omega), b3 10 (by omega), b3 11 (by omega), b3 12 (by omega), b3 13 (by omega), b3 14 (by omega), b4 0 (by omega), b4 1 (by omega), b4 2 (by omega), b4 3 (by omega), b4 4 (by omega), b4 5 (by omega), b4 6 (by omega), b4 7 (by omega), b4 8 (by omega), b4 9 (by omega), b4 10 (by omega), b4 11 (by omega), b4 12 (by omega), b4 13 (by omega), b4 14 (by omega)]
      refine ⟨d0, ⟨d1, _, d2, fun s hs => absurd hs (by omega)⟩, ⟨d3, d4⟩, ⟨d5, _, d6, fun i hi => absurd hi (by omega)⟩, ⟨0, -1, 0, _, by omega, d7, d8, d9⟩, ⟨0, 0, -1, 0, _, by omega, d10, d11, d12⟩, ⟨d13, _, d14, fun k hk => absurd hk (by omega)⟩, ?_, fun s hs => absurd hs (by omega), fun r hr => by rw [b4 r (by omega)]; exact d15 r (by omega)⟩
      decide
    · exact ⟨rfl, fun t ht => absurd ht (by omega), fun t ht => absurd ht (by omega), rfl, rfl, rfl, fun i hi => absurd hi (by omega), rfl, fun k hk => absurd hk (by omega)⟩
    · exact ⟨by omega, fun t ht => absurd ht (by omega), fun t ht => absurd ht (by omega), fun t ht => absurd ht (by omega), fun t ht => absurd ht (by omega), by omega, by omega, fun i => Nat.zero_le 1, by omega, fun k hk => absurd hk (by omega)⟩
  · exact ⟨p_addNumber hkd, p_addList hkd, p_part, p_seq hkd, p_choice hkd, p_extend hkd, p_types, p_least, p_most, p_tell, p_forget, p_length, p_told, p_wrong hkd, p_write hkd, p_bits, p_bit, p_flip, p_cut, p_read hkd, p_fault hkd⟩
