def mN : Mm := fun _ => none
/-! THE TWO SYSTEMS' BEGINNINGS: the class -/
section IN
variable {x : Nat}
theorem Rp.row {μ μ' : Mm} {ad : Nat → Nat} {C : Mm} (h : Rp μ ad C) {r r' q it : Nat} {e e' : En} (hq : μ q = none) (hit : μ it = none) (hne : q ≠ it) (g : μ' q = some e) (g' : μ' it = some e') (fr : ∀ a v, μ a = some v → μ' a = some v) (hr : r ≠ r') : ∃ ad' C', Rp μ' ad' C' ∧ ad' r = q ∧ ad' r' = it ∧ C' r = some e ∧ C' r' = some e' ∧ (∀ s, s ≠ r → s ≠ r' → ad' s = ad s) ∧ ∀ s, s ≠ r → s ≠ r' → C' s = C s := by
  have f : ∀ p, μ p = none → ∀ s, C s ≠ none → ad s ≠ p := fun p hp s hs z => by
    obtain ⟨v, hv⟩ := Option.ne_none_iff_exists'.mp hs
    have := h.get hv
    rw [z, hp] at this; cases this
  refine ⟨_, _, ((h.ext fr).add (r := r) g (f q hq)).add (r := r') g' (Rp.addf (f it hit) hne), ?_, ?_, ?_, ups_s, fun s h1 h2 => ?_, fun s h1 h2 => ?_⟩
  · show (if r = r' then it else if r = r then q else ad r) = q
    rw [if_neg hr, if_pos rfl]
  · show (if r' = r' then it else if r' = r then q else ad r') = it
    rw [if_pos rfl]
  · rw [ups_n hr]; exact ups_s
  · show (if s = r' then it else if s = r then q else ad s) = ad s
    rw [if_neg h2, if_neg h1]
  · rw [ups_n h2, ups_n h1]
theorem Rp.one {μ : Mm} {ad : Nat → Nat} {C : Mm} (h : Rp μ ad C) {r q : Nat} {e : En} (hq : μ q = none) : ∃ ad' C', Rp (ups μ q e) ad' C' ∧ ad' r = q ∧ C' r = some e ∧ (∀ s, s ≠ r → ad' s = ad s) ∧ ∀ s, s ≠ r → C' s = C s := by
  have f : ∀ s, C s ≠ none → ad s ≠ q := fun s hs z => by
    obtain ⟨v, hv⟩ := Option.ne_none_iff_exists'.mp hs
    have := h.get hv
    rw [z, hq] at this; cases this
  refine ⟨_, _, (h.ext (fun a v hv => ups_keep hv hq)).add (r := r) ups_s f, if_pos rfl, ups_s, fun s h1 => if_neg h1, fun s h1 => ups_n h1⟩
theorem Rp.putA {μ : Mm} {ad : Nat → Nat} {C : Mm} (h : Rp μ ad C) {r a : Nat} {e0 : En} (e : En) (hr : C r = some e0) (ha : ad r = a) : ∃ C', Rp (ups μ a e) ad C' ∧ C' r = some e ∧ ∀ s, s ≠ r → C' s = C s := by
  subst ha
  exact ⟨_, h.put e hr, ups_s, fun s hs => ups_n hs⟩
theorem i_rowT {μ : Mm} {ad : Nat → Nat} {C : Mm} {fs : List Value} {r r' i n NB : Nat} {v : Int32} {P : Mm → Prop} (h : Rp μ ad C) (a0 : ad 0 = x) (c0 : C 0 = some (eO 5 fs)) (hv : v = nI n) (hn : n ≤ NB) (hn2 : n < 2 ^ 31) (hi : i < fs.length) (hr : r ≠ r') (hr0 : 0 ≠ r) (hr0' : 0 ≠ r')
    (hp : ∀ μ' ad' C', Rp μ' ad' C' → (∀ s, s ≠ r → s ≠ r' → ad' s = ad s) → (∀ s, s ≠ 0 → s ≠ r → s ≠ r' → C' s = C s) → C' 0 = some (eO 5 (fs.set i (.ref (ad' r)))) → C' r = some (eO 3 [.ref (ad' r'), .int 0]) → C' r' = some (eT n (fun _ => none)) → P μ') :
    ∀ q1, μ q1 = none → ∀ μ3, μ3 = ups μ q1 (.inl (3, [.null, .int 0])) → wp_X4_init q1 NB v μ3 (fun μ6 => ∃ f7, μ6 x = some (.inl (5, f7)) ∧ i < f7.length ∧ ∀ μ10, μ10 = ups μ6 x (.inl (5, f7.set i (.ref q1))) → P μ10) := by
  intro q1 hq1 μ3 e3
  subst e3
  refine t_init ups_s hv hn hn2 (fun it hit hne => ?_)
  obtain ⟨_, fit⟩ := ups_none hit
  obtain ⟨ad1, C1, hR1, b1, b2, b3, b4, b5, b6⟩ := h.row (r := r) (r' := r') hq1 fit hne.symm (μ' := ups (ups (ups μ q1 (.inl (3, [.null, .int 0]))) it (eT n (fun _ => none))) q1 (eO 3 [.ref it, .int 0])) ups_s (by rw [ups_n hne]; exact ups_s) (fun a w hw => ups_kp hw hq1 (ups_kp hw fit (ups_kp hw hq1 hw))) hr
  have c01 : C1 0 = some (eO 5 fs) := (b6 0 hr0 hr0').trans c0
  have a01 : ad1 0 = x := (b5 0 hr0 hr0').trans a0
  have g := hR1.get c01
  rw [a01] at g
  refine ⟨_, g, hi, fun μ10 e10 => ?_⟩
  subst e10
  obtain ⟨C2, hR2, y1, y2⟩ := hR1.putA (eO 5 (fs.set i (.ref q1))) c01 a01
  refine hp _ ad1 C2 hR2 b5 (fun s h0 h1 h2 => (y2 s h0).trans (b6 s h1 h2)) (by rw [b1]; exact y1) (by rw [y2 r hr0.symm, b2]; exact b3) (by rw [y2 r' hr0'.symm]; exact b4)
theorem i_rowK {μ : Mm} {ad : Nat → Nat} {C : Mm} {fs : List Value} {r r' i n NB : Nat} {v : Int32} {P : Mm → Prop} (h : Rp μ ad C) (a0 : ad 0 = x) (c0 : C 0 = some (eO 5 fs)) (hv : v = nI n) (hn : n ≤ NB) (hn2 : n < 2 ^ 31) (hi : i < fs.length) (hr : r ≠ r') (hr0 : 0 ≠ r) (hr0' : 0 ≠ r')
    (hp : ∀ μ' ad' C', Rp μ' ad' C' → (∀ s, s ≠ r → s ≠ r' → ad' s = ad s) → (∀ s, s ≠ 0 → s ≠ r → s ≠ r' → C' s = C s) → C' 0 = some (eO 5 (fs.set i (.ref (ad' r)))) → C' r = some (eO 1 [.ref (ad' r'), .int 0]) → C' r' = some (eI n (fun _ => 0)) → P μ') :
    ∀ q1, μ q1 = none → ∀ μ3, μ3 = ups μ q1 (.inl (1, [.null, .int 0])) → wp_X2_init q1 NB v μ3 (fun μ6 => ∃ f7, μ6 x = some (.inl (5, f7)) ∧ i < f7.length ∧ ∀ μ10, μ10 = ups μ6 x (.inl (5, f7.set i (.ref q1))) → P μ10) := by
  intro q1 hq1 μ3 e3
  subst e3
  refine k_init ups_s hv hn hn2 (fun it hit hne => ?_)
  obtain ⟨_, fit⟩ := ups_none hit
  obtain ⟨ad1, C1, hR1, b1, b2, b3, b4, b5, b6⟩ := h.row (r := r) (r' := r') hq1 fit hne.symm (μ' := ups (ups (ups μ q1 (.inl (1, [.null, .int 0]))) it (eI n (fun _ => 0))) q1 (eO 1 [.ref it, .int 0])) ups_s (by rw [ups_n hne]; exact ups_s) (fun a w hw => ups_kp hw hq1 (ups_kp hw fit (ups_kp hw hq1 hw))) hr
  have c01 : C1 0 = some (eO 5 fs) := (b6 0 hr0 hr0').trans c0
  have a01 : ad1 0 = x := (b5 0 hr0 hr0').trans a0
  have g := hR1.get c01
  rw [a01] at g
  refine ⟨_, g, hi, fun μ10 e10 => ?_⟩
  subst e10
  obtain ⟨C2, hR2, y1, y2⟩ := hR1.putA (eO 5 (fs.set i (.ref q1))) c01 a01
  refine hp _ ad1 C2 hR2 b5 (fun s h0 h1 h2 => (y2 s h0).trans (b6 s h1 h2)) (by rw [b1]; exact y1) (by rw [y2 r hr0.symm, b2]; exact b3) (by rw [y2 r' hr0'.symm]; exact b4)
theorem i_W {μ : Mm} {ad : Nat → Nat} {C : Mm} {fs : List Value} {P : Mm → Prop} (h : Rp μ ad C) (a0 : ad 0 = x) (c0 : C 0 = some (eO 5 fs)) (hi : 3 < fs.length)
    (hp : ∀ μ' ad' C', Rp μ' ad' C' → (∀ s, s ≠ 7 → s ≠ 8 → s ≠ 9 → ad' s = ad s) → (∀ s, s ≠ 0 → s ≠ 7 → s ≠ 8 → s ≠ 9 → C' s = C s) → C' 0 = some (eO 5 (fs.set 3 (.ref (ad' 7)))) → C' 7 = some (eO 4 [.ref (ad' 8), .int 0, .int (-1)]) → C' 8 = some (eO 1 [.ref (ad' 9), .int 0]) → C' 9 = some (eI 240 (fun _ => 0)) → P μ') :
    ∀ q, μ q = none → ∀ μ3, μ3 = ups μ q (.inl (4, [.null, .int 0, .int 0])) → wp_X5_init q μ3 (fun μ6 => ∃ f7, μ6 x = some (.inl (5, f7)) ∧ 3 < f7.length ∧ ∀ μ10, μ10 = ups μ6 x (.inl (5, f7.set 3 (.ref q))) → P μ10) := by
  intro q hq μ3 e3
  subst e3
  obtain ⟨ad1, C1, hR1, b1, b2, b3, b4⟩ := h.one (r := 7) (e := .inl (4, [.null, .int 0, .int 0])) hq
  intro q1 hq1 μ4 e4
  subst e4
  refine k_init (n := 240) ups_s rfl (by omega) (by omega) (fun it hit hne => ?_)
  obtain ⟨_, fit⟩ := ups_none hit
  obtain ⟨ad2, C2, hR2, d1, d2, d3, d4, d5, d6⟩ := hR1.row (r := 8) (r' := 9) hq1 fit hne.symm (μ' := ups (ups (ups (ups μ q (.inl (4, [.null, .int 0, .int 0]))) q1 (.inl (1, [.null, .int 0]))) it (eI 240 (fun _ => 0))) q1 (eO 1 [.ref it, .int 0])) ups_s (by rw [ups_n hne]; exact ups_s) (fun a w hw => ups_kp hw hq1 (ups_kp hw fit (ups_kp hw hq1 hw))) (by omega)
  have co : C2 7 = some (.inl (4, [.null, .int 0, .int 0])) := (d6 7 (by omega) (by omega)).trans b2
  have ao : ad2 7 = q := (d5 7 (by omega) (by omega)).trans b1
  have g := hR2.get co
  rw [ao] at g
  refine ⟨_, g, by simp, fun μ101 e101 => ?_⟩
  have e101 : μ101 = ups (ups (ups (ups (ups μ q (.inl (4, [.null, .int 0, .int 0]))) q1 (.inl (1, [.null, .int 0]))) it (eI 240 (fun _ => 0))) q1 (eO 1 [.ref it, .int 0])) q (eO 4 [.ref q1, .int 0, .int 0]) := by rw [e101]; rfl
  subst e101
  refine ⟨_, ups_s, by simp, fun μ102 e102 => ?_⟩
  have e102 : μ102 = ups (ups (ups (ups (ups μ q (.inl (4, [.null, .int 0, .int 0]))) q1 (.inl (1, [.null, .int 0]))) it (eI 240 (fun _ => 0))) q1 (eO 1 [.ref it, .int 0])) q (eO 4 [.ref q1, .int 0, .int 0]) := by rw [e102, q_ups_ss]; rfl
  subst e102
  refine ⟨_, ups_s, by simp, fun μ103 e103 => ?_⟩
  have e103 : μ103 = ups (ups (ups (ups (ups μ q (.inl (4, [.null, .int 0, .int 0]))) q1 (.inl (1, [.null, .int 0]))) it (eI 240 (fun _ => 0))) q1 (eO 1 [.ref it, .int 0])) q (eO 4 [.ref q1, .int 0, .int (-1)]) := by rw [e103, q_ups_ss]; rfl
  subst e103
  obtain ⟨C3, hR3, y1, y2⟩ := hR2.putA (eO 4 [.ref q1, .int 0, .int (-1)]) co ao
  have c03 : C3 0 = some (eO 5 fs) := by rw [y2 0 (by omega), d6 0 (by omega) (by omega), b4 0 (by omega)]; exact c0
  have a03 : ad2 0 = x := by rw [d5 0 (by omega) (by omega), b3 0 (by omega)]; exact a0
  have g0 := hR3.get c03
  rw [a03] at g0
  refine ⟨_, g0, hi, fun μ10 e10 => ?_⟩
  subst e10
  obtain ⟨C4, hR4, z1, z2⟩ := hR3.putA (eO 5 (fs.set 3 (.ref q))) c03 a03
  refine hp _ ad2 C4 hR4 (fun s h1 h2 h3 => (d5 s h2 h3).trans (b3 s h1)) (fun s h0 h1 h2 h3 => by rw [z2 s h0, y2 s h1, d6 s h2 h3, b4 s h1]) (by rw [ao]; exact z1) (by rw [z2 7 (by omega), d1]; exact y1) (by rw [z2 8 (by omega), y2 8 (by omega), d2]; exact d3) (by rw [z2 9 (by omega), y2 9 (by omega)]; exact d4)
theorem i_R {μ : Mm} {ad : Nat → Nat} {C : Mm} {fs : List Value} {P : Mm → Prop} (h : Rp μ ad C) (a0 : ad 0 = x) (c0 : C 0 = some (eO 5 fs)) (hi : 4 < fs.length)
    (hp : ∀ μ' ad' C', Rp μ' ad' C' → (∀ s, s ≠ 10 → s ≠ 11 → s ≠ 12 → ad' s = ad s) → (∀ s, s ≠ 0 → s ≠ 10 → s ≠ 11 → s ≠ 12 → C' s = C s) → C' 0 = some (eO 5 (fs.set 4 (.ref (ad' 10)))) → C' 10 = some (eO 0 [.ref (ad' 11), .int 0, .int 0, .int (-1)]) → C' 11 = some (eO 1 [.ref (ad' 12), .int 0]) → C' 12 = some (eI 240 (fun _ => 0)) → P μ') :
    ∀ q, μ q = none → ∀ μ3, μ3 = ups μ q (.inl (0, [.null, .int 0, .int 0, .int 0])) → wp_X1_init q μ3 (fun μ6 => ∃ f7, μ6 x = some (.inl (5, f7)) ∧ 4 < f7.length ∧ ∀ μ10, μ10 = ups μ6 x (.inl (5, f7.set 4 (.ref q))) → P μ10) := by
  intro q hq μ3 e3
  subst e3
  obtain ⟨ad1, C1, hR1, b1, b2, b3, b4⟩ := h.one (r := 10) (e := .inl (0, [.null, .int 0, .int 0, .int 0])) hq
  intro q1 hq1 μ4 e4
  subst e4
  refine k_init (n := 240) ups_s rfl (by omega) (by omega) (fun it hit hne => ?_)
  obtain ⟨_, fit⟩ := ups_none hit
  obtain ⟨ad2, C2, hR2, d1, d2, d3, d4, d5, d6⟩ := hR1.row (r := 11) (r' := 12) hq1 fit hne.symm (μ' := ups (ups (ups (ups μ q (.inl (0, [.null, .int 0, .int 0, .int 0]))) q1 (.inl (1, [.null, .int 0]))) it (eI 240 (fun _ => 0))) q1 (eO 1 [.ref it, .int 0])) ups_s (by rw [ups_n hne]; exact ups_s) (fun a w hw => ups_kp hw hq1 (ups_kp hw fit (ups_kp hw hq1 hw))) (by omega)
  have co : C2 10 = some (.inl (0, [.null, .int 0, .int 0, .int 0])) := (d6 10 (by omega) (by omega)).trans b2
  have ao : ad2 10 = q := (d5 10 (by omega) (by omega)).trans b1
  have g := hR2.get co
  rw [ao] at g
  refine ⟨_, g, by simp, fun μ101 e101 => ?_⟩
  have e101 : μ101 = ups (ups (ups (ups (ups μ q (.inl (0, [.null, .int 0, .int 0, .int 0]))) q1 (.inl (1, [.null, .int 0]))) it (eI 240 (fun _ => 0))) q1 (eO 1 [.ref it, .int 0])) q (eO 0 [.ref q1, .int 0, .int 0, .int 0]) := by rw [e101]; rfl
  subst e101
  refine ⟨_, ups_s, by simp, fun μ102 e102 => ?_⟩
  have e102 : μ102 = ups (ups (ups (ups (ups μ q (.inl (0, [.null, .int 0, .int 0, .int 0]))) q1 (.inl (1, [.null, .int 0]))) it (eI 240 (fun _ => 0))) q1 (eO 1 [.ref it, .int 0])) q (eO 0 [.ref q1, .int 0, .int 0, .int 0]) := by rw [e102, q_ups_ss]; rfl
  subst e102
  refine ⟨_, ups_s, by simp, fun μ103 e103 => ?_⟩
  have e103 : μ103 = ups (ups (ups (ups (ups μ q (.inl (0, [.null, .int 0, .int 0, .int 0]))) q1 (.inl (1, [.null, .int 0]))) it (eI 240 (fun _ => 0))) q1 (eO 1 [.ref it, .int 0])) q (eO 0 [.ref q1, .int 0, .int 0, .int 0]) := by rw [e103, q_ups_ss]; rfl
  subst e103
  refine ⟨_, ups_s, by simp, fun μ104 e104 => ?_⟩
  have e104 : μ104 = ups (ups (ups (ups (ups μ q (.inl (0, [.null, .int 0, .int 0, .int 0]))) q1 (.inl (1, [.null, .int 0]))) it (eI 240 (fun _ => 0))) q1 (eO 1 [.ref it, .int 0])) q (eO 0 [.ref q1, .int 0, .int 0, .int (-1)]) := by rw [e104, q_ups_ss]; rfl
  subst e104
  obtain ⟨C3, hR3, y1, y2⟩ := hR2.putA (eO 0 [.ref q1, .int 0, .int 0, .int (-1)]) co ao
  have c03 : C3 0 = some (eO 5 fs) := by rw [y2 0 (by omega), d6 0 (by omega) (by omega), b4 0 (by omega)]; exact c0
  have a03 : ad2 0 = x := by rw [d5 0 (by omega) (by omega), b3 0 (by omega)]; exact a0
  have g0 := hR3.get c03
  rw [a03] at g0
  refine ⟨_, g0, hi, fun μ10 e10 => ?_⟩
  subst e10
  obtain ⟨C4, hR4, z1, z2⟩ := hR3.putA (eO 5 (fs.set 4 (.ref q))) c03 a03
  refine hp _ ad2 C4 hR4 (fun s h1 h2 h3 => (d5 s h2 h3).trans (b3 s h1)) (fun s h0 h1 h2 h3 => by rw [z2 s h0, y2 s h1, d6 s h2 h3, b4 s h1]) (by rw [ao]; exact z1) (by rw [z2 10 (by omega), d1]; exact y1) (by rw [z2 11 (by omega), y2 11 (by omega), d2]; exact d3) (by rw [z2 12 (by omega), y2 12 (by omega)]; exact d4)
def E0 : En := .inl (5, [.null, .null, .null, .null, .null, .null, .int 0])
/-- the class's memory, as its constructor leaves it -/
def BI (x : Nat) (ad : Nat → Nat) (C : Mm) : Prop := ad 0 = x ∧ C 0 = some (eO 5 [.ref (ad 1), .ref (ad 3), .ref (ad 5), .ref (ad 7), .ref (ad 10), .ref (ad 13), .int 0]) ∧
  C 1 = some (eO 3 [.ref (ad 2), .int 0]) ∧ C 2 = some (eT 16 (fun _ => none)) ∧ C 3 = some (eO 1 [.ref (ad 4), .int 0]) ∧ C 4 = some (eI 300 (fun _ => 0)) ∧ C 5 = some (eO 1 [.ref (ad 6), .int 0]) ∧ C 6 = some (eI 240 (fun _ => 0)) ∧
  C 7 = some (eO 4 [.ref (ad 8), .int 0, .int (-1)]) ∧ C 8 = some (eO 1 [.ref (ad 9), .int 0]) ∧ C 9 = some (eI 240 (fun _ => 0)) ∧ C 10 = some (eO 0 [.ref (ad 11), .int 0, .int 0, .int (-1)]) ∧ C 11 = some (eO 1 [.ref (ad 12), .int 0]) ∧ C 12 = some (eI 240 (fun _ => 0)) ∧
  C 13 = some (eO 3 [.ref (ad 14), .int 0]) ∧ C 14 = some (eT 6 (fun _ => none)) ∧ ∀ r, 15 ≤ r → C r = none
theorem i_class {post : Mm → Prop} (hp : ∀ μ2 ad C, Rp μ2 ad C → BI x ad C → post μ2) : wp_X6_init x (ups mN x E0) post := by
  have R0 : Rp (ups mN x E0) (fun _ => x) (ups mN 0 E0) := by
    refine ⟨fun r e hr => ?_, fun r s h1 h2 _ => ?_⟩
    · by_cases c : r = 0
      · subst c; rw [ups_s] at hr ⊢; exact hr
      · rw [ups_n c] at hr; cases hr
    · have n : ∀ r, ups mN 0 E0 r ≠ none → r = 0 := fun r h => by
        by_cases c : r = 0
        · exact c
        · rw [ups_n c] at h; exact absurd rfl h
      rw [n r h1, n s h2]
  obtain ⟨ad0, C0, hR0, a0, c0, n0⟩ : ∃ (ad : Nat → Nat) (C : Mm), Rp (ups mN x E0) ad C ∧ ad 0 = x ∧ C 0 = some E0 ∧ ∀ s, s ≠ 0 → C s = none := ⟨_, _, R0, rfl, ups_s, fun s hs => ups_n hs⟩
  refine i_rowT (r := 1) (r' := 2) (n := 16) hR0 a0 c0 rfl (by omega) (by omega) (by simp) (by omega) (by omega) (by omega) (fun μ1 ad1 C1 hR1 z1 w1 f1 g1 h1 => ?_)
  have a1 : ad1 0 = x := (z1 0 (by omega) (by omega)).trans a0
  refine i_rowK (r := 3) (r' := 4) (n := 300) hR1 a1 f1 rfl (by omega) (by omega) (by simp) (by omega) (by omega) (by omega) (fun μ2 ad2 C2 hR2 z2 w2 f2 g2 h2 => ?_)
  have a2 : ad2 0 = x := (z2 0 (by omega) (by omega)).trans a1
  refine i_rowK (r := 5) (r' := 6) (n := 240) hR2 a2 f2 rfl (by omega) (by omega) (by simp) (by omega) (by omega) (by omega) (fun μ3 ad3 C3 hR3 z3 w3 f3 g3 h3 => ?_)
  have a3 : ad3 0 = x := (z3 0 (by omega) (by omega)).trans a2
  refine i_W hR3 a3 f3 (by simp) (fun μ4 ad4 C4 hR4 z4 w4 f4 o4 g4 h4 => ?_)
  have a4 : ad4 0 = x := (z4 0 (by omega) (by omega) (by omega)).trans a3
  refine i_R hR4 a4 f4 (by simp) (fun μ5 ad5 C5 hR5 z5 w5 f5 o5 g5 h5 => ?_)
  have a5 : ad5 0 = x := (z5 0 (by omega) (by omega) (by omega)).trans a4
  refine i_rowT (r := 13) (r' := 14) (n := 6) hR5 a5 f5 rfl (by omega) (by omega) (by simp) (by omega) (by omega) (by omega) (fun μ6 ad6 C6 hR6 z6 w6 f6 g6 h6 => ?_)
  have a6 : ad6 0 = x := (z6 0 (by omega) (by omega)).trans a5
  have k0 := hR6.get f6
  rw [a6] at k0
  refine ⟨_, k0, by simp, fun μ70 e70 => ?_⟩
  subst e70
  obtain ⟨C7, hR7, y1, y2⟩ := hR6.putA (eO 5 [.ref (ad1 1), .ref (ad2 3), .ref (ad3 5), .ref (ad4 7), .ref (ad5 10), .ref (ad6 13), .int 0]) f6 a6
  refine hp _ ad6 C7 hR7 ⟨a6, ?_, ?_, ?_, ?_, ?_, ?_, ?_, ?_, ?_, ?_, ?_, ?_, ?_, ?_, ?_, fun r hr => ?_⟩
  · rw [z6 1 (by omega) (by omega), z5 1 (by omega) (by omega) (by omega), z4 1 (by omega) (by omega) (by omega), z3 1 (by omega) (by omega), z2 1 (by omega) (by omega), z6 3 (by omega) (by omega), z5 3 (by omega) (by omega) (by omega), z4 3 (by omega) (by omega) (by omega), z3 3 (by omega) (by omega), z6 5 (by omega) (by omega), z5 5 (by omega) (by omega) (by omega), z4 5 (by omega) (by omega) (by omega), z6 7 (by omega) (by omega), z5 7 (by omega) (by omega) (by omega), z6 10 (by omega) (by omega)]; exact y1
  · rw [y2 1 (by omega), w6 1 (by omega) (by omega) (by omega), w5 1 (by omega) (by omega) (by omega) (by omega), w4 1 (by omega) (by omega) (by omega) (by omega), w3 1 (by omega) (by omega) (by omega), w2 1 (by omega) (by omega) (by omega), z6 2 (by omega) (by omega), z5 2 (by omega) (by omega) (by omega), z4 2 (by omega) (by omega) (by omega), z3 2 (by omega) (by omega), z2 2 (by omega) (by omega)]; exact g1
  · rw [y2 2 (by omega), w6 2 (by omega) (by omega) (by omega), w5 2 (by omega) (by omega) (by omega) (by omega), w4 2 (by omega) (by omega) (by omega) (by omega), w3 2 (by omega) (by omega) (by omega), w2 2 (by omega) (by omega) (by omega)]; exact h1
  · rw [y2 3 (by omega), w6 3 (by omega) (by omega) (by omega), w5 3 (by omega) (by omega) (by omega) (by omega), w4 3 (by omega) (by omega) (by omega) (by omega), w3 3 (by omega) (by omega) (by omega), z6 4 (by omega) (by omega), z5 4 (by omega) (by omega) (by omega), z4 4 (by omega) (by omega) (by omega), z3 4 (by omega) (by omega)]; exact g2
  · rw [y2 4 (by omega), w6 4 (by omega) (by omega) (by omega), w5 4 (by omega) (by omega) (by omega) (by omega), w4 4 (by omega) (by omega) (by omega) (by omega), w3 4 (by omega) (by omega) (by omega)]; exact h2
  · rw [y2 5 (by omega), w6 5 (by omega) (by omega) (by omega), w5 5 (by omega) (by omega) (by omega) (by omega), w4 5 (by omega) (by omega) (by omega) (by omega), z6 6 (by omega) (by omega), z5 6 (by omega) (by omega) (by omega), z4 6 (by omega) (by omega) (by omega)]; exact g3
  · rw [y2 6 (by omega), w6 6 (by omega) (by omega) (by omega), w5 6 (by omega) (by omega) (by omega) (by omega), w4 6 (by omega) (by omega) (by omega) (by omega)]; exact h3
  · rw [y2 7 (by omega), w6 7 (by omega) (by omega) (by omega), w5 7 (by omega) (by omega) (by omega) (by omega), z6 8 (by omega) (by omega), z5 8 (by omega) (by omega) (by omega)]; exact o4
  · rw [y2 8 (by omega), w6 8 (by omega) (by omega) (by omega), w5 8 (by omega) (by omega) (by omega) (by omega), z6 9 (by omega) (by omega), z5 9 (by omega) (by omega) (by omega)]; exact g4
  · rw [y2 9 (by omega), w6 9 (by omega) (by omega) (by omega), w5 9 (by omega) (by omega) (by omega) (by omega)]; exact h4
  · rw [y2 10 (by omega), w6 10 (by omega) (by omega) (by omega), z6 11 (by omega) (by omega)]; exact o5
  · rw [y2 11 (by omega), w6 11 (by omega) (by omega) (by omega), z6 12 (by omega) (by omega)]; exact g5
  · rw [y2 12 (by omega), w6 12 (by omega) (by omega) (by omega)]; exact h5
  · rw [y2 13 (by omega)]; exact g6
  · rw [y2 14 (by omega)]; exact h6
  · rw [y2 r (by omega), w6 r (by omega) (by omega) (by omega), w5 r (by omega) (by omega) (by omega) (by omega), w4 r (by omega) (by omega) (by omega) (by omega), w3 r (by omega) (by omega) (by omega), w2 r (by omega) (by omega) (by omega), w1 r (by omega) (by omega) (by omega)]; exact n0 r (by omega)
end IN
