/-! WHAT IS READ IS WHAT WAS WRITTEN: rows, numbers -/
def AT (T : Nat → Int32) : Nat → List Int32 → Prop
  | _, [] => True
  | q, x :: l => T q = x ∧ AT T (q + 1) l
theorem AT_cons {T : Nat → Int32} {q : Nat} {x : Int32} {l : List Int32} : AT T q (x :: l) ↔ (T q = x ∧ AT T (q + 1) l) := Iff.rfl
theorem AT_app {T : Nat → Int32} : ∀ (l m : List Int32) (q : Nat), AT T q (l ++ m) ↔ (AT T q l ∧ AT T (q + l.length) m)
  | [], m, q => ⟨fun h => ⟨trivial, h⟩, fun h => h.2⟩
  | x :: l, m, q => by
    have ih := AT_app (T := T) l m (q + 1)
    have e : q + 1 + l.length = q + (x :: l).length := by rw [List.length_cons]; omega
    rw [e] at ih
    rw [List.cons_append, AT_cons, AT_cons, ih, and_assoc]
theorem AT_get {T : Nat → Int32} : ∀ (l : List Int32) (q i : Nat), AT T q l → i < l.length → T (q + i) = l.getD i 0
  | [], q, i, _, h => absurd h (by simp)
  | x :: l, q, 0, h, _ => h.1
  | x :: l, q, i + 1, h, hi => by
    have := AT_get l (q + 1) i h.2 (by rw [List.length_cons] at hi; omega)
    rw [show q + (i + 1) = q + 1 + i by omega, this, List.getD_cons_succ]
theorem AT_of {T : Nat → Int32} : ∀ (l : List Int32) (q : Nat), (∀ i, i < l.length → T (q + i) = l.getD i 0) → AT T q l
  | [], q, _ => trivial
  | x :: l, q, h => ⟨h 0 (by simp), AT_of l (q + 1) (fun i hi => by
      have := h (i + 1) (by rw [List.length_cons]; omega)
      rw [show q + 1 + i = q + (i + 1) by omega, this, List.getD_cons_succ])⟩
theorem AT_cong {T T' : Nat → Int32} {l : List Int32} {q : Nat} (h : AT T q l) (e : ∀ i, q ≤ i → i < q + l.length → T' i = T i) : AT T' q l :=
  AT_of l q (fun i hi => (e (q + i) (by omega) (by omega)).trans (AT_get l q i h hi))
def bI (b : Nat → Nat) : Nat → Int32 := fun i => nI (b i)
theorem q_s32 : ∀ k, k < 32 → ((nI k &&& 31).toBitVec.smod 32).toNat = k := by decide
theorem msk_nI {n k : Nat} (hn : n < 2 ^ 31) (hk : k < 32) : msk (nI n) k = nI (n / 2 ^ k % 2) := by
  unfold msk
  rw [pk_shrN hn (nI k &&& 31) k (q_s32 k hk)]
  have h2 : n / 2 ^ k < 2 ^ 32 := Nat.lt_of_le_of_lt (Nat.div_le_self _ _) (by omega)
  have := pk_andN h2 (m := 1) 1 (by decide)
  rw [this]
theorem nmB_acc (b : Nat → Nat) : ∀ w p acc, nmB b w p acc = acc * 2 ^ w + nmB b w p 0
  | 0, p, acc => by simp [nmB]
  | w + 1, p, acc => by
    have h1 := nmB_acc b w (p + 1) (2 * acc + b p)
    have h2 := nmB_acc b w (p + 1) (2 * 0 + b p)
    have e1 : nmB b (w + 1) p acc = nmB b w (p + 1) (2 * acc + b p) := rfl
    have e2 : nmB b (w + 1) p 0 = nmB b w (p + 1) (2 * 0 + b p) := rfl
    rw [e1, e2, h1, h2, Nat.pow_succ, Nat.add_mul, Nat.mul_zero, Nat.zero_add, Nat.mul_comm 2 acc, Nat.mul_assoc, Nat.mul_comm 2 (2 ^ w), Nat.add_assoc]
theorem nmB_s (b : Nat → Nat) (w p : Nat) : nmB b (w + 1) p 0 = b p * 2 ^ w + nmB b w (p + 1) 0 := by
  have e2 : nmB b (w + 1) p 0 = nmB b w (p + 1) (2 * 0 + b p) := rfl
  rw [e2, nmB_acc, Nat.mul_zero, Nat.zero_add]
theorem q_spl {X c e a r : Nat} (h : a + X * c = e * X + r) (ha : a < X) (hr : r < X) (hc : c < 2) (he : e ≤ 1) : c = e ∧ a = r := by
  have h1 : c = 0 ∨ c = 1 := by omega
  have h2 : e = 0 ∨ e = 1 := by omega
  rcases h1 with h1 | h1 <;> rcases h2 with h2 | h2 <;> subst h1 <;> subst h2 <;> simp only [Nat.mul_zero, Nat.mul_one, Nat.zero_mul, Nat.one_mul, Nat.add_zero, Nat.zero_add] at h <;> omega
theorem AT_bin (b : Nat → Nat) (hb : ∀ i, b i ≤ 1) : ∀ w p v, v < 2 ^ 31 → w ≤ 31 → v % 2 ^ w = nmB b w p 0 → AT (bI b) p (bin w (nI v))
  | 0, p, v, _, _, _ => trivial
  | w + 1, p, v, hv, hw, h => by
    rw [nmB_s, Nat.mod_pow_succ] at h
    have hr := nmB_lt b hb w (p + 1) 0
    rw [Nat.zero_add, Nat.one_mul] at hr
    obtain ⟨h1, h2⟩ := q_spl h (Nat.mod_lt _ (Nat.two_pow_pos w)) hr (Nat.mod_lt _ (by omega)) (hb p)
    rw [bin, AT_cons]
    refine ⟨?_, AT_bin b hb w (p + 1) v hv (by omega) h2⟩
    show nI (b p) = msk (nI v) w
    rw [msk_nI hv (by omega), h1]
theorem bin_nm (b : Nat → Nat) (hb : ∀ i, b i ≤ 1) : ∀ w p v, v < 2 ^ 31 → w ≤ 31 → AT (bI b) p (bin w (nI v)) → nmB b w p 0 = v % 2 ^ w
  | 0, p, v, _, _, _ => by simp [nmB, Nat.mod_one]
  | w + 1, p, v, hv, hw, h => by
    rw [bin, AT_cons] at h
    have ih := bin_nm b hb w (p + 1) v hv (by omega) h.2
    have h1 : nI (b p) = msk (nI v) w := h.1
    rw [msk_nI hv (by omega)] at h1
    have h2 : b p = v / 2 ^ w % 2 := (nI_eq (by have := hb p; omega) (by have := Nat.mod_lt (v / 2 ^ w) (show 2 > 0 by omega); omega)).mp h1
    rw [nmB_s, ih, Nat.mod_pow_succ, ← h2, Nat.mul_comm, Nat.add_comm]
theorem tkB_bits {b : Nat → Nat} {bn w p bd p' v : Nat} (hb : ∀ i, b i ≤ 1) (hw : w ≤ 30) (h : tkB b bn w p bd = .inr (p', v)) : AT (bI b) p (bin w (nI v)) ∧ p' = p + w ∧ p' ≤ bn ∧ v < bd := by
  obtain ⟨h1, h2, h3⟩ := tkB_le h
  have hv : nmB b w p 0 = v := by
    unfold tkB at h
    split at h
    · cases h
    · split at h
      · cases h; rfl
      · cases h
  have hl := nmB_lt b hb w p 0
  rw [Nat.zero_add, Nat.one_mul, hv] at hl
  have hw2 : 2 ^ w ≤ 2 ^ 30 := Nat.pow_le_pow_right (by omega) hw
  refine ⟨AT_bin b hb w p v (by omega) (by omega) ?_, h2, h3, h1⟩
  rw [Nat.mod_eq_of_lt hl, hv]
theorem tkB_of {b : Nat → Nat} {bn w p bd v : Nat} (hb : ∀ i, b i ≤ 1) (hw : w ≤ 30) (hv : v < 2 ^ w) (hd : v < bd) (hp : p + w ≤ bn) (h : AT (bI b) p (bin w (nI v))) : tkB b bn w p bd = .inr (p + w, v) := by
  have hw2 : 2 ^ w ≤ 2 ^ 30 := Nat.pow_le_pow_right (by omega) hw
  have e := bin_nm b hb w p v (by omega) (by omega) h
  rw [Nat.mod_eq_of_lt hv] at e
  unfold tkB
  rw [if_neg (by omega), e, if_pos hd]
theorem wdF_ge (n : Nat) : ∀ f w, n ≤ 2 ^ (f + w) → n ≤ 2 ^ (wdF n f w)
  | 0, w, h => by rw [Nat.zero_add] at h; exact h
  | f + 1, w, h => by
    unfold wdF
    split
    · assumption
    · exact wdF_ge n f (w + 1) (by rw [show f + (w + 1) = f + 1 + w by omega]; exact h)
theorem wdN_ge {n : Nat} (h : n ≤ 2048) : n ≤ 2 ^ (wdN n) := wdF_ge n 11 0 h
theorem NWf.hd {N : NT} {nt t : Nat} (h : NWf N nt) (ht : t < nt) (h2 : nK N t ≠ 2) : -1000 ≤ (nlo N t).toInt ∧ (nhi N t).toInt ≤ 1000 ∧ nV N t = ((nhi N t).toInt - (nlo N t).toInt + 1).toNat ∧ (nlo N t).toInt ≤ (nhi N t).toInt := by
  obtain ⟨h1, _, _, _, _, h6, h7, h8, h9⟩ := h t ht
  unfold nV
  by_cases e3 : nK N t = 3
  · obtain ⟨e, e', e''⟩ := h9 e3
    have hC := (h t ht).2.1
    rw [if_pos e3, e, e', nI_toInt (by omega), nI_toInt (by omega)]
    omega
  · rw [if_neg e3]
    by_cases e0 : nK N t = 0
    · have := h6 e0; omega
    · have hk1 : nK N t = 1 := by clear h6 h7 h8 h9; omega
      obtain ⟨_, a, b, ea, eb, hab, hb⟩ := h7 hk1
      rw [ea, eb, nI_toInt (by omega), nI_toInt (by omega)]; omega
theorem q_hdA {lo hi x : Int32} (h1 : -1000 ≤ lo.toInt) (h2 : hi.toInt ≤ 1000) (hx : lo ≤ x ∧ x ≤ hi) : ∃ v, v < (hi.toInt - lo.toInt + 1).toNat ∧ x - lo = nI v ∧ x = lo + nI v := by
  have a := q_int hx
  refine ⟨(x.toInt - lo.toInt).toNat, by omega, ?_, ?_⟩
  · apply Int32.toInt_inj.mp
    rw [Int32.toInt_sub, nI_toInt (by omega), Int.bmod_def]; omega
  · apply Int32.toInt_inj.mp
    rw [Int32.toInt_add, nI_toInt (by omega), Int.bmod_def]; omega
theorem q_hdB {lo hi : Int32} {v : Nat} (h1 : -1000 ≤ lo.toInt) (h2 : hi.toInt ≤ 1000) (hv : v < (hi.toInt - lo.toInt + 1).toNat) : (lo ≤ lo + nI v ∧ lo + nI v ≤ hi) ∧ lo + nI v - lo = nI v := by
  have e : (lo + nI v).toInt = lo.toInt + v := by
    rw [Int32.toInt_add, nI_toInt (by omega), Int.bmod_def]; omega
  refine ⟨⟨Int32.le_iff_toInt_le.mpr (by omega), Int32.le_iff_toInt_le.mpr (by omega)⟩, ?_⟩
  apply Int32.toInt_inj.mp
  rw [Int32.toInt_sub, nI_toInt (by omega), e, Int.bmod_def]; omega
theorem bnd_of {r : RT} {k : Nat → RT} {p p' : Nat} {l l' : List Int32} (h1 : r = .inr (p, l)) (h2 : k p = .inr (p', l')) : bnd r k = .inr (p', l ++ l') := by
  rw [h1]; simp only [bnd, h2]
theorem bnd_in1 {r : RT} {k : Nat → RT} {q : Nat} (h1 : r = .inl q) : bnd r k = .inl q := by
  rw [h1]; simp only [bnd]
theorem bnd_in2 {r : RT} {k : Nat → RT} {p q : Nat} {l : List Int32} (h1 : r = .inr (p, l)) (h2 : k p = .inl q) : bnd r k = .inl q := by
  rw [h1]; simp only [bnd, h2]
/-! .. masks -/
theorem msk_set {m : Int32} {x c i : Nat} (hx : x ≤ 1) (hc : c < 6) (hi : i < 6) : msk (m ||| (nI x <<< (nI c &&& 31))) i = msk m i ||| (if i = c then nI x else nI 0) := by
  rw [msk_or]
  have h01 : x = 0 ∨ x = 1 := by omega
  rcases h01 with e | e <;> subst e
  · rw [q_shl0 c (by omega)]
    have h0 : ∀ k, k < 6 → msk (nI 0) k = nI 0 := by decide
    rw [h0 i hi]
    split <;> rfl
  · have := msk_one c hc i hi
    have e1 : (nI 1 : Int32) = 1 := rfl
    have e0 : (nI 0 : Int32) = 0 := rfl
    rw [e1, e0, this]
theorem msk_lo {m : Int32} {x c i : Nat} (hx : x ≤ 1) (hc : c < 6) (hi : i < 6) (hn : i ≠ c) : msk (m ||| (nI x <<< (nI c &&& 31))) i = msk m i := by
  rw [msk_set hx hc hi, if_neg hn, q_or0]
theorem msk_at {m : Int32} {x c : Nat} (hx : x ≤ 1) (hc : c < 6) (h0 : msk m c = nI 0) : msk (m ||| (nI x <<< (nI c &&& 31))) c = nI x := by
  rw [msk_set hx hc hc, if_pos rfl, h0, q_or, Nat.zero_or]
def mk0 (m : Int32) (k : Nat) : Prop := ∀ i, k ≤ i → i < 6 → msk m i = nI 0
theorem mk0.set {m : Int32} {x k : Nat} (h : mk0 m k) (hx : x ≤ 1) (hk : k < 6) : mk0 (m ||| (nI x <<< (nI k &&& 31))) (k + 1) := fun i h1 h2 => by
  rw [msk_lo hx hk h2 (by omega)]; exact h i (by omega) h2
theorem mk0_0 : mk0 0 0 := by
  have : ∀ i, i < 6 → msk 0 i = nI 0 := by decide
  exact fun i _ h => this i h
section FL
variable {N : NT} {T : Nat → Int32} {b : Nat → Nat} {bn tn t : Nat}
theorem flR_mk (hb : ∀ i, b i ≤ 1) : ∀ n k m0 p p' m l, k + n ≤ 6 → flR N b bn t n k m0 p = .inr (p', m, l) → ∀ i, i < k → msk m i = msk m0 i
  | 0, k, m0, p, p', m, l, _, e, i, _ => by
    rw [flR] at e; cases e; rfl
  | n + 1, k, m0, p, p', m, l, hk, e, i, hi => by
    rw [flR] at e
    by_cases c : nO N t k = 1
    · rw [if_pos c] at e
      cases hv : tkB b bn 1 p 2 with
      | inl q => rw [hv] at e; cases e
      | inr x =>
        obtain ⟨p1, x⟩ := x
        rw [hv] at e
        simp only [] at e
        cases hr : flR N b bn t n (k + 1) (m0 ||| (nI x <<< (nI k &&& 31))) p1 with
        | inl q => rw [hr] at e; cases e
        | inr y =>
          obtain ⟨p2, m2, l2⟩ := y
          rw [hr] at e
          cases e
          have hx := (tkB_le hv).1
          rw [flR_mk hb n (k + 1) _ p1 _ _ _ (by omega) hr i (by omega), msk_lo (by omega) (by omega) (by omega) (by omega)]
    · rw [if_neg c] at e
      rw [flR_mk hb n (k + 1) _ p _ _ _ (by omega) e i (by omega)]
      exact msk_lo (x := 1) (by omega) (by omega) (by omega) (by omega)
theorem flRW (hb : ∀ i, b i ≤ 1) : ∀ n k m0 p p' m l, k + n ≤ 6 → mk0 m0 k → flR N b bn t n k m0 p = .inr (p', m, l) → p ≤ p' ∧ (p ≤ bn → p' ≤ bn) ∧ AT (bI b) p (flB N t m n k) ∧ p + (flB N t m n k).length = p' ∧ ∀ (T : Nat → Int32) (tn q : Nat), AT T q l → q + l.length ≤ tn → flT N T tn t n k m0 q = .inr (q + l.length, m)
  | 0, k, m0, p, p', m, l, _, _, e => by
    rw [flR] at e; cases e
    exact ⟨Nat.le_refl _, fun h => h, trivial, rfl, fun T tn q _ _ => rfl⟩
  | n + 1, k, m0, p, p', m, l, hk, h0, e => by
    rw [flR] at e
    by_cases c : nO N t k = 1
    · rw [if_pos c] at e
      cases hv : tkB b bn 1 p 2 with
      | inl q => rw [hv] at e; cases e
      | inr x =>
        obtain ⟨p1, x⟩ := x
        rw [hv] at e
        simp only [] at e
        cases hr : flR N b bn t n (k + 1) (m0 ||| (nI x <<< (nI k &&& 31))) p1 with
        | inl q => rw [hr] at e; cases e
        | inr y =>
          obtain ⟨p2, m2, l2⟩ := y
          rw [hr] at e
          cases e
          obtain ⟨t1, t2, t3, t4⟩ := tkB_bits hb (by omega) hv
          obtain ⟨s1, s2, s3, s4, s5⟩ := flRW hb n (k + 1) _ p1 _ _ _ (by omega) (h0.set (by omega) (by omega)) hr
          have mk := flR_mk hb n (k + 1) _ p1 _ _ _ (by omega) hr k (by omega)
          rw [msk_at (by omega) (by omega) (h0 k (by omega) (by omega))] at mk
          have ef : flB N t m (n + 1) k = bin 1 (nI x) ++ flB N t m n (k + 1) := by rw [flB, if_pos c, mk]
          rw [ef]
          refine ⟨by omega, fun _ => s2 (by omega), (AT_app _ _ _).mpr ⟨t1, by rw [bin_len, ← t2]; exact s3⟩, by rw [List.length_append, bin_len]; omega, fun T tn q hT hq => ?_⟩
          rw [List.length_cons] at hq ⊢
          obtain ⟨g1, g2⟩ := hT
          have hx : nxt T tn q 0 1 := by
            refine ⟨by omega, ?_, ?_⟩
            · rw [g1]; exact nI_pos' (by omega)
            · rw [g1]; exact nI_le (a := x) (b := 1) (by omega) (by omega)
          rw [flT, if_pos c, if_pos hx, g1, s5 T tn (q + 1) g2 (by omega)]
          congr 2; omega
    · rw [if_neg c] at e
      obtain ⟨s1, s2, s3, s4, s5⟩ := flRW hb n (k + 1) _ p _ _ _ (by omega) (h0.set (x := 1) (by omega) (by omega)) e
      have ef : flB N t m (n + 1) k = flB N t m n (k + 1) := by rw [flB, if_neg c]; rfl
      rw [ef]
      refine ⟨s1, s2, s3, s4, fun T tn q hT hq => ?_⟩
      rw [flT, if_neg c]
      exact s5 T tn q hT hq
theorem flT_mk : ∀ n k m0 q q' m, k + n ≤ 6 → flT N T tn t n k m0 q = .inr (q', m) → ∀ i, i < k → msk m i = msk m0 i
  | 0, k, m0, q, q', m, _, e, i, _ => by
    rw [flT] at e; cases e; rfl
  | n + 1, k, m0, q, q', m, hk, e, i, hi => by
    rw [flT] at e
    by_cases c : nO N t k = 1
    · rw [if_pos c] at e
      by_cases hx : nxt T tn q 0 1
      · rw [if_pos hx] at e
        obtain ⟨x, _, hx1, hx2⟩ := q_num (a := 0) (b := 1) hx.2.1 hx.2.2 (by omega) (by omega)
        rw [hx2] at e
        rw [flT_mk n (k + 1) _ (q + 1) _ _ (by omega) e i (by omega), msk_lo hx1 (by omega) (by omega) (by omega)]
      · rw [if_neg hx] at e; cases e
    · rw [if_neg c] at e
      rw [flT_mk n (k + 1) _ q _ _ (by omega) e i (by omega)]
      exact msk_lo (x := 1) (by omega) (by omega) (by omega) (by omega)
theorem flWR (hb : ∀ i, b i ≤ 1) : ∀ n k m0 q q' m, k + n ≤ 6 → mk0 m0 k → flT N T tn t n k m0 q = .inr (q', m) → ∃ l : List Int32, q' = q + l.length ∧ AT T q l ∧ (q ≤ tn → q' ≤ tn) ∧ ∀ p, AT (bI b) p (flB N t m n k) → p + (flB N t m n k).length ≤ bn → flR N b bn t n k m0 p = .inr (p + (flB N t m n k).length, m, l)
  | 0, k, m0, q, q', m, _, _, e => by
    rw [flT] at e; cases e
    exact ⟨[], rfl, trivial, fun h => h, fun p _ _ => rfl⟩
  | n + 1, k, m0, q, q', m, hk, h0, e => by
    rw [flT] at e
    by_cases c : nO N t k = 1
    · rw [if_pos c] at e
      by_cases hx : nxt T tn q 0 1
      · rw [if_pos hx] at e
        obtain ⟨x, _, hx1, hx2⟩ := q_num (a := 0) (b := 1) hx.2.1 hx.2.2 (by omega) (by omega)
        rw [hx2] at e
        obtain ⟨l, s1, s2, s3, s4⟩ := flWR hb n (k + 1) _ (q + 1) _ _ (by omega) (h0.set hx1 (by omega)) e
        have mk := flT_mk n (k + 1) _ (q + 1) _ _ (by omega) e k (by omega)
        rw [msk_at hx1 (by omega) (h0 k (by omega) (by omega))] at mk
        have ef : flB N t m (n + 1) k = bin 1 (nI x) ++ flB N t m n (k + 1) := by rw [flB, if_pos c, mk]
        rw [ef]
        refine ⟨nI x :: l, by rw [List.length_cons]; omega, ⟨hx2, s2⟩, fun _ => s3 (by have := hx.1; omega), fun p hA hp => ?_⟩
        rw [List.length_append, bin_len] at hp ⊢
        obtain ⟨g1, g2⟩ := (AT_app _ _ _).mp hA
        rw [bin_len] at g2
        have tk := tkB_of (bn := bn) (bd := 2) hb (by omega) (show x < 2 ^ 1 by omega) (by omega) (by omega) g1
        rw [flR, if_pos c, tk]
        simp only []
        rw [s4 (p + 1) g2 (by omega)]
        simp only []
        congr 2; omega
      · rw [if_neg hx] at e; cases e
    · rw [if_neg c] at e
      obtain ⟨l, s1, s2, s3, s4⟩ := flWR hb n (k + 1) _ q _ _ (by omega) (h0.set (x := 1) (by omega) (by omega)) e
      have ef : flB N t m (n + 1) k = flB N t m n (k + 1) := by rw [flB, if_neg c]; rfl
      rw [ef]
      refine ⟨l, s1, s2, s3, fun p hA hp => ?_⟩
      rw [flR, if_neg c]
      exact s4 p hA hp
end FL
/-! .. heads -/
def hdF (N : NT) (f : Nat → Nat → RT) (t : Nat) (x : Int32) : Nat → RT := fun p2 => if nK N t = 1 then rptT (f (nP N t 0)) x.toNatClampNeg p2 else if nK N t = 3 then f (nP N t x.toNatClampNeg) p2 else .inr (p2, [])
theorem rV_h {N : NT} {b : Nat → Nat} {bn kn d t p p1 v : Nat} (h2 : nK N t ≠ 2) (hv : tkB b bn (nW N t) p (nV N t) = .inr (p1, v)) : rV N b bn kn (d + 1) t p = bnd (.inr (p1, [nlo N t + nI v])) (hdF N (rV N b bn kn d) t (nlo N t + nI v)) := by
  rw [rV, if_neg h2, hv]; rfl
theorem rV_hq {N : NT} {b : Nat → Nat} {bn kn d t p q : Nat} (h2 : nK N t ≠ 2) (hv : tkB b bn (nW N t) p (nV N t) = .inl q) : rV N b bn kn (d + 1) t p = .inl q := by
  rw [rV, if_neg h2, hv]
theorem vT_h {N : NT} {T : Nat → Int32} {tn d t p : Nat} (h2 : nK N t ≠ 2) (hx : nxt T tn p (nlo N t) (nhi N t)) : vT N T tn (d + 1) t p = bnd (.inr (p + 1, bin (nW N t) (T p - nlo N t))) (hdF N (vT N T tn d) t (T p)) := by
  rw [vT, if_neg h2, if_pos hx]; rfl
theorem vT_hq {N : NT} {T : Nat → Int32} {tn d t p : Nat} (h2 : nK N t ≠ 2) (hx : ¬ nxt T tn p (nlo N t) (nhi N t)) : vT N T tn (d + 1) t p = .inl p := by
  rw [vT, if_neg h2, if_neg hx]
theorem NWf.child {N : NT} {nt t v : Nat} (hN : NWf N nt) (ht : t < nt) (h3 : nK N t = 3) (hv : v < nV N t) : (nlo N t + nI v).toNatClampNeg = v ∧ v < nC N t ∧ nP N t v < t := by
  have hw := hN t ht
  obtain ⟨e, e', e''⟩ := hw.2.2.2.2.2.2.2.2 h3
  have hvc : v < nC N t := by
    unfold nV at hv
    rw [if_pos h3] at hv; exact hv
  have hC := hw.2.1
  rw [e, nI_add, Nat.zero_add, nI_clamp (by omega)]
  exact ⟨rfl, hvc, (hw.2.2.2.1 v hvc).1⟩
/-! WHAT IS READ: with fewer additions known as well, and written again -/
def RK (B : Nat → Int32) (bn kn : Nat) (f3 fk : Nat → RT) (fT : (Nat → Int32) → Nat → Nat → RT) : Prop := ∀ p p' l, f3 p = .inr (p', l) → p ≤ p' ∧ (p ≤ bn → p' ≤ bn ∧ ∃ l' : List Int32, fk p = .inr (p', l') ∧ ∀ (T : Nat → Int32) (tn q : Nat), AT T q l' → q + l'.length ≤ tn → ∃ bs : List Int32, fT T tn q = .inr (q + l'.length, bs) ∧ (kn = 3 → p + bs.length = p' ∧ AT B p bs))
section RKS
variable {N : NT} {b : Nat → Nat} {B : Nat → Int32} {bn kn t nt : Nat}
theorem RK.nil : RK B bn kn (fun p => .inr (p, [])) (fun p => .inr (p, [])) (fun _ _ q => .inr (q, [])) := by
  intro p p' l e
  cases e
  exact ⟨Nat.le_refl _, fun h => ⟨h, [], rfl, fun T tn q _ _ => ⟨[], rfl, fun _ => ⟨rfl, trivial⟩⟩⟩⟩
theorem RK.seq {f3 fk g3 gk : Nat → RT} {fT gT : (Nat → Int32) → Nat → Nat → RT} (h1 : RK B bn kn f3 fk fT) (h2 : RK B bn kn g3 gk gT) : RK B bn kn (fun p => bnd (f3 p) g3) (fun p => bnd (fk p) gk) (fun T tn q => bnd (fT T tn q) (gT T tn)) := by
  intro p p' l e
  obtain ⟨p1, b1, b2, e1, e2, e3⟩ := bnd_inr e
  obtain ⟨a1, a2⟩ := h1 p p1 b1 e1
  obtain ⟨c1, c2⟩ := h2 p1 p' b2 e2
  refine ⟨by omega, fun hp => ?_⟩
  obtain ⟨a3, l1, a4, a5⟩ := a2 hp
  obtain ⟨c3, l2, c4, c5⟩ := c2 a3
  refine ⟨c3, l1 ++ l2, bnd_of a4 c4, fun T tn q hT hq => ?_⟩
  rw [List.length_append] at hq
  obtain ⟨t1, t2⟩ := (AT_app l1 l2 q).mp hT
  obtain ⟨bs1, d1, d2⟩ := a5 T tn q t1 (by omega)
  obtain ⟨bs2, d3, d4⟩ := c5 T tn _ t2 (by omega)
  refine ⟨bs1 ++ bs2, ?_, fun hk => ?_⟩
  · rw [List.length_append, ← Nat.add_assoc]; exact bnd_of d1 d3
  · obtain ⟨y1, y2⟩ := d2 hk
    obtain ⟨y3, y4⟩ := d4 hk
    rw [List.length_append]
    exact ⟨by omega, (AT_app _ _ _).mpr ⟨y2, by rw [y1]; exact y4⟩⟩
theorem RK.rpt {f3 fk : Nat → RT} {fT : (Nat → Int32) → Nat → Nat → RT} (h : RK B bn kn f3 fk fT) : ∀ n, RK B bn kn (rptT f3 n) (rptT fk n) (fun T tn => rptT (fT T tn) n)
  | 0 => RK.nil
  | n + 1 => RK.seq h (RK.rpt h n)
theorem ptT_1 {f : Nat → Nat → RT} {m : Int32} {n k : Nat} (c : msk m k = 1) : ptT f N t m (n + 1) k = fun p => bnd (f (nP N t k) p) (ptT f N t m n (k + 1)) := by
  funext p; rw [ptT, if_pos c]
theorem ptT_0 {f : Nat → Nat → RT} {m : Int32} {n k : Nat} (c : ¬ msk m k = 1) : ptT f N t m (n + 1) k = ptT f N t m n (k + 1) := by
  funext p; rw [ptT, if_neg c]
theorem RK.pt {m : Int32} {C : Nat} {f3 fk : Nat → Nat → RT} {fT : (Nat → Int32) → Nat → Nat → Nat → RT} (h : ∀ k, k < C → RK B bn kn (f3 (nP N t k)) (fk (nP N t k)) (fun T tn => fT T tn (nP N t k))) : ∀ n k, k + n ≤ C → RK B bn kn (ptT f3 N t m n k) (ptT fk N t m n k) (fun T tn => ptT (fT T tn) N t m n k)
  | 0, k, _ => RK.nil
  | n + 1, k, hk => by
    have ih := RK.pt (m := m) h n (k + 1) (by omega)
    by_cases c : msk m k = 1
    · simp only [ptT_1 c]
      exact RK.seq (h k (by omega)) ih
    · simp only [ptT_0 c]
      exact ih
theorem RK.ad1y {j : Nat} {f3 fk : Nat → Nat → RT} {fT : (Nat → Int32) → Nat → Nat → Nat → RT} (hb : ∀ i, b i ≤ 1) (hj3 : j < 3) (c : j < kn) (h : RK (bI b) bn kn (f3 (nD N t j)) (fk (nD N t j)) (fun T tn => fT T tn (nD N t j))) : RK (bI b) bn kn (ad1 f3 N b bn 3 t j) (ad1 fk N b bn kn t j) (fun T tn q => lnT (fT T tn (nD N t j) q)) := by
  intro p p' l e
  unfold ad1 at e
  cases hv : tkB b bn 8 p 256 with
  | inl q => rw [hv] at e; cases e
  | inr x =>
    obtain ⟨p1, len⟩ := x
    rw [hv] at e
    simp only [] at e
    rw [if_pos hj3] at e
    cases hf : f3 (nD N t j) p1 with
    | inl q => rw [hf] at e; cases e
    | inr y =>
      obtain ⟨p2, l2⟩ := y
      rw [hf] at e
      unfold ckT at e
      simp only [] at e
      by_cases hl : p2 = p1 + len
      · rw [if_pos hl] at e
        cases e
        obtain ⟨t1, t2, t3, t4⟩ := tkB_bits hb (by omega) hv
        obtain ⟨s1, s2⟩ := h p1 _ _ hf
        refine ⟨by omega, fun hp => ?_⟩
        obtain ⟨s3, l', s4, s5⟩ := s2 t3
        refine ⟨s3, l', ?_, fun T tn q hT hq => ?_⟩
        · unfold ad1
          rw [hv]
          simp only []
          rw [if_pos c, s4]
          unfold ckT
          simp only []
          rw [if_pos hl]
        · obtain ⟨bs, d1, d2⟩ := s5 T tn q hT hq
          have d1 : fT T tn (nD N t j) q = .inr (q + l'.length, bs) := d1
          refine ⟨bin 8 (nI bs.length) ++ bs, ?_, fun hk => ?_⟩
          · show lnT (fT T tn (nD N t j) q) = _
            rw [d1]; rfl
          · obtain ⟨y1, y2⟩ := d2 hk
            have eb : bs.length = len := by omega
            rw [List.length_append, bin_len, eb]
            exact ⟨by omega, (AT_app _ _ _).mpr ⟨t1, by rw [bin_len, ← t2]; exact y2⟩⟩
      · rw [if_neg hl] at e; cases e
theorem RK.ad1n {j : Nat} {f3 fk : Nat → Nat → RT} {fT : (Nat → Int32) → Nat → Nat → Nat → RT} (hb : ∀ i, b i ≤ 1) (hj3 : j < 3) (c : ¬ j < kn) (h : RK (bI b) bn kn (f3 (nD N t j)) (fk (nD N t j)) (fun T tn => fT T tn (nD N t j))) : RK (bI b) bn kn (ad1 f3 N b bn 3 t j) (ad1 fk N b bn kn t j) (fun T tn q => .inr (q, [])) := by
  intro p p' l e
  unfold ad1 at e
  cases hv : tkB b bn 8 p 256 with
  | inl q => rw [hv] at e; cases e
  | inr x =>
    obtain ⟨p1, len⟩ := x
    rw [hv] at e
    simp only [] at e
    rw [if_pos hj3] at e
    cases hf : f3 (nD N t j) p1 with
    | inl q => rw [hf] at e; cases e
    | inr y =>
      obtain ⟨p2, l2⟩ := y
      rw [hf] at e
      unfold ckT at e
      simp only [] at e
      by_cases hl : p2 = p1 + len
      · rw [if_pos hl] at e
        cases e
        obtain ⟨t1, t2, t3, t4⟩ := tkB_bits hb (by omega) hv
        obtain ⟨s1, s2⟩ := h p1 _ _ hf
        refine ⟨by omega, fun hp => ?_⟩
        obtain ⟨s3, l', s4, s5⟩ := s2 t3
        refine ⟨s3, [], ?_, fun T tn q hT hq => ⟨[], rfl, fun hk => by omega⟩⟩
        unfold ad1
        rw [hv]
        simp only []
        rw [if_neg c, if_neg (by omega), hl]
      · rw [if_neg hl] at e; cases e
theorem RK.ad {A : Nat} {f3 fk : Nat → Nat → RT} {fT : (Nat → Int32) → Nat → Nat → Nat → RT} (hb : ∀ i, b i ≤ 1) (hA : A ≤ 3) (h : ∀ j, j < A → RK (bI b) bn kn (f3 (nD N t j)) (fk (nD N t j)) (fun T tn => fT T tn (nD N t j))) : ∀ n j, j + n ≤ A → RK (bI b) bn kn (adR f3 N b bn 3 t n j) (adR fk N b bn kn t n j) (fun T tn => adT (fT T tn) N t (min kn (j + n) - j) j)
  | 0, j, _ => by
    have e : min kn (j + 0) - j = 0 := by omega
    rw [e]
    exact RK.nil
  | n + 1, j, hj => by
    have ih := RK.ad hb hA h n (j + 1) (by omega)
    by_cases c : j < kn
    · have e : min kn (j + (n + 1)) - j = (min kn (j + 1 + n) - (j + 1)) + 1 := by omega
      rw [e]
      exact RK.seq (RK.ad1y hb (by omega) c (h j (by omega))) ih
    · have e : min kn (j + (n + 1)) - j = 0 := by omega
      have e2 : min kn (j + 1 + n) - (j + 1) = 0 := by omega
      rw [e2] at ih
      rw [e]
      exact RK.seq (RK.ad1n hb (by omega) c (h j (by omega))) ih
theorem RK.hd {v : Nat} {f3 fk : Nat → Nat → RT} {fT : (Nat → Int32) → Nat → Nat → Nat → RT} (hN : NWf N nt) (ht : t < nt) (hv : v < nV N t) (h : ∀ s, s < t → RK B bn kn (f3 s) (fk s) (fun T tn => fT T tn s)) : RK B bn kn (hdF N f3 t (nlo N t + nI v)) (hdF N fk t (nlo N t + nI v)) (fun T tn => hdF N (fT T tn) t (nlo N t + nI v)) := by
  have hw := hN t ht
  unfold hdF
  by_cases h1 : nK N t = 1
  · simp only [if_pos h1]
    obtain ⟨hC, _⟩ := hw.2.2.2.2.2.2.1 h1
    exact RK.rpt (h _ (hw.2.2.2.1 0 (by omega)).1) _
  · by_cases h3 : nK N t = 3
    · simp only [if_neg h1, if_pos h3]
      obtain ⟨c1, c2, c3⟩ := hN.child ht h3 hv
      rw [c1]
      exact h _ c3
    · simp only [if_neg h1, if_neg h3]
      exact RK.nil
end RKS
