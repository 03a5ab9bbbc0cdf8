/-! THE NOTATION, and what a tale and its bits are -/
abbrev NT := (Nat → Nat → Nat → Nat) × (Nat → Int32) × (Nat → Int32)
def nK (N : NT) (t : Nat) : Nat := N.1 0 t 0
def nC (N : NT) (t : Nat) : Nat := N.1 1 t 0
def nA (N : NT) (t : Nat) : Nat := N.1 2 t 0
def nP (N : NT) (t k : Nat) : Nat := N.1 3 t k
def nO (N : NT) (t k : Nat) : Nat := N.1 4 t k
def nD (N : NT) (t k : Nat) : Nat := N.1 5 t k
def nF (N : NT) (t : Nat) : Nat := N.1 6 t 0
def nM (N : NT) (t : Nat) : Nat := N.1 7 t 0
def nL (N : NT) (t : Nat) : Nat := N.1 8 t 0
def nlo (N : NT) (t : Nat) : Int32 := N.2.1 t
def nhi (N : NT) (t : Nat) : Int32 := N.2.2 t
def wdF (n : Nat) : Nat → Nat → Nat
  | 0, w => w
  | f + 1, w => if n ≤ 2 ^ w then w else wdF n f (w + 1)
def wdN (n : Nat) : Nat := wdF n 11 0
/-- how many heads a value can have -/
def nV (N : NT) (t : Nat) : Nat := if nK N t = 3 then nC N t else ((nhi N t).toInt - (nlo N t).toInt + 1).toNat
def nW (N : NT) (t : Nat) : Nat := wdN (nV N t)
def NWf (N : NT) (nt : Nat) : Prop := ∀ t, t < nt → nK N t ≤ 3 ∧ nC N t ≤ 6 ∧ nA N t ≤ 3 ∧ (∀ k, k < nC N t → nP N t k < t ∧ nO N t k ≤ 1) ∧ (∀ k, k < nA N t → nD N t k < t) ∧
  (nK N t = 0 → -1000 ≤ (nlo N t).toInt ∧ (nlo N t).toInt ≤ (nhi N t).toInt ∧ (nhi N t).toInt ≤ 1000) ∧
  (nK N t = 1 → nC N t = 1 ∧ ∃ a b, nlo N t = nI a ∧ nhi N t = nI b ∧ a ≤ b ∧ b ≤ 8) ∧
  (nK N t = 2 → nlo N t = nI 0 ∧ nhi N t = nI 0 ∧ 1 ≤ nC N t) ∧
  (nK N t = 3 → nlo N t = nI 0 ∧ nhi N t = nI (nC N t - 1) ∧ 1 ≤ nC N t)
theorem wdF_le (n : Nat) : ∀ f w, wdF n f w ≤ f + w
  | 0, w => by simp [wdF]
  | f + 1, w => by
    unfold wdF
    split
    · omega
    · have := wdF_le n f (w + 1); omega
theorem wdN_le (n : Nat) : wdN n ≤ 11 := wdF_le n 11 0
theorem q_shl : ∀ w, w < 12 → (nI 1 : Int32) <<< (nI w &&& 31) = nI (2 ^ w) := by decide
theorem c_wd {n : Nat} (hn : n ≤ 2048) {post : Int32 → Prop} (hp : post (nI (wdN n))) : wp_X6_widthFor (nI n) post := by
  have go : ∀ f w, f + w = 11 → post (nI (wdF n f w)) → wb_X6_widthFor_2 post (f + 1) (nI n) (nI w) := by
    intro f
    induction f with
    | zero =>
      intro w hw h
      refine ⟨fun _ => h, fun h2 => ?_⟩
      rw [q_l11, q_le (by omega) (by omega)] at h2; omega
    | succ f ih =>
      intro w hw h
      refine ⟨fun h2 => ?_, fun _ => ?_⟩
      · rw [q_l11, q_le (by omega) (by omega)] at h2; omega
      · rw [q_l1, q_shl w (by omega), q_le (by omega) (by have : 2 ^ w ≤ 2 ^ 11 := Nat.pow_le_pow_right (by omega) (by omega); omega)]
        unfold wdF at h
        refine ⟨fun h3 => by rwa [if_pos h3] at h, fun h3 => ?_⟩
        rw [if_neg h3] at h
        rw [nI_add]
        exact ih (w + 1) (by omega) h
  exact ⟨12, go 11 0 rfl hp⟩
theorem q_span {a b : Int32} (h : a.toInt ≤ b.toInt) (ha : -1000 ≤ a.toInt) (hb : b.toInt ≤ 1000) : b - a + 1 = nI (b.toInt - a.toInt + 1).toNat := by
  apply Int32.toInt_inj.mp
  have e1 : (b - a).toInt = b.toInt - a.toInt := by
    rw [Int32.toInt_sub, Int.bmod_def]; omega
  rw [Int32.toInt_add, e1, nI_toInt (by omega)]
  have : (1 : Int32).toInt = 1 := by decide
  rw [this, Int.bmod_def]; omega
/-- the span of heads, as both count it -/
theorem NWf.span {N : NT} {nt t : Nat} (h : NWf N nt) (ht : t < nt) : nhi N t - nlo N t + 1 = nI (nV N t) ∧ nV N t ≤ 2048 ∧ 1 ≤ nV N t := by
  obtain ⟨h1, h2, h3, h4, h5, h6, h7, h8, h9⟩ := h t ht
  unfold nV
  by_cases e3 : nK N t = 3
  · obtain ⟨e, e', e''⟩ := h9 e3
    rw [if_pos e3, e, e', q_sub (by omega), q_l1, nI_add]
    exact ⟨by congr 1; omega, by omega, by omega⟩
  · rw [if_neg e3]
    have hh : -1000 ≤ (nlo N t).toInt ∧ (nlo N t).toInt ≤ (nhi N t).toInt ∧ (nhi N t).toInt ≤ 1000 := by
      by_cases e0 : nK N t = 0
      · exact h6 e0
      · by_cases e1 : nK N t = 1
        · obtain ⟨_, a, b, ea, eb, hab, hb⟩ := h7 e1
          rw [ea, eb, nI_toInt (by omega), nI_toInt (by omega)]; omega
        · obtain ⟨ea, eb, _⟩ := h8 (by omega)
          rw [ea, eb, nI_toInt (by omega)]; omega
    exact ⟨q_span hh.2.1 hh.1 hh.2.2, by omega, by omega⟩
/-! bits and tales -/
def bin : Nat → Int32 → List Int32
  | 0, _ => []
  | w + 1, v => ((v >>> (nI w &&& 31)) &&& 1) :: bin w v
theorem bin_len (v : Int32) : ∀ w, (bin w v).length = w
  | 0 => rfl
  | w + 1 => by rw [bin, List.length_cons, bin_len v w]
abbrev RT := Nat ⊕ (Nat × List Int32)
def bnd (r : RT) (k : Nat → RT) : RT := match r with
  | .inl q => .inl q
  | .inr (p, b) => match k p with
    | .inl q => .inl q
    | .inr (p', b') => .inr (p', b ++ b')
def rptT (f : Nat → RT) : Nat → Nat → RT
  | 0, p => .inr (p, [])
  | n + 1, p => bnd (f p) (rptT f n)
abbrev nxt (T : Nat → Int32) (tn p : Nat) (lo hi : Int32) : Prop := p < tn ∧ lo ≤ T p ∧ T p ≤ hi
def msk (m : Int32) (k : Nat) : Int32 := (m >>> (nI k &&& 31)) &&& 1
def flT (N : NT) (T : Nat → Int32) (tn t : Nat) : Nat → Nat → Int32 → Nat → Nat ⊕ (Nat × Int32)
  | 0, _, m, p => .inr (p, m)
  | n + 1, k, m, p => if nO N t k = 1 then (if nxt T tn p 0 1 then flT N T tn t n (k + 1) (m ||| (T p <<< (nI k &&& 31))) (p + 1) else .inl p)
      else flT N T tn t n (k + 1) (m ||| (1 <<< (nI k &&& 31))) p
def flB (N : NT) (t : Nat) (m : Int32) : Nat → Nat → List Int32
  | 0, _ => []
  | n + 1, k => (if nO N t k = 1 then bin 1 (msk m k) else []) ++ flB N t m n (k + 1)
def ptT (f : Nat → Nat → RT) (N : NT) (t : Nat) (m : Int32) : Nat → Nat → Nat → RT
  | 0, _, p => .inr (p, [])
  | n + 1, k, p => if msk m k = 1 then bnd (f (nP N t k) p) (ptT f N t m n (k + 1)) else ptT f N t m n (k + 1) p
def lnT (r : RT) : RT := match r with
  | .inl q => .inl q
  | .inr (p, b) => .inr (p, bin 8 (nI b.length) ++ b)
def adT (f : Nat → Nat → RT) (N : NT) (t : Nat) : Nat → Nat → Nat → RT
  | 0, _, p => .inr (p, [])
  | n + 1, j, p => bnd (lnT (f (nD N t j) p)) (adT f N t n (j + 1))
def sqT (f : Nat → Nat → RT) (N : NT) (T : Nat → Int32) (tn t p : Nat) : RT := match flT N T tn t (nC N t) 0 0 p with
  | .inl q => .inl q
  | .inr (p1, m) => if nxt T tn p1 0 (nI (nA N t)) then
      bnd (.inr (p1 + 1, bin 1 (if T p1 ≤ 0 then 0 else 1) ++ flB N t m (nC N t) 0)) fun p2 =>
      bnd (ptT f N t m (nC N t) 0 p2) fun p3 =>
      bnd (.inr (p3, if T p1 ≤ 0 then [] else bin 2 (T p1 - 1))) fun p4 => adT f N t (T p1).toNatClampNeg 0 p4
    else .inl p1
def vT (N : NT) (T : Nat → Int32) (tn : Nat) : Nat → Nat → Nat → RT
  | 0, _, p => .inl p
  | d + 1, t, p => if nK N t = 2 then sqT (vT N T tn d) N T tn t p
    else if nxt T tn p (nlo N t) (nhi N t) then
      bnd (.inr (p + 1, bin (nW N t) (T p - nlo N t))) fun p1 =>
        if nK N t = 1 then rptT (vT N T tn d (nP N t 0)) (T p).toNatClampNeg p1
        else if nK N t = 3 then vT N T tn d (nP N t (T p).toNatClampNeg) p1
        else .inr (p1, [])
    else .inl p
/-- a row with numbers put behind it -/
def apL (f : Nat → Int32) (n : Nat) (bs : List Int32) : Nat → Int32 := fun i => if i < n then f i else match bs[i - n]? with
  | some b => b
  | none => f i
theorem apL_nil {f : Nat → Int32} {n : Nat} : apL f n [] = f := by
  funext i; simp [apL]
theorem apL_cons {f : Nat → Int32} {n : Nat} {x : Int32} {bs : List Int32} : apL (upd f n x) (n + 1) bs = apL f n (x :: bs) := by
  funext i
  unfold apL
  by_cases h1 : i < n
  · rw [if_pos (by omega), if_pos h1, pk_un (by omega)]
  · by_cases h2 : i = n
    · subst h2; simp [upd]
    · rw [if_neg (by omega), if_neg h1]
      have : i - n = (i - (n + 1)) + 1 := by omega
      rw [this, List.getElem?_cons_succ]
      cases bs[i - (n + 1)]? with
      | some b => rfl
      | none => simp [upd, h2]
theorem apL_app {f : Nat → Int32} {n : Nat} {as bs : List Int32} : apL (apL f n as) (n + as.length) bs = apL f n (as ++ bs) := by
  induction as generalizing f n with
  | nil => simp [apL_nil]
  | cons a as ih =>
    rw [List.cons_append, ← apL_cons, ← apL_cons, ← ih, List.length_cons]
    congr 1; omega
theorem apL_lo {f : Nat → Int32} {n i : Nat} {bs : List Int32} (h : i < n) : apL f n bs i = f i := by simp [apL, h]
theorem apL_hi {f : Nat → Int32} {n i : Nat} {bs : List Int32} (h : i < bs.length) : apL f n bs (n + i) = bs.getD i 0 := by
  rw [apL, if_neg (by omega), Nat.add_sub_cancel_left, List.getD_eq_getElem?_getD, List.getElem?_eq_getElem h]; rfl
theorem bnd_inl {r : RT} {k : Nat → RT} {q : Nat} (h : bnd r k = .inl q) : r = .inl q ∨ ∃ p b, r = .inr (p, b) ∧ k p = .inl q := by
  unfold bnd at h
  cases r with
  | inl q' => left; simpa using h
  | inr pb =>
    right
    obtain ⟨p, b⟩ := pb
    refine ⟨p, b, rfl, ?_⟩
    cases hk : k p with
    | inl q' => simp only [hk] at h; exact h
    | inr c => simp only [hk] at h; cases h
theorem bnd_inr {r : RT} {k : Nat → RT} {p' : Nat} {bs : List Int32} (h : bnd r k = .inr (p', bs)) : ∃ p b b', r = .inr (p, b) ∧ k p = .inr (p', b') ∧ bs = b ++ b' := by
  unfold bnd at h
  cases r with
  | inl q' => simp at h
  | inr pb =>
    obtain ⟨p, b⟩ := pb
    cases hk : k p with
    | inl q' => simp only [hk] at h; cases h
    | inr c => obtain ⟨p2, b2⟩ := c; simp only [hk] at h; cases h; exact ⟨p, b, b2, rfl, hk, rfl⟩
