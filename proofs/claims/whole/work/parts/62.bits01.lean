/-! BITS ARE 0 OR 1; copies of rows -/
theorem q_and1 (x : Int32) : x &&& 1 = 0 ∨ x &&& 1 = 1 := by
  have h : (x &&& 1).toBitVec.toNat = x.toBitVec.toNat % 2 := by
    rw [Int32.toBitVec_and, BitVec.toNat_and]
    exact Nat.and_one_is_mod _
  have h2 : x.toBitVec.toNat % 2 = 0 ∨ x.toBitVec.toNat % 2 = 1 := by omega
  rcases h2 with h0 | h1
  · left
    apply Int32.toBitVec_inj.mp
    apply BitVec.eq_of_toNat_eq
    rw [h, h0]; rfl
  · right
    apply Int32.toBitVec_inj.mp
    apply BitVec.eq_of_toNat_eq
    rw [h, h1]; rfl
def is01 (l : List Int32) : Prop := ∀ x, x ∈ l → x = 0 ∨ x = 1
theorem is01.nil : is01 [] := fun x h => by cases h
theorem is01.app {l l' : List Int32} (h : is01 l) (h' : is01 l') : is01 (l ++ l') := fun x hx => by
  rcases List.mem_append.mp hx with h1 | h1
  · exact h x h1
  · exact h' x h1
theorem bin_01 (v : Int32) : ∀ w, is01 (bin w v)
  | 0 => is01.nil
  | w + 1 => fun x hx => by
    rw [bin, List.mem_cons] at hx
    rcases hx with e | h1
    · subst e; exact q_and1 _
    · exact bin_01 v w x h1
def rt01 (r : RT) : Prop := ∀ p l, r = .inr (p, l) → is01 l
theorem rt01.bnd {r : RT} {k : Nat → RT} (h : rt01 r) (hk : ∀ p, rt01 (k p)) : rt01 (bnd r k) := by
  intro p' bs e
  obtain ⟨p, b, b', e1, e2, e3⟩ := bnd_inr e
  rw [e3]
  exact (h p b e1).app (hk p p' b' e2)
theorem rt01.pure {p : Nat} {l : List Int32} (h : is01 l) : rt01 (.inr (p, l)) := fun p' l' e => by cases e; exact h
theorem rt01.no {q : Nat} : rt01 (.inl q) := fun p' l' e => by cases e
theorem rptT_01 {f : Nat → RT} (h : ∀ p, rt01 (f p)) : ∀ n p, rt01 (rptT f n p)
  | 0, p => rt01.pure is01.nil
  | n + 1, p => (h p).bnd (fun p => rptT_01 h n p)
theorem flB_01 {N : NT} {t : Nat} {m : Int32} : ∀ j k, is01 (flB N t m j k)
  | 0, _ => is01.nil
  | j + 1, k => by
    unfold flB
    split
    · exact (bin_01 _ _).app (flB_01 j (k + 1))
    · exact is01.nil.app (flB_01 j (k + 1))
theorem ptT_01 {f : Nat → Nat → RT} {N : NT} {t : Nat} {m : Int32} (h : ∀ t p, rt01 (f t p)) : ∀ j k p, rt01 (ptT f N t m j k p)
  | 0, _, p => rt01.pure is01.nil
  | j + 1, k, p => by
    unfold ptT
    split
    · exact (h _ _).bnd (fun p => ptT_01 h j (k + 1) p)
    · exact ptT_01 h j (k + 1) p
theorem lnT_01 {r : RT} (h : rt01 r) : rt01 (lnT r) := by
  intro p l e
  unfold lnT at e
  cases r with
  | inl q => cases e
  | inr pb =>
    obtain ⟨p1, b1⟩ := pb
    simp only [] at e
    cases e
    exact (bin_01 _ _).app (h _ _ rfl)
theorem adT_01 {f : Nat → Nat → RT} {N : NT} {t : Nat} (h : ∀ t p, rt01 (f t p)) : ∀ n j p, rt01 (adT f N t n j p)
  | 0, _, p => rt01.pure is01.nil
  | n + 1, j, p => (lnT_01 (h _ _)).bnd (fun p => adT_01 h n (j + 1) p)
theorem sqT_01 {f : Nat → Nat → RT} {N : NT} {T : Nat → Int32} {tn t p : Nat} (h : ∀ t p, rt01 (f t p)) : rt01 (sqT f N T tn t p) := by
  unfold sqT
  cases flT N T tn t (nC N t) 0 0 p with
  | inl q => exact rt01.no
  | inr x =>
    obtain ⟨p1, m⟩ := x
    simp only []
    split
    · refine rt01.bnd (rt01.pure ((bin_01 _ _).app (flB_01 _ _))) fun p2 => rt01.bnd (ptT_01 h _ _ _) fun p3 => rt01.bnd (rt01.pure ?_) fun p4 => adT_01 h _ _ _
      split
      · exact is01.nil
      · exact bin_01 _ _
    · exact rt01.no
theorem vT_01 {N : NT} {T : Nat → Int32} {tn : Nat} : ∀ d t p, rt01 (vT N T tn d t p)
  | 0, _, p => rt01.no
  | d + 1, t, p => by
    unfold vT
    split
    · exact sqT_01 (vT_01 d)
    · split
      · refine rt01.bnd (rt01.pure (bin_01 _ _)) fun p1 => ?_
        split
        · exact rptT_01 (vT_01 d _) _ _
        · split
          · exact vT_01 d _ _
          · exact rt01.pure is01.nil
      · exact rt01.no
/-- the bits of a list, as numbers -/
def btL (l : List Int32) (i : Nat) : Nat := (l.getD i 0).toNatClampNeg
theorem btL_01 {l : List Int32} (h : is01 l) (i : Nat) : l.getD i 0 = nI (btL l i) ∧ btL l i ≤ 1 := by
  have hx : l.getD i 0 = 0 ∨ l.getD i 0 = 1 := by
    rw [List.getD_eq_getElem?_getD]
    cases e : l[i]? with
    | none => left; rfl
    | some y => exact h y (List.mem_of_getElem? e)
  unfold btL
  rcases hx with e | e <;> rw [e] <;> decide
/-- a row takes the first numbers of another -/
def cpF (f g : Nat → Int32) (m : Nat) : Nat → Int32 := fun i => if i < m then g i else f i
theorem cpF_0 {f g : Nat → Int32} : cpF f g 0 = f := by funext i; simp [cpF]
theorem cpF_s {f g : Nat → Int32} {k : Nat} : upd (cpF f g k) k (g k) = cpF f g (k + 1) := by
  funext i
  by_cases h : i = k
  · subst h; rw [pk_us, cpF, if_pos (by omega)]
  · rw [pk_un h]
    unfold cpF
    by_cases h2 : i < k
    · rw [if_pos h2, if_pos (by omega)]
    · rw [if_neg h2, if_neg (by omega)]
theorem k_copy {o it s st c cs n m : Nat} {f g : Nat → Int32} {μ : Mm} {post : Mm → Prop} (h1 : μ o = some (eO 1 [.ref it, .int (nI n)])) (h2 : μ it = some (eI c f)) (h3 : μ s = some (eO 1 [.ref st, .int (nI m)])) (h4 : μ st = some (eI cs g)) (hn : n < 2 ^ 31) (hc : c < 2 ^ 31) (hm : m ≤ cs) (hmc : m ≤ c) (hcs : cs < 2 ^ 31) (hs : s ≠ o) (hst : st ≠ it)
    (hp : post (ups (ups μ it (eI c (cpF f g m))) o (eO 1 [.ref it, .int (nI m)]))) : wp_X2_becomeCopyOf o s μ post := by
  have hoi : o ≠ it := q_ne h1 h2 (by simp)
  have hsi : s ≠ it := q_ne h3 h2 (by simp)
  have hto : st ≠ o := q_ne h4 h1 (by simp)
  have go : ∀ (j k : Nat), k + j = m → wb_X2_becomeCopyOf_7 o post (j + 1) s (nI k) (ups (ups μ it (eI c (cpF f g k))) o (eO 1 [.ref it, .int (nI k)])) := by
    intro j
    induction j with
    | zero =>
      intro k hk
      have e : k = m := by omega
      subst e
      have q3 : ups (ups μ it (eI c (cpF f g k))) o (eO 1 [.ref it, .int (nI k)]) s = some (eO 1 [.ref st, .int (nI k)]) := by rw [ups_n hs, ups_n hsi]; exact h3
      refine ⟨⟨_, q3⟩, k_size q3 ⟨fun _ => hp, fun h => absurd ?_ h⟩⟩
      rw [q_le (by omega) (by omega)]
      exact Nat.le_refl _
    | succ j ih =>
      intro k hk
      have q3 : ups (ups μ it (eI c (cpF f g k))) o (eO 1 [.ref it, .int (nI k)]) s = some (eO 1 [.ref st, .int (nI m)]) := by rw [ups_n hs, ups_n hsi]; exact h3
      have q4 : ups (ups μ it (eI c (cpF f g k))) o (eO 1 [.ref it, .int (nI k)]) st = some (eI cs g) := by rw [ups_n hto, ups_n hst]; exact h4
      have q1 : ups (ups μ it (eI c (cpF f g k))) o (eO 1 [.ref it, .int (nI k)]) o = some (eO 1 [.ref it, .int (nI k)]) := ups_s
      have q2 : ups (ups μ it (eI c (cpF f g k))) o (eO 1 [.ref it, .int (nI k)]) it = some (eI c (cpF f g k)) := by rw [ups_n (fun h => hoi h.symm)]; exact ups_s
      refine ⟨⟨_, q3⟩, k_size q3 ⟨fun h => ?_, fun _ => ⟨⟨_, q3⟩, k_at q3 q4 hm hcs (by omega) ⟨⟨_, q1⟩, k_append q1 q2 hc (by omega) ?_⟩⟩⟩⟩
      · rw [q_le (by omega) (by omega)] at h; omega
      · rw [← nI_succ, cpF_s, q_ups_sw hoi, q_ups_ss, q_ups_ss]
        exact ih (k + 1) (by omega)
  refine ⟨⟨_, h1⟩, k_keepFirst (m := 0) h1 hn (by omega) ⟨m + 1, ?_⟩⟩
  have := go m 0 (by omega)
  rw [cpF_0, q_ups_id h2] at this
  exact this
