/-! OPERATIONS: measures, tales, bits -/
section OQ
variable {σ σ' : Nat → Int32} {α α' : Nat → Nat → Int32} {N : NT} {nt tn bn dc : Nat} {T : Nat → Int32} {b dp dq : Nat → Nat}
end OQ
section OR
variable {kd : Nat → Nat} {x out : Nat}
theorem KC.msgf {ad : Nat → Nat} {N : NT} {nt tn bn dc : Nat} {T : Nat → Int32} {b dp dq : Nat → Nat} {dm : Int32} {C μ : Mm} (h : KC kd x out N nt tn bn dc T b dp dq μ ad C dm) {b' : Nat → Nat} {f : Nat → Int32} (hf : ∀ i, i < bn → f i = nI (b' i)) : ∃ C', KC kd x out N nt tn bn dc T b' dp dq (ups μ (ad 6) (eI 240 f)) ad C' dm := by
  obtain ⟨C', h'⟩ := h.msg hf
  obtain ⟨f0, h6, _⟩ := h.c6
  rw [q_ups_id ((ups_n (q_ne h.c5 h6 (by simp))).trans h.c5)] at h'
  exact ⟨C', h'⟩
theorem KC.msgn {ad : Nat → Nat} {N : NT} {nt tn bn dc : Nat} {T : Nat → Int32} {b dp dq : Nat → Nat} {dm : Int32} {C μ : Mm} (h : KC kd x out N nt tn bn dc T b dp dq μ ad C dm) {bn' : Nat} (hb : bn' ≤ bn) : ∃ C', KC kd x out N nt tn bn' dc T b dp dq (ups μ (ad 5) (eO 1 [.ref (ad 6), .int (nI bn')])) ad C' dm := by
  obtain ⟨f0, h6, hf⟩ := h.c6
  obtain ⟨C', h'⟩ := h.msg (bn' := bn') (b' := b) (f := f0) (fun i hi => hf i (by omega))
  rw [q_ups_id h6] at h'
  exact ⟨C', h'⟩
end OR
/-! BITS ARE 0 OR 1; copies of rows -/
theorem q_and1 (x : Int32) : x &&& 1 = 0 ∨ x &&& 1 = 1 := by
  have h : (x &&& 1).toBitVec.toNat = x.toBitVec.toNat % 2 := by
    rw [Int32.toBitVec_and, BitVec.toNat_and]
    exact Nat.and_one_is_mod _
  have h2 : x.toBitVec.toNat % 2 = 0 ∨ x.toBitVec.toNat % 2 = 1 := by omega
  rcases h2 with h0 | h1
  · left
    apply Int32.toBitVec_inj.mp
    apply BitVec.eq_of_toNat_eq
    rw [h, h0]; rfl
  · right
    apply Int32.toBitVec_inj.mp
    apply BitVec.eq_of_toNat_eq
    rw [h, h1]; rfl
def is01 (l : List Int32) : Prop := ∀ x, x ∈ l → x = 0 ∨ x = 1
theorem is01.nil : is01 [] := fun x h => by cases h
theorem is01.app {l l' : List Int32} (h : is01 l) (h' : is01 l') : is01 (l ++ l') := fun x hx => by
  rcases List.mem_append.mp hx with h1 | h1
  · exact h x h1
  · exact h' x h1
theorem bin_01 (v : Int32) : ∀ w, is01 (bin w v)
  | 0 => is01.nil
  | w + 1 => fun x hx => by
    rw [bin, List.mem_cons] at hx
    rcases hx with e | h1
    · subst e; exact q_and1 _
    · exact bin_01 v w x h1
def rt01 (r : RT) : Prop := ∀ p l, r = .inr (p, l) → is01 l
theorem rt01.bnd {r : RT} {k : Nat → RT} (h : rt01 r) (hk : ∀ p, rt01 (k p)) : rt01 (bnd r k) := by
  intro p' bs e
  obtain ⟨p, b, b', e1, e2, e3⟩ := bnd_inr e
  rw [e3]
  exact (h p b e1).app (hk p p' b' e2)
theorem rt01.pure {p : Nat} {l : List Int32} (h : is01 l) : rt01 (.inr (p, l)) := fun p' l' e => by cases e; exact h
theorem rt01.no {q : Nat} : rt01 (.inl q) := fun p' l' e => by cases e
theorem rptT_01 {f : Nat → RT} (h : ∀ p, rt01 (f p)) : ∀ n p, rt01 (rptT f n p)
  | 0, p => rt01.pure is01.nil
  | n + 1, p => (h p).bnd (fun p => rptT_01 h n p)
theorem flB_01 {N : NT} {t : Nat} {m : Int32} : ∀ j k, is01 (flB N t m j k)
  | 0, _ => is01.nil
  | j + 1, k => by
    unfold flB
    split
    · exact (bin_01 _ _).app (flB_01 j (k + 1))
    · exact is01.nil.app (flB_01 j (k + 1))
theorem ptT_01 {f : Nat → Nat → RT} {N : NT} {t : Nat} {m : Int32} (h : ∀ t p, rt01 (f t p)) : ∀ j k p, rt01 (ptT f N t m j k p)
  | 0, _, p => rt01.pure is01.nil
  | j + 1, k, p => by
    unfold ptT
    split
    · exact (h _ _).bnd (fun p => ptT_01 h j (k + 1) p)
    · exact ptT_01 h j (k + 1) p
theorem lnT_01 {r : RT} (h : rt01 r) : rt01 (lnT r) := by
  intro p l e
  unfold lnT at e
  cases r with
  | inl q => cases e
  | inr pb =>
    obtain ⟨p1, b1⟩ := pb
    simp only [] at e
    cases e
    exact (bin_01 _ _).app (h _ _ rfl)
theorem adT_01 {f : Nat → Nat → RT} {N : NT} {t : Nat} (h : ∀ t p, rt01 (f t p)) : ∀ n j p, rt01 (adT f N t n j p)
  | 0, _, p => rt01.pure is01.nil
  | n + 1, j, p => (lnT_01 (h _ _)).bnd (fun p => adT_01 h n (j + 1) p)
theorem sqT_01 {f : Nat → Nat → RT} {N : NT} {T : Nat → Int32} {tn t p : Nat} (h : ∀ t p, rt01 (f t p)) : rt01 (sqT f N T tn t p) := by
  unfold sqT
  cases flT N T tn t (nC N t) 0 0 p with
  | inl q => exact rt01.no
  | inr x =>
    obtain ⟨p1, m⟩ := x
    simp only []
    split
    · refine rt01.bnd (rt01.pure ((bin_01 _ _).app (flB_01 _ _))) fun p2 => rt01.bnd (ptT_01 h _ _ _) fun p3 => rt01.bnd (rt01.pure ?_) fun p4 => adT_01 h _ _ _
      split
      · exact is01.nil
      · exact bin_01 _ _
    · exact rt01.no
theorem vT_01 {N : NT} {T : Nat → Int32} {tn : Nat} : ∀ d t p, rt01 (vT N T tn d t p)
  | 0, _, p => rt01.no
  | d + 1, t, p => by
    unfold vT
    split
    · exact sqT_01 (vT_01 d)
    · split
      · refine rt01.bnd (rt01.pure (bin_01 _ _)) fun p1 => ?_
        split
        · exact rptT_01 (vT_01 d _) _ _
        · split
          · exact vT_01 d _ _
          · exact rt01.pure is01.nil
      · exact rt01.no
/-- the bits of a list, as numbers -/
def btL (l : List Int32) (i : Nat) : Nat := (l.getD i 0).toNatClampNeg
theorem btL_01 {l : List Int32} (h : is01 l) (i : Nat) : l.getD i 0 = nI (btL l i) ∧ btL l i ≤ 1 := by
  have hx : l.getD i 0 = 0 ∨ l.getD i 0 = 1 := by
    rw [List.getD_eq_getElem?_getD]
    cases e : l[i]? with
    | none => left; rfl
    | some y => exact h y (List.mem_of_getElem? e)
  unfold btL
  rcases hx with e | e <;> rw [e] <;> decide
/-- a row takes the first numbers of another -/
def cpF (f g : Nat → Int32) (m : Nat) : Nat → Int32 := fun i => if i < m then g i else f i
theorem cpF_0 {f g : Nat → Int32} : cpF f g 0 = f := by funext i; simp [cpF]
theorem cpF_s {f g : Nat → Int32} {k : Nat} : upd (cpF f g k) k (g k) = cpF f g (k + 1) := by
  funext i
  by_cases h : i = k
  · subst h; rw [pk_us, cpF, if_pos (by omega)]
  · rw [pk_un h]
    unfold cpF
    by_cases h2 : i < k
    · rw [if_pos h2, if_pos (by omega)]
    · rw [if_neg h2, if_neg (by omega)]
theorem k_copy {o it s st c cs n m : Nat} {f g : Nat → Int32} {μ : Mm} {post : Mm → Prop} (h1 : μ o = some (eO 1 [.ref it, .int (nI n)])) (h2 : μ it = some (eI c f)) (h3 : μ s = some (eO 1 [.ref st, .int (nI m)])) (h4 : μ st = some (eI cs g)) (hn : n < 2 ^ 31) (hc : c < 2 ^ 31) (hm : m ≤ cs) (hmc : m ≤ c) (hcs : cs < 2 ^ 31) (hs : s ≠ o) (hst : st ≠ it)
    (hp : post (ups (ups μ it (eI c (cpF f g m))) o (eO 1 [.ref it, .int (nI m)]))) : wp_X2_becomeCopyOf o s μ post := by
  have hoi : o ≠ it := q_ne h1 h2 (by simp)
  have hsi : s ≠ it := q_ne h3 h2 (by simp)
  have hto : st ≠ o := q_ne h4 h1 (by simp)
  have go : ∀ (j k : Nat), k + j = m → wb_X2_becomeCopyOf_7 o post (j + 1) s (nI k) (ups (ups μ it (eI c (cpF f g k))) o (eO 1 [.ref it, .int (nI k)])) := by
    intro j
    induction j with
    | zero =>
      intro k hk
      have e : k = m := by omega
      subst e
      have q3 : ups (ups μ it (eI c (cpF f g k))) o (eO 1 [.ref it, .int (nI k)]) s = some (eO 1 [.ref st, .int (nI k)]) := by rw [ups_n hs, ups_n hsi]; exact h3
      refine ⟨⟨_, q3⟩, k_size q3 ⟨fun _ => hp, fun h => absurd ?_ h⟩⟩
      rw [q_le (by omega) (by omega)]
      exact Nat.le_refl _
    | succ j ih =>
      intro k hk
      have q3 : ups (ups μ it (eI c (cpF f g k))) o (eO 1 [.ref it, .int (nI k)]) s = some (eO 1 [.ref st, .int (nI m)]) := by rw [ups_n hs, ups_n hsi]; exact h3
      have q4 : ups (ups μ it (eI c (cpF f g k))) o (eO 1 [.ref it, .int (nI k)]) st = some (eI cs g) := by rw [ups_n hto, ups_n hst]; exact h4
      have q1 : ups (ups μ it (eI c (cpF f g k))) o (eO 1 [.ref it, .int (nI k)]) o = some (eO 1 [.ref it, .int (nI k)]) := ups_s
      have q2 : ups (ups μ it (eI c (cpF f g k))) o (eO 1 [.ref it, .int (nI k)]) it = some (eI c (cpF f g k)) := by rw [ups_n (fun h => hoi h.symm)]; exact ups_s
      refine ⟨⟨_, q3⟩, k_size q3 ⟨fun h => ?_, fun _ => ⟨⟨_, q3⟩, k_at q3 q4 hm hcs (by omega) ⟨⟨_, q1⟩, k_append q1 q2 hc (by omega) ?_⟩⟩⟩⟩
      · rw [q_le (by omega) (by omega)] at h; omega
      · rw [← nI_succ, cpF_s, q_ups_sw hoi, q_ups_ss, q_ups_ss]
        exact ih (k + 1) (by omega)
  refine ⟨⟨_, h1⟩, k_keepFirst (m := 0) h1 hn (by omega) ⟨m + 1, ?_⟩⟩
  have := go m 0 (by omega)
  rw [cpF_0, q_ups_id h2] at this
  exact this
/-! OPERATIONS: wrongAt, write -/
section OW
variable {kd : Nat → Nat} {x out : Nat}
theorem KC.nes {ad : Nat → Nat} {N : NT} {nt tn bn dc : Nat} {T : Nat → Int32} {b dp dq : Nat → Nat} {dm : Int32} {C μ : Mm} (h : KC kd x out N nt tn bn dc T b dp dq μ ad C dm) : ad 8 ≠ ad 5 ∧ ad 9 ≠ ad 6 ∧ ad 11 ≠ ad 3 ∧ ad 12 ≠ ad 4 := by
  obtain ⟨hR, _, _, _, hC⟩ := h
  obtain ⟨_, _, ⟨c3, c4⟩, ⟨c5, f, c6, _⟩, ⟨p, w, n, f', _, c7, c8, c9⟩, ⟨k2, p2, w2, n2, f2, _, c10, c11, c12⟩, _⟩ := hC
  exact ⟨hR.ne c8 c5 (by omega), hR.ne c9 c6 (by omega), hR.ne c11 c3 (by omega), hR.ne c12 c4 (by omega)⟩
theorem KC.walkW {ad : Nat → Nat} {N : NT} {nt tn bn dc : Nat} {T : Nat → Int32} {b dp dq : Nat → Nat} {dm : Int32} {C μ : Mm} (hkd : ∀ i j, i < 4 → j < 4 → kd i = kd j → i = j) (h : KC kd x out N nt tn bn dc T b dp dq μ ad C dm) (hV : VI N nt tn bn dc b dp dq) {t : Nat} (ht : t < nt) {post : Int32 → Mm → Prop}
    (hg : ∀ p' bs, vT N T tn 17 t 0 = .inr (p', bs) → p' ≤ 300 → bs.length ≤ 240 → ∀ μ' C' f' v, KC kd x out N nt tn bn dc T b dp dq μ' ad C' dm → μ' (ad 7) = some (eO 4 (.ref (ad 8) :: v)) → μ' (ad 8) = some (eO 1 [.ref (ad 9), .int (nI bs.length)]) → μ' (ad 9) = some (eI 240 f') → (∀ i, i < bs.length → f' i = bs.getD i 0) → post (if tn ≤ p' then -1 else nI p') μ')
    (hb : ∀ q, vT N T tn 17 t 0 = .inl q → q ≤ 300 → ∀ μ' C', KC kd x out N nt tn bn dc T b dp dq μ' ad C' dm → post (nI q) μ') : (∃ v, μ (ad 7) = some (eO 4 v)) ∧ wp_X5_walk (ad 7) kd (ad (20 + 5 * t)) (ad 3) μ post := by
  have v1 := hV.1
  have v6 : tn ≤ 300 := hV.2.2.2.2.2.1
  have hNw := NMe.mw hV.2.2.1 hV.2.2.2.1
  obtain ⟨hW, ⟨p, w, n, f, hn, hw⟩, hput⟩ := h.wr v6
  refine ⟨hW.1, ?_⟩
  have W := w_walk (ty := fun s => ad (20 + 5 * s)) hW hV.2.1 v1 hkd (fun s hs => h.tyc hs) (p0 := p) (z0 := w) (f0 := f) ht hn (post := post) (fun p' bs hv hp' n' f' hx => ?_) (fun q hv hq n' f' hn' => ?_)
  · rwa [hw] at W
  · have hl : bs.length ≤ 240 := Nat.le_trans (vT_len hV.2.1 hNw 17 t 0 p' bs ht hv) (hV.2.2.1 t ht).2.1
    obtain ⟨e1, e2⟩ := hx.2 (by omega)
    rw [Nat.zero_add] at e1
    subst e1 e2
    obtain ⟨C', hK'⟩ := hput p' (if tn ≤ p' then -1 else nI p') bs.length (apL f 0 bs) hl
    refine hg p' bs hv hp' hl _ C' _ _ hK' wS_o (wS_r hW) (wS_i hW) (fun i hi => ?_)
    have := apL_hi (f := f) (n := 0) (i := i) (bs := bs) hi
    rwa [Nat.zero_add] at this
  · obtain ⟨C', hK'⟩ := hput q (nI q) n' f' hn'
    exact hb q hv hq _ C' hK'
end OW
/-! OPERATIONS: faultAt, read -/
section OX
variable {kd : Nat → Nat} {x out : Nat}
theorem KC.walkR {ad : Nat → Nat} {N : NT} {nt tn bn dc kn : Nat} {T : Nat → Int32} {b dp dq : Nat → Nat} {dm : Int32} {C μ : Mm} (hkd : ∀ i j, i < 4 → j < 4 → kd i = kd j → i = j) (h : KC kd x out N nt tn bn dc T b dp dq μ ad C dm) (hV : VI N nt tn bn dc b dp dq) {t : Nat} (ht : t < nt) (hkn : kn ≤ 3) {post : Int32 → Mm → Prop}
    (hg : ∀ p' l, rV N b bn kn 17 t 0 = .inr (p', l) → p' ≤ bn → l.length ≤ 240 → ∀ μ' C' f' v, KC kd x out N nt tn bn dc T b dp dq μ' ad C' dm → μ' (ad 10) = some (eO 0 (.ref (ad 11) :: v)) → μ' (ad 11) = some (eO 1 [.ref (ad 12), .int (nI l.length)]) → μ' (ad 12) = some (eI 240 f') → (∀ i, i < l.length → f' i = l.getD i 0) → post (if bn ≤ p' then -1 else nI p') μ')
    (hb : ∀ q, rV N b bn kn 17 t 0 = .inl q → q ≤ bn → ∀ μ' C', KC kd x out N nt tn bn dc T b dp dq μ' ad C' dm → post (nI q) μ') : (∃ v, μ (ad 10) = some (eO 0 v)) ∧ wp_X1_walk (ad 10) kd (ad (20 + 5 * t)) (ad 5) (nI kn) μ post := by
  have v1 := hV.1
  have v7 : bn ≤ 240 := hV.2.2.2.2.2.2.1
  have v8 : ∀ i, b i ≤ 1 := hV.2.2.2.2.2.2.2.1
  have hLw := NMe.lw hV.2.2.1 hV.2.2.2.1
  obtain ⟨hR, ⟨k, p, w, n, f, hn, hw⟩, hput⟩ := h.rd v7 v8
  refine ⟨hR.1, ?_⟩
  have W := r_walk (ty := fun s => ad (20 + 5 * s)) hR hV.2.1 v1 hkn hkd (fun s hs => h.tyc hs) (k0 := k) (p0 := p) (z0 := w) (f0 := f) ht hn (post := post) (fun p' l hv hp' n' f' hx => ?_) (fun q hv hq p n' f' hn' => ?_)
  · rwa [hw] at W
  · have hl : l.length ≤ 240 := Nat.le_trans (rV_len hV.2.1 hLw 17 t 0 p' l ht hv) (hV.2.2.1 t ht).2.2
    obtain ⟨e1, e2⟩ := hx.2 (by omega)
    rw [Nat.zero_add] at e1
    subst e1 e2
    obtain ⟨C', hK'⟩ := hput kn p' (if bn ≤ p' then -1 else nI p') l.length (apL f 0 l) hl
    refine hg p' l hv hp' hl _ C' _ _ hK' rS_o (rS_r hR) (rS_i hR) (fun i hi => ?_)
    have := apL_hi (f := f) (n := 0) (i := i) (bs := l) hi
    rwa [Nat.zero_add] at this
  · obtain ⟨C', hK'⟩ := hput kn p (nI q) n' f' hn'
    exact hb q hv hq _ C' hK'
theorem cpF_cong {f g g' : Nat → Int32} {m : Nat} (h : ∀ i, i < m → g i = g' i) : cpF f g m = cpF f g' m := by
  funext i
  unfold cpF
  by_cases c : i < m
  · rw [if_pos c, if_pos c, h i c]
  · rw [if_neg c, if_neg c]
end OX
