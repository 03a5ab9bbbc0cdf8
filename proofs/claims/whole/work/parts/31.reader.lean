/-! READING: what bits say; THE CLASS'S READER, leaves -/
theorem q_or (a b : Nat) : nI a ||| nI b = nI (a ||| b) := by
  apply Int32.toBitVec_inj.1
  show BitVec.ofNat 32 a ||| BitVec.ofNat 32 b = BitVec.ofNat 32 (a ||| b)
  apply BitVec.eq_of_getLsbD_eq
  intro i hi
  simp [hi]
theorem q_or2 {a : Nat} (b : Nat) (h : a < 2) : nI (2 * b) ||| nI a = nI (2 * b + a) := by
  rw [q_or, show 2 * b = 2 ^ 1 * b from rfl, Nat.two_pow_add_eq_or_of_lt (i := 1) (by omega)]
theorem q_sh1 {n : Nat} (h : n < 2 ^ 20) : nI n <<< ((1 : Int32) &&& 31) = nI (2 * n) := by
  rw [pk_shlN ((1 : Int32) &&& 31) 1 (by decide) (by omega), Nat.mul_comm]
def nmB (b : Nat → Nat) : Nat → Nat → Nat → Nat
  | 0, _, acc => acc
  | w + 1, p, acc => nmB b w (p + 1) (2 * acc + b p)
theorem nmB_lt (b : Nat → Nat) (hb : ∀ i, b i ≤ 1) : ∀ w p acc, nmB b w p acc < (acc + 1) * 2 ^ w
  | 0, p, acc => by simp [nmB]
  | w + 1, p, acc => by
    have := nmB_lt b hb w (p + 1) (2 * acc + b p)
    have h1 := hb p
    have h2 : (2 * acc + b p + 1) * 2 ^ w ≤ (acc + 1) * 2 ^ (w + 1) := by
      rw [Nat.pow_succ, show (acc + 1) * (2 ^ w * 2) = (2 * acc + 2) * 2 ^ w by rw [Nat.mul_comm (2 ^ w) 2, ← Nat.mul_assoc]; congr 1; omega]
      exact Nat.mul_le_mul_right _ (by omega)
    unfold nmB
    omega
/-- a number below bd out of w bits -/
def tkB (b : Nat → Nat) (bn w p bd : Nat) : Nat ⊕ (Nat × Nat) := if bn < p + w then .inl bn else if nmB b w p 0 < bd then .inr (p + w, nmB b w p 0) else .inl p
def flR (N : NT) (b : Nat → Nat) (bn t : Nat) : Nat → Nat → Int32 → Nat → Nat ⊕ (Nat × Int32 × List Int32)
  | 0, _, m, p => .inr (p, m, [])
  | n + 1, k, m, p => if nO N t k = 1 then (match tkB b bn 1 p 2 with
      | .inl q => .inl q
      | .inr (p1, x) => match flR N b bn t n (k + 1) (m ||| (nI x <<< (nI k &&& 31))) p1 with
        | .inl q => .inl q
        | .inr (p2, m2, l) => .inr (p2, m2, nI x :: l))
      else flR N b bn t n (k + 1) (m ||| (1 <<< (nI k &&& 31))) p
/-- the length that was told is compared -/
def ckT (p1 len : Nat) (r : RT) : RT := match r with
  | .inl q => .inl q
  | .inr (p2, l) => if p2 = p1 + len then .inr (p2, l) else .inl p1
/-- an addition: read, or passed over -/
def ad1 (f : Nat → Nat → RT) (N : NT) (b : Nat → Nat) (bn kn t j p : Nat) : RT := match tkB b bn 8 p 256 with
  | .inl q => .inl q
  | .inr (p1, len) => if j < kn then ckT p1 len (f (nD N t j) p1)
    else if bn < p1 + len then .inl bn else .inr (p1 + len, [])
def adR (f : Nat → Nat → RT) (N : NT) (b : Nat → Nat) (bn kn t : Nat) : Nat → Nat → Nat → RT
  | 0, _, p => .inr (p, [])
  | n + 1, j, p => bnd (ad1 f N b bn kn t j p) (adR f N b bn kn t n (j + 1))
def sqR (f : Nat → Nat → RT) (N : NT) (b : Nat → Nat) (bn kn t p : Nat) : RT := match tkB b bn 1 p 2 with
  | .inl q => .inl q
  | .inr (p1, ha) => match flR N b bn t (nC N t) 0 0 p1 with
    | .inl q => .inl q
    | .inr (p2, m, fl) => match ptT f N t m (nC N t) 0 p2 with
      | .inl q => .inl q
      | .inr (p3, pl) => if ha = 0 then .inr (p3, fl ++ nI 0 :: pl) else match tkB b bn 2 p3 (nA N t) with
        | .inl q => .inl q
        | .inr (p4, v) => bnd (.inr (p4, fl ++ nI (min kn (v + 1)) :: pl)) (adR f N b bn kn t (v + 1) 0)
def rV (N : NT) (b : Nat → Nat) (bn kn : Nat) : Nat → Nat → Nat → RT
  | 0, _, p => .inl p
  | d + 1, t, p => if nK N t = 2 then sqR (rV N b bn kn d) N b bn kn t p
    else match tkB b bn (nW N t) p (nV N t) with
    | .inl q => .inl q
    | .inr (p1, v) => bnd (.inr (p1, [nlo N t + nI v])) fun p2 =>
        if nK N t = 1 then rptT (rV N b bn kn d (nP N t 0)) (nlo N t + nI v).toNatClampNeg p2
        else if nK N t = 3 then rV N b bn kn d (nP N t (nlo N t + nI v).toNatClampNeg) p2
        else .inr (p2, [])
def rS (μ0 : Mm) (o r it kn p : Nat) (w : Int32) (n : Nat) (f : Nat → Int32) : Mm := ups (ups (ups μ0 it (eI 240 f)) r (eO 1 [.ref it, .int (nI n)])) o (eO 0 [.ref r, .int (nI kn), .int (nI p), .int w])
def RB (μ0 : Mm) (o r it ms mi bn : Nat) (b : Nat → Nat) : Prop := (∃ v, μ0 o = some (eO 0 v)) ∧ (∃ v, μ0 r = some (eO 1 v)) ∧ (∃ n f, μ0 it = some (eI n f)) ∧ μ0 ms = some (eO 1 [.ref mi, .int (nI bn)]) ∧ (∃ f, μ0 mi = some (eI 240 f) ∧ ∀ i, i < bn → f i = nI (b i)) ∧ bn ≤ 240 ∧ (∀ i, b i ≤ 1) ∧ ms ≠ r ∧ mi ≠ it
section RR
variable {μ0 : Mm} {o r it ms mi bn kn : Nat} {b : Nat → Nat}
theorem RB.rit (h : RB μ0 o r it ms mi bn b) : r ≠ it := by
  obtain ⟨⟨vo, ho⟩, ⟨vr, hr⟩, ⟨n, f, hi⟩, _⟩ := h
  exact q_ne hr hi (by simp)
theorem RB.oit (h : RB μ0 o r it ms mi bn b) : o ≠ it := by
  obtain ⟨⟨vo, ho⟩, ⟨vr, hr⟩, ⟨n, f, hi⟩, _⟩ := h
  exact q_ne ho hi (by simp)
theorem RB.or (h : RB μ0 o r it ms mi bn b) : o ≠ r := by
  obtain ⟨⟨vo, ho⟩, ⟨vr, hr⟩, ⟨n, f, hi⟩, _⟩ := h
  exact q_ne ho hr (by simp)
theorem rS_o {p n : Nat} {w : Int32} {f : Nat → Int32} : rS μ0 o r it kn p w n f o = some (eO 0 [.ref r, .int (nI kn), .int (nI p), .int w]) := ups_s
theorem rS_r (h : RB μ0 o r it ms mi bn b) {p n : Nat} {w : Int32} {f : Nat → Int32} : rS μ0 o r it kn p w n f r = some (eO 1 [.ref it, .int (nI n)]) := by
  rw [rS, ups_n h.or.symm]; exact ups_s
theorem rS_i (h : RB μ0 o r it ms mi bn b) {p n : Nat} {w : Int32} {f : Nat → Int32} : rS μ0 o r it kn p w n f it = some (eI 240 f) := by
  rw [rS, ups_n h.oit.symm, ups_n h.rit.symm]; exact ups_s
theorem rS_n {a p n : Nat} {w : Int32} {f : Nat → Int32} (h1 : a ≠ o) (h2 : a ≠ r) (h3 : a ≠ it) : rS μ0 o r it kn p w n f a = μ0 a := by
  rw [rS, ups_n h1, ups_n h2, ups_n h3]
theorem rS_T (h : RB μ0 o r it ms mi bn b) {a p n : Nat} {w : Int32} {f : Nat → Int32} {v : List Value} (ha : μ0 a = some (eO 2 v)) : rS μ0 o r it kn p w n f a = some (eO 2 v) := by
  obtain ⟨⟨vo, ho⟩, ⟨vr, hr⟩, ⟨n, f, hi⟩, _⟩ := h
  rw [rS_n (q_ne ha ho (by simp)) (q_ne ha hr (by simp)) (q_ne ha hi (by simp)), ha]
theorem rS_R (h : RB μ0 o r it ms mi bn b) {a p n : Nat} {w : Int32} {f : Nat → Int32} {v : List Value} (ha : μ0 a = some (eO 3 v)) : rS μ0 o r it kn p w n f a = some (eO 3 v) := by
  obtain ⟨⟨vo, ho⟩, ⟨vr, hr⟩, ⟨n, f, hi⟩, _⟩ := h
  rw [rS_n (q_ne ha ho (by simp)) (q_ne ha hr (by simp)) (q_ne ha hi (by simp)), ha]
theorem rS_A (h : RB μ0 o r it ms mi bn b) {a p n c : Nat} {w : Int32} {f : Nat → Int32} {v : Nat → Option Nat} (ha : μ0 a = some (eT c v)) : rS μ0 o r it kn p w n f a = some (eT c v) := by
  obtain ⟨⟨vo, ho⟩, ⟨vr, hr⟩, ⟨n, f, hi⟩, _⟩ := h
  rw [rS_n (q_ne ha ho (by simp)) (q_ne ha hr (by simp)) (q_ne ha hi (by simp)), ha]
theorem rS_ms (h : RB μ0 o r it ms mi bn b) {p n : Nat} {w : Int32} {f : Nat → Int32} : rS μ0 o r it kn p w n f ms = some (eO 1 [.ref mi, .int (nI bn)]) := by
  obtain ⟨⟨vo, ho⟩, ⟨vr, hr⟩, ⟨n, f, hi⟩, h1, _, _, _, h3, h4⟩ := h
  rw [rS_n (q_ne h1 ho (by simp)) h3 (q_ne h1 hi (by simp)), h1]
theorem rS_mi (h : RB μ0 o r it ms mi bn b) {p n : Nat} {w : Int32} {f : Nat → Int32} : ∃ g, rS μ0 o r it kn p w n f mi = some (eI 240 g) ∧ ∀ i, i < bn → g i = nI (b i) := by
  obtain ⟨⟨vo, ho⟩, ⟨vr, hr⟩, ⟨n, f, hi⟩, h1, ⟨g, h2, hg⟩, _, _, h3, h4⟩ := h
  exact ⟨g, by rw [rS_n (q_ne h2 ho (by simp)) (q_ne h2 hr (by simp)) h4, h2], hg⟩
theorem rS_pw {p p' n : Nat} {w w' : Int32} {f : Nat → Int32} : ups (rS μ0 o r it kn p w n f) o (eO 0 [.ref r, .int (nI kn), .int (nI p'), .int w']) = rS μ0 o r it kn p' w' n f := q_ups_ss
theorem rS_pr (h : RB μ0 o r it ms mi bn b) {p n n' : Nat} {w : Int32} {f f' : Nat → Int32} : ups (ups (rS μ0 o r it kn p w n f) it (eI 240 f')) r (eO 1 [.ref it, .int (nI n')]) = rS μ0 o r it kn p w n' f' := by
  have h1 := h.rit
  have h2 := h.oit
  have h3 := h.or
  unfold rS
  rw [q_ups_sw (a := o) (b := it) h2, q_ups_sw (a := o) (b := r) h3, q_ups_sw (a := r) (b := it) h1, q_ups_ss, q_ups_ss]
theorem rS_pi (h : RB μ0 o r it ms mi bn b) {p n : Nat} {w : Int32} {f f' : Nat → Int32} : ups (rS μ0 o r it kn p w n f) it (eI 240 f') = rS μ0 o r it kn p w n f' := by
  have h1 := h.rit
  have h2 := h.oit
  unfold rS
  rw [q_ups_sw (a := o) (b := it) h2, q_ups_sw (a := r) (b := it) h1, q_ups_ss]
theorem rS_pn (h : RB μ0 o r it ms mi bn b) {p n n' : Nat} {w : Int32} {f : Nat → Int32} : ups (rS μ0 o r it kn p w n f) r (eO 1 [.ref it, .int (nI n')]) = rS μ0 o r it kn p w n' f := by
  have h3 := h.or
  unfold rS
  rw [q_ups_sw (a := o) (b := r) h3, q_ups_ss]
theorem rx_app (h : RB μ0 o r it ms mi bn b) {p n : Nat} {w x : Int32} {f : Nat → Int32} {post : Mm → Prop} (hn : n ≤ 240) (hp : ∀ n' f', Ex n f [x] n' f' → post (rS μ0 o r it kn p w n' f')) : wp_X2_append r x (rS μ0 o r it kn p w n f) post := by
  by_cases h2 : n < 240
  · refine k_append (rS_r h) (rS_i h) (by omega) h2 ?_
    rw [rS_pr h]
    exact hp (n + 1) _ ⟨by omega, fun _ => ⟨rfl, by rw [← apL_cons, apL_nil]⟩⟩
  · exact k_appendF (rS_r h) (rS_i h) (by omega) (by omega) (by omega) (hp n f ⟨hn, fun h => by simp at h; omega⟩)
end RR
