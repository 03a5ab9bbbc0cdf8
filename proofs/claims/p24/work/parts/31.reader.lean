/-! READING: what bits say; THE CLASS'S READER, leaves -/
theorem q_or (a b : Nat) : nI a ||| nI b = nI (a ||| b) := by
  apply Int32.toBitVec_inj.1
  show BitVec.ofNat 32 a ||| BitVec.ofNat 32 b = BitVec.ofNat 32 (a ||| b)
  apply BitVec.eq_of_getLsbD_eq
  intro i hi
  simp [hi]
theorem q_or2 {a : Nat} (b : Nat) (h : a < 2) : nI (2 * b) ||| nI a = nI (2 * b + a) := by
  rw [q_or, show 2 * b = 2 ^ 1 * b from rfl, Nat.two_pow_add_eq_or_of_lt (i := 1) (by omega)]
theorem q_sh1 {n : Nat} (h : n < 2 ^ 20) : nI n <<< ((1 : Int32) &&& 31) = nI (2 * n) := by
  rw [pk_shlN ((1 : Int32) &&& 31) 1 (by decide) (by omega), Nat.mul_comm]
def nmB (b : Nat → Nat) : Nat → Nat → Nat → Nat
  | 0, _, acc => acc
  | w + 1, p, acc => nmB b w (p + 1) (2 * acc + b p)
theorem nmB_lt (b : Nat → Nat) (hb : ∀ i, b i ≤ 1) : ∀ w p acc, nmB b w p acc < (acc + 1) * 2 ^ w
  | 0, p, acc => by simp [nmB]
  | w + 1, p, acc => by
    have := nmB_lt b hb w (p + 1) (2 * acc + b p)
    have h1 := hb p
    have h2 : (2 * acc + b p + 1) * 2 ^ w ≤ (acc + 1) * 2 ^ (w + 1) := by
      rw [Nat.pow_succ, show (acc + 1) * (2 ^ w * 2) = (2 * acc + 2) * 2 ^ w by rw [Nat.mul_comm (2 ^ w) 2, ← Nat.mul_assoc]; congr 1; omega]
      exact Nat.mul_le_mul_right _ (by omega)
    unfold nmB
    omega
/-- a number below bd out of w bits -/
def tkB (b : Nat → Nat) (bn w p bd : Nat) : Nat ⊕ (Nat × Nat) := if bn < p + w then .inl bn else if nmB b w p 0 < bd then .inr (p + w, nmB b w p 0) else .inl p
def flR (N : NT) (b : Nat → Nat) (bn t : Nat) : Nat → Nat → Int32 → Nat → Nat ⊕ (Nat × Int32 × List Int32)
  | 0, _, m, p => .inr (p, m, [])
  | n + 1, k, m, p => if nO N t k = 1 then (match tkB b bn 1 p 2 with
      | .inl q => .inl q
      | .inr (p1, x) => match flR N b bn t n (k + 1) (m ||| (nI x <<< (nI k &&& 31))) p1 with
        | .inl q => .inl q
        | .inr (p2, m2, l) => .inr (p2, m2, nI x :: l))
      else flR N b bn t n (k + 1) (m ||| (1 <<< (nI k &&& 31))) p
/-- the length that was told is compared -/
def ckT (p1 len : Nat) (r : RT) : RT := match r with
  | .inl q => .inl q
  | .inr (p2, l) => if p2 = p1 + len then .inr (p2, l) else .inl p1
/-- an addition: read, or passed over -/
def ad1 (f : Nat → Nat → RT) (N : NT) (b : Nat → Nat) (bn kn t j p : Nat) : RT := match tkB b bn 8 p 256 with
  | .inl q => .inl q
  | .inr (p1, len) => if j < kn then ckT p1 len (f (nD N t j) p1)
    else if bn < p1 + len then .inl bn else .inr (p1 + len, [])
def adR (f : Nat → Nat → RT) (N : NT) (b : Nat → Nat) (bn kn t : Nat) : Nat → Nat → Nat → RT
  | 0, _, p => .inr (p, [])
  | n + 1, j, p => bnd (ad1 f N b bn kn t j p) (adR f N b bn kn t n (j + 1))
def sqR (f : Nat → Nat → RT) (N : NT) (b : Nat → Nat) (bn kn t p : Nat) : RT := match tkB b bn 1 p 2 with
  | .inl q => .inl q
  | .inr (p1, ha) => match flR N b bn t (nC N t) 0 0 p1 with
    | .inl q => .inl q
    | .inr (p2, m, fl) => match ptT f N t m (nC N t) 0 p2 with
      | .inl q => .inl q
      | .inr (p3, pl) => if ha = 0 then .inr (p3, fl ++ nI 0 :: pl) else match tkB b bn 2 p3 (nA N t) with
        | .inl q => .inl q
        | .inr (p4, v) => bnd (.inr (p4, fl ++ nI (min kn (v + 1)) :: pl)) (adR f N b bn kn t (v + 1) 0)
def rV (N : NT) (b : Nat → Nat) (bn kn : Nat) : Nat → Nat → Nat → RT
  | 0, _, p => .inl p
  | d + 1, t, p => if nK N t = 2 then sqR (rV N b bn kn d) N b bn kn t p
    else match tkB b bn (nW N t) p (nV N t) with
    | .inl q => .inl q
    | .inr (p1, v) => bnd (.inr (p1, [nlo N t + nI v])) fun p2 =>
        if nK N t = 1 then rptT (rV N b bn kn d (nP N t 0)) (nlo N t + nI v).toNatClampNeg p2
        else if nK N t = 3 then rV N b bn kn d (nP N t (nlo N t + nI v).toNatClampNeg) p2
        else .inr (p2, [])
def rS (μ0 : Mm) (o r it kn p : Nat) (w : Int32) (n : Nat) (f : Nat → Int32) : Mm := ups (ups (ups μ0 it (eI 240 f)) r (eO 1 [.ref it, .int (nI n)])) o (eO 0 [.ref r, .int (nI kn), .int (nI p), .int w])
def RB (μ0 : Mm) (o r it ms mi bn : Nat) (b : Nat → Nat) : Prop := (∃ v, μ0 o = some (eO 0 v)) ∧ (∃ v, μ0 r = some (eO 1 v)) ∧ (∃ n f, μ0 it = some (eI n f)) ∧ μ0 ms = some (eO 1 [.ref mi, .int (nI bn)]) ∧ (∃ f, μ0 mi = some (eI 240 f) ∧ ∀ i, i < bn → f i = nI (b i)) ∧ bn ≤ 240 ∧ (∀ i, b i ≤ 1) ∧ ms ≠ r ∧ mi ≠ it
section RR
variable {μ0 : Mm} {o r it ms mi bn kn : Nat} {b : Nat → Nat}
theorem RB.rit (h : RB μ0 o r it ms mi bn b) : r ≠ it := by
  obtain ⟨⟨vo, ho⟩, ⟨vr, hr⟩, ⟨n, f, hi⟩, _⟩ := h
  exact q_ne hr hi (by simp)
theorem RB.oit (h : RB μ0 o r it ms mi bn b) : o ≠ it := by
  obtain ⟨⟨vo, ho⟩, ⟨vr, hr⟩, ⟨n, f, hi⟩, _⟩ := h
  exact q_ne ho hi (by simp)
theorem RB.or (h : RB μ0 o r it ms mi bn b) : o ≠ r := by
  obtain ⟨⟨vo, ho⟩, ⟨vr, hr⟩, ⟨n, f, hi⟩, _⟩ := h
  exact q_ne ho hr (by simp)
theorem rS_o {p n : Nat} {w : Int32} {f : Nat → Int32} : rS μ0 o r it kn p w n f o = some (eO 0 [.ref r, .int (nI kn), .int (nI p), .int w]) := ups_s
theorem rS_r (h : RB μ0 o r it ms mi bn b) {p n : Nat} {w : Int32} {f : Nat → Int32} : rS μ0 o r it kn p w n f r = some (eO 1 [.ref it, .int (nI n)]) := by
  rw [rS, ups_n h.or.symm]; exact ups_s
theorem rS_i (h : RB μ0 o r it ms mi bn b) {p n : Nat} {w : Int32} {f : Nat → Int32} : rS μ0 o r it kn p w n f it = some (eI 240 f) := by
  rw [rS, ups_n h.oit.symm, ups_n h.rit.symm]; exact ups_s
theorem rS_n {a p n : Nat} {w : Int32} {f : Nat → Int32} (h1 : a ≠ o) (h2 : a ≠ r) (h3 : a ≠ it) : rS μ0 o r it kn p w n f a = μ0 a := by
  rw [rS, ups_n h1, ups_n h2, ups_n h3]
theorem rS_T (h : RB μ0 o r it ms mi bn b) {a p n : Nat} {w : Int32} {f : Nat → Int32} {v : List Value} (ha : μ0 a = some (eO 2 v)) : rS μ0 o r it kn p w n f a = some (eO 2 v) := by
  obtain ⟨⟨vo, ho⟩, ⟨vr, hr⟩, ⟨n, f, hi⟩, _⟩ := h
  rw [rS_n (q_ne ha ho (by simp)) (q_ne ha hr (by simp)) (q_ne ha hi (by simp)), ha]
theorem rS_R (h : RB μ0 o r it ms mi bn b) {a p n : Nat} {w : Int32} {f : Nat → Int32} {v : List Value} (ha : μ0 a = some (eO 3 v)) : rS μ0 o r it kn p w n f a = some (eO 3 v) := by
  obtain ⟨⟨vo, ho⟩, ⟨vr, hr⟩, ⟨n, f, hi⟩, _⟩ := h
  rw [rS_n (q_ne ha ho (by simp)) (q_ne ha hr (by simp)) (q_ne ha hi (by simp)), ha]
theorem rS_A (h : RB μ0 o r it ms mi bn b) {a p n c : Nat} {w : Int32} {f : Nat → Int32} {v : Nat → Option Nat} (ha : μ0 a = some (eT c v)) : rS μ0 o r it kn p w n f a = some (eT c v) := by
  obtain ⟨⟨vo, ho⟩, ⟨vr, hr⟩, ⟨n, f, hi⟩, _⟩ := h
  rw [rS_n (q_ne ha ho (by simp)) (q_ne ha hr (by simp)) (q_ne ha hi (by simp)), ha]
theorem rS_ms (h : RB μ0 o r it ms mi bn b) {p n : Nat} {w : Int32} {f : Nat → Int32} : rS μ0 o r it kn p w n f ms = some (eO 1 [.ref mi, .int (nI bn)]) := by
  obtain ⟨⟨vo, ho⟩, ⟨vr, hr⟩, ⟨n, f, hi⟩, h1, _, _, _, h3, h4⟩ := h
  rw [rS_n (q_ne h1 ho (by simp)) h3 (q_ne h1 hi (by simp)), h1]
theorem rS_mi (h : RB μ0 o r it ms mi bn b) {p n : Nat} {w : Int32} {f : Nat → Int32} : ∃ g, rS μ0 o r it kn p w n f mi = some (eI 240 g) ∧ ∀ i, i < bn → g i = nI (b i) := by
  obtain ⟨⟨vo, ho⟩, ⟨vr, hr⟩, ⟨n, f, hi⟩, h1, ⟨g, h2, hg⟩, _, _, h3, h4⟩ := h
  exact ⟨g, by rw [rS_n (q_ne h2 ho (by simp)) (q_ne h2 hr (by simp)) h4, h2], hg⟩
theorem rS_pw {p p' n : Nat} {w w' : Int32} {f : Nat → Int32} : ups (rS μ0 o r it kn p w n f) o (eO 0 [.ref r, .int (nI kn), .int (nI p'), .int w']) = rS μ0 o r it kn p' w' n f := q_ups_ss
theorem rS_pr (h : RB μ0 o r it ms mi bn b) {p n n' : Nat} {w : Int32} {f f' : Nat → Int32} : ups (ups (rS μ0 o r it kn p w n f) it (eI 240 f')) r (eO 1 [.ref it, .int (nI n')]) = rS μ0 o r it kn p w n' f' := by
  have h1 := h.rit
  have h2 := h.oit
  have h3 := h.or
  unfold rS
  rw [q_ups_sw (a := o) (b := it) h2, q_ups_sw (a := o) (b := r) h3, q_ups_sw (a := r) (b := it) h1, q_ups_ss, q_ups_ss]
theorem rS_pi (h : RB μ0 o r it ms mi bn b) {p n : Nat} {w : Int32} {f f' : Nat → Int32} : ups (rS μ0 o r it kn p w n f) it (eI 240 f') = rS μ0 o r it kn p w n f' := by
  have h1 := h.rit
  have h2 := h.oit
  unfold rS
  rw [q_ups_sw (a := o) (b := it) h2, q_ups_sw (a := r) (b := it) h1, q_ups_ss]
theorem rS_pn (h : RB μ0 o r it ms mi bn b) {p n n' : Nat} {w : Int32} {f : Nat → Int32} : ups (rS μ0 o r it kn p w n f) r (eO 1 [.ref it, .int (nI n')]) = rS μ0 o r it kn p w n' f := by
  have h3 := h.or
  unfold rS
  rw [q_ups_sw (a := o) (b := r) h3, q_ups_ss]
theorem rx_app (h : RB μ0 o r it ms mi bn b) {p n : Nat} {w x : Int32} {f : Nat → Int32} {post : Mm → Prop} (hn : n ≤ 240) (hp : ∀ n' f', Ex n f [x] n' f' → post (rS μ0 o r it kn p w n' f')) : wp_X2_append r x (rS μ0 o r it kn p w n f) post := by
  by_cases h2 : n < 240
  · refine k_append (rS_r h) (rS_i h) (by omega) h2 ?_
    rw [rS_pr h]
    exact hp (n + 1) _ ⟨by omega, fun _ => ⟨rfl, by rw [← apL_cons, apL_nil]⟩⟩
  · exact k_appendF (rS_r h) (rS_i h) (by omega) (by omega) (by omega) (hp n f ⟨hn, fun h => by simp at h; omega⟩)
end RR
/-! THE CLASS'S READER -/
theorem q_subeq {a b c : Nat} (ha : a < 1000) (hb : b < 1000) (hc : c < 1000) : (nI a - nI b = nI c) = (a = b + c) := by
  have h := pk_sub_toInt (a := a) (b := b) (by omega) (by omega)
  refine propext ⟨fun e => ?_, fun e => ?_⟩
  · rw [e, nI_toInt (by omega)] at h; omega
  · subst e; rw [q_sub (by omega)]; congr 1; omega
section RN
variable {μ0 : Mm} {o r it ms mi bn kn : Nat} {b : Nat → Nat}
theorem r_65 {p n w : Nat} {x3 y : Int32} {f : Nat → Int32} {post : Int32 → Mm → Prop} (h1 : y ≤ x3 → post y (rS μ0 o r it kn (p + w) (-1) n f)) (h2 : ¬ y ≤ x3 → post 0 (rS μ0 o r it kn p (nI p) n f)) (hp : p ≤ 300) : wb_X1_next_65 o post (nI w) x3 y (rS μ0 o r it kn p (-1) n f) := by
  refine ⟨_, _, rS_o, rfl, fun h => absurd rfl h, fun _ => ⟨fun h => ⟨_, _, rS_o, rfl, fun _ => ⟨_, _, rS_o, rfl, _, rS_o, by simp, fun μ e => ?_⟩, fun h => absurd rfl h⟩, fun h => ⟨_, _, rS_o, rfl, _, rS_o, by simp, fun μ e => ?_⟩⟩⟩
  · subst e
    show post y (ups (rS μ0 o r it kn p (-1) n f) o (eO 0 [.ref r, .int (nI kn), .int (nI p + nI w), .int (-1)]))
    rw [nI_add, rS_pw]; exact h1 h
  · subst e
    show wb_X1_next_87 o post (nI w) y (ups (rS μ0 o r it kn p (-1) n f) o (eO 0 [.ref r, .int (nI kn), .int (nI p), .int (nI p)]))
    rw [rS_pw]
    exact ⟨_, _, rS_o, rfl, fun h => absurd h (q_nw hp), fun _ => h2 h⟩
theorem r_next (hR : RB μ0 o r it ms mi bn b) {p n w bd : Nat} {x3 : Int32} {f : Nat → Int32} {post : Int32 → Mm → Prop} (hp : p ≤ bn) (hw : w ≤ 11) (hbd : ∀ v, v < 4096 → (nI v ≤ x3 ↔ v < bd))
    (hg : ∀ p' v, tkB b bn w p bd = .inr (p', v) → p' ≤ bn → post (nI v) (rS μ0 o r it kn p' (-1) n f)) (hb : ∀ q, tkB b bn w p bd = .inl q → q ≤ bn → post 0 (rS μ0 o r it kn p (nI q) n f)) : wp_X1_next o ms (nI w) x3 (rS μ0 o r it kn p (-1) n f) post := by
  have hbn : bn ≤ 240 := hR.2.2.2.2.2.1
  have hb1 : ∀ i, b i ≤ 1 := hR.2.2.2.2.2.2.1
  obtain ⟨g, hg1, hg2⟩ := rS_mi (kn := kn) hR (p := p) (n := n) (w := -1) (f := f)
  by_cases h1 : bn < p + w
  · have any : ∀ (j i : Nat) (y : Int32), i + j = w → wb_X1_next_6 o post (j + 1) ms (nI w) x3 y (nI i) (rS μ0 o r it kn p (-1) n f) := by
      intro j
      induction j with
      | zero =>
        intro i y hi
        refine ⟨fun _ => ⟨_, _, rS_o, rfl, fun h => absurd rfl h, fun _ => ⟨⟨_, rS_ms hR⟩, k_size (rS_ms hR) ⟨_, _, rS_o, rfl, fun h => ?_, fun _ => ⟨⟨_, rS_ms hR⟩, k_size (rS_ms hR) ⟨_, rS_o, by simp, fun μ e => ?_⟩⟩⟩⟩⟩, fun h => ?_⟩
        · rw [q_sub hp, q_le (by omega) (by omega)] at h; omega
        · subst e
          show wb_X1_next_65 o post (nI w) x3 y (ups (rS μ0 o r it kn p (-1) n f) o (eO 0 [.ref r, .int (nI kn), .int (nI p), .int (nI bn)]))
          rw [rS_pw]
          exact ⟨_, _, rS_o, rfl, fun _ => ⟨_, _, rS_o, rfl, fun h => absurd h (q_nw (by omega)), fun _ => hb bn (by unfold tkB; rw [if_pos h1]) (Nat.le_refl _)⟩, fun h => absurd h (q_nw (by omega))⟩
        · rw [q_le (by omega) (by omega)] at h; omega
      | succ j ih =>
        intro i y hi
        refine ⟨fun h => ?_, fun _ => ⟨_, _, rS_o, rfl, ⟨_, rS_ms hR⟩, k_any (rS_ms hR) hg1 (by omega) (by omega) (fun v _ => ?_)⟩⟩
        · rw [q_le (by omega) (by omega)] at h; omega
        · rw [← nI_succ]; exact ih (i + 1) _ (by omega)
    exact ⟨w + 1, any w 0 0 (by omega)⟩
  · have ex : ∀ (j i acc : Nat), i + j = w → acc < 2 ^ i → (∀ v, nmB b j (p + i) acc = v → v < 4096 → wb_X1_next_65 o post (nI w) x3 (nI v) (rS μ0 o r it kn p (-1) n f)) → wb_X1_next_6 o post (j + 1) ms (nI w) x3 (nI acc) (nI i) (rS μ0 o r it kn p (-1) n f) := by
      intro j
      induction j with
      | zero =>
        intro i acc hi hacc hx
        have h11 : 2 ^ i ≤ 2 ^ 11 := Nat.pow_le_pow_right (by omega) (by omega)
        refine ⟨fun _ => ⟨_, _, rS_o, rfl, fun h => absurd rfl h, fun _ => ⟨⟨_, rS_ms hR⟩, k_size (rS_ms hR) ⟨_, _, rS_o, rfl, fun h => hx acc rfl (by omega), fun h => ?_⟩⟩⟩, fun h => ?_⟩
        · rw [q_sub hp, q_le (by omega) (by omega)] at h; omega
        · rw [q_le (by omega) (by omega)] at h; omega
      | succ j ih =>
        intro i acc hi hacc hx
        have h11 : 2 ^ i ≤ 2 ^ 11 := Nat.pow_le_pow_right (by omega) (by omega)
        have hbi := hb1 (p + i)
        refine ⟨fun h => ?_, fun _ => ⟨_, _, rS_o, rfl, ⟨_, rS_ms hR⟩, ?_⟩⟩
        · rw [q_le (by omega) (by omega)] at h; omega
        · rw [nI_add]
          refine k_at (rS_ms hR) hg1 (by omega) (by omega) (j := p + i) (by omega) ?_
          rw [hg2 (p + i) (by omega), q_sh1 (by omega), q_or2 _ (by omega), ← nI_succ]
          exact ih (i + 1) _ (by omega) (by rw [Nat.pow_succ]; omega) hx
    refine ⟨w + 1, ex w 0 0 (by omega) (by omega) (fun v hv hv2 => r_65 (fun h => ?_) (fun h => ?_) (by omega))⟩
    · rw [hbd v hv2] at h
      rw [Nat.add_zero] at hv
      exact hg (p + w) v (by unfold tkB; rw [if_neg h1, hv, if_pos h]) (by omega)
    · rw [hbd v hv2] at h
      rw [Nat.add_zero] at hv
      exact hb p (by unfold tkB; rw [if_neg h1, hv, if_neg h]) hp
theorem r_next_wr (hR : RB μ0 o r it ms mi bn b) {p n w : Nat} {x3 z : Int32} {f : Nat → Int32} {post : Int32 → Mm → Prop} (hw : w ≤ 11) (hz : z ≠ -1) (hp : post 0 (rS μ0 o r it kn p z n f)) : wp_X1_next o ms (nI w) x3 (rS μ0 o r it kn p z n f) post := by
  have hbn : bn ≤ 240 := hR.2.2.2.2.2.1
  obtain ⟨g, hg1, hg2⟩ := rS_mi (kn := kn) hR (p := p) (n := n) (w := z) (f := f)
  have any : ∀ (j i : Nat) (y : Int32), i + j = w → wb_X1_next_6 o post (j + 1) ms (nI w) x3 y (nI i) (rS μ0 o r it kn p z n f) := by
    intro j
    induction j with
    | zero =>
      intro i y hi
      refine ⟨fun _ => ⟨_, _, rS_o, rfl, fun _ => ⟨_, _, rS_o, rfl, fun _ => ⟨_, _, rS_o, rfl, fun h => absurd h hz, fun _ => hp⟩, fun h => absurd h hz⟩, fun h => absurd h hz⟩, fun h => ?_⟩
      rw [q_le (by omega) (by omega)] at h; omega
    | succ j ih =>
      intro i y hi
      refine ⟨fun h => ?_, fun _ => ⟨_, _, rS_o, rfl, ⟨_, rS_ms hR⟩, k_any (rS_ms hR) hg1 (by omega) (by omega) (fun v _ => ?_)⟩⟩
      · rw [q_le (by omega) (by omega)] at h; omega
      · rw [← nI_succ]; exact ih (i + 1) _ (by omega)
  exact ⟨w + 1, any w 0 0 (by omega)⟩
theorem q_bd {bd : Nat} (h1 : 1 ≤ bd) (h2 : bd < 4097) : ∀ v, v < 4096 → (nI v ≤ nI (bd - 1) ↔ v < bd) := by
  intro v hv
  rw [q_le (by omega) (by omega)]; omega
variable {N : NT} {nt : Nat} {kd ty : Nat → Nat}
def RQ (μ0 : Mm) (o r it kn bn : Nat) (res : RT) (n : Nat) (f : Nat → Int32) (post : Mm → Prop) : Prop := (∀ p' l, res = .inr (p', l) → p' ≤ bn → ∀ n' f', Ex n f l n' f' → post (rS μ0 o r it kn p' (-1) n' f')) ∧ (∀ q, res = .inl q → q ≤ bn → ∀ p n' f', n' ≤ 240 → post (rS μ0 o r it kn p (nI q) n' f'))
theorem RQ.go {res : RT} {k : Nat → RT} {n n1 p1 : Nat} {f f1 : Nat → Int32} {b1 : List Int32} {post : Mm → Prop} (h : RQ μ0 o r it kn bn (bnd res k) n f post) (e : res = .inr (p1, b1)) (hx : Ex n f b1 n1 f1) : RQ μ0 o r it kn bn (k p1) n1 f1 post := by
  subst e
  refine ⟨fun p' bs hk hp n' f' hx2 => ?_, fun q hk hq p n' f' hn' => ?_⟩
  · exact h.1 p' (b1 ++ bs) (by simp only [bnd, hk]) hp n' f' (hx.app hx2)
  · exact h.2 q (by simp only [bnd, hk]) hq p n' f' hn'
theorem RQ.no {res : RT} {k : Nat → RT} {n q : Nat} {f : Nat → Int32} {post : Mm → Prop} (h : RQ μ0 o r it kn bn (bnd res k) n f post) (e : res = .inl q) (hq : q ≤ bn) : ∀ p n' f', n' ≤ 240 → post (rS μ0 o r it kn p (nI q) n' f') := by
  subst e
  exact h.2 q rfl hq
/-- flags, once wrong -/
theorem r_flags_wr (hR : RB μ0 o r it ms mi bn b) (hN : NWf N nt) {t : Nat} (ht : t < nt) (hk2 : nK N t = 2) (hT : TyC kd ty N μ0 t) {post : Int32 → Mm → Prop} {z : Int32} {p : Nat} (hz : z ≠ -1) (hp : ∀ m n f, n ≤ 240 → post m (rS μ0 o r it kn p z n f)) : ∀ (j k n : Nat) (m : Int32) (f : Nat → Int32), k + j = nC N t → n ≤ 240 → wb_X1_nextParts_5 o post (j + 1) (ty t) ms m (nI k) (rS μ0 o r it kn p z n f) := by
  obtain ⟨pr, pi, pn, pf, om, ar, ai, an, af, fb, mb, mn, h1, h2, h3, h4, h5, h6, h7, h8, h9, h10⟩ := hT
  have hwf := hN t ht
  intro j
  induction j with
  | zero =>
    intro k n m f hk hn
    refine ⟨_, _, rS_T hR h1, rfl, ⟨_, rS_R hR h2⟩, t_size (rS_R hR h2) ⟨fun _ => hp _ _ _ hn, fun h => ?_⟩⟩
    rw [q_le (by omega) (by omega)] at h; omega
  | succ j ih =>
    intro k n m f hk hn
    refine ⟨_, _, rS_T hR h1, rfl, ⟨_, rS_R hR h2⟩, t_size (rS_R hR h2) ⟨fun h => ?_, fun _ => ⟨⟨_, rS_T hR h1⟩, w_opt (rS_T hR h1) (h7 hk2 k (by omega)) (hwf.2.2.2.1 k (by omega)).2 (fun e => ?_) (fun e => ?_)⟩⟩⟩
    · rw [q_le (by omega) (by omega)] at h; omega
    · refine ⟨fun h => absurd h (by decide), fun _ => ⟨⟨_, rS_o⟩, r_next_wr hR (w := 1) (by omega) hz ⟨_, _, rS_o, rfl, ⟨_, rS_r hR⟩, rx_app hR hn (fun n' f' hx => ?_)⟩⟩⟩
      rw [← nI_succ]
      exact ih (k + 1) n' _ f' (by omega) hx.1
    · refine ⟨fun _ => ?_, fun h => absurd rfl h⟩
      rw [← nI_succ]
      exact ih (k + 1) n _ f (by omega) hn
theorem r_flags (hR : RB μ0 o r it ms mi bn b) (hN : NWf N nt) {t : Nat} (ht : t < nt) (hk2 : nK N t = 2) (hT : TyC kd ty N μ0 t) {post : Int32 → Mm → Prop} : ∀ (j k n : Nat) (m : Int32) (p : Nat) (f : Nat → Int32), k + j = nC N t → p ≤ bn → n ≤ 240 → (∀ p' m' l, flR N b bn t j k m p = .inr (p', m', l) → p' ≤ bn → ∀ n' f', Ex n f l n' f' → post m' (rS μ0 o r it kn p' (-1) n' f')) →
    (∀ q, flR N b bn t j k m p = .inl q → q ≤ bn → ∀ m' p' n' f', n' ≤ 240 → post m' (rS μ0 o r it kn p' (nI q) n' f')) → wb_X1_nextParts_5 o post (j + 1) (ty t) ms m (nI k) (rS μ0 o r it kn p (-1) n f) := by
  have hT0 := hT
  obtain ⟨pr, pi, pn, pf, om, ar, ai, an, af, fb, mb, mn, h1, h2, h3, h4, h5, h6, h7, h8, h9, h10⟩ := hT
  have hwf := hN t ht
  have hbn : bn ≤ 240 := hR.2.2.2.2.2.1
  intro j
  induction j with
  | zero =>
    intro k n m p f hk hp hn hg hb
    refine ⟨_, _, rS_T hR h1, rfl, ⟨_, rS_R hR h2⟩, t_size (rS_R hR h2) ⟨fun _ => hg _ _ _ rfl hp n f (Ex.nil hn), fun h => ?_⟩⟩
    rw [q_le (by omega) (by omega)] at h; omega
  | succ j ih =>
    intro k n m p f hk hp hn hg hb
    refine ⟨_, _, rS_T hR h1, rfl, ⟨_, rS_R hR h2⟩, t_size (rS_R hR h2) ⟨fun h => ?_, fun _ => ⟨⟨_, rS_T hR h1⟩, w_opt (rS_T hR h1) (h7 hk2 k (by omega)) (hwf.2.2.2.1 k (by omega)).2 (fun e => ?_) (fun e => ?_)⟩⟩⟩
    · rw [q_le (by omega) (by omega)] at h; omega
    · unfold flR at hg hb
      rw [if_pos e] at hg hb
      refine ⟨fun h => absurd h (by decide), fun _ => ⟨⟨_, rS_o⟩, r_next hR (w := 1) (bd := 2) hp (by omega) (q_bd (bd := 2) (by omega) (by omega)) (fun p1 v hv hp1 => ?_) (fun q hv hq => ?_)⟩⟩
      · rw [hv] at hg hb
        simp only [] at hg hb
        refine ⟨_, _, rS_o, rfl, ⟨_, rS_r hR⟩, rx_app hR hn (fun n1 f1 hx1 => ?_)⟩
        rw [← nI_succ]
        refine ih (k + 1) n1 _ p1 f1 (by omega) hp1 hx1.1 (fun p' m' l hl hp' n' f' hx => ?_) (fun q hl hq m' p' n' f' hn' => ?_)
        · exact hg p' m' (nI v :: l) (by rw [hl]) hp' n' f' (hx1.app hx)
        · exact hb q (by rw [hl]) hq m' p' n' f' hn'
      · rw [hv] at hb
        refine ⟨_, _, rS_o, rfl, ⟨_, rS_r hR⟩, rx_app hR hn (fun n1 f1 hx1 => ?_)⟩
        rw [← nI_succ]
        exact r_flags_wr hR hN ht hk2 hT0 (q_nw (by omega)) (fun m' n' f' hn' => hb q rfl hq m' p n' f' hn') j (k + 1) n1 _ f1 (by omega) hx1.1
    · unfold flR at hg hb
      rw [if_neg (by omega)] at hg hb
      refine ⟨fun _ => ?_, fun h => absurd rfl h⟩
      rw [← nI_succ]
      exact ih (k + 1) n _ p f (by omega) hp hn hg hb
theorem r_wr {d : Nat} {x : Option Nat} {x3 : Int32} {p n : Nat} {z : Int32} {f : Nat → Int32} {post : Mm → Prop} (hd : 0 < d) (hz : z ≠ -1) (hp : post (rS μ0 o r it kn p z n f)) : wr_X1_getValue kd d o x ms x3 (rS μ0 o r it kn p z n f) post := by
  obtain ⟨d, rfl⟩ : ∃ e, d = e + 1 := ⟨d - 1, by omega⟩
  exact ⟨_, _, rS_o, rfl, fun h => absurd h hz, fun _ => hp⟩
/-- parts, once wrong -/
theorem r_parts_wr (hR : RB μ0 o r it ms mi bn b) (hN : NWf N nt) {t : Nat} (ht : t < nt) (hT : TyC kd ty N μ0 t) {d : Nat} {x3 v4 m ci : Int32} {p : Nat} {z : Int32} {post : Mm → Prop} (hd : 0 < d) (hz : z ≠ -1) (hp : ∀ n' f', n' ≤ 240 → post (rS μ0 o r it kn p z n' f')) : ∀ (j k n : Nat) (f : Nat → Int32), k + j = nC N t → n ≤ 240 → wb_X1_getSequence_46 o kd (wr_X1_getValue kd d) post (j + 1) (ty t) ms x3 v4 m ci (nI k) (rS μ0 o r it kn p z n f) := by
  obtain ⟨pr, pi, pn, pf, om, ar, ai, an, af, fb, mb, mn, h1, h2, h3, h4, h5, h6, h7, h8, h9, h10, h11, h12⟩ := hT
  have hwf := hN t ht
  intro j
  induction j with
  | zero =>
    intro k n f hk hn
    refine ⟨_, _, rS_T hR h1, rfl, ⟨_, rS_R hR h2⟩, t_size (rS_R hR h2) ⟨fun _ => ⟨fun _ => hp n f hn, fun _ => ⟨_, _, rS_T hR h1, rfl, ⟨_, rS_R hR h8⟩, t_size (rS_R hR h8) ⟨⟨_, rS_o⟩, r_next_wr hR (w := 2) (by omega) hz ⟨_, _, rS_o, rfl, _, _, rS_o, rfl, ⟨_, rS_r hR⟩, k_replaceA (rS_r hR) (rS_i hR) hn (by omega) (fun f' _ => ?_)⟩⟩⟩⟩, fun h => ?_⟩⟩
    · rw [rS_pi hR]
      exact ⟨⟨_, rS_o⟩, 1, fun _ => hp n f' hn, fun _ => ⟨_, _, rS_o, rfl, fun _ => hp n f' hn, fun h => absurd h hz⟩⟩
    · rw [q_le (by omega) (by omega)] at h; omega
  | succ j ih =>
    intro k n f hk hn
    have hk1 := ih (k + 1) n f (by omega) hn
    rw [nI_succ] at hk1
    refine ⟨_, _, rS_T hR h1, rfl, ⟨_, rS_R hR h2⟩, t_size (rS_R hR h2) ⟨fun h => ?_, fun _ => ⟨fun _ => hk1, fun _ => ⟨_, _, rS_T hR h1, rfl, ⟨_, rS_R hR h2⟩, t_at (rS_R hR h2) (rS_A hR h3) h4 (by omega) (by omega) ⟨⟨_, rS_o⟩, r_wr hd hz hk1⟩⟩⟩⟩⟩
    rw [q_le (by omega) (by omega)] at h; omega
theorem r_16_wr (hR : RB μ0 o r it ms mi bn b) (hN : NWf N nt) {t : Nat} (ht : t < nt) (hk2 : nK N t = 2) (hT : TyC kd ty N μ0 t) {d : Nat} {x3 s0 : Int32} {p n : Nat} {f : Nat → Int32} {z : Int32} {post : Mm → Prop} (hd : 0 < d) (hz : z ≠ -1) (hn : n ≤ 240) (hp : ∀ n' f', n' ≤ 240 → post (rS μ0 o r it kn p z n' f')) : wb_X1_getSequence_16 o kd (wr_X1_getValue kd d) post (ty t) ms x3 s0 (rS μ0 o r it kn p z n f) :=
  ⟨⟨_, rS_o⟩, nC N t + 1, r_flags_wr hR hN ht hk2 hT hz (fun m n1 f1 hn1 => ⟨_, _, rS_o, rfl, ⟨_, rS_r hR⟩, k_size (rS_r hR) ⟨_, _, rS_o, rfl, ⟨_, rS_r hR⟩, rx_app hR hn1 (fun n2 f2 hx => ⟨nC N t + 1, r_parts_wr hR hN ht hT hd hz hp (nC N t) 0 n2 f2 (by omega) hx.1⟩)⟩⟩) (nC N t) 0 n 0 f (by omega) hn⟩
end RN
/-! THE CLASS'S READER: the recursion -/
theorem apL_mid {f : Nat → Int32} {n : Nat} {x y : Int32} {as bs : List Int32} : upd (apL f n (as ++ x :: bs)) (n + as.length) y = apL f n (as ++ y :: bs) := by
  funext i
  by_cases h : i = n + as.length
  · subst h
    rw [pk_us]
    unfold apL
    rw [if_neg (by omega), Nat.add_sub_cancel_left, List.getElem?_append_right (Nat.le_refl _)]
    simp
  · rw [pk_un h]
    unfold apL
    by_cases h1 : i < n
    · rw [if_pos h1, if_pos h1]
    · rw [if_neg h1, if_neg h1]
      have e : (as ++ x :: bs)[i - n]? = (as ++ y :: bs)[i - n]? := by
        by_cases h2 : i - n < as.length
        · rw [List.getElem?_append_left h2, List.getElem?_append_left h2]
        · rw [List.getElem?_append_right (by omega), List.getElem?_append_right (by omega)]
          obtain ⟨c, hc⟩ : ∃ c, i - n - as.length = c + 1 := ⟨i - n - as.length - 1, by omega⟩
          rw [hc, List.getElem?_cons_succ, List.getElem?_cons_succ]
      rw [e]
section RX
variable {μ0 : Mm} {o r it ms mi bn kn : Nat} {b : Nat → Nat} {N : NT} {nt : Nat} {kd ty : Nat → Nat}
def RVC (μ0 : Mm) (o r it ms kn bn : Nat) (b : Nat → Nat) (kd ty : Nat → Nat) (N : NT) (nt d : Nat) : Prop := ∀ (t δ p n : Nat) (f : Nat → Int32) (post : Mm → Prop), t < nt → t < d → δ + t < 16 → p ≤ bn → n ≤ 240 → RQ μ0 o r it kn bn (rV N b bn kn d t p) n f post → wr_X1_getValue kd d o (some (ty t)) ms (nI δ) (rS μ0 o r it kn p (-1) n f) post
theorem r_list (hR : RB μ0 o r it ms mi bn b) (hN : NWf N nt) {t δ d h : Nat} (ht : t < nt) (hC : 0 < nC N t) (hT : TyC kd ty N μ0 t) (hd : t < d + 1) (hδ : δ + t < 16) (hh : h ≤ 3000) (ih : RVC μ0 o r it ms kn bn b kd ty N nt d) {post : Mm → Prop} : ∀ (j i p n : Nat) (f : Nat → Int32), i + j = h → p ≤ bn → n ≤ 240 →
    RQ μ0 o r it kn bn (rptT (rV N b bn kn d (nP N t 0)) j p) n f post → wb_X1_getValue_93 o kd (wr_X1_getValue kd d) post (j + 1) (ty t) ms (nI δ) (nI h) (nI i) (rS μ0 o r it kn p (-1) n f) := by
  obtain ⟨pr, pi, pn, pf, om, ar, ai, an, af, fb, mb, mn, h1, h2, h3, h4, h5, h6, h7, h8, h9, h10⟩ := hT
  have hP := (hN t ht).2.2.2.1 0 hC
  have hbn : bn ≤ 240 := hR.2.2.2.2.2.1
  intro j
  induction j with
  | zero =>
    intro i p n f hi hp hn hq
    refine ⟨fun _ => hq.1 p [] rfl hp n f (Ex.nil hn), fun h => ?_⟩
    rw [q_le (by omega) (by omega)] at h; omega
  | succ j ihj =>
    intro i p n f hi hp hn hq
    refine ⟨fun h => ?_, fun _ => ⟨_, _, rS_o, rfl, fun h => absurd rfl h, fun _ => ⟨_, _, rS_T hR h1, rfl, ⟨_, rS_R hR h2⟩, t_at (rS_R hR h2) (rS_A hR h3) h4 (by omega) hC ⟨⟨_, rS_o⟩, ?_⟩⟩⟩⟩
    · rw [q_le (by omega) (by omega)] at h; omega
    · rw [h6 0 hC, ← nI_succ]
      refine ih (nP N t 0) (δ + 1) p n f _ (by omega) (by omega) (by omega) hp hn ⟨fun p' bs hv hp' n' f' hx => ?_, fun q hv hq' p' n' f' hn' => ?_⟩
      · rw [← nI_succ]
        exact ihj (i + 1) p' n' f' (by omega) hp' hx.1 (hq.go hv hx)
      · have hpost := hq.no hv hq' p' n' f' hn'
        exact ⟨fun _ => hpost, fun _ => ⟨_, _, rS_o, rfl, fun _ => hpost, fun h => absurd h (q_nw (by omega))⟩⟩
theorem r_skip (hR : RB μ0 o r it ms mi bn b) {p n len : Nat} {f : Nat → Int32} {post : Mm → Prop} (hp : p ≤ bn) (hl : len < 1000) (hg : p + len ≤ bn → post (rS μ0 o r it kn (p + len) (-1) n f)) (hb : bn < p + len → post (rS μ0 o r it kn p (nI bn) n f)) : wp_X1_skip o (nI len) ms (rS μ0 o r it kn p (-1) n f) post := by
  have hbn : bn ≤ 240 := hR.2.2.2.2.2.1
  refine ⟨_, _, rS_o, rfl, fun h => absurd rfl h, fun _ => ⟨⟨_, rS_ms hR⟩, k_size (rS_ms hR) ⟨_, _, rS_o, rfl, fun h => ⟨_, _, rS_o, rfl, fun h => absurd rfl h, fun _ => ⟨_, _, rS_o, rfl, _, rS_o, by simp, fun μ e => ?_⟩⟩, fun h => ⟨⟨_, rS_ms hR⟩, k_size (rS_ms hR) ⟨_, rS_o, by simp, fun μ e => ?_⟩⟩⟩⟩⟩
  · subst e
    rw [q_sub hp, q_le (by omega) (by omega)] at h
    show post (ups (rS μ0 o r it kn p (-1) n f) o (eO 0 [.ref r, .int (nI kn), .int (nI p + nI len), .int (-1)]))
    rw [nI_add, rS_pw]; exact hg (by omega)
  · subst e
    rw [q_sub hp, q_le (by omega) (by omega)] at h
    show wb_X1_skip_29 o post (nI len) (ups (rS μ0 o r it kn p (-1) n f) o (eO 0 [.ref r, .int (nI kn), .int (nI p), .int (nI bn)]))
    rw [rS_pw]
    exact ⟨_, _, rS_o, rfl, fun _ => hb (by omega), fun h => absurd h (q_nw (by omega))⟩
theorem r_skip_wr {p n : Nat} {x z : Int32} {f : Nat → Int32} {post : Mm → Prop} (hz : z ≠ -1) (hp : post (rS μ0 o r it kn p z n f)) : wp_X1_skip o x ms (rS μ0 o r it kn p z n f) post :=
  ⟨_, _, rS_o, rfl, fun _ => ⟨_, _, rS_o, rfl, fun _ => hp, fun h => absurd h hz⟩, fun h => absurd h hz⟩
theorem r_add_wr {d : Nat} {x : Option Nat} {p n : Nat} {x2 x4 z : Int32} {f : Nat → Int32} {post : Mm → Prop} (hd : 0 < d) (hz : z ≠ -1) (hp : post (rS μ0 o r it kn p z n f)) : wp_X1_getAddition o kd (wr_X1_getValue kd d) x x2 ms x4 (rS μ0 o r it kn p z n f) post :=
  ⟨_, _, rS_o, rfl, ⟨_, rS_o⟩, r_wr hd hz ⟨_, _, rS_o, rfl, fun _ => hp, fun h => absurd h hz⟩⟩
theorem r_add (hR : RB μ0 o r it ms mi bn b) {c δ d p n len : Nat} (hc : c < nt) (hd : c < d) (hδ : δ + 1 + c < 16) (ih : RVC μ0 o r it ms kn bn b kd ty N nt d) {f : Nat → Int32} {post : Mm → Prop} (hp : p ≤ bn) (hn : n ≤ 240) (hl : len < 256)
    (hq : RQ μ0 o r it kn bn (ckT p len (rV N b bn kn d c p)) n f post) : wp_X1_getAddition o kd (wr_X1_getValue kd d) (some (ty c)) (nI len) ms (nI δ) (rS μ0 o r it kn p (-1) n f) post := by
  have hbn : bn ≤ 240 := hR.2.2.2.2.2.1
  refine ⟨_, _, rS_o, rfl, ⟨_, rS_o⟩, ?_⟩
  rw [← nI_succ]
  refine ih c (δ + 1) p n f _ hc hd hδ hp hn ⟨fun p' bs hv hp' n2 f2 hx2 => ⟨_, _, rS_o, rfl, fun h => absurd rfl h, fun _ => ⟨_, _, rS_o, rfl, fun h => ?_, fun h => ⟨_, rS_o, by simp, fun μ e => ?_⟩⟩⟩, fun q hv hq' p' n2 f2 hn2 => ⟨_, _, rS_o, rfl, fun _ => hq.2 q (by rw [hv]; rfl) hq' p' n2 f2 hn2, fun h => absurd h (q_nw (by omega))⟩⟩
  · rw [q_subeq (by omega) (by omega) (by omega)] at h
    exact hq.1 p' bs (by rw [hv]; simp only [ckT, if_pos h]) hp' n2 f2 hx2
  · rw [q_subeq (by omega) (by omega) (by omega)] at h
    subst e
    show post (ups (rS μ0 o r it kn p' (-1) n2 f2) o (eO 0 [.ref r, .int (nI kn), .int (nI p'), .int (nI p)]))
    rw [rS_pw]
    exact hq.2 p (by rw [hv]; simp only [ckT, if_neg h]) hp p' n2 f2 hx2.1
theorem r_adds (hR : RB μ0 o r it ms mi bn b) (hN : NWf N nt) {t δ d a : Nat} (hkn : kn ≤ 3) (ht : t < nt) (hT : TyC kd ty N μ0 t) (hd : t < d + 1) (hδ : δ + t < 16) (ha : a ≤ nA N t) (ih : RVC μ0 o r it ms kn bn b kd ty N nt d) {post : Mm → Prop} : ∀ (i j p n : Nat) (f : Nat → Int32), j + i = a → p ≤ bn → n ≤ 240 →
    RQ μ0 o r it kn bn (adR (rV N b bn kn d) N b bn kn t i j p) n f post → wb_X1_getAdditions_3 o kd (wr_X1_getValue kd d) post (i + 1) (ty t) (nI a) ms (nI δ) (nI j) (rS μ0 o r it kn p (-1) n f) := by
  obtain ⟨pr, pi, pn, pf, om, ar, ai, an, af, fb, mb, mn, h1, h2, h3, h4, h5, h6, h7, h8, h9, h10, h11, h12⟩ := hT
  have hwf := hN t ht
  have hbn : bn ≤ 240 := hR.2.2.2.2.2.1
  intro i
  induction i with
  | zero =>
    intro j p n f hj hp hn hq
    refine ⟨fun _ => hq.1 p [] rfl hp n f (Ex.nil hn), fun h => ?_⟩
    rw [q_le (by omega) (by omega)] at h; omega
  | succ i ihi =>
    intro j p n f hj hp hn hq
    have hD := hwf.2.2.2.2.1 j (by omega)
    have wr : ∀ (q p' n' : Nat) (f' : Nat → Int32) (y : Int32), q ≤ bn → post (rS μ0 o r it kn p' (nI q) n' f') → wb_X1_getAdditions_3 o kd (wr_X1_getValue kd d) post (i + 1) (ty t) (nI a) ms (nI δ) y (rS μ0 o r it kn p' (nI q) n' f') := fun q p' n' f' y hq' hpost => ⟨fun _ => hpost, fun _ => ⟨_, _, rS_o, rfl, fun _ => hpost, fun h => absurd h (q_nw (by omega))⟩⟩
    refine ⟨fun h => ?_, fun _ => ⟨_, _, rS_o, rfl, fun h => absurd rfl h, fun _ => ⟨⟨_, rS_o⟩, r_next hR (w := 8) (bd := 256) hp (by omega) (q_bd (bd := 256) (by omega) (by omega)) (fun p1 len hv hp1 => ⟨_, _, rS_o, rfl, fun hk => ⟨⟨_, rS_o⟩, ?_⟩, fun hk => ⟨_, _, rS_T hR h1, rfl, ⟨_, rS_R hR h8⟩, t_at (rS_R hR h8) (rS_A hR h9) h10 (by omega) (by omega) ⟨⟨_, rS_o⟩, ?_⟩⟩⟩) (fun q hv hq' => ⟨_, _, rS_o, rfl, fun hk => ⟨⟨_, rS_o⟩, ?_⟩, fun hk => ⟨_, _, rS_T hR h1, rfl, ⟨_, rS_R hR h8⟩, t_at (rS_R hR h8) (rS_A hR h9) h10 (by omega) (by omega) ⟨⟨_, rS_o⟩, ?_⟩⟩⟩)⟩⟩⟩
    · rw [q_le (by omega) (by omega)] at h; omega
    · rw [q_le (by omega) (by omega)] at hk
      have hl : len < 256 := by
        unfold tkB at hv
        split at hv
        · cases hv
        · split at hv
          · cases hv; assumption
          · cases hv
      refine r_skip hR hp1 (by omega) (fun hle => ?_) (fun hlt => ?_)
      · have e : ad1 (rV N b bn kn d) N b bn kn t j p = .inr (p1 + len, []) := by
          unfold ad1; rw [hv]; simp only []; rw [if_neg (by omega), if_neg (by omega)]
        rw [← nI_succ]
        exact ihi (j + 1) (p1 + len) n f (by omega) hle hn (hq.go e (Ex.nil hn))
      · have e : ad1 (rV N b bn kn d) N b bn kn t j p = .inl bn := by
          unfold ad1; rw [hv]; simp only []; rw [if_neg (by omega), if_pos hlt]
        exact wr bn p1 n f _ (Nat.le_refl _) (hq.no e (Nat.le_refl _) p1 n f hn)
    · rw [q_le (by omega) (by omega)] at hk
      have hl : len < 256 := by
        unfold tkB at hv
        split at hv
        · cases hv
        · split at hv
          · cases hv; assumption
          · cases hv
      rw [h12 j (by omega)]
      have e : ad1 (rV N b bn kn d) N b bn kn t j p = ckT p1 len (rV N b bn kn d (nD N t j) p1) := by
        unfold ad1; rw [hv]; simp only []; rw [if_pos (by omega)]
      refine r_add hR (c := nD N t j) (by omega) (by omega) (by omega) ih hp1 hn hl ⟨fun p' l hr hp' n' f' hx => ?_, fun q hr hq' p' n' f' hn' => ?_⟩
      · rw [← nI_succ]
        exact ihi (j + 1) p' n' f' (by omega) hp' hx.1 (hq.go (e.trans hr) hx)
      · exact wr q p' n' f' _ hq' (hq.no (e.trans hr) hq' p' n' f' hn')
    · have e : ad1 (rV N b bn kn d) N b bn kn t j p = .inl q := by unfold ad1; rw [hv]
      exact r_skip_wr (q_nw (by omega)) (wr q p n f _ hq' (hq.no e hq' p n f hn))
    · have e : ad1 (rV N b bn kn d) N b bn kn t j p = .inl q := by unfold ad1; rw [hv]
      exact r_add_wr (by omega) (q_nw (by omega)) (wr q p n f _ hq' (hq.no e hq' p n f hn))
theorem r_parts_wr2 (hR : RB μ0 o r it ms mi bn b) {t : Nat} (hC6 : nC N t ≤ 6) (hT : TyC kd ty N μ0 t) {d : Nat} {x3 v4 m ci : Int32} {p n : Nat} {z : Int32} {f : Nat → Int32} {post : Mm → Prop} (hd : 0 < d) (hz : z ≠ -1) (hp : wb_X1_getSequence_46 o kd (wr_X1_getValue kd d) post 1 (ty t) ms x3 v4 m ci (nI (nC N t)) (rS μ0 o r it kn p z n f)) : ∀ (j k : Nat), k + j = nC N t → wb_X1_getSequence_46 o kd (wr_X1_getValue kd d) post (j + 1) (ty t) ms x3 v4 m ci (nI k) (rS μ0 o r it kn p z n f) := by
  obtain ⟨pr, pi, pn, pf, om, ar, ai, an, af, fb, mb, mn, h1, h2, h3, h4, h5, h6, h7, h8, h9, h10, h11, h12⟩ := hT
  intro j
  induction j with
  | zero =>
    intro k hk
    have : k = nC N t := by omega
    subst this; exact hp
  | succ j ih =>
    intro k hk
    have hk1 := ih (k + 1) (by omega)
    rw [nI_succ] at hk1
    refine ⟨_, _, rS_T hR h1, rfl, ⟨_, rS_R hR h2⟩, t_size (rS_R hR h2) ⟨fun h => ?_, fun _ => ⟨fun _ => hk1, fun _ => ⟨_, _, rS_T hR h1, rfl, ⟨_, rS_R hR h2⟩, t_at (rS_R hR h2) (rS_A hR h3) h4 (by omega) (by omega) ⟨⟨_, rS_o⟩, r_wr hd hz hk1⟩⟩⟩⟩⟩
    rw [q_le (by omega) (by omega)] at h; omega
theorem r_parts (hR : RB μ0 o r it ms mi bn b) (hN : NWf N nt) {t δ d : Nat} {v4 m ci : Int32} (ht : t < nt) (hC : 0 < nC N t) (hT : TyC kd ty N μ0 t) (hd : t < d + 1) (hδ : δ + t < 16) (ih : RVC μ0 o r it ms kn bn b kd ty N nt d) {post : Mm → Prop} : ∀ (j k p n : Nat) (f : Nat → Int32), k + j = nC N t → p ≤ bn → n ≤ 240 →
    RQ μ0 o r it kn bn (ptT (rV N b bn kn d) N t m j k p) n f (fun μ => wb_X1_getSequence_46 o kd (wr_X1_getValue kd d) post 1 (ty t) ms (nI δ) v4 m ci (nI (nC N t)) μ) → wb_X1_getSequence_46 o kd (wr_X1_getValue kd d) post (j + 1) (ty t) ms (nI δ) v4 m ci (nI k) (rS μ0 o r it kn p (-1) n f) := by
  have hT0 := hT
  obtain ⟨pr, pi, pn, pf, om, ar, ai, an, af, fb, mb, mn, h1, h2, h3, h4, h5, h6, h7, h8, h9, h10, h11, h12⟩ := hT
  have hwf := hN t ht
  have hbn : bn ≤ 240 := hR.2.2.2.2.2.1
  have hP0 := hwf.2.2.2.1 0 hC
  intro j
  induction j with
  | zero =>
    intro k p n f hk hp hn hq
    have : k = nC N t := by omega
    subst this
    exact hq.1 p [] rfl hp n f (Ex.nil hn)
  | succ j ihj =>
    intro k p n f hk hp hn hq
    have hP := hwf.2.2.2.1 k (by omega)
    refine ⟨_, _, rS_T hR h1, rfl, ⟨_, rS_R hR h2⟩, t_size (rS_R hR h2) ⟨fun h => ?_, fun _ => ⟨fun h0 => ?_, fun h0 => ⟨_, _, rS_T hR h1, rfl, ⟨_, rS_R hR h2⟩, t_at (rS_R hR h2) (rS_A hR h3) h4 (by omega) (by omega) ⟨⟨_, rS_o⟩, ?_⟩⟩⟩⟩⟩
    · rw [q_le (by omega) (by omega)] at h; omega
    · have hm : ¬ msk m k = 1 := h0
      unfold ptT at hq
      rw [if_neg hm] at hq
      rw [← nI_succ]
      exact ihj (k + 1) p n f (by omega) hp hn hq
    · have hm : msk m k = 1 := h0
      unfold ptT at hq
      rw [if_pos hm] at hq
      rw [h6 k (by omega), ← nI_succ]
      refine ih (nP N t k) (δ + 1) p n f _ (by omega) (by omega) (by omega) hp hn ⟨fun p' bs hv hp' n' f' hx => ?_, fun q hv hq' p' n' f' hn' => ?_⟩
      · rw [← nI_succ]
        exact ihj (k + 1) p' n' f' (by omega) hp' hx.1 (hq.go hv hx)
      · rw [← nI_succ]
        exact r_parts_wr2 hR (by omega) hT0 (by omega) (q_nw (by omega)) (hq.no hv hq' p' n' f' hn') j (k + 1) (by omega)
end RX
/-! THE CLASS'S READER: a sequence, a value; the walks -/
theorem tkB_le {b : Nat → Nat} {bn w p bd p' v : Nat} (h : tkB b bn w p bd = .inr (p', v)) : v < bd ∧ p' = p + w ∧ p' ≤ bn := by
  unfold tkB at h
  split at h
  · cases h
  · split at h
    · cases h; exact ⟨by assumption, rfl, by omega⟩
    · cases h
section RV
variable {μ0 : Mm} {o r it ms mi bn kn : Nat} {b : Nat → Nat} {N : NT} {nt : Nat} {kd ty : Nat → Nat}
theorem r_seq (hR : RB μ0 o r it ms mi bn b) (hN : NWf N nt) {t δ d p n : Nat} (hkn : kn ≤ 3) (ht : t < nt) (hk2 : nK N t = 2) (hT : TyC kd ty N μ0 t) (hd : t < d + 1) (hδ : δ + t < 16) (ih : RVC μ0 o r it ms kn bn b kd ty N nt d) {f : Nat → Int32} {post : Mm → Prop} (hp : p ≤ bn) (hn : n ≤ 240)
    (hq : RQ μ0 o r it kn bn (sqR (rV N b bn kn d) N b bn kn t p) n f post) : wp_X1_getSequence o kd (wr_X1_getValue kd d) (ty t) ms (nI δ) (rS μ0 o r it kn p (-1) n f) post := by
  have hT0 := hT
  obtain ⟨pr, pi, pn, pf, om, ar, ai, an, af, fb, mb, mn, h1, h2, h3, h4, h5, h6, h7, h8, h9, h10, h11, h12⟩ := hT
  have hwf := hN t ht
  have hbn : bn ≤ 240 := hR.2.2.2.2.2.1
  have hC : 0 < nC N t := (hwf.2.2.2.2.2.2.2.1 hk2).2.2
  have hP0 := hwf.2.2.2.1 0 hC
  unfold sqR at hq
  refine ⟨⟨_, rS_o⟩, r_next hR (w := 1) (bd := 2) hp (by omega) (q_bd (bd := 2) (by omega) (by omega)) (fun p1 ha hv hp1 => ?_) (fun q hv hq' => ⟨fun _ => ?_, fun h => absurd h (by decide)⟩)⟩
  · rw [hv] at hq
    simp only [] at hq
    have ha2 := (tkB_le hv).1
    have go : wb_X1_getSequence_16 o kd (wr_X1_getValue kd d) post (ty t) ms (nI δ) (nI ha) (rS μ0 o r it kn p1 (-1) n f) := by
      refine ⟨⟨_, rS_o⟩, nC N t + 1, r_flags hR hN ht hk2 hT0 (nC N t) 0 n 0 p1 f (by omega) hp1 hn (fun p2 m fl hf hp2 n1 f1 hx1 => ?_) (fun q hf hq' m p' n' f' hn' => ?_)⟩
      · rw [hf] at hq
        simp only [] at hq
        refine ⟨_, _, rS_o, rfl, ⟨_, rS_r hR⟩, k_size (rS_r hR) ⟨_, _, rS_o, rfl, ⟨_, rS_r hR⟩, rx_app hR hx1.1 (fun n2 f2 hx2 => ⟨nC N t + 1, ?_⟩)⟩⟩
        refine r_parts hR hN ht hC hT0 hd hδ ih (nC N t) 0 p2 n2 f2 (by omega) hp2 hx2.1 ⟨fun p3 pl hpl hp3 n3 f3 hx3 => ?_, fun q hpl hq' p' n' f' hn' => ?_⟩
        · rw [hpl] at hq
          simp only [] at hq
          have hxx : Ex n f (fl ++ nI 0 :: pl) n3 f3 := by
            have := (hx1.app hx2).app hx3
            rw [List.append_assoc] at this
            exact this
          refine ⟨_, _, rS_T hR h1, rfl, ⟨_, rS_R hR h2⟩, t_size (rS_R hR h2) ⟨fun _ => ⟨fun hz => ?_, fun hz => ⟨_, _, rS_T hR h1, rfl, ⟨_, rS_R hR h8⟩, t_size (rS_R hR h8) ⟨⟨_, rS_o⟩, r_next hR (w := 2) (bd := nA N t) hp3 (by omega) ?_ (fun p4 v hv2 hp4 => ?_) (fun q hv2 hq' => ?_)⟩⟩⟩, fun h => absurd (by rw [q_le (by omega) (by omega)]; omega) h⟩⟩
          · rw [show (0 : Int32) = nI 0 from rfl, q_eq (by omega) (by omega)] at hz
            rw [if_pos hz] at hq
            exact hq.1 p3 _ rfl hp3 n3 f3 hxx
          · intro v hv4
            by_cases h0 : nA N t = 0
            · rw [h0, q_l1, q_dec0]
              constructor
              · intro h
                have e1 : (-nI 1 : Int32).toInt = -1 := by decide
                rw [Int32.le_iff_toInt_le, e1, nI_toInt (by omega)] at h; omega
              · intro h; omega
            · rw [q_l1, q_sub (by omega), q_le (by omega) (by omega)]; omega
          · rw [show (0 : Int32) = nI 0 from rfl, q_eq (by omega) (by omega)] at hz
            rw [if_neg hz, hv2] at hq
            simp only [] at hq
            have hvA := (tkB_le hv2).1
            have emin : (if nI kn < (1 : Int32) + nI v then nI kn else (1 : Int32) + nI v) = nI (min kn (v + 1)) := by
              rw [q_l1, nI_add]
              by_cases hlt : kn < 1 + v
              · rw [if_pos (by rw [q_lt (by omega) (by omega)]; exact hlt), Nat.min_eq_left (by omega)]
              · rw [if_neg (by rw [q_lt (by omega) (by omega)]; exact hlt), Nat.min_eq_right (by omega)]; congr 1; omega
            refine ⟨_, _, rS_o, rfl, _, _, rS_o, rfl, ⟨_, rS_r hR⟩, ?_⟩
            rw [emin]
            refine k_replaceA (rS_r hR) (rS_i hR) hx3.1 (by omega) (fun f4 hf4 => ?_)
            rw [rS_pi hR]
            have hx4 : Ex n f (fl ++ nI (min kn (v + 1)) :: pl) n3 f4 := by
              refine ⟨hx3.1, fun hroom => ?_⟩
              rw [List.length_append, List.length_cons] at hroom
              obtain ⟨g1, g2⟩ := hxx.2 (by rw [List.length_append, List.length_cons]; omega)
              rw [List.length_append, List.length_cons] at g1
              obtain ⟨g3, g4⟩ := hx1.2 (by omega)
              refine ⟨by rw [List.length_append, List.length_cons]; omega, ?_⟩
              rw [hf4 (n + fl.length) (by omega) (by rw [g3]), g2, apL_mid]
            refine ⟨⟨_, rS_o⟩, v + 1 + 1, ?_⟩
            rw [q_l1, nI_add, Nat.add_comm 1 v]
            exact r_adds hR hN hkn ht hT0 hd hδ (by omega) ih (v + 1) 0 p4 n3 f4 (by omega) hp4 hx3.1 (hq.go rfl hx4)
          · rw [show (0 : Int32) = nI 0 from rfl, q_eq (by omega) (by omega)] at hz
            rw [if_neg hz, hv2] at hq
            refine ⟨_, _, rS_o, rfl, _, _, rS_o, rfl, ⟨_, rS_r hR⟩, k_replaceA (rS_r hR) (rS_i hR) hx3.1 (by omega) (fun f4 hf4 => ?_)⟩
            rw [rS_pi hR]
            have hpost := hq.2 q rfl hq' p3 n3 f4 hx3.1
            exact ⟨⟨_, rS_o⟩, 1, fun _ => hpost, fun _ => ⟨_, _, rS_o, rfl, fun _ => hpost, fun h => absurd h (q_nw (by omega))⟩⟩
        · rw [hpl] at hq
          exact r_parts_wr hR hN ht hT0 (by omega) (q_nw (by omega)) (fun n'' f'' h'' => hq.2 q rfl hq' p' n'' f'' h'') 0 (nC N t) n' f' (by omega) hn'
      · rw [hf] at hq
        exact ⟨_, _, rS_o, rfl, ⟨_, rS_r hR⟩, k_size (rS_r hR) ⟨_, _, rS_o, rfl, ⟨_, rS_r hR⟩, rx_app hR hn' (fun n2 f2 hx => ⟨nC N t + 1, r_parts_wr hR hN ht hT0 (by omega) (q_nw (by omega)) (fun n'' f'' h'' => hq.2 q rfl hq' p' n'' f'' h'') (nC N t) 0 n2 f2 (by omega) hx.1⟩)⟩⟩
    refine ⟨fun h => ?_, fun h => ?_⟩
    · have e : ha = 0 := by
        by_cases e1 : ha = 1
        · subst e1; exact absurd rfl h
        · omega
      subst e; exact go
    · have e : ha = 1 := by
        rw [q_l1, q_eq (by omega) (by omega)] at h; exact h
      subst e; exact go
  · rw [hv] at hq
    exact r_16_wr hR hN ht hk2 hT0 (by omega) (q_nw (by omega)) hn (fun n' f' hn' => hq.2 q rfl hq' p n' f' hn')
theorem r_val (hR : RB μ0 o r it ms mi bn b) (hN : NWf N nt) (hkn : kn ≤ 3) (hkd : ∀ i j, i < 4 → j < 4 → kd i = kd j → i = j) (hTs : ∀ t, t < nt → TyC kd ty N μ0 t) : ∀ d, RVC μ0 o r it ms kn bn b kd ty N nt d := by
  intro d
  have hbn : bn ≤ 240 := hR.2.2.2.2.2.1
  induction d with
  | zero => intro t δ p n f post _ h; omega
  | succ d ih =>
    intro t δ p n f post ht hd hδ hp hn hq
    have hT0 := hTs t ht
    obtain ⟨pr, pi, pn, pf, om, ar, ai, an, af, fb, mb, mn, h1, h2, h3, h4, h5, h6, h7, h8, h9, h10, h11, h12⟩ := hTs t ht
    have hwf := hN t ht
    have hK : nK N t < 4 := by omega
    have hsp := hN.span ht
    have hW11 := wdN_le (nV N t)
    refine ⟨_, _, rS_o, rfl, fun _ => ⟨fun h => (by cases h), fun a7 ha7 => ?_⟩, fun h => absurd rfl h⟩
    cases ha7
    refine ⟨fun _ => ⟨_, _, rS_T hR h1, rfl, fun hk => ?_, fun hk => ?_⟩, fun h => absurd (by rw [q_l16, q_lt (by omega) (by omega)]; omega) h⟩
    · rw [q_kd hkd hK (by omega)] at hk
      unfold rV at hq
      rw [if_neg hk] at hq
      have hbd : ∀ v, v < 4096 → (nI v ≤ nhi N t - nlo N t ↔ v < nV N t) := by
        intro v hv
        have e : nhi N t - nlo N t = nI (nV N t - 1) := by
          have h9 : nhi N t - nlo N t + 1 - 1 = nI (nV N t) - 1 := by rw [hsp.1]
          rw [Int32.add_sub_cancel] at h9
          rw [h9, q_l1, q_sub (by omega)]
        rw [e, q_le (by omega) (by omega)]; omega
      refine ⟨_, _, rS_T hR h1, rfl, _, _, rS_T hR h1, rfl, _, _, rS_T hR h1, rfl, _, _, rS_T hR h1, rfl, ⟨_, rS_o⟩, r_next hR (bd := nV N t) hp (by unfold nW; omega) hbd (fun p1 v hv hp1 => ⟨_, _, rS_o, rfl, ⟨_, rS_r hR⟩, rx_app hR hn (fun n1 f1 hx1 => ⟨_, _, rS_T hR h1, rfl, fun hk1 => ⟨_, _, rS_T hR h1, rfl, fun hk3 => ?_, fun hk3 => ?_⟩, fun hk1 => ?_⟩)⟩) (fun q hv hq' => ⟨_, _, rS_o, rfl, ⟨_, rS_r hR⟩, rx_app hR hn (fun n1 f1 hx1 => ?_)⟩)⟩
      · rw [q_kd hkd hK (by omega)] at hk1 hk3
        rw [hv] at hq
        have hq1 := hq.go rfl hx1
        rw [if_neg hk1, if_neg hk3] at hq1
        exact hq1.1 p1 [] rfl hp1 n1 f1 (Ex.nil hx1.1)
      · rw [q_kd hkd hK (by omega)] at hk1 hk3
        rw [hv] at hq
        have hq1 := hq.go rfl hx1
        rw [if_neg hk1, if_pos hk3] at hq1
        obtain ⟨e1, e2, e3⟩ := hwf.2.2.2.2.2.2.2.2 hk3
        have hv1 := (tkB_le hv).1
        unfold nV at hv1
        rw [if_pos hk3] at hv1
        rw [e1, nI_add, Nat.zero_add] at hq1
        rw [nI_clamp (by omega)] at hq1
        refine ⟨_, _, rS_T hR h1, rfl, ⟨_, rS_R hR h2⟩, ?_⟩
        rw [e1, nI_add, Nat.zero_add]
        refine t_at (rS_R hR h2) (rS_A hR h3) h4 (by omega) hv1 ⟨⟨_, rS_o⟩, ?_⟩
        have hP := hwf.2.2.2.1 v hv1
        rw [h6 v hv1, ← nI_succ]
        exact ih (nP N t v) (δ + 1) p1 n1 f1 post (by omega) (by omega) (by omega) hp1 hx1.1 hq1
      · rw [q_kd hkd hK (by omega)] at hk1
        rw [hv] at hq
        have hq1 := hq.go rfl hx1
        rw [if_pos hk1] at hq1
        obtain ⟨e0, a, c, ea, ec, hab, hc8⟩ := hwf.2.2.2.2.2.2.1 hk1
        have hv1 := (tkB_le hv).1
        rw [ea, nI_add] at hq1 ⊢
        rw [nI_clamp (by omega)] at hq1
        exact ⟨a + v + 1, r_list hR hN ht (by omega) hT0 hd hδ (by have := hsp.2.1; omega) ih (a + v) 0 p1 n1 f1 (by omega) hp1 hx1.1 hq1⟩
      · rw [hv] at hq
        have hpost := hq.2 q rfl hq' p n1 f1 hx1.1
        refine ⟨_, _, rS_T hR h1, rfl, fun hk1 => ⟨_, _, rS_T hR h1, rfl, fun hk3 => hpost, fun hk3 => ?_⟩, fun hk1 => ?_⟩
        · rw [q_kd hkd hK (by omega)] at hk3
          obtain ⟨e1, e2, e3⟩ := hwf.2.2.2.2.2.2.2.2 hk3
          have hP := hwf.2.2.2.1 0 (by omega)
          refine ⟨_, _, rS_T hR h1, rfl, ⟨_, rS_R hR h2⟩, ?_⟩
          rw [e1, show (nI 0 + 0 : Int32) = nI 0 by decide]
          exact t_at (rS_R hR h2) (rS_A hR h3) h4 (by omega) (by omega) ⟨⟨_, rS_o⟩, r_wr (by omega) (q_nw (by omega)) hpost⟩
        · exact ⟨1, fun _ => hpost, fun _ => ⟨_, _, rS_o, rfl, fun _ => hpost, fun h => absurd h (q_nw (by omega))⟩⟩
    · rw [q_kd hkd hK (by omega)] at hk
      unfold rV at hq
      rw [if_pos hk] at hq
      exact ⟨⟨_, rS_o⟩, r_seq hR hN hkn ht hk hT0 hd hδ ih hp hn hq⟩
/-- the reader's walk -/
theorem r_walk (hR : RB μ0 o r it ms mi bn b) (hN : NWf N nt) (hnt : nt ≤ 16) (hkn : kn ≤ 3) (hkd : ∀ i j, i < 4 → j < 4 → kd i = kd j → i = j) (hTs : ∀ t, t < nt → TyC kd ty N μ0 t) {t k0 p0 n0 : Nat} {z0 : Int32} {f0 : Nat → Int32} (ht : t < nt) (hn0 : n0 ≤ 240) {post : Int32 → Mm → Prop}
    (hg : ∀ p' l, rV N b bn kn 17 t 0 = .inr (p', l) → p' ≤ bn → ∀ n' f', Ex 0 f0 l n' f' → post (if bn ≤ p' then -1 else nI p') (rS μ0 o r it kn p' (if bn ≤ p' then -1 else nI p') n' f'))
    (hb : ∀ q, rV N b bn kn 17 t 0 = .inl q → q ≤ bn → ∀ p n' f', n' ≤ 240 → post (nI q) (rS μ0 o r it kn p (nI q) n' f')) : wp_X1_walk o kd (ty t) ms (nI kn) (rS μ0 o r it k0 p0 z0 n0 f0) post := by
  have hbn : bn ≤ 240 := hR.2.2.2.2.2.1
  refine ⟨_, _, rS_o, rfl, ⟨_, rS_r hR⟩, k_keepFirst (m := 0) (rS_r hR) (by omega) (by omega) ?_⟩
  rw [rS_pn hR]
  refine ⟨_, rS_o, by simp, fun μ10 e => ?_⟩
  have e1 : μ10 = rS μ0 o r it kn p0 z0 0 f0 := by rw [e]; exact q_ups_ss
  clear e; subst e1
  refine ⟨_, rS_o, by simp, fun μ15 e => ?_⟩
  have e1 : μ15 = rS μ0 o r it kn 0 z0 0 f0 := by rw [e]; exact q_ups_ss
  clear e; subst e1
  refine ⟨_, rS_o, by simp, fun μ20 e => ?_⟩
  have e1 : μ20 = rS μ0 o r it kn 0 (-1) 0 f0 := by rw [e]; exact q_ups_ss
  clear e; subst e1
  refine ⟨⟨_, rS_o⟩, r_val hR hN hkn hkd hTs 17 t 0 0 0 f0 _ ht (by omega) (by omega) (by omega) (by omega) ⟨fun p' l hv hp' n' f' hx => ⟨_, _, rS_o, rfl, fun h => absurd rfl h, fun _ => ⟨_, _, rS_o, rfl, ⟨_, rS_ms hR⟩, k_size (rS_ms hR) ⟨fun h => ?_, fun h => ?_⟩⟩⟩, fun q hv hq p n' f' hn' => ⟨_, _, rS_o, rfl, fun _ => ⟨_, _, rS_o, rfl, hb q hv hq p n' f' hn'⟩, fun h => absurd h (q_nw (by omega))⟩⟩⟩
  · rw [q_le (by omega) (by omega)] at h
    have := hg p' l hv hp' n' f' hx
    rw [if_pos h] at this
    exact ⟨_, _, rS_o, rfl, this⟩
  · rw [q_le (by omega) (by omega)] at h
    have := hg p' l hv hp' n' f' hx
    rw [if_neg h] at this
    refine ⟨_, _, rS_o, rfl, _, rS_o, by simp, fun μ51 e => ?_⟩
    have e1 : μ51 = rS μ0 o r it kn p' (nI p') n' f' := by rw [e]; exact q_ups_ss
    clear e; subst e1
    exact ⟨_, _, rS_o, rfl, this⟩
end RV
/-- the writer's walk -/
theorem w_walk {μ0 : Mm} {o r it ta ti tn : Nat} {T : Nat → Int32} {N : NT} {nt : Nat} {kd ty : Nat → Nat} (hW : WB μ0 o r it ta ti tn T) (hN : NWf N nt) (hnt : nt ≤ 16) (hkd : ∀ i j, i < 4 → j < 4 → kd i = kd j → i = j) (hTs : ∀ t, t < nt → TyC kd ty N μ0 t) {t p0 n0 : Nat} {z0 : Int32} {f0 : Nat → Int32} (ht : t < nt) (hn0 : n0 ≤ 240) {post : Int32 → Mm → Prop}
    (hg : ∀ p' bs, vT N T tn 17 t 0 = .inr (p', bs) → p' ≤ 300 → ∀ n' f', Ex 0 f0 bs n' f' → post (if tn ≤ p' then -1 else nI p') (wS μ0 o r it p' (if tn ≤ p' then -1 else nI p') n' f'))
    (hb : ∀ q, vT N T tn 17 t 0 = .inl q → q ≤ 300 → ∀ n' f', n' ≤ 240 → post (nI q) (wS μ0 o r it q (nI q) n' f')) : wp_X5_walk o kd (ty t) ta (wS μ0 o r it p0 z0 n0 f0) post := by
  have htn : tn ≤ 300 := hW.2.2.2.2.2.1
  refine ⟨_, _, wS_o, rfl, ⟨_, wS_r hW⟩, k_keepFirst (m := 0) (wS_r hW) (by omega) (by omega) ?_⟩
  rw [wS_pn hW]
  refine ⟨_, wS_o, by simp, fun μ10 e => ?_⟩
  have e1 : μ10 = wS μ0 o r it 0 z0 0 f0 := by rw [e]; exact q_ups_ss
  clear e; subst e1
  refine ⟨_, wS_o, by simp, fun μ15 e => ?_⟩
  have e1 : μ15 = wS μ0 o r it 0 (-1) 0 f0 := by rw [e]; exact q_ups_ss
  clear e; subst e1
  refine ⟨⟨_, wS_o⟩, w_val hW hN hkd hTs 17 t 0 0 0 f0 _ ht (by omega) (by omega) (by omega) (by omega) ⟨fun p' l hv hp' n' f' hx => ⟨_, _, wS_o, rfl, fun h => absurd rfl h, fun _ => ⟨_, _, wS_o, rfl, ⟨_, wS_ta hW⟩, k_size (wS_ta hW) ⟨fun h => ?_, fun h => ?_⟩⟩⟩, fun q hv hq n' f' hn' => ⟨_, _, wS_o, rfl, fun _ => ⟨_, _, wS_o, rfl, hb q hv hq n' f' hn'⟩, fun h => absurd h (q_nw hq)⟩⟩⟩
  · rw [q_le (by omega) (by omega)] at h
    have := hg p' l hv hp' n' f' hx
    rw [if_pos h] at this
    exact ⟨_, _, wS_o, rfl, this⟩
  · rw [q_le (by omega) (by omega)] at h
    have := hg p' l hv hp' n' f' hx
    rw [if_neg h] at this
    refine ⟨_, _, wS_o, rfl, _, wS_o, by simp, fun μ51 e => ?_⟩
    have e1 : μ51 = wS μ0 o r it p' (nI p') n' f' := by rw [e]; exact q_ups_ss
    clear e; subst e1
    exact ⟨_, _, wS_o, rfl, this⟩
