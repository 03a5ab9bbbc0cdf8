/-! THE INVARIANT, its parts: what is read off it, what changes in it -/
section CH
variable {kd ad : Nat → Nat} {N : NT} {nt tn bn dc : Nat} {T : Nat → Int32} {b dp dq : Nat → Nat} {dm : Int32} {C C' : Mm}
theorem TyR.cong {s : Nat} (h : TyR kd ad N C s) (e : ∀ r, 20 ≤ r → C' r = C r) : TyR kd ad N C' s := by
  unfold TyR at *
  rw [e (20 + 5 * s) (by omega), e (21 + 5 * s) (by omega), e (22 + 5 * s) (by omega), e (23 + 5 * s) (by omega), e (24 + 5 * s) (by omega)]
  exact h
theorem CI.tale (h : CI kd ad N nt tn bn dc T b dp dq dm C) {tn' : Nat} {T' : Nat → Int32} (e : ∀ r, r ≠ 3 → r ≠ 4 → C' r = C r) (h3 : C' 3 = some (eO 1 [.ref (ad 4), .int (nI tn')])) (h4 : C' 4 = some (eI 300 T')) : CI kd ad N nt tn' bn dc T' b dp dq dm C' := by
  unfold CI at *
  obtain ⟨c0, c1, c3, c5, c7, c10, c13, cm, ct, cn⟩ := h
  refine ⟨by rw [e 0 (by omega) (by omega)]; exact c0, by rw [e 1 (by omega) (by omega), e 2 (by omega) (by omega)]; exact c1, ⟨h3, h4⟩, by rw [e 5 (by omega) (by omega), e 6 (by omega) (by omega)]; exact c5, by rw [e 7 (by omega) (by omega), e 8 (by omega) (by omega), e 9 (by omega) (by omega)]; exact c7, by rw [e 10 (by omega) (by omega), e 11 (by omega) (by omega), e 12 (by omega) (by omega)]; exact c10, by rw [e 13 (by omega) (by omega), e 14 (by omega) (by omega)]; exact c13, cm, fun s hs => (ct s hs).cong (fun r hr => e r (by omega) (by omega)), fun r hr => by rw [e r (by omega) (by omega)]; exact cn r hr⟩
theorem CI.msg (h : CI kd ad N nt tn bn dc T b dp dq dm C) {bn' : Nat} {b' : Nat → Nat} {f : Nat → Int32} (e : ∀ r, r ≠ 5 → r ≠ 6 → C' r = C r) (h5 : C' 5 = some (eO 1 [.ref (ad 6), .int (nI bn')])) (h6 : C' 6 = some (eI 240 f)) (hf : ∀ i, i < bn' → f i = nI (b' i)) : CI kd ad N nt tn bn' dc T b' dp dq dm C' := by
  unfold CI at *
  obtain ⟨c0, c1, c3, c5, c7, c10, c13, cm, ct, cn⟩ := h
  refine ⟨by rw [e 0 (by omega) (by omega)]; exact c0, by rw [e 1 (by omega) (by omega), e 2 (by omega) (by omega)]; exact c1, by rw [e 3 (by omega) (by omega), e 4 (by omega) (by omega)]; exact c3, ⟨h5, f, h6, hf⟩, by rw [e 7 (by omega) (by omega), e 8 (by omega) (by omega), e 9 (by omega) (by omega)]; exact c7, by rw [e 10 (by omega) (by omega), e 11 (by omega) (by omega), e 12 (by omega) (by omega)]; exact c10, by rw [e 13 (by omega) (by omega), e 14 (by omega) (by omega)]; exact c13, cm, fun s hs => (ct s hs).cong (fun r hr => e r (by omega) (by omega)), fun r hr => by rw [e r (by omega) (by omega)]; exact cn r hr⟩
theorem CI.wr (h : CI kd ad N nt tn bn dc T b dp dq dm C) {p n : Nat} {w : Int32} {f : Nat → Int32} (hn : n ≤ 240) (e : ∀ r, r ≠ 7 → r ≠ 8 → r ≠ 9 → C' r = C r) (h7 : C' 7 = some (eO 4 [.ref (ad 8), .int (nI p), .int w])) (h8 : C' 8 = some (eO 1 [.ref (ad 9), .int (nI n)])) (h9 : C' 9 = some (eI 240 f)) : CI kd ad N nt tn bn dc T b dp dq dm C' := by
  unfold CI at *
  obtain ⟨c0, c1, c3, c5, c7, c10, c13, cm, ct, cn⟩ := h
  refine ⟨by rw [e 0 (by omega) (by omega) (by omega)]; exact c0, by rw [e 1 (by omega) (by omega) (by omega), e 2 (by omega) (by omega) (by omega)]; exact c1, by rw [e 3 (by omega) (by omega) (by omega), e 4 (by omega) (by omega) (by omega)]; exact c3, by rw [e 5 (by omega) (by omega) (by omega), e 6 (by omega) (by omega) (by omega)]; exact c5, ⟨p, w, n, f, hn, h7, h8, h9⟩, by rw [e 10 (by omega) (by omega) (by omega), e 11 (by omega) (by omega) (by omega), e 12 (by omega) (by omega) (by omega)]; exact c10, by rw [e 13 (by omega) (by omega) (by omega), e 14 (by omega) (by omega) (by omega)]; exact c13, cm, fun s hs => (ct s hs).cong (fun r hr => e r (by omega) (by omega) (by omega)), fun r hr => by rw [e r (by omega) (by omega) (by omega)]; exact cn r hr⟩
theorem CI.rd (h : CI kd ad N nt tn bn dc T b dp dq dm C) {k p n : Nat} {w : Int32} {f : Nat → Int32} (hn : n ≤ 240) (e : ∀ r, r ≠ 10 → r ≠ 11 → r ≠ 12 → C' r = C r) (h7 : C' 10 = some (eO 0 [.ref (ad 11), .int (nI k), .int (nI p), .int w])) (h8 : C' 11 = some (eO 1 [.ref (ad 12), .int (nI n)])) (h9 : C' 12 = some (eI 240 f)) : CI kd ad N nt tn bn dc T b dp dq dm C' := by
  unfold CI at *
  obtain ⟨c0, c1, c3, c5, c7, c10, c13, cm, ct, cn⟩ := h
  refine ⟨by rw [e 0 (by omega) (by omega) (by omega)]; exact c0, by rw [e 1 (by omega) (by omega) (by omega), e 2 (by omega) (by omega) (by omega)]; exact c1, by rw [e 3 (by omega) (by omega) (by omega), e 4 (by omega) (by omega) (by omega)]; exact c3, by rw [e 5 (by omega) (by omega) (by omega), e 6 (by omega) (by omega) (by omega)]; exact c5, by rw [e 7 (by omega) (by omega) (by omega), e 8 (by omega) (by omega) (by omega), e 9 (by omega) (by omega) (by omega)]; exact c7, ⟨k, p, w, n, f, hn, h7, h8, h9⟩, by rw [e 13 (by omega) (by omega) (by omega), e 14 (by omega) (by omega) (by omega)]; exact c13, cm, fun s hs => (ct s hs).cong (fun r hr => e r (by omega) (by omega) (by omega)), fun r hr => by rw [e r (by omega) (by omega) (by omega)]; exact cn r hr⟩
end CH
section KC
variable {kd ad : Nat → Nat} {x out : Nat} {N : NT} {nt tn bn dc : Nat} {T : Nat → Int32} {b dp dq : Nat → Nat} {dm : Int32} {C μ : Mm}
def KC (kd : Nat → Nat) (x out : Nat) (N : NT) (nt tn bn dc : Nat) (T : Nat → Int32) (b dp dq : Nat → Nat) (μ : Mm) (ad : Nat → Nat) (C : Mm) (dm : Int32) : Prop := Rp μ ad C ∧ ad 0 = x ∧ ad 15 = out ∧ (∃ g, C 15 = some (eL 1 g)) ∧ CI kd ad N nt tn bn dc T b dp dq dm C
theorem KC.ki (h : KC kd x out N nt tn bn dc T b dp dq μ ad C dm) : KI kd x out N nt tn bn dc T b dp dq μ := ⟨ad, C, dm, h⟩
theorem KC.cx (h : KC kd x out N nt tn bn dc T b dp dq μ ad C dm) : μ x = some (.inl (5, [.ref (ad 1), .ref (ad 3), .ref (ad 5), .ref (ad 7), .ref (ad 10), .ref (ad 13), .int dm])) := by
  rw [← h.2.1]; exact h.1.get h.2.2.2.2.1
theorem KC.c1 (h : KC kd x out N nt tn bn dc T b dp dq μ ad C dm) : μ (ad 1) = some (eO 3 [.ref (ad 2), .int (nI nt)]) := h.1.get h.2.2.2.2.2.1.1
theorem KC.c2 (h : KC kd x out N nt tn bn dc T b dp dq μ ad C dm) : ∃ nf, μ (ad 2) = some (eT 16 nf) ∧ ∀ s, s < nt → nf s = some (ad (20 + 5 * s)) := by
  obtain ⟨nf, h1, h2⟩ := h.2.2.2.2.2.1.2
  exact ⟨nf, h.1.get h1, h2⟩
theorem KC.c3 (h : KC kd x out N nt tn bn dc T b dp dq μ ad C dm) : μ (ad 3) = some (eO 1 [.ref (ad 4), .int (nI tn)]) := h.1.get h.2.2.2.2.2.2.1.1
theorem KC.c4 (h : KC kd x out N nt tn bn dc T b dp dq μ ad C dm) : μ (ad 4) = some (eI 300 T) := h.1.get h.2.2.2.2.2.2.1.2
theorem KC.c5 (h : KC kd x out N nt tn bn dc T b dp dq μ ad C dm) : μ (ad 5) = some (eO 1 [.ref (ad 6), .int (nI bn)]) := h.1.get h.2.2.2.2.2.2.2.1.1
theorem KC.c6 (h : KC kd x out N nt tn bn dc T b dp dq μ ad C dm) : ∃ f, μ (ad 6) = some (eI 240 f) ∧ ∀ i, i < bn → f i = nI (b i) := by
  obtain ⟨nf, h1, h2⟩ := h.2.2.2.2.2.2.2.1.2
  exact ⟨nf, h.1.get h1, h2⟩
theorem KC.tyr (h : KC kd x out N nt tn bn dc T b dp dq μ ad C dm) {s : Nat} (hs : s < nt) : TyR kd ad N C s := h.2.2.2.2.2.2.2.2.2.2.2.2.1 s hs
theorem KC.tyc (h : KC kd x out N nt tn bn dc T b dp dq μ ad C dm) {s : Nat} (hs : s < nt) : TyC kd (fun s => ad (20 + 5 * s)) N μ s := by
  obtain ⟨om, pn, pf, an, af, t1, t2, t3, t4, t5, t6, t7, t8, t9, t10, t11, t12, t13⟩ := h.tyr hs
  exact ⟨_, _, pn, pf, om, _, _, an, af, _, _, _, h.1.get t1, h.1.get t2, h.1.get t3, t4, t5, t6, t7, h.1.get t8, h.1.get t9, t10, t11, t13⟩
theorem KC.tyo (h : KC kd x out N nt tn bn dc T b dp dq μ ad C dm) {s : Nat} (hs : s < nt) : ∃ a c om, μ (ad (20 + 5 * s)) = some (eO 2 [.ref (kd (nK N s)), .int (nlo N s), .int (nhi N s), .int (nI (nW N s)), .ref a, .int om, .ref c, .int (nI (nF N s)), .int (nI (nM N s)), .int (nI (nL N s))]) := by
  obtain ⟨om, pn, pf, an, af, t1, t2⟩ := h.tyr hs
  exact ⟨_, _, om, h.1.get t1⟩
/-- typeNumbered -/
theorem KC.num (h : KC kd x out N nt tn bn dc T b dp dq μ ad C dm) (hnt : nt ≤ 16) {p : Int32} {post : Nat → Mm → Prop} {px : String → Mm → Prop} (hg : ∀ t, t < nt → p = nI t → post (ad (20 + 5 * t)) μ) (hx : (¬ ∃ t, t < nt ∧ p = nI t) → px "java/lang/IndexOutOfBoundsException" μ) : wp_X6_typeNumbered x p μ post px := by
  obtain ⟨nf, n1, n2⟩ := h.c2
  refine ⟨_, _, h.cx, rfl, ⟨_, h.c1⟩, ?_⟩
  by_cases c : ∃ t, t < nt ∧ p = nI t
  · obtain ⟨t, ht, e⟩ := c
    subst e
    refine t_at h.c1 n1 hnt (by omega) ht ⟨fun q => ?_, fun a q => ?_⟩
    · rw [n2 t ht] at q; cases q
    · rw [n2 t ht] at q; cases q
      exact hg t ht rfl
  · exact t_atN h.c1 n1 hnt (by omega) c ⟨fun _ => hx c, fun a q => by cases q⟩
theorem KC.tale (h : KC kd x out N nt tn bn dc T b dp dq μ ad C dm) (tn' : Nat) (T' : Nat → Int32) : ∃ C', KC kd x out N nt tn' bn dc T' b dp dq (ups (ups μ (ad 4) (eI 300 T')) (ad 3) (eO 1 [.ref (ad 4), .int (nI tn')])) ad C' dm := by
  obtain ⟨hR, h0, h15, ⟨g, hg⟩, hC⟩ := h
  have c3 := hC.2.2.1
  refine ⟨_, (hR.put (eI 300 T') c3.2).put (eO 1 [.ref (ad 4), .int (nI tn')]) ((ups_n (by omega)).trans c3.1), h0, h15, ⟨g, by rw [ups_n (by omega), ups_n (by omega)]; exact hg⟩, hC.tale (fun r h1 h2 => by rw [ups_n h1, ups_n h2]) ups_s (by rw [ups_n (by omega)]; exact ups_s)⟩
theorem KC.talen (h : KC kd x out N nt tn bn dc T b dp dq μ ad C dm) (tn' : Nat) : ∃ C', KC kd x out N nt tn' bn dc T b dp dq (ups μ (ad 3) (eO 1 [.ref (ad 4), .int (nI tn')])) ad C' dm := by
  obtain ⟨C', h'⟩ := h.tale tn' T
  rw [q_ups_id h.c4] at h'
  exact ⟨C', h'⟩
theorem KC.msg (h : KC kd x out N nt tn bn dc T b dp dq μ ad C dm) {bn' : Nat} {b' : Nat → Nat} {f : Nat → Int32} (hf : ∀ i, i < bn' → f i = nI (b' i)) : ∃ C', KC kd x out N nt tn bn' dc T b' dp dq (ups (ups μ (ad 6) (eI 240 f)) (ad 5) (eO 1 [.ref (ad 6), .int (nI bn')])) ad C' dm := by
  obtain ⟨hR, h0, h15, ⟨g, hg⟩, hC⟩ := h
  obtain ⟨c5, f0, c6, _⟩ := hC.2.2.2.1
  refine ⟨_, (hR.put (eI 240 f) c6).put (eO 1 [.ref (ad 6), .int (nI bn')]) ((ups_n (by omega)).trans c5), h0, h15, ⟨g, by rw [ups_n (by omega), ups_n (by omega)]; exact hg⟩, hC.msg (fun r h1 h2 => by rw [ups_n h1, ups_n h2]) ups_s (by rw [ups_n (by omega)]; exact ups_s) hf⟩
theorem KC.wr (h : KC kd x out N nt tn bn dc T b dp dq μ ad C dm) (htn : tn ≤ 300) : WB μ (ad 7) (ad 8) (ad 9) (ad 3) (ad 4) tn T ∧ (∃ p w n f, n ≤ 240 ∧ wS μ (ad 7) (ad 8) (ad 9) p w n f = μ) ∧ ∀ p w n f, n ≤ 240 → ∃ C', KC kd x out N nt tn bn dc T b dp dq (wS μ (ad 7) (ad 8) (ad 9) p w n f) ad C' dm := by
  obtain ⟨hR, h0, h15, ⟨g, hg⟩, hC⟩ := h
  obtain ⟨c3, c4⟩ := hC.2.2.1
  obtain ⟨p, w, n, f, hn, c7, c8, c9⟩ := hC.2.2.2.2.1
  refine ⟨⟨⟨_, hR.get c7⟩, ⟨_, hR.get c8⟩, ⟨_, _, hR.get c9⟩, hR.get c3, hR.get c4, htn, hR.ne c3 c8 (by omega), hR.ne c4 c9 (by omega)⟩, ⟨p, w, n, f, hn, ?_⟩, fun p w n f hn => ⟨_, ((hR.put (eI 240 f) c9).put (eO 1 [.ref (ad 9), .int (nI n)]) ((ups_n (by omega)).trans c8)).put (eO 4 [.ref (ad 8), .int (nI p), .int w]) ((ups_n (by omega)).trans ((ups_n (by omega)).trans c7)), h0, h15, ⟨g, by rw [ups_n (by omega), ups_n (by omega), ups_n (by omega)]; exact hg⟩, hC.wr hn (fun r h1 h2 h3 => by rw [ups_n h1, ups_n h2, ups_n h3]) ups_s (by rw [ups_n (by omega)]; exact ups_s) (by rw [ups_n (by omega), ups_n (by omega)]; exact ups_s)⟩⟩
  unfold wS
  rw [q_ups_id (hR.get c9), q_ups_id (hR.get c8), q_ups_id (hR.get c7)]
theorem KC.rd (h : KC kd x out N nt tn bn dc T b dp dq μ ad C dm) (hbn : bn ≤ 240) (hb : ∀ i, b i ≤ 1) : RB μ (ad 10) (ad 11) (ad 12) (ad 5) (ad 6) bn b ∧ (∃ k p w n f, n ≤ 240 ∧ rS μ (ad 10) (ad 11) (ad 12) k p w n f = μ) ∧ ∀ k p w n f, n ≤ 240 → ∃ C', KC kd x out N nt tn bn dc T b dp dq (rS μ (ad 10) (ad 11) (ad 12) k p w n f) ad C' dm := by
  obtain ⟨hR, h0, h15, ⟨g, hg⟩, hC⟩ := h
  obtain ⟨c5, f0, c6, hf0⟩ := hC.2.2.2.1
  obtain ⟨k, p, w, n, f, hn, c7, c8, c9⟩ := hC.2.2.2.2.2.1
  refine ⟨⟨⟨_, hR.get c7⟩, ⟨_, hR.get c8⟩, ⟨_, _, hR.get c9⟩, hR.get c5, ⟨f0, hR.get c6, hf0⟩, hbn, hb, hR.ne c5 c8 (by omega), hR.ne c6 c9 (by omega)⟩, ⟨k, p, w, n, f, hn, ?_⟩, fun k p w n f hn => ⟨_, ((hR.put (eI 240 f) c9).put (eO 1 [.ref (ad 12), .int (nI n)]) ((ups_n (by omega)).trans c8)).put (eO 0 [.ref (ad 11), .int (nI k), .int (nI p), .int w]) ((ups_n (by omega)).trans ((ups_n (by omega)).trans c7)), h0, h15, ⟨g, by rw [ups_n (by omega), ups_n (by omega), ups_n (by omega)]; exact hg⟩, hC.rd hn (fun r h1 h2 h3 => by rw [ups_n h1, ups_n h2, ups_n h3]) ups_s (by rw [ups_n (by omega)]; exact ups_s) (by rw [ups_n (by omega), ups_n (by omega)]; exact ups_s)⟩⟩
  unfold rS
  rw [q_ups_id (hR.get c9), q_ups_id (hR.get c8), q_ups_id (hR.get c7)]
theorem KI.outQ (h : KI kd x out N nt tn bn dc T b dp dq μ) (v : Int32) {Q : Mm → Prop} (hp : ∀ μ7, KI kd x out N nt tn bn dc T b dp dq μ7 → (∃ n f, μ7 out = some (eL n f) ∧ vp_in (0 : Int32) n ∧ f (0 : Int32).toNatClampNeg = v.toInt64) → Q μ7) : ∃ n3 f4, μ out = some (eL n3 f4) ∧ vp_in (0 : Int32) n3 ∧ ∀ μ7, μ7 = ups μ out (eL n3 (vp_updL f4 (0 : Int32).toNatClampNeg v.toInt64)) → Q μ7 := h.out v (post := fun _ μ7 => Q μ7) hp
end KC
