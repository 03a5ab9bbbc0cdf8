/-! OPERATIONS: addSequence, addChoice: the class -/
section DC
variable {kd ad : Nat → Nat} {x out : Nat} {N : NT} {nt tn bn dc : Nat} {T : Nat → Int32} {b dp dq : Nat → Nat} {dm : Int32} {C μ : Mm}
theorem CI.fin {ad' : Nat → Nat} {N' : NT} {C' : Mm} {df : Nat → Option Nat} (h : CI kd ad N nt tn bn dc T b dp dq dm C) (ea : ∀ r, r < 20 → r ≠ 13 → r ≠ 14 → ad' r = ad r) (eC : ∀ r, r < 20 → r ≠ 0 → r ≠ 1 → r ≠ 2 → r ≠ 13 → r ≠ 14 → C' r = C r) (h0 : C' 0 = some (eO 5 [.ref (ad' 1), .ref (ad' 3), .ref (ad' 5), .ref (ad' 7), .ref (ad' 10), .ref (ad' 13), .int 0])) (h1 : C' 1 = some (eO 3 [.ref (ad' 2), .int (nI (nt + 1))])) (h2 : ∃ nf', C' 2 = some (eT 16 nf') ∧ ∀ s, s < nt + 1 → nf' s = some (ad' (20 + 5 * s))) (h13 : C' 13 = some (eO 3 [.ref (ad' 14), .int (nI 0)])) (h14 : C' 14 = some (eT 6 df)) (hT : ∀ s, s < nt + 1 → TyR kd ad' N' C' s) (hno : ∀ r, 20 + 5 * (nt + 1) ≤ r → C' r = none) : CI kd ad' N' (nt + 1) tn bn 0 T b dp dq 0 C' := by
  unfold CI at *
  obtain ⟨c0, c1, c3, c5, c7, c10, c13, cm, ct, cn⟩ := h
  refine ⟨h0, ⟨h1, h2⟩, by rw [ea 4 (by omega) (by omega) (by omega), eC 3 (by omega) (by omega) (by omega) (by omega) (by omega) (by omega), eC 4 (by omega) (by omega) (by omega) (by omega) (by omega) (by omega)]; exact c3, by rw [ea 6 (by omega) (by omega) (by omega), eC 5 (by omega) (by omega) (by omega) (by omega) (by omega) (by omega), eC 6 (by omega) (by omega) (by omega) (by omega) (by omega) (by omega)]; exact c5, by rw [ea 8 (by omega) (by omega) (by omega), ea 9 (by omega) (by omega) (by omega), eC 7 (by omega) (by omega) (by omega) (by omega) (by omega) (by omega), eC 8 (by omega) (by omega) (by omega) (by omega) (by omega) (by omega), eC 9 (by omega) (by omega) (by omega) (by omega) (by omega) (by omega)]; exact c7, by rw [ea 11 (by omega) (by omega) (by omega), ea 12 (by omega) (by omega) (by omega), eC 10 (by omega) (by omega) (by omega) (by omega) (by omega) (by omega), eC 11 (by omega) (by omega) (by omega) (by omega) (by omega) (by omega), eC 12 (by omega) (by omega) (by omega) (by omega) (by omega) (by omega)]; exact c10, ⟨h13, df, h14, fun k hk => by omega⟩, fun k hk => ?_, hT, hno⟩
  rw [if_neg (by omega)]
  have : ∀ k, k < 6 → msk 0 k = nI 0 := by decide
  exact this k hk
/-- a type takes the draft's row for its own -/
theorem KC.buildD {q1 K n : Nat} {hi om : Int32} {a0 a1 a2 a3 a4 a5 a6 a7 a8 a9 : Value} {post : Int32 → Mm → Prop} {px : String → Mm → Prop} (h : KC kd x out N nt tn bn dc T b dp dq μ ad C dm) (hV : VI N nt tn bn dc b dp dq) (hkd : ∀ i j, i < 4 → j < 4 → kd i = kd j → i = j) (hK : K = 2 ∨ K = 3) (hhi : 0 < dc → hi = nI (if K = 3 then dc - 1 else 0)) (hw : hi - 0 + 1 = nI n) (hn : n ≤ 2048) (hom : K = 2 → om = dm) (f0 : μ q1 = none)
    (hno : (dc = 0 ∨ (nt < 16 → ¬ (meM (xtN N nt K dc dp dq (nI 0) (nI (if K = 3 then dc - 1 else 0))) nt ≤ 240 ∧ meL (xtN N nt K dc dp dq (nI 0) (nI (if K = 3 then dc - 1 else 0))) nt ≤ 240))) → ∀ μ' : Mm, KI kd x out N nt tn bn dc T b dp dq μ' → px "java/lang/IllegalStateException" μ')
    (good : 0 < dc → nt < 16 → meM (xtN N nt K dc dp dq (nI 0) (nI (if K = 3 then dc - 1 else 0))) nt ≤ 240 → meL (xtN N nt K dc dp dq (nI 0) (nI (if K = 3 then dc - 1 else 0))) nt ≤ 240 → ∀ μ' : Mm, KI kd x out (setM (xtN N nt K dc dp dq (nI 0) (nI (if K = 3 then dc - 1 else 0))) nt (meF (xtN N nt K dc dp dq (nI 0) (nI (if K = 3 then dc - 1 else 0))) nt) (meM (xtN N nt K dc dp dq (nI 0) (nI (if K = 3 then dc - 1 else 0))) nt) (meL (xtN N nt K dc dp dq (nI 0) (nI (if K = 3 then dc - 1 else 0))) nt)) (nt + 1) tn bn 0 T b dp dq μ' → post (nI nt) μ') :
    wp_X3_init q1 kd (kd K) 0 hi (ad 13) om (ups μ q1 (eO 2 [a0, a1, a2, a3, a4, a5, a6, a7, a8, a9])) (fun μ14 => (∃ f18, μ14 x = some (.inl (5, f18))) ∧ wp_X6_keepDraft x kd q1 μ14 (fun r15 μ16 => post r15 μ16) px) := by
  have v9 : dc ≤ 6 := hV.2.2.2.2.2.2.2.2.1
  obtain ⟨x1, x2, x3, x4, x5, x6, x7, x8, x9, x10⟩ := xtN_at (N := N) (nt := nt) (K := K) (C := dc) (P := dp) (O := dq) (lo := nI 0) (hi := nI (if K = 3 then dc - 1 else 0))
  refine y_init (an := if K = 2 then 3 else 0) ups_s hw hn (fun c => ?_) (fun c => ?_) (fun q ai hq hai z1 z2 z3 => ?_)
  · rw [q_kd hkd (by omega) (by omega)] at c; rw [if_pos c]
  · rw [q_kd hkd (by omega) (by omega)] at c; rw [if_neg c]
  obtain ⟨_, fq⟩ := ups_none hq
  obtain ⟨_, fa⟩ := ups_none hai
  have hfr : ∀ a v, μ a = some v → ups (ups (ups (ups μ q1 (eO 2 [a0, a1, a2, a3, a4, a5, a6, a7, a8, a9])) ai (eT (if K = 2 then 3 else 0) (fun _ => none))) q (eO 3 [.ref ai, .int 0])) q1 (eO 2 [.ref (kd K), .int 0, .int hi, .int (nI (wdN n)), .ref (ad 13), .int om, .ref q, .int 0, .int 0, .int 0]) a = some v := fun a v hv => ups_kp hv f0 (ups_kp hv fq (ups_kp hv fa (ups_kp hv f0 hv)))
  have h14 := h.ext hfr
  obtain ⟨c13, ⟨df, c14, cd⟩, cm⟩ := h14.c13
  refine ⟨⟨_, h14.cx⟩, _, _, h14.cx, rfl, ⟨_, c13⟩, t_size c13 ⟨fun hne => ⟨⟨_, h14.cx⟩, ?_⟩, fun he => hno (Or.inl ?_) _ h14.ki⟩⟩
  · have hd : 0 < dc := by
      by_cases c : dc = 0
      · rw [c] at hne; exact absurd rfl hne
      · omega
    have ehi := hhi hd
    have hN1 := NWf.dft hK hV hd
    have sp := hN1.span (by omega : nt < nt + 1)
    rw [x9, x10] at sp
    have en : n = nV (xtN N nt K dc dp dq (nI 0) (nI (if K = 3 then dc - 1 else 0))) nt := by
      have e1 : nI (if K = 3 then dc - 1 else 0) - 0 + 1 = nI n := by rw [← ehi]; exact hw
      have e2 := sp.1
      have e3 : nI n = nI (nV (xtN N nt K dc dp dq (nI 0) (nI (if K = 3 then dc - 1 else 0))) nt) := by rw [← e1, ← e2]; rfl
      rwa [q_eq (by omega) (by omega)] at e3
    obtain ⟨hR, h0, h15, ⟨g, hg⟩, hC⟩ := id h14
    obtain ⟨k0, ⟨k1, nf, k2, k2'⟩, k3, k5, k7, k10, ⟨k13, df', k14, kdd⟩, km, kt, kn⟩ := id hC
    obtain ⟨C0, hC0⟩ : ∃ C0 : Mm, C0 = fun r => if r = 13 ∨ r = 14 then none else C r := ⟨_, rfl⟩
    have eC0 : ∀ r, r ≠ 13 → r ≠ 14 → C0 r = C r := fun r h1 h2 => by rw [hC0]; exact if_neg (by omega)
    have zC0 : ∀ r, r = 13 ∨ r = 14 → C0 r = none := fun r h1 => by rw [hC0]; exact if_pos h1
    have hR0 := hR.drop (C' := C0) (fun r => by
      by_cases c : r = 13 ∨ r = 14
      · exact Or.inr (zC0 r c)
      · exact Or.inl (eC0 r (by omega) (by omega)))
    have nC0 : ∀ r, C0 r ≠ none → r ≠ 13 ∧ r ≠ 14 ∧ C r ≠ none := fun r hr => by
      by_cases c : r = 13 ∨ r = 14
      · exact absurd (zC0 r c) hr
      · refine ⟨by omega, by omega, ?_⟩
        rw [eC0 r (by omega) (by omega)] at hr; exact hr
    have fr : ∀ p, μ p = none → ∀ s, C0 s ≠ none → ad s ≠ p := fun p hp s hs z => by
      obtain ⟨_, _, hs⟩ := nC0 s hs
      obtain ⟨e, he⟩ := Option.ne_none_iff_exists'.mp hs
      have := h.1.get he
      rw [z, hp] at this; cases this
    have hm13 : ad 13 ≠ q := fun z => by
      have := h.c13.1
      rw [z, fq] at this; cases this
    have hm14 : ad 14 ≠ ai := fun z => by
      obtain ⟨_, ⟨df2, e2, _⟩, _⟩ := h.c13
      rw [z, fa] at e2; cases e2
    refine k_keepC (C0 := C0) (nf := nf) (K := K) (Cn := dc) (P := dp) (O := dq) (lo := nI 0) (hi := nI (if K = 3 then dc - 1 else 0)) (a1 := ad 13) (a2 := ad 14) (a3 := q) (a4 := ai) (om := om) (an := if K = 2 then 3 else 0) (pn := 6) hkd hV.2.1 hV.2.2.1 hV.1 hR0 (by rw [eC0 0 (by omega) (by omega)]; exact k0) h0 (by rw [eC0 1 (by omega) (by omega)]; exact k1) (by rw [eC0 2 (by omega) (by omega)]; exact k2) k2' (fun s hs => (kt s hs).cong (fun r hr => eC0 r (by omega) (by omega))) (fun r hr => by rw [eC0 r (by omega) (by omega)]; exact kn r hr) hN1 ?_ c13 c14 v9 (Nat.le_refl _) cd (by rw [ups_n z1]; exact ups_s) (by rw [ups_n z2, ups_n z3]; exact ups_s) ?_ (fun c => if_pos c) (fun c k hk => ?_) (fr _ f0) (fun s hs z => ?_) (fun s hs z => ?_) (fr _ fq) (fr _ fa) hm13 hm14 (fun e => hno (Or.inr (fun q => by omega)) _ h14.ki) (fun y1 y2 μ' y3 => hno (Or.inr (fun _ => y2)) _ (KC.ki (h.ext (fun a v hv => ?_)))) (fun y1 y2 y3 μ' C' ad' y4 y5 y6 y7 y8 y9 y10 => ?_)
    · rw [ups_s, ehi, en]; rfl
    · split <;> omega
    · rw [hom c, cm k (by omega), if_pos hk]
    · obtain ⟨n1, n2, n3⟩ := nC0 s hs
      exact n1 (hR.2 s 13 n3 (by rw [k13]; simp) z)
    · obtain ⟨n1, n2, n3⟩ := nC0 s hs
      exact n2 (hR.2 s 14 n3 (by rw [k14]; simp) z)
    · rw [y3 a (fun z => by rw [z, f0] at hv; cases hv)]
      exact hfr a v hv
    · -- the next draft's row
      intro q10 hq10 μ12 e12
      subst e12
      refine t_init (n := 6) ups_s rfl (by omega) (by omega) (fun it hit hne => ?_)
      obtain ⟨_, fit⟩ := ups_none hit
      have fr2 : ∀ p, μ' p = none → ∀ s, C' s ≠ none → ad' s ≠ p := fun p hp s hs z => by
        obtain ⟨e, he⟩ := Option.ne_none_iff_exists'.mp hs
        have := y4.get he
        rw [z, hp] at this; cases this
      have hRe : Rp (ups (ups (ups μ' q10 (.inl (3, [.null, .int 0]))) it (eT 6 (fun _ => none))) q10 (eO 3 [.ref it, .int 0])) ad' C' := y4.ext (fun a v hv => ups_kp hv hq10 (ups_kp hv fit (ups_kp hv hq10 hv)))
      have hRa := hRe.add (r := 13) (q := q10) (v := eO 3 [.ref it, .int 0]) ups_s (fr2 q10 hq10)
      have hRb' := hRa.add (r := 14) (q := it) (v := eT 6 (fun _ => none)) (by rw [ups_n hne]; exact ups_s) (Rp.addf (fr2 it fit) hne.symm)
      obtain ⟨ad2, hRb, e13, e14, ea⟩ : ∃ ad2 : Nat → Nat, Rp (ups (ups (ups μ' q10 (.inl (3, [.null, .int 0]))) it (eT 6 (fun _ => none))) q10 (eO 3 [.ref it, .int 0])) ad2 (ups (ups C' 13 (eO 3 [.ref it, .int 0])) 14 (eT 6 (fun _ => none))) ∧ ad2 13 = q10 ∧ ad2 14 = it ∧ ∀ r, r ≠ 13 → r ≠ 14 → ad2 r = ad' r := ⟨_, hRb', rfl, rfl, fun r h1 h2 => by
        show (if r = 14 then it else if r = 13 then q10 else ad' r) = ad' r
        rw [if_neg h2, if_neg h1]⟩
      have e0 : ups (ups C' 13 (eO 3 [.ref it, .int 0])) 14 (eT 6 (fun _ => none)) 0 = some (eO 5 [.ref (ad 1), .ref (ad 3), .ref (ad 5), .ref (ad 7), .ref (ad 10), .ref (ad 13), .int dm]) := by
        rw [ups_n (by omega), ups_n (by omega), y6 0 (by omega) (by omega) (by omega), eC0 0 (by omega) (by omega)]; exact k0
      have hRc := hRb.put (eO 5 [.ref (ad 1), .ref (ad 3), .ref (ad 5), .ref (ad 7), .ref (ad 10), .ref q10, .int 0]) e0
      have x0 : ad2 0 = x := by rw [ea 0 (by omega) (by omega), y5 0 (by omega)]; exact h0
      have g15 := hRb.get e0
      rw [x0] at g15 hRc
      refine ⟨_, g15, by simp, fun μ19 e19 => ?_⟩
      subst e19
      refine ⟨_, ups_s, by simp, fun μ24 e24 => ?_⟩
      rw [q_ups_ss] at e24
      subst e24
      refine good hd y1 y2 y3 _ ⟨_, _, 0, hRc, x0, by rw [ea 15 (by omega) (by omega), y5 15 (by omega)]; exact h15, ⟨g, ?_⟩, hC.fin (df := fun _ => none) (fun r z1 z2 z3 => by rw [ea r z2 z3, y5 r (by omega)]) (fun r w1 w2 w3 w4 w5 w6 => ?_) ?_ ?_ ?_ ?_ ?_ (fun s hs => ?_) (fun r hr => ?_)⟩
      · rw [ups_n (by omega), ups_n (by omega), ups_n (by omega), y6 15 (by omega) (by omega) (by omega), eC0 15 (by omega) (by omega)]; exact hg
      · rw [ups_n w2, ups_n w6, ups_n w5, y6 r w1 w3 w4, eC0 r w5 w6]
      · rw [ups_s, ea 1 (by omega) (by omega), ea 3 (by omega) (by omega), ea 5 (by omega) (by omega), ea 7 (by omega) (by omega), ea 10 (by omega) (by omega), y5 1 (by omega), y5 3 (by omega), y5 5 (by omega), y5 7 (by omega), y5 10 (by omega), e13]
      · rw [ups_n (by omega), ups_n (by omega), ups_n (by omega), y7, ea 2 (by omega) (by omega)]
      · obtain ⟨nf', w1, w2⟩ := y8
        exact ⟨nf', by rw [ups_n (by omega), ups_n (by omega), ups_n (by omega)]; exact w1, fun s hs => by rw [ea _ (by omega) (by omega)]; exact w2 s hs⟩
      · rw [ups_n (by omega), ups_n (by omega), ups_s, e14]; rfl
      · rw [ups_n (by omega), ups_s]
      · refine (y9 s hs).mv (setM_same.wf hN1) hs (fun r w1 w2 => ⟨ea r (by omega) (by omega), ?_⟩)
        rw [ups_n (by omega), ups_n (by omega), ups_n (by omega)]
      · rw [ups_n (by omega), ups_n (by omega), ups_n (by omega)]; exact y10 r hr
  · rw [q_l0, q_eq (by omega) (by omega)] at he; exact he
theorem p_seq (hkd : ∀ i j, i < 4 → j < 4 → kd i = kd j → i = j) : op_3 kd x out (II kd x out) := by
  intro μ σ α ⟨N, nt, tn, bn, dc, T, b, dp, dq, ⟨ad, C, dm, hK⟩, hM, hV⟩
  have hK : KC kd x out N nt tn bn dc T b dp dq μ ad C dm := hK
  refine ⟨⟨_, hK.cx⟩, fun q1 hq1 μ3 e3 => ?_⟩
  subst e3
  have k0 := ups_keep (e := eO 2 [.null, .int 0, .int 0, .int 0, .null, .int 0, .null, .int 0, .int 0, .int 0]) hK.cx hq1
  refine ⟨_, _, k0, rfl, _, _, k0, rfl, ?_⟩
  refine hK.buildD (K := 2) (n := 1) hV hkd (Or.inl rfl) (fun _ => rfl) rfl (by omega) (fun _ => rfl) hq1 (fun hno μ' hK' => ⟨rfl, ?_⟩) (fun hd hlt hMM hLL μ' hK' => ?_)
  · exact m_draft_bad (Or.inl rfl) hM hV hno hK'
  · refine KI.outQ hK' _ (fun μ7 hK7 hO => ?_)
    exact m_draft_good (Or.inl rfl) hM hV hd hlt hMM hLL hK7 hO
theorem p_choice (hkd : ∀ i j, i < 4 → j < 4 → kd i = kd j → i = j) : op_4 kd x out (II kd x out) := by
  intro μ σ α ⟨N, nt, tn, bn, dc, T, b, dp, dq, ⟨ad, C, dm, hK⟩, hM, hV⟩
  have hK : KC kd x out N nt tn bn dc T b dp dq μ ad C dm := hK
  have v9 : dc ≤ 6 := hV.2.2.2.2.2.2.2.2.1
  refine ⟨⟨_, hK.cx⟩, fun q1 hq1 μ3 e3 => ?_⟩
  subst e3
  have k0 := ups_keep (e := eO 2 [.null, .int 0, .int 0, .int 0, .null, .int 0, .null, .int 0, .int 0, .int 0]) hK.cx hq1
  have k13 := ups_keep (e := eO 2 [.null, .int 0, .int 0, .int 0, .null, .int 0, .null, .int 0, .int 0, .int 0]) hK.c13.1 hq1
  refine ⟨_, _, k0, rfl, ⟨_, k13⟩, t_size k13 ⟨_, _, k0, rfl, ?_⟩⟩
  have ehw : nI dc - 1 - 0 + 1 = nI dc := by
    have : ∀ d, d < 7 → nI d - 1 - 0 + 1 = nI d := by decide
    exact this dc (by omega)
  refine hK.buildD (K := 3) (n := dc) hV hkd (Or.inr rfl) (fun hd => ?_) ehw (by omega) (fun h => absurd h (by omega)) hq1 (fun hno μ' hK' => ⟨rfl, ?_⟩) (fun hd hlt hMM hLL μ' hK' => ?_)
  · rw [if_pos rfl, q_l1, q_sub (by omega)]
  · exact m_draft_bad (Or.inr rfl) hM hV hno hK'
  · refine KI.outQ hK' _ (fun μ7 hK7 hO => ?_)
    exact m_draft_good (Or.inr rfl) hM hV hd hlt hMM hLL hK7 hO
end DC
