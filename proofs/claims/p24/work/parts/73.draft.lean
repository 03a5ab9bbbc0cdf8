/-! OPERATIONS: addSequence, addChoice -/
section DR
variable {kd ad : Nat → Nat} {x out : Nat} {N : NT} {nt tn bn dc : Nat} {T : Nat → Int32} {b dp dq : Nat → Nat} {dm : Int32} {C μ : Mm} {σ : Nat → Int32} {α : Nat → Nat → Int32}
theorem NWf.dft {K : Nat} (hK : K = 2 ∨ K = 3) (hV : VI N nt tn bn dc b dp dq) (hd : 0 < dc) : NWf (xtN N nt K dc dp dq (nI 0) (nI (if K = 3 then dc - 1 else 0))) (nt + 1) := by
  intro t ht
  have v9 : dc ≤ 6 := hV.2.2.2.2.2.2.2.2.1
  by_cases e : t = nt
  · subst e
    obtain ⟨x1, x2, x3, x4, x5, x6, x7, x8, x9, x10⟩ := xtN_at (N := N) (nt := t) (K := K) (C := dc) (P := dp) (O := dq) (lo := nI 0) (hi := nI (if K = 3 then dc - 1 else 0))
    rw [x1, x2, x3, x9, x10]
    simp only [x4, x5]
    refine ⟨by omega, v9, by omega, hV.2.2.2.2.2.2.2.2.2, fun k hk => by omega, fun h => by omega, fun h => by omega, fun h => ⟨trivial, by rw [if_neg (by omega)], hd⟩, fun h => ⟨trivial, by rw [if_pos h], hd⟩⟩
  · exact xtN_ag.wf hV.2.1 t (by omega)
end DR
/-! OPERATIONS: addSequence, addChoice: the class -/
section DC
variable {kd ad : Nat → Nat} {x out : Nat} {N : NT} {nt tn bn dc : Nat} {T : Nat → Int32} {b dp dq : Nat → Nat} {dm : Int32} {C μ : Mm}
theorem CI.fin {ad' : Nat → Nat} {N' : NT} {C' : Mm} {df : Nat → Option Nat} (h : CI kd ad N nt tn bn dc T b dp dq dm C) (ea : ∀ r, r < 20 → r ≠ 13 → r ≠ 14 → ad' r = ad r) (eC : ∀ r, r < 20 → r ≠ 0 → r ≠ 1 → r ≠ 2 → r ≠ 13 → r ≠ 14 → C' r = C r) (h0 : C' 0 = some (eO 5 [.ref (ad' 1), .ref (ad' 3), .ref (ad' 5), .ref (ad' 7), .ref (ad' 10), .ref (ad' 13), .int 0])) (h1 : C' 1 = some (eO 3 [.ref (ad' 2), .int (nI (nt + 1))])) (h2 : ∃ nf', C' 2 = some (eT 16 nf') ∧ ∀ s, s < nt + 1 → nf' s = some (ad' (20 + 5 * s))) (h13 : C' 13 = some (eO 3 [.ref (ad' 14), .int (nI 0)])) (h14 : C' 14 = some (eT 6 df)) (hT : ∀ s, s < nt + 1 → TyR kd ad' N' C' s) (hno : ∀ r, 20 + 5 * (nt + 1) ≤ r → C' r = none) : CI kd ad' N' (nt + 1) tn bn 0 T b dp dq 0 C' := by
  unfold CI at *
  obtain ⟨c0, c1, c3, c5, c7, c10, c13, cm, ct, cn⟩ := h
  refine ⟨h0, ⟨h1, h2⟩, by rw [ea 4 (by omega) (by omega) (by omega), eC 3 (by omega) (by omega) (by omega) (by omega) (by omega) (by omega), eC 4 (by omega) (by omega) (by omega) (by omega) (by omega) (by omega)]; exact c3, by rw [ea 6 (by omega) (by omega) (by omega), eC 5 (by omega) (by omega) (by omega) (by omega) (by omega) (by omega), eC 6 (by omega) (by omega) (by omega) (by omega) (by omega) (by omega)]; exact c5, by rw [ea 8 (by omega) (by omega) (by omega), ea 9 (by omega) (by omega) (by omega), eC 7 (by omega) (by omega) (by omega) (by omega) (by omega) (by omega), eC 8 (by omega) (by omega) (by omega) (by omega) (by omega) (by omega), eC 9 (by omega) (by omega) (by omega) (by omega) (by omega) (by omega)]; exact c7, by rw [ea 11 (by omega) (by omega) (by omega), ea 12 (by omega) (by omega) (by omega), eC 10 (by omega) (by omega) (by omega) (by omega) (by omega) (by omega), eC 11 (by omega) (by omega) (by omega) (by omega) (by omega) (by omega), eC 12 (by omega) (by omega) (by omega) (by omega) (by omega) (by omega)]; exact c10, ⟨h13, df, h14, fun k hk => by omega⟩, fun k hk => ?_, hT, hno⟩
  rw [if_neg (by omega)]
  have : ∀ k, k < 6 → msk 0 k = nI 0 := by decide
  exact this k hk
/-- a type takes the draft's row for its own -/
theorem KC.buildD {q1 K n : Nat} {hi om : Int32} {a0 a1 a2 a3 a4 a5 a6 a7 a8 a9 : Value} {post : Int32 → Mm → Prop} {px : String → Mm → Prop} (h : KC kd x out N nt tn bn dc T b dp dq μ ad C dm) (hV : VI N nt tn bn dc b dp dq) (hkd : ∀ i j, i < 4 → j < 4 → kd i = kd j → i = j) (hK : K = 2 ∨ K = 3) (hhi : 0 < dc → hi = nI (if K = 3 then dc - 1 else 0)) (hw : hi - 0 + 1 = nI n) (hn : n ≤ 2048) (hom : K = 2 → om = dm) (f0 : μ q1 = none)
    (hno : (dc = 0 ∨ (nt < 16 → ¬ (meM (xtN N nt K dc dp dq (nI 0) (nI (if K = 3 then dc - 1 else 0))) nt ≤ 240 ∧ meL (xtN N nt K dc dp dq (nI 0) (nI (if K = 3 then dc - 1 else 0))) nt ≤ 240))) → ∀ μ' : Mm, KI kd x out N nt tn bn dc T b dp dq μ' → px "java/lang/IllegalStateException" μ')
    (good : 0 < dc → nt < 16 → meM (xtN N nt K dc dp dq (nI 0) (nI (if K = 3 then dc - 1 else 0))) nt ≤ 240 → meL (xtN N nt K dc dp dq (nI 0) (nI (if K = 3 then dc - 1 else 0))) nt ≤ 240 → ∀ μ' : Mm, KI kd x out (setM (xtN N nt K dc dp dq (nI 0) (nI (if K = 3 then dc - 1 else 0))) nt (meF (xtN N nt K dc dp dq (nI 0) (nI (if K = 3 then dc - 1 else 0))) nt) (meM (xtN N nt K dc dp dq (nI 0) (nI (if K = 3 then dc - 1 else 0))) nt) (meL (xtN N nt K dc dp dq (nI 0) (nI (if K = 3 then dc - 1 else 0))) nt)) (nt + 1) tn bn 0 T b dp dq μ' → post (nI nt) μ') :
    wp_X3_init q1 kd (kd K) 0 hi (ad 13) om (ups μ q1 (eO 2 [a0, a1, a2, a3, a4, a5, a6, a7, a8, a9])) (fun μ14 => (∃ f18, μ14 x = some (.inl (5, f18))) ∧ wp_X6_keepDraft x kd q1 μ14 (fun r15 μ16 => post r15 μ16) px) := by
  have v9 : dc ≤ 6 := hV.2.2.2.2.2.2.2.2.1
  obtain ⟨x1, x2, x3, x4, x5, x6, x7, x8, x9, x10⟩ := xtN_at (N := N) (nt := nt) (K := K) (C := dc) (P := dp) (O := dq) (lo := nI 0) (hi := nI (if K = 3 then dc - 1 else 0))
  refine y_init (an := if K = 2 then 3 else 0) ups_s hw hn (fun c => ?_) (fun c => ?_) (fun q ai hq hai z1 z2 z3 => ?_)
  · rw [q_kd hkd (by omega) (by omega)] at c; rw [if_pos c]
  · rw [q_kd hkd (by omega) (by omega)] at c; rw [if_neg c]
  obtain ⟨_, fq⟩ := ups_none hq
  obtain ⟨_, fa⟩ := ups_none hai
  have hfr : ∀ a v, μ a = some v → ups (ups (ups (ups μ q1 (eO 2 [a0, a1, a2, a3, a4, a5, a6, a7, a8, a9])) ai (eT (if K = 2 then 3 else 0) (fun _ => none))) q (eO 3 [.ref ai, .int 0])) q1 (eO 2 [.ref (kd K), .int 0, .int hi, .int (nI (wdN n)), .ref (ad 13), .int om, .ref q, .int 0, .int 0, .int 0]) a = some v := fun a v hv => ups_kp hv f0 (ups_kp hv fq (ups_kp hv fa (ups_kp hv f0 hv)))
  have h14 := h.ext hfr
  obtain ⟨c13, ⟨df, c14, cd⟩, cm⟩ := h14.c13
  refine ⟨⟨_, h14.cx⟩, _, _, h14.cx, rfl, ⟨_, c13⟩, t_size c13 ⟨fun hne => ⟨⟨_, h14.cx⟩, ?_⟩, fun he => hno (Or.inl ?_) _ h14.ki⟩⟩
  · have hd : 0 < dc := by
      by_cases c : dc = 0
      · rw [c] at hne; exact absurd rfl hne
      · omega
    have ehi := hhi hd
    have hN1 := NWf.dft hK hV hd
    have sp := hN1.span (by omega : nt < nt + 1)
    rw [x9, x10] at sp
    have en : n = nV (xtN N nt K dc dp dq (nI 0) (nI (if K = 3 then dc - 1 else 0))) nt := by
      have e1 : nI (if K = 3 then dc - 1 else 0) - 0 + 1 = nI n := by rw [← ehi]; exact hw
      have e2 := sp.1
      have e3 : nI n = nI (nV (xtN N nt K dc dp dq (nI 0) (nI (if K = 3 then dc - 1 else 0))) nt) := by rw [← e1, ← e2]; rfl
      rwa [q_eq (by omega) (by omega)] at e3
    obtain ⟨hR, h0, h15, ⟨g, hg⟩, hC⟩ := id h14
    obtain ⟨k0, ⟨k1, nf, k2, k2'⟩, k3, k5, k7, k10, ⟨k13, df', k14, kdd⟩, km, kt, kn⟩ := id hC
    obtain ⟨C0, hC0⟩ : ∃ C0 : Mm, C0 = fun r => if r = 13 ∨ r = 14 then none else C r := ⟨_, rfl⟩
    have eC0 : ∀ r, r ≠ 13 → r ≠ 14 → C0 r = C r := fun r h1 h2 => by rw [hC0]; exact if_neg (by omega)
    have zC0 : ∀ r, r = 13 ∨ r = 14 → C0 r = none := fun r h1 => by rw [hC0]; exact if_pos h1
    have hR0 := hR.drop (C' := C0) (fun r => by
      by_cases c : r = 13 ∨ r = 14
      · exact Or.inr (zC0 r c)
      · exact Or.inl (eC0 r (by omega) (by omega)))
    have nC0 : ∀ r, C0 r ≠ none → r ≠ 13 ∧ r ≠ 14 ∧ C r ≠ none := fun r hr => by
      by_cases c : r = 13 ∨ r = 14
      · exact absurd (zC0 r c) hr
      · refine ⟨by omega, by omega, ?_⟩
        rw [eC0 r (by omega) (by omega)] at hr; exact hr
    have fr : ∀ p, μ p = none → ∀ s, C0 s ≠ none → ad s ≠ p := fun p hp s hs z => by
      obtain ⟨_, _, hs⟩ := nC0 s hs
      obtain ⟨e, he⟩ := Option.ne_none_iff_exists'.mp hs
      have := h.1.get he
      rw [z, hp] at this; cases this
    have hm13 : ad 13 ≠ q := fun z => by
      have := h.c13.1
      rw [z, fq] at this; cases this
    have hm14 : ad 14 ≠ ai := fun z => by
      obtain ⟨_, ⟨df2, e2, _⟩, _⟩ := h.c13
      rw [z, fa] at e2; cases e2
    refine k_keepC (C0 := C0) (nf := nf) (K := K) (Cn := dc) (P := dp) (O := dq) (lo := nI 0) (hi := nI (if K = 3 then dc - 1 else 0)) (a1 := ad 13) (a2 := ad 14) (a3 := q) (a4 := ai) (om := om) (an := if K = 2 then 3 else 0) (pn := 6) hkd hV.2.1 hV.2.2.1 hV.1 hR0 (by rw [eC0 0 (by omega) (by omega)]; exact k0) h0 (by rw [eC0 1 (by omega) (by omega)]; exact k1) (by rw [eC0 2 (by omega) (by omega)]; exact k2) k2' (fun s hs => (kt s hs).cong (fun r hr => eC0 r (by omega) (by omega))) (fun r hr => by rw [eC0 r (by omega) (by omega)]; exact kn r hr) hN1 ?_ c13 c14 v9 (Nat.le_refl _) cd (by rw [ups_n z1]; exact ups_s) (by rw [ups_n z2, ups_n z3]; exact ups_s) ?_ (fun c => if_pos c) (fun c k hk => ?_) (fr _ f0) (fun s hs z => ?_) (fun s hs z => ?_) (fr _ fq) (fr _ fa) hm13 hm14 (fun e => hno (Or.inr (fun q => by omega)) _ h14.ki) (fun y1 y2 μ' y3 => hno (Or.inr (fun _ => y2)) _ (KC.ki (h.ext (fun a v hv => ?_)))) (fun y1 y2 y3 μ' C' ad' y4 y5 y6 y7 y8 y9 y10 => ?_)
    · rw [ups_s, ehi, en]; rfl
    · split <;> omega
    · rw [hom c, cm k (by omega), if_pos hk]
    · obtain ⟨n1, n2, n3⟩ := nC0 s hs
      exact n1 (hR.2 s 13 n3 (by rw [k13]; simp) z)
    · obtain ⟨n1, n2, n3⟩ := nC0 s hs
      exact n2 (hR.2 s 14 n3 (by rw [k14]; simp) z)
    · rw [y3 a (fun z => by rw [z, f0] at hv; cases hv)]
      exact hfr a v hv
    · -- the next draft's row
      intro q10 hq10 μ12 e12
      subst e12
      refine t_init (n := 6) ups_s rfl (by omega) (by omega) (fun it hit hne => ?_)
      obtain ⟨_, fit⟩ := ups_none hit
      have fr2 : ∀ p, μ' p = none → ∀ s, C' s ≠ none → ad' s ≠ p := fun p hp s hs z => by
        obtain ⟨e, he⟩ := Option.ne_none_iff_exists'.mp hs
        have := y4.get he
        rw [z, hp] at this; cases this
      have hRe : Rp (ups (ups (ups μ' q10 (.inl (3, [.null, .int 0]))) it (eT 6 (fun _ => none))) q10 (eO 3 [.ref it, .int 0])) ad' C' := y4.ext (fun a v hv => ups_kp hv hq10 (ups_kp hv fit (ups_kp hv hq10 hv)))
      have hRa := hRe.add (r := 13) (q := q10) (v := eO 3 [.ref it, .int 0]) ups_s (fr2 q10 hq10)
      have hRb' := hRa.add (r := 14) (q := it) (v := eT 6 (fun _ => none)) (by rw [ups_n hne]; exact ups_s) (Rp.addf (fr2 it fit) hne.symm)
      obtain ⟨ad2, hRb, e13, e14, ea⟩ : ∃ ad2 : Nat → Nat, Rp (ups (ups (ups μ' q10 (.inl (3, [.null, .int 0]))) it (eT 6 (fun _ => none))) q10 (eO 3 [.ref it, .int 0])) ad2 (ups (ups C' 13 (eO 3 [.ref it, .int 0])) 14 (eT 6 (fun _ => none))) ∧ ad2 13 = q10 ∧ ad2 14 = it ∧ ∀ r, r ≠ 13 → r ≠ 14 → ad2 r = ad' r := ⟨_, hRb', rfl, rfl, fun r h1 h2 => by
        show (if r = 14 then it else if r = 13 then q10 else ad' r) = ad' r
        rw [if_neg h2, if_neg h1]⟩
      have e0 : ups (ups C' 13 (eO 3 [.ref it, .int 0])) 14 (eT 6 (fun _ => none)) 0 = some (eO 5 [.ref (ad 1), .ref (ad 3), .ref (ad 5), .ref (ad 7), .ref (ad 10), .ref (ad 13), .int dm]) := by
        rw [ups_n (by omega), ups_n (by omega), y6 0 (by omega) (by omega) (by omega), eC0 0 (by omega) (by omega)]; exact k0
      have hRc := hRb.put (eO 5 [.ref (ad 1), .ref (ad 3), .ref (ad 5), .ref (ad 7), .ref (ad 10), .ref q10, .int 0]) e0
      have x0 : ad2 0 = x := by rw [ea 0 (by omega) (by omega), y5 0 (by omega)]; exact h0
      have g15 := hRb.get e0
      rw [x0] at g15 hRc
      refine ⟨_, g15, by simp, fun μ19 e19 => ?_⟩
      subst e19
      refine ⟨_, ups_s, by simp, fun μ24 e24 => ?_⟩
      rw [q_ups_ss] at e24
      subst e24
      refine good hd y1 y2 y3 _ ⟨_, _, 0, hRc, x0, by rw [ea 15 (by omega) (by omega), y5 15 (by omega)]; exact h15, ⟨g, ?_⟩, hC.fin (df := fun _ => none) (fun r z1 z2 z3 => by rw [ea r z2 z3, y5 r (by omega)]) (fun r w1 w2 w3 w4 w5 w6 => ?_) ?_ ?_ ?_ ?_ ?_ (fun s hs => ?_) (fun r hr => ?_)⟩
      · rw [ups_n (by omega), ups_n (by omega), ups_n (by omega), y6 15 (by omega) (by omega) (by omega), eC0 15 (by omega) (by omega)]; exact hg
      · rw [ups_n w2, ups_n w6, ups_n w5, y6 r w1 w3 w4, eC0 r w5 w6]
      · rw [ups_s, ea 1 (by omega) (by omega), ea 3 (by omega) (by omega), ea 5 (by omega) (by omega), ea 7 (by omega) (by omega), ea 10 (by omega) (by omega), y5 1 (by omega), y5 3 (by omega), y5 5 (by omega), y5 7 (by omega), y5 10 (by omega), e13]
      · rw [ups_n (by omega), ups_n (by omega), ups_n (by omega), y7, ea 2 (by omega) (by omega)]
      · obtain ⟨nf', w1, w2⟩ := y8
        exact ⟨nf', by rw [ups_n (by omega), ups_n (by omega), ups_n (by omega)]; exact w1, fun s hs => by rw [ea _ (by omega) (by omega)]; exact w2 s hs⟩
      · rw [ups_n (by omega), ups_n (by omega), ups_s, e14]; rfl
      · rw [ups_n (by omega), ups_s]
      · refine (y9 s hs).mv (setM_same.wf hN1) hs (fun r w1 w2 => ⟨ea r (by omega) (by omega), ?_⟩)
        rw [ups_n (by omega), ups_n (by omega), ups_n (by omega)]
      · rw [ups_n (by omega), ups_n (by omega), ups_n (by omega)]; exact y10 r hr
  · rw [q_l0, q_eq (by omega) (by omega)] at he; exact he
end DC
/-! OPERATIONS: extend, its pieces -/
def natOf (v : Int32) : Nat := v.toBitVec.toNat
theorem nI_natOf (v : Int32) : nI (natOf v) = v := by
  apply Int32.toBitVec_inj.1
  show BitVec.ofNat 32 v.toBitVec.toNat = v.toBitVec
  simp
def adN (N : NT) (s o : Nat) : NT := (fun i t j => if t = s ∧ i = 2 then N.1 2 s 0 + 1 else if t = s ∧ i = 5 ∧ j = N.1 2 s 0 then o else N.1 i t j, N.2)
/-- the fields of one, the measures of another -/
def mxN (N M : NT) : NT := (fun i t j => if i < 6 then N.1 i t j else M.1 i t j, N.2)
section ADN
variable {N M : NT} {s o nt : Nat}
theorem adN_n {t : Nat} (h : t ≠ s) : ∀ i j, (adN N s o).1 i t j = N.1 i t j := fun i j => by
  show (if t = s ∧ i = 2 then _ else if t = s ∧ i = 5 ∧ j = N.1 2 s 0 then o else N.1 i t j) = _
  rw [if_neg (fun z => h z.1), if_neg (fun z => h z.1)]
theorem adN_i {t i j : Nat} (h2 : i ≠ 2) (h5 : i ≠ 5) : (adN N s o).1 i t j = N.1 i t j := by
  show (if t = s ∧ i = 2 then _ else if t = s ∧ i = 5 ∧ j = N.1 2 s 0 then o else N.1 i t j) = _
  rw [if_neg (fun z => h2 z.2), if_neg (fun z => h5 z.2.1)]
theorem adN_A : nA (adN N s o) s = nA N s + 1 := by
  show (if s = s ∧ 2 = 2 then N.1 2 s 0 + 1 else _) = _
  rw [if_pos ⟨rfl, rfl⟩]; rfl
theorem adN_D (k : Nat) : nD (adN N s o) s k = if k = nA N s then o else nD N s k := by
  show (if s = s ∧ 5 = 2 then N.1 2 s 0 + 1 else if s = s ∧ 5 = 5 ∧ k = N.1 2 s 0 then o else N.1 5 s k) = _
  rw [if_neg (by omega)]
  by_cases e : k = nA N s
  · rw [if_pos ⟨rfl, rfl, e⟩, if_pos e]
  · rw [if_neg (fun z => e z.2.2), if_neg e]; rfl
theorem adN_w (t : Nat) : nW (adN N s o) t = nW N t := by
  have a : nK (adN N s o) t = nK N t := adN_i (by omega) (by omega)
  have b : nC (adN N s o) t = nC N t := adN_i (by omega) (by omega)
  unfold nW nV
  rw [a, b]; rfl
theorem adN_wf (hN : NWf N nt) (ho : o < s) (hA : nA N s < 3) : NWf (adN N s o) nt := by
  intro t ht
  have hwf := hN t ht
  have a : nK (adN N s o) t = nK N t := adN_i (by omega) (by omega)
  have b : nC (adN N s o) t = nC N t := adN_i (by omega) (by omega)
  have c : ∀ k, nP (adN N s o) t k = nP N t k := fun k => adN_i (by omega) (by omega)
  have d : ∀ k, nO (adN N s o) t k = nO N t k := fun k => adN_i (by omega) (by omega)
  have e : nlo (adN N s o) t = nlo N t := rfl
  have f : nhi (adN N s o) t = nhi N t := rfl
  rw [a, b, e, f]
  simp only [c, d]
  by_cases q : t = s
  · subst q
    rw [adN_A]
    refine ⟨hwf.1, hwf.2.1, by omega, hwf.2.2.2.1, fun k hk => ?_, hwf.2.2.2.2.2⟩
    rw [adN_D]
    split
    · exact ho
    · exact hwf.2.2.2.2.1 k (by omega)
  · have g : nA (adN N s o) t = nA N t := adN_n q 2 0
    have i : ∀ k, nD (adN N s o) t k = nD N t k := fun k => adN_n q 5 k
    rw [g]
    simp only [i]
    exact hwf
theorem mxN_same : sameN N (mxN N M) := ⟨fun i t j hi => if_pos hi, rfl⟩
theorem mxN_m (t : Nat) : nF (mxN N M) t = nF M t ∧ nM (mxN N M) t = nM M t ∧ nL (mxN N M) t = nL M t := by
  have h : ∀ i, ¬ i < 6 → (mxN N M).1 i t 0 = M.1 i t 0 := fun i hi => if_neg hi
  exact ⟨h 6 (by omega), h 7 (by omega), h 8 (by omega)⟩
theorem sameN.symm (h : sameN N M) : sameN M N := ⟨fun i t j hi => (h.1 i t j hi).symm, h.2.symm⟩
end ADN
section EXC
variable {kd ad : Nat → Nat} {x out : Nat} {N : NT} {nt tn bn dc : Nat} {T : Nat → Int32} {b dp dq : Nat → Nat} {dm : Int32} {C C' μ : Mm}
theorem CI.tys {N' : NT} (h : CI kd ad N nt tn bn dc T b dp dq dm C) (e : ∀ r, r < 20 → C' r = C r) (hT : ∀ s, s < nt → TyR kd ad N' C' s) (hno : ∀ r, 20 + 5 * nt ≤ r → C' r = none) : CI kd ad N' nt tn bn dc T b dp dq dm C' := by
  unfold CI at *
  obtain ⟨c0, c1, c3, c5, c7, c10, c13, cm, ct, cn⟩ := h
  refine ⟨by rw [e 0 (by omega)]; exact c0, by rw [e 1 (by omega), e 2 (by omega)]; exact c1, by rw [e 3 (by omega), e 4 (by omega)]; exact c3, by rw [e 5 (by omega), e 6 (by omega)]; exact c5, by rw [e 7 (by omega), e 8 (by omega), e 9 (by omega)]; exact c7, by rw [e 10 (by omega), e 11 (by omega), e 12 (by omega)]; exact c10, by rw [e 13 (by omega), e 14 (by omega)]; exact c13, cm, hT, hno⟩
theorem KC.adds {s o : Nat} (h : KC kd x out N nt tn bn dc T b dp dq μ ad C dm) (hs : s < nt) (hk : nK N s = 2) (hA : nA N s < 3) : ∃ af, μ (ad (24 + 5 * s)) = some (eT 3 af) ∧ μ (ad (23 + 5 * s)) = some (eO 3 [.ref (ad (24 + 5 * s)), .int (nI (nA N s))]) ∧ ∃ C', KC kd x out (adN N s o) nt tn bn dc T b dp dq (ups (ups μ (ad (24 + 5 * s)) (eT 3 (va_up af (nA N s) (some (ad (20 + 5 * o)))))) (ad (23 + 5 * s)) (eO 3 [.ref (ad (24 + 5 * s)), .int (nI (nA N s + 1))])) ad C' dm := by
  obtain ⟨om, pn, pf, an, af, t1, t2, t3, t4, t5, t6, t7, t8, t9, t10, t11, t12, t13⟩ := h.tyr hs
  have e3 := t12 hk
  subst e3
  obtain ⟨hR, h0, h15, ⟨g, hg⟩, hC⟩ := id h
  obtain ⟨k0, k1, k3, k5, k7, k10, k13, km, kt, kn⟩ := id hC
  refine ⟨af, hR.get t9, hR.get t8, _, (hR.put (eT 3 (va_up af (nA N s) (some (ad (20 + 5 * o))))) t9).put (eO 3 [.ref (ad (24 + 5 * s)), .int (nI (nA N s + 1))]) ((ups_n (by omega)).trans t8), h0, h15, ⟨g, by rw [ups_n (by omega), ups_n (by omega)]; exact hg⟩, hC.tys (fun r hr => by rw [ups_n (by omega), ups_n (by omega)]) (fun t ht => ?_) (fun r hr => by rw [ups_n (by omega), ups_n (by omega)]; exact kn r hr)⟩
  have a : nK (adN N s o) t = nK N t := adN_i (by omega) (by omega)
  have b : nC (adN N s o) t = nC N t := adN_i (by omega) (by omega)
  have c : ∀ k, nP (adN N s o) t k = nP N t k := fun k => adN_i (by omega) (by omega)
  have d : ∀ k, nO (adN N s o) t k = nO N t k := fun k => adN_i (by omega) (by omega)
  have e : nlo (adN N s o) t = nlo N t := rfl
  have f : nhi (adN N s o) t = nhi N t := rfl
  have g6 : nF (adN N s o) t = nF N t := adN_i (by omega) (by omega)
  have g7 : nM (adN N s o) t = nM N t := adN_i (by omega) (by omega)
  have g8 : nL (adN N s o) t = nL N t := adN_i (by omega) (by omega)
  unfold TyR
  rw [a, b, e, f, g6, g7, g8, adN_w]
  simp only [c, d]
  by_cases q : t = s
  · subst q
    rw [adN_A]
    simp only [adN_D]
    refine ⟨om, pn, pf, 3, va_up af (nA N t) (some (ad (20 + 5 * o))), by rw [ups_n (by omega), ups_n (by omega)]; exact t1, by rw [ups_n (by omega), ups_n (by omega)]; exact t2, by rw [ups_n (by omega), ups_n (by omega)]; exact t3, t4, t5, t6, t7, ups_s, by rw [ups_n (by omega)]; exact ups_s, by omega, t11, t12, fun k hk => ?_⟩
    by_cases z : k = nA N t
    · rw [if_pos z, z]; simp [va_up]
    · rw [if_neg z]
      have := t13 k (by omega)
      simp only [va_up, if_neg z]; exact this
  · have i : nA (adN N s o) t = nA N t := adN_n q 2 0
    have j : ∀ k, nD (adN N s o) t k = nD N t k := fun k => adN_n q 5 k
    rw [i]
    simp only [j]
    have z : ∀ r, r = 20 + 5 * t ∨ r = 21 + 5 * t ∨ r = 22 + 5 * t ∨ r = 23 + 5 * t ∨ r = 24 + 5 * t → ups (ups C (24 + 5 * s) (eT 3 (va_up af (nA N s) (some (ad (20 + 5 * o)))))) (23 + 5 * s) (eO 3 [.ref (ad (24 + 5 * s)), .int (nI (nA N s + 1))]) r = C r := fun r hr => by rw [ups_n (by omega), ups_n (by omega)]
    rw [z (20 + 5 * t) (by omega), z (21 + 5 * t) (by omega), z (22 + 5 * t) (by omega), z (23 + 5 * t) (by omega), z (24 + 5 * t) (by omega)]
    exact kt t ht
theorem KC.dropA {s o : Nat} {M : NT} (h : KC kd x out M nt tn bn dc T b dp dq μ ad C dm) (hsame : sameN (adN N s o) M) (hs : s < nt) : μ (ad (23 + 5 * s)) = some (eO 3 [.ref (ad (24 + 5 * s)), .int (nI (nA N s + 1))]) ∧ ∃ C', KC kd x out (mxN N M) nt tn bn dc T b dp dq (ups μ (ad (23 + 5 * s)) (eO 3 [.ref (ad (24 + 5 * s)), .int (nI (nA N s))])) ad C' dm := by
  obtain ⟨om, pn, pf, an, af, t1, t2, t3, t4, t5, t6, t7, t8, t9, t10, t11, t12, t13⟩ := h.tyr hs
  obtain ⟨f1, f2, f3, f4, f5, f6, f7, f8, f9⟩ := hsame.f s
  rw [f3, adN_A] at t8 t10 t13
  obtain ⟨hR, h0, h15, ⟨g, hg⟩, hC⟩ := id h
  obtain ⟨k0, k1, k3, k5, k7, k10, k13, km, kt, kn⟩ := id hC
  refine ⟨hR.get t8, _, hR.put (eO 3 [.ref (ad (24 + 5 * s)), .int (nI (nA N s))]) t8, h0, h15, ⟨g, by rw [ups_n (by omega)]; exact hg⟩, hC.tys (fun r hr => by rw [ups_n (by omega)]) (fun t ht => ?_) (fun r hr => by rw [ups_n (by omega)]; exact kn r hr)⟩
  obtain ⟨e1, e2, e3, e4, e5, e6, e7, e8, e9⟩ := hsame.f t
  obtain ⟨d1, d2, d3, d4, d5, d6, d7, d8, d9⟩ := (mxN_same (N := N) (M := M)).f t
  have a : nK M t = nK N t := e1.trans (adN_i (by omega) (by omega))
  have b : nC M t = nC N t := e2.trans (adN_i (by omega) (by omega))
  have c : ∀ k, nP M t k = nP N t k := fun k => (e4 k).trans (adN_i (by omega) (by omega))
  have d : ∀ k, nO M t k = nO N t k := fun k => (e5 k).trans (adN_i (by omega) (by omega))
  have e : nlo M t = nlo N t := e7
  have f : nhi M t = nhi N t := e8
  have w : nW M t = nW N t := e9.trans (adN_w t)
  have g6 : nF (mxN N M) t = nF M t := (mxN_m t).1
  have g7 : nM (mxN N M) t = nM M t := (mxN_m t).2.1
  have g8 : nL (mxN N M) t = nL M t := (mxN_m t).2.2
  have hTM := kt t ht
  unfold TyR at hTM ⊢
  rw [a, b, e, f, w] at hTM
  simp only [c, d] at hTM
  rw [d1, d2, d3, d7, d8, d9, g6, g7, g8]
  simp only [d4, d5, d6]
  by_cases q : t = s
  · subst q
    rw [a] at t1 t7 t12
    rw [b] at t2 t4 t6 t7
    rw [e, f, w] at t1
    simp only [c] at t6
    simp only [d] at t7
    refine ⟨om, pn, pf, an, af, by rw [ups_n (by omega)]; exact t1, by rw [ups_n (by omega)]; exact t2, by rw [ups_n (by omega)]; exact t3, t4, t5, t6, t7, ups_s, by rw [ups_n (by omega)]; exact t9, by omega, t11, t12, fun k hk => ?_⟩
    have := t13 k (by omega)
    rw [e6 k, adN_D, if_neg (by omega)] at this
    exact this
  · have i : nA M t = nA N t := e3.trans (adN_n q 2 0)
    have j : ∀ k, nD M t k = nD N t k := fun k => (e6 k).trans (adN_n q 5 k)
    rw [i] at hTM
    simp only [j] at hTM
    rw [ups_n (by omega), ups_n (by omega), ups_n (by omega), ups_n (by omega), ups_n (by omega)]
    exact hTM
end EXC
/-! OPERATIONS: extend -/
theorem ar_1 {r s : Nat} (h : r < 20) : r ≠ 20 + 5 * s := by omega
theorem ar_2 {s s' : Nat} (h : 20 + 5 * s = 20 + 5 * s') : s = s' := by omega
theorem ar_3 {r s s' : Nat} (h : r = 21 + 5 * s' ∨ r = 22 + 5 * s' ∨ r = 23 + 5 * s' ∨ r = 24 + 5 * s') : r ≠ 20 + 5 * s := by omega
section EXA
variable {kd ad : Nat → Nat} {x out : Nat} {M N2 : NT} {nt tn bn dc t0 : Nat} {T : Nat → Int32} {b dp dq : Nat → Nat} {dm : Int32} {C μ : Mm}
/-- what is left of a memory after the types' cells have changed -/
def lfC (C μ' : Mm) (ad : Nat → Nat) : Mm := fun r => match C r with
  | none => none
  | some _ => μ' (ad r)
theorem lfC_n {C μ' : Mm} {ad : Nat → Nat} {r : Nat} (h : C r = none) : lfC C μ' ad r = none := by
  unfold lfC; rw [h]
theorem lfC_s {C μ' : Mm} {ad : Nat → Nat} {r : Nat} {e : En} (h : C r = some e) : lfC C μ' ad r = μ' (ad r) := by
  unfold lfC; rw [h]
theorem KC.left {μ' : Mm} {N4 : NT} {om : Nat → Int32} (h : KC kd x out M nt tn bn dc T b dp dq μ ad C dm) (hs : sameN M N4) (hom : ∀ s, s < nt → nK M s = 2 → ∀ k, k < nC M s → msk (om s) k = nI (nO M s k)) (fr : ∀ a, (∀ s, s < nt → a ≠ ad (20 + 5 * s)) → μ' a = μ a) (res : ∀ s, s < nt → μ' (ad (20 + 5 * s)) = some (eO 2 [.ref (kd (nK M s)), .int (nlo M s), .int (nhi M s), .int (nI (nW M s)), .ref (ad (21 + 5 * s)), .int (om s), .ref (ad (23 + 5 * s)), .int (nI (nF N4 s)), .int (nI (nM N4 s)), .int (nI (nL N4 s))])) : ∃ C', KC kd x out N4 nt tn bn dc T b dp dq μ' ad C' dm := by
  obtain ⟨hR, h0, h15, ⟨g, hg⟩, hC⟩ := id h
  obtain ⟨k0, k1, k3, k5, k7, k10, k13, km, kt, kn⟩ := id hC
  have cE : ∀ r, (∀ s, s < nt → r ≠ 20 + 5 * s) → lfC C μ' ad r = C r := by
    intro r hr
    cases e : C r with
    | none => exact lfC_n e
    | some v =>
      rw [lfC_s e, fr (ad r) (fun s hs z => ?_)]
      · exact hR.get e
      · obtain ⟨om', pn, pf, an, af, t1, _⟩ := kt s hs
        exact hr s hs (hR.2 r (20 + 5 * s) (by rw [e]; simp) (by rw [t1]; simp) z)
  refine ⟨lfC C μ' ad, ⟨fun r e hr => ?_, fun r s h1 h2 => hR.2 r s (fun z => h1 (lfC_n z)) (fun z => h2 (lfC_n z))⟩, h0, h15, ⟨g, (cE 15 (fun s _ => ar_1 (by decide))).trans hg⟩, hC.tys (fun r hr => cE r (fun s _ => ar_1 hr)) (fun s hs' => ?_) (fun r hr => lfC_n (kn r hr))⟩
  · cases e' : C r with
    | none => rw [lfC_n e'] at hr; cases hr
    | some v => rw [lfC_s e'] at hr; exact hr
  · obtain ⟨om', pn, pf, an, af, t1, t2, t3, t4, t5, t6, t7, t8, t9, t10, t11, t12, t13⟩ := kt s hs'
    obtain ⟨f1, f2, f3, f4, f5, f6, f7, f8, f9⟩ := hs.f s
    have q : ∀ r, (∃ s', r = 21 + 5 * s' ∨ r = 22 + 5 * s' ∨ r = 23 + 5 * s' ∨ r = 24 + 5 * s') → lfC C μ' ad r = C r := fun r ⟨s', hr⟩ => cE r (fun s'' _ => ar_3 hr)
    unfold TyR
    rw [f1, f2, f3, f7, f8, f9]
    simp only [f4, f5, f6]
    exact ⟨om s, pn, pf, an, af, (lfC_s t1).trans (res s hs'), (q _ ⟨s, Or.inl rfl⟩).trans t2, (q _ ⟨s, Or.inr (Or.inl rfl)⟩).trans t3, t4, t5, t6, hom s hs', (q _ ⟨s, Or.inr (Or.inr (Or.inl rfl))⟩).trans t8, (q _ ⟨s, Or.inr (Or.inr (Or.inr rfl))⟩).trans t9, t10, t11, t12, t13⟩
theorem KC.all {post : Int32 → Mm → Prop} (hkd : ∀ i j, i < 4 → j < 4 → kd i = kd j → i = j) (h : KC kd x out M nt tn bn dc T b dp dq μ ad C dm) (hM : NWf M nt) (hnt : nt ≤ 16) (hs : sameN M N2) (hU : NUp N2 nt t0)
    (ok : t0 = nt → ∀ μ' C', KC kd x out N2 nt tn bn dc T b dp dq μ' ad C' dm → post 1 μ')
    (no : t0 ≠ nt → ∀ μ' C' M', sameN M M' → KC kd x out M' nt tn bn dc T b dp dq μ' ad C' dm → post 0 μ') : wp_X4_measureAll (ad 1) kd μ post := by
  obtain ⟨nf, n1, n2⟩ := h.c2
  have hR := h.1
  have hch : ∀ s, ∃ om : Int32, s < nt → (∃ y1 y2 y3 : Int32, μ (ad (20 + 5 * s)) = some (eO 2 [.ref (kd (nK M s)), .int (nlo M s), .int (nhi M s), .int (nI (nW M s)), .ref (ad (21 + 5 * s)), .int om, .ref (ad (23 + 5 * s)), .int y1, .int y2, .int y3])) ∧ (nK M s = 2 → ∀ k, k < nC M s → msk om k = nI (nO M s k)) := by
    intro s
    by_cases c : s < nt
    · obtain ⟨om', pn, pf, an, af, t1, t2, t3, t4, t5, t6, t7, t8⟩ := h.tyr c
      exact ⟨om', fun _ => ⟨⟨_, _, _, hR.get t1⟩, t7⟩⟩
    · exact ⟨0, fun h => absurd h c⟩
  obtain ⟨om, hom⟩ := Classical.skolem.mp hch
  refine c_all (N := N2) (ty := fun s => ad (20 + 5 * s)) (pr := fun s => ad (21 + 5 * s)) (ar := fun s => ad (23 + 5 * s)) (om := om) hkd (hs.wf hM) hnt hU h.c1 n1 hnt (Nat.le_refl _) n2 (fun s s' h1 h2 e => ?_) (fun s hs' => ?_) (fun s hs' => ?_) (fun s hs' => ?_) (fun s hs' => ?_) (fun μ' fr res => ?_)
  · obtain ⟨_, _, _, _, _, t1, _⟩ := h.tyr h1
    obtain ⟨_, _, _, _, _, t1', _⟩ := h.tyr h2
    exact ar_2 (hR.2 (20 + 5 * s) (20 + 5 * s') (by rw [t1]; simp) (by rw [t1']; simp) e)
  · obtain ⟨f1, f2, f3, f4, f5, f6, f7, f8, f9⟩ := hs.f s
    obtain ⟨⟨y1, y2, y3, hy⟩, _⟩ := hom s hs'
    refine ⟨y1, y2, y3, ?_⟩
    unfold ObT
    rw [f1, f7, f8, f9]; exact hy
  · obtain ⟨f1, f2, f3, f4, f5, f6, f7, f8, f9⟩ := hs.f s
    obtain ⟨om', pn, pf, an, af, t1, t2, t3, t4, t5, t6, t7, t8⟩ := h.tyr hs'
    unfold RwT
    rw [f2]
    simp only [f4]
    exact ⟨_, pn, pf, hR.get t2, hR.get t3, t4, t5, t6⟩
  · obtain ⟨f1, f2, f3, f4, f5, f6, f7, f8, f9⟩ := hs.f s
    obtain ⟨om', pn, pf, an, af, t1, t2, t3, t4, t5, t6, t7, t8, t9, t10, t11, t12, t13⟩ := h.tyr hs'
    unfold RwT
    rw [f3]
    simp only [f6]
    exact ⟨_, an, af, hR.get t8, hR.get t9, t10, Nat.le_trans t11 (by decide), t13⟩
  · obtain ⟨f1, f2, f3, f4, f5, f6, f7, f8, f9⟩ := hs.f s
    rw [f1, f2]
    simp only [f5]
    exact (hom s hs').2
  · have res2 : ∀ s, ∃ X : Int32 × Int32 × Int32, s < nt → μ' (ad (20 + 5 * s)) = some (eO 2 [.ref (kd (nK M s)), .int (nlo M s), .int (nhi M s), .int (nI (nW M s)), .ref (ad (21 + 5 * s)), .int (om s), .ref (ad (23 + 5 * s)), .int X.1, .int X.2.1, .int X.2.2]) ∧ (s < t0 → X.1 = nI (nF N2 s) ∧ X.2.1 = nI (nM N2 s) ∧ X.2.2 = nI (nL N2 s)) := by
      intro s
      by_cases c : s < nt
      · obtain ⟨f1, f2, f3, f4, f5, f6, f7, f8, f9⟩ := hs.f s
        obtain ⟨y1, y2, y3, hy, hz⟩ := res s c
        unfold ObT at hy
        rw [f1, f7, f8, f9] at hy
        exact ⟨(y1, y2, y3), fun _ => ⟨hy, hz⟩⟩
      · exact ⟨(0, 0, 0), fun h => absurd h c⟩
    obtain ⟨X, hX⟩ := Classical.skolem.mp res2
    by_cases e : t0 = nt
    · rw [if_pos e]
      obtain ⟨C', hK'⟩ := h.left (μ' := μ') (N4 := N2) (om := om) hs (fun s hs' => (hom s hs').2) fr (fun s hs' => by
        obtain ⟨z1, z2⟩ := hX s hs'
        obtain ⟨w1, w2, w3⟩ := z2 (by rw [e]; exact hs')
        rw [w1, w2, w3] at z1
        exact z1)
      exact ok e μ' C' hK'
    · rw [if_neg e]
      have hsM : sameN M ((fun i t j => if i < 6 then M.1 i t j else if i = 6 then natOf (X t).1 else if i = 7 then natOf (X t).2.1 else natOf (X t).2.2, M.2) : NT) := ⟨fun i t j hi => if_pos hi, rfl⟩
      obtain ⟨C', hK'⟩ := h.left (μ' := μ') (N4 := ((fun i t j => if i < 6 then M.1 i t j else if i = 6 then natOf (X t).1 else if i = 7 then natOf (X t).2.1 else natOf (X t).2.2, M.2) : NT)) (om := om) hsM (fun s hs' => (hom s hs').2) fr (fun s hs' => by
        have z1 := (hX s hs').1
        have y1 : nI (nF ((fun i t j => if i < 6 then M.1 i t j else if i = 6 then natOf (X t).1 else if i = 7 then natOf (X t).2.1 else natOf (X t).2.2, M.2) : NT) s) = (X s).1 := nI_natOf _
        have y2 : nI (nM ((fun i t j => if i < 6 then M.1 i t j else if i = 6 then natOf (X t).1 else if i = 7 then natOf (X t).2.1 else natOf (X t).2.2, M.2) : NT) s) = (X s).2.1 := nI_natOf _
        have y3 : nI (nL ((fun i t j => if i < 6 then M.1 i t j else if i = 6 then natOf (X t).1 else if i = 7 then natOf (X t).2.1 else natOf (X t).2.2, M.2) : NT) s) = (X s).2.2 := nI_natOf _
        rw [y1, y2, y3]; exact z1)
      exact no e μ' C' _ hsM hK'
end EXA
