/-! THE CLASS KEEPS A TYPE, over the invariant -/
section KNC
variable {kd ad : Nat → Nat} {x out : Nat} {N : NT} {nt tn bn dc : Nat} {T : Nat → Int32} {b dp dq : Nat → Nat} {dm : Int32} {C μ : Mm}
theorem KC.ext {μ' : Mm} (h : KC kd x out N nt tn bn dc T b dp dq μ ad C dm) (e : ∀ a v, μ a = some v → μ' a = some v) : KC kd x out N nt tn bn dc T b dp dq μ' ad C dm := ⟨h.1.ext e, h.2⟩
theorem k_keepC {C0 μ16 : Mm} {v : List Value} {nf : Nat → Option Nat} {K Cn a0 a1 a2 a3 a4 pn an : Nat} {P O : Nat → Nat} {lo hi om : Int32} {pf : Nat → Option Nat} {post : Int32 → Mm → Prop} {px : String → Mm → Prop} (hkd : ∀ i j, i < 4 → j < 4 → kd i = kd j → i = j) (hN : NWf N nt) (hB : NBd N nt) (hnt : nt ≤ 16) (hR : Rp μ16 ad C0) (h0 : C0 0 = some (eO 5 (.ref (ad 1) :: v))) (hx : ad 0 = x) (h1 : C0 1 = some (eO 3 [.ref (ad 2), .int (nI nt)])) (h2 : C0 2 = some (eT 16 nf)) (h2' : ∀ s, s < nt → nf s = some (ad (20 + 5 * s))) (hT : ∀ s, s < nt → TyR kd ad N C0 s) (hno : ∀ r, 20 + 5 * nt ≤ r → C0 r = none)
    (hN1 : NWf (xtN N nt K Cn P O lo hi) (nt + 1)) (g0 : μ16 a0 = some (eO 2 [.ref (kd K), .int lo, .int hi, .int (nI (nW (xtN N nt K Cn P O lo hi) nt)), .ref a1, .int om, .ref a3, .int 0, .int 0, .int 0])) (g1 : μ16 a1 = some (eO 3 [.ref a2, .int (nI Cn)])) (g2 : μ16 a2 = some (eT pn pf)) (hpn : Cn ≤ pn) (hpn6 : pn ≤ 6) (hpf : ∀ k, k < Cn → pf k = some (ad (20 + 5 * P k))) (g3 : μ16 a3 = some (eO 3 [.ref a4, .int 0])) (g4 : μ16 a4 = some (eT an (fun _ => none))) (han : an ≤ 3) (han3 : K = 2 → an = 3) (hom : K = 2 → ∀ k, k < Cn → msk om k = nI (O k))
    (f0 : ∀ s, C0 s ≠ none → ad s ≠ a0) (f1 : ∀ s, C0 s ≠ none → ad s ≠ a1) (f2 : ∀ s, C0 s ≠ none → ad s ≠ a2) (f3 : ∀ s, C0 s ≠ none → ad s ≠ a3) (f4 : ∀ s, C0 s ≠ none → ad s ≠ a4) (d13 : a1 ≠ a3) (d24 : a2 ≠ a4)
    (full : nt = 16 → px "java/lang/IllegalStateException" μ16)
    (long : nt < 16 → ¬ (meM (xtN N nt K Cn P O lo hi) nt ≤ 240 ∧ meL (xtN N nt K Cn P O lo hi) nt ≤ 240) → ∀ μ' : Mm, (∀ a, a ≠ a0 → μ' a = μ16 a) → px "java/lang/IllegalStateException" μ')
    (good : nt < 16 → meM (xtN N nt K Cn P O lo hi) nt ≤ 240 → meL (xtN N nt K Cn P O lo hi) nt ≤ 240 → ∀ (μ' C' : Mm) (ad' : Nat → Nat), Rp μ' ad' C' → (∀ r, r < 20 + 5 * nt → ad' r = ad r) → (∀ r, r < 20 → r ≠ 1 → r ≠ 2 → C' r = C0 r) → C' 1 = some (eO 3 [.ref (ad' 2), .int (nI (nt + 1))]) → (∃ nf', C' 2 = some (eT 16 nf') ∧ ∀ s, s < nt + 1 → nf' s = some (ad' (20 + 5 * s))) → (∀ s, s < nt + 1 → TyR kd ad' (setM (xtN N nt K Cn P O lo hi) nt (meF (xtN N nt K Cn P O lo hi) nt) (meM (xtN N nt K Cn P O lo hi) nt) (meL (xtN N nt K Cn P O lo hi) nt)) C' s) → (∀ r, 20 + 5 * (nt + 1) ≤ r → C' r = none) → post (nI nt) μ') : wp_X6_keep x kd a0 μ16 post px := by
  obtain ⟨ad', C1, hR1, hold, q0, q1, q2, q3, q4, w0, w1, w2, w3, w4⟩ := hR.ty (n := nt) g0 g1 g2 g3 g4 f0 f1 f2 f3 f4 (q_ne g0 g1 (by simp)) (q_ne g0 g2 (by simp)) (q_ne g0 g3 (by simp)) (q_ne g0 g4 (by simp)) (q_ne g1 g2 (by simp)) d13 (q_ne g1 g4 (by simp)) (q_ne g2 g3 (by simp)) d24 (q_ne g3 g4 (by simp))
  obtain ⟨x1, x2, x3, x4, x5, x6, x7, x8, x9, x10⟩ := xtN_at (N := N) (nt := nt) (K := K) (C := Cn) (P := P) (O := O) (lo := lo) (hi := hi)
  have hwf := hN1 nt (by omega)
  have hT1 : ∀ s, s < nt + 1 → TyR kd ad' (xtN N nt K Cn P O lo hi) C1 s := by
    intro s hs
    by_cases e : s = nt
    · subst e
      unfold TyR
      rw [x1, x2, x3, x6, x7, x8, x9, x10, q1, q2, q3, q4]
      simp only [x4, x5]
      refine ⟨om, pn, pf, an, fun _ => none, w0, w1, w2, hpn, hpn6, fun k hk => ?_, hom, w3, w4, by omega, han, han3, fun k hk => by omega⟩
      have hlt := (hwf.2.2.2.1 k (by rw [x2]; exact hk)).1
      rw [x4] at hlt
      rw [(hold (20 + 5 * P k) (by omega)).1]; exact hpf k hk
    · exact xtN_ag.tyr (by omega) ((hT s (by omega)).mv hN (by omega) (fun r z1 z2 => hold r (by omega)))
  rw [← q0]
  refine k_keep (nf := nf) (v := v) hkd hR1 (by rw [(hold 0 (by omega)).2, (hold 1 (by omega)).1]; exact h0) (by rw [(hold 0 (by omega)).1]; exact hx) (by rw [(hold 1 (by omega)).2, (hold 2 (by omega)).1]; exact h1) (by rw [(hold 2 (by omega)).2]; exact h2) (fun s hs => by rw [(hold (20 + 5 * s) (by omega)).1]; exact h2' s hs) hT1 hN1 (xtN_ag.bd hB) hnt full (fun z1 z2 μ' z3 => long z1 z2 μ' (by rw [q0] at z3; exact z3)) (fun z1 z2 z3 μ' C' z4 z5 z6 z7 z8 => ?_)
  refine good z1 z2 z3 μ' C' ad' z4 (fun r hr => (hold r (by omega)).1) (fun r y1 y2 y3 => ?_) z6 z7 z8 (fun r hr => ?_)
  · rw [z5 r y2 y3 (by omega), (hold r (by omega)).2]
  · rw [z5 r (by omega) (by omega) (by omega), (hold r (by omega)).2]; exact hno r (by omega)
theorem CI.new {ad' : Nat → Nat} {N' : NT} {C' : Mm} (h : CI kd ad N nt tn bn dc T b dp dq dm C) (hdp : ∀ k, k < dc → dp k < nt) (ea : ∀ r, r < 20 + 5 * nt → ad' r = ad r) (eC : ∀ r, r < 20 → r ≠ 1 → r ≠ 2 → C' r = C r) (h1 : C' 1 = some (eO 3 [.ref (ad' 2), .int (nI (nt + 1))])) (h2 : ∃ nf', C' 2 = some (eT 16 nf') ∧ ∀ s, s < nt + 1 → nf' s = some (ad' (20 + 5 * s))) (hT : ∀ s, s < nt + 1 → TyR kd ad' N' C' s) (hno : ∀ r, 20 + 5 * (nt + 1) ≤ r → C' r = none) : CI kd ad' N' (nt + 1) tn bn dc T b dp dq dm C' := by
  unfold CI at *
  obtain ⟨c0, c1, c3, c5, c7, c10, c13, cm, ct, cn⟩ := h
  obtain ⟨c13, df, c14, cd⟩ := c13
  exact ⟨by rw [ea 1 (by omega), ea 3 (by omega), ea 5 (by omega), ea 7 (by omega), ea 10 (by omega), ea 13 (by omega), eC 0 (by omega) (by omega) (by omega)]; exact c0, ⟨h1, h2⟩, by rw [ea 4 (by omega), eC 3 (by omega) (by omega) (by omega), eC 4 (by omega) (by omega) (by omega)]; exact c3, by rw [ea 6 (by omega), eC 5 (by omega) (by omega) (by omega), eC 6 (by omega) (by omega) (by omega)]; exact c5, by rw [ea 8 (by omega), ea 9 (by omega), eC 7 (by omega) (by omega) (by omega), eC 8 (by omega) (by omega) (by omega), eC 9 (by omega) (by omega) (by omega)]; exact c7, by rw [ea 11 (by omega), ea 12 (by omega), eC 10 (by omega) (by omega) (by omega), eC 11 (by omega) (by omega) (by omega), eC 12 (by omega) (by omega) (by omega)]; exact c10, ⟨by rw [ea 14 (by omega), eC 13 (by omega) (by omega) (by omega)]; exact c13, df, by rw [eC 14 (by omega) (by omega) (by omega)]; exact c14, fun k hk => by have := hdp k hk; rw [ea (20 + 5 * dp k) (by omega)]; exact cd k hk⟩, cm, hT, hno⟩
/-- the measures of a notation with one type more -/
theorem new_ok {N1 : NT} (hV : VI N nt tn bn dc b dp dq) (hag : agN N N1 nt) (hN1 : NWf N1 (nt + 1)) (hM : meM N1 nt ≤ 240) (hL : meL N1 nt ≤ 240) : agN N (setM N1 nt (meF N1 nt) (meM N1 nt) (meL N1 nt)) nt ∧ NWf (setM N1 nt (meF N1 nt) (meM N1 nt) (meL N1 nt)) (nt + 1) ∧ NBd (setM N1 nt (meF N1 nt) (meM N1 nt) (meL N1 nt)) (nt + 1) ∧ NMe (setM N1 nt (meF N1 nt) (meM N1 nt) (meL N1 nt)) (nt + 1) ∧ NFM (setM N1 nt (meF N1 nt) (meM N1 nt) (meL N1 nt)) (nt + 1) := by
  have hag2 : agN N (setM N1 nt (meF N1 nt) (meM N1 nt) (meL N1 nt)) nt := by
    have h2 : agN N1 (setM N1 nt (meF N1 nt) (meM N1 nt) (meL N1 nt)) nt := agN.putM
    exact ⟨fun i t j ht => (h2.1 i t j ht).trans (hag.1 i t j ht), fun t ht => ⟨(h2.2 t ht).1.trans (hag.2 t ht).1, (h2.2 t ht).2.trans (hag.2 t ht).2⟩⟩
  obtain ⟨v1, v2, v3, v4, v5, v6⟩ := hV
  obtain ⟨s1, s2, s3⟩ := setM_at (N := N1) (nt := nt) (a := meF N1 nt) (b := meM N1 nt) (c := meL N1 nt)
  have hfm := me_fm hN1 (by omega : nt < nt + 1) (hag.fm v5)
  have hme := me_cong (setM_same (N := N1) (k := nt) (a := meF N1 nt) (b := meM N1 nt) (c := meL N1 nt)) hN1 (by omega : nt < nt + 1) (fun s hs => by obtain ⟨_, _, _, _, _, _, f7, f8, f9, _⟩ := (agN.putM (N := N1) (a := meF N1 nt) (b := meM N1 nt) (c := meL N1 nt)).f (t := s) hs; exact ⟨f7, f8, f9⟩)
  refine ⟨hag2, setM_same.wf hN1, fun t ht => ?_, fun t ht => ?_, fun t ht => ?_⟩
  · by_cases e : t = nt
    · subst e; rw [s1, s2, s3]; omega
    · exact hag2.bd v3 t (by omega)
  · by_cases e : t = nt
    · subst e; rw [s1, s2, s3, hme.1, hme.2.1, hme.2.2]; exact ⟨rfl, rfl, rfl⟩
    · exact hag2.me v2 v4 t (by omega)
  · by_cases e : t = nt
    · subst e; rw [s1, s2]; exact hfm
    · exact hag2.fm v5 t (by omega)
/-- a type whose cells are all new -/
theorem KC.keepN {μ16 : Mm} {K Cn a0 a1 a2 a3 a4 pn an : Nat} {P O : Nat → Nat} {lo hi om : Int32} {pf : Nat → Option Nat} {post : Int32 → Mm → Prop} {px : String → Mm → Prop} (h : KC kd x out N nt tn bn dc T b dp dq μ ad C dm) (hV : VI N nt tn bn dc b dp dq) (hkd : ∀ i j, i < 4 → j < 4 → kd i = kd j → i = j) (hfr : ∀ a v, μ a = some v → μ16 a = some v)
    (hN1 : NWf (xtN N nt K Cn P O lo hi) (nt + 1)) (g0 : μ16 a0 = some (eO 2 [.ref (kd K), .int lo, .int hi, .int (nI (nW (xtN N nt K Cn P O lo hi) nt)), .ref a1, .int om, .ref a3, .int 0, .int 0, .int 0])) (g1 : μ16 a1 = some (eO 3 [.ref a2, .int (nI Cn)])) (g2 : μ16 a2 = some (eT pn pf)) (hpn : Cn ≤ pn) (hpn6 : pn ≤ 6) (hpf : ∀ k, k < Cn → pf k = some (ad (20 + 5 * P k))) (g3 : μ16 a3 = some (eO 3 [.ref a4, .int 0])) (g4 : μ16 a4 = some (eT an (fun _ => none))) (han : an ≤ 3) (han3 : K = 2 → an = 3) (hom : K = 2 → ∀ k, k < Cn → msk om k = nI (O k))
    (f0 : μ a0 = none) (f1 : μ a1 = none) (f2 : μ a2 = none) (f3 : μ a3 = none) (f4 : μ a4 = none) (d13 : a1 ≠ a3) (d24 : a2 ≠ a4)
    (hno : (nt < 16 → ¬ (meM (xtN N nt K Cn P O lo hi) nt ≤ 240 ∧ meL (xtN N nt K Cn P O lo hi) nt ≤ 240)) → ∀ μ' : Mm, KI kd x out N nt tn bn dc T b dp dq μ' → px "java/lang/IllegalStateException" μ')
    (good : nt < 16 → meM (xtN N nt K Cn P O lo hi) nt ≤ 240 → meL (xtN N nt K Cn P O lo hi) nt ≤ 240 → ∀ μ' : Mm, KI kd x out (setM (xtN N nt K Cn P O lo hi) nt (meF (xtN N nt K Cn P O lo hi) nt) (meM (xtN N nt K Cn P O lo hi) nt) (meL (xtN N nt K Cn P O lo hi) nt)) (nt + 1) tn bn dc T b dp dq μ' → post (nI nt) μ') : wp_X6_keep x kd a0 μ16 post px := by
  have h16 := h.ext hfr
  obtain ⟨hR, h0, h15, ⟨g, hg⟩, hC⟩ := id h16
  obtain ⟨c0, ⟨c1, nf, c2, c2'⟩, _, _, _, _, _, _, ct, cn⟩ := id hC
  have fr : ∀ q, μ q = none → ∀ s, C s ≠ none → ad s ≠ q := fun q hq s hs z => by
    obtain ⟨e, he⟩ := Option.ne_none_iff_exists'.mp hs
    have := h.1.get he
    rw [z, hq] at this; cases this
  refine k_keepC hkd hV.2.1 hV.2.2.1 hV.1 hR c0 h0 c1 c2 c2' ct cn hN1 g0 g1 g2 hpn hpn6 hpf g3 g4 han han3 hom (fr a0 f0) (fr a1 f1) (fr a2 f2) (fr a3 f3) (fr a4 f4) d13 d24 (fun e => hno (fun q => by omega) _ h16.ki) (fun z1 z2 μ' z3 => hno (fun _ => z2) _ (KC.ki (h.ext (fun a v hv => ?_)))) (fun z1 z2 z3 μ' C' ad' z4 z5 z6 z7 z8 z9 z10 => good z1 z2 z3 μ' ⟨ad', C', dm, z4, by rw [z5 0 (by omega)]; exact h0, by rw [z5 15 (by omega)]; exact h15, ⟨g, by rw [z6 15 (by omega) (by omega) (by omega)]; exact hg⟩, hC.new (fun k hk => (hV.2.2.2.2.2.2.2.2.2 k hk).1) z5 z6 z7 z8 z9 z10⟩)
  rw [z3 a (fun z => by rw [z, f0] at hv; cases hv)]
  exact hfr a v hv
end KNC
