/-! THE REFERENCE LAYS A TYPE -/
def LO (nt : Nat) (α α' : Nat → Nat → Int32) : Prop := (∀ a, (a < 2 ∨ (11 < a ∧ a < 18)) → α' a = α a) ∧ (∀ a j, a ≠ 5 → a ≠ 7 → a < 18 → j < nt → α' a j = α a j) ∧ (∀ j, j < 6 * nt → α' 5 j = α 5 j) ∧ ∀ j, j < 3 * nt → α' 7 j = α 7 j
section LOS
variable {N : NT} {nt tn bn dc : Nat} {T : Nat → Int32} {b dp dq : Nat → Nat} {σ σ' : Nat → Int32} {α α' : Nat → Nat → Int32}
theorem LO.refl : LO nt α α := ⟨fun _ _ => rfl, fun _ _ _ _ _ _ => rfl, fun _ _ => rfl, fun _ _ => rfl⟩
theorem LO.uA (h : LO nt α α') {k i : Nat} {v : Int32} (h1 : 2 ≤ k) (h2 : k ≤ 11) (h3 : k ≠ 5 → k ≠ 7 → nt ≤ i) (h5 : k = 5 → 6 * nt ≤ i) (h7 : k = 7 → 3 * nt ≤ i) : LO nt α (uA α' k i v) := by
  refine ⟨fun a ha => ?_, fun a j z1 z2 z3 z4 => ?_, fun j hj => ?_, fun j hj => ?_⟩
  · rw [uA_a (by omega)]; exact h.1 a ha
  · by_cases e : a = k
    · rw [uA_j (by have := h3 (by omega) (by omega); omega)]; exact h.2.1 a j z1 z2 z3 z4
    · rw [uA_a e]; exact h.2.1 a j z1 z2 z3 z4
  · by_cases e : 5 = k
    · rw [uA_j (by have := h5 e.symm; omega)]; exact h.2.2.1 j hj
    · rw [uA_a e]; exact h.2.2.1 j hj
  · by_cases e : 7 = k
    · rw [uA_j (by have := h7 e.symm; omega)]; exact h.2.2.2 j hj
    · rw [uA_a e]; exact h.2.2.2 j hj
theorem LO.mm (h : LO nt α α') {x y z : Int32} : LO nt α (mm α' nt x y z) := ((h.uA (by omega) (by omega) (fun _ _ => Nat.le_refl _) (by omega) (by omega)).uA (by omega) (by omega) (fun _ _ => Nat.le_refl _) (by omega) (by omega)).uA (by omega) (by omega) (fun _ _ => Nat.le_refl _) (by omega) (by omega)
theorem LO.mo (h : LO nt α α') (hN : NWf N nt) (hM : NMo N nt α) : NMo N nt α' := by
  intro t ht
  have hwf := hN t ht
  obtain ⟨m1, m2, m3, m4, m5, m6, m7⟩ := hM t ht
  rw [h.2.1 2 t (by omega) (by omega) (by omega) ht, h.2.1 3 t (by omega) (by omega) (by omega) ht, h.2.1 4 t (by omega) (by omega) (by omega) ht, h.2.1 6 t (by omega) (by omega) (by omega) ht, h.2.1 8 t (by omega) (by omega) (by omega) ht]
  exact ⟨m1, m2, m3, m4, m5, fun k hk => by rw [h.2.2.1 _ (by omega)]; exact m6 k hk, fun k hk => by rw [h.2.2.2 _ (by omega)]; exact m7 k hk⟩
theorem LO.ex (h : LO nt α α') (hM : MEx N nt α) : MEx N nt α' := by
  intro t ht
  rw [h.2.1 9 t (by omega) (by omega) (by omega) ht, h.2.1 10 t (by omega) (by omega) (by omega) ht, h.2.1 11 t (by omega) (by omega) (by omega) ht]
  exact hM t ht
theorem LO.mi (h : LO nt α α') (hN : NWf N nt) (hM : MI N nt tn bn dc T b dp dq σ α) (e : ∀ k, k = 1 ∨ k = 12 ∨ k = 14 ∨ k = 16 → σ' k = σ k) : MI N nt tn bn dc T b dp dq σ' α' := by
  obtain ⟨m1, m2, m3, m4, m5, m6, m7, m8, m9⟩ := hM
  refine ⟨by rw [e 1 (by omega)]; exact m1, h.mo hN m2, h.ex m3, by rw [e 14 (by omega)]; exact m4, by rw [h.1 15 (by omega)]; exact m5, by rw [e 16 (by omega)]; exact m6, by rw [h.1 17 (by omega)]; exact m7, by rw [e 12 (by omega)]; exact m8, by rw [h.1 13 (by omega)]; exact m9⟩
theorem m_lay {x1 x2 x3 x4 : Int32} {post : (Nat → Int32) → (Nat → Nat → Int32) → Prop} (h1 : σ 1 = nI nt) (hnt : nt < 16) (hp : post σ (uA (uA (uA (uA (uA α 2 nt x1) 3 nt x2) 4 nt x3) 6 nt x4) 8 nt 0)) : wp_X7_lay x1 x2 x3 x4 σ α post := by
  have hi : vp_in (nI nt) 16 := vp_in_nI hnt (by omega)
  refine ⟨fun h => ?_, fun _ => ?_⟩
  · rw [h1, q_l16, q_le (by omega) (by omega)] at h; omega
  · rw [h1, nI_clamp (by omega)]
    refine ⟨hi, fun α3 e => ?_⟩
    subst e
    refine ⟨hi, fun α6 e => ?_⟩
    subst e
    refine ⟨hi, fun α9 e => ?_⟩
    subst e
    refine ⟨hi, fun α12 e => ?_⟩
    subst e
    refine ⟨hi, fun α15 e => ?_⟩
    subst e
    exact hp
theorem NMo.new {K Cn : Nat} {P O : Nat → Nat} {lo hi : Int32} (hN : NWf N nt) (hM : NMo N nt α) (h : LO nt α α') (e2 : α' 2 nt = nI K) (e3 : α' 3 nt = lo) (e4 : K ≠ 3 → α' 4 nt = hi) (e6 : α' 6 nt = nI Cn) (e8 : α' 8 nt = nI 0) (e5 : ∀ k, k < Cn → α' 5 (6 * nt + k) = nI (P k + 100 * O k)) : NMo (xtN N nt K Cn P O lo hi) (nt + 1) α' := by
  intro t ht
  by_cases e : t = nt
  · subst e
    obtain ⟨x1, x2, x3, x4, x5, x6, x7, x8, x9, x10⟩ := xtN_at (N := N) (nt := t) (K := K) (C := Cn) (P := P) (O := O) (lo := lo) (hi := hi)
    rw [x1, x2, x3, x9, x10]
    simp only [x4, x5]
    exact ⟨e2, e3, e4, e6, e8, e5, fun k hk => by omega⟩
  · exact xtN_ag.mo (h.mo hN hM) t (by omega)
theorem m_new {N1 : NT} {post : Int32 → (Nat → Int32) → (Nat → Nat → Int32) → Prop} (hN1 : NWf N1 (nt + 1)) (hB : NBd N1 nt) (hM : NMo N1 (nt + 1) α) (hE : MEx N1 nt α) (hnt : nt < 16) (hp : post (if meM N1 nt ≤ 240 ∧ meL N1 nt ≤ 240 then 1 else 0) σ (mm α nt (nI (meF N1 nt)) (nI (meM N1 nt)) (nI (meL N1 nt)))) : wp_X7_measure (nI nt) σ α post := by
  obtain ⟨bM, bL⟩ := me_bd hN1 (by omega : nt < nt + 1) hB
  refine m_meas hN1 hM (by omega) (by omega) ?_
  rw [iH_ex hN1 (by omega) hB hE, iG_ex hN1 (by omega) hB hE, iL_ex hN1 (by omega) hB hE, q_l240]
  by_cases ok : meM N1 nt ≤ 240 ∧ meL N1 nt ≤ 240
  · rw [if_pos ok] at hp
    rw [if_neg (by rw [q_lt (by omega) (by omega), q_lt (by omega) (by omega)]; omega)]; exact hp
  · rw [if_neg ok] at hp
    rw [if_pos (by rw [q_lt (by omega) (by omega), q_lt (by omega) (by omega)]; omega)]; exact hp
theorem NMo.same {N' : NT} {n : Nat} (h : sameN N N') (hM : NMo N n α) : NMo N' n α := by
  intro t ht
  obtain ⟨f1, f2, f3, f4, f5, f6, f7, f8, f9⟩ := h.f t
  rw [f1, f2, f3, f7, f8]
  simp only [f4, f5, f6]
  exact hM t ht
/-- the reference's state with one type more -/
theorem MI.new {N1 : NT} {dc' : Nat} {dp' dq' : Nat → Nat} (hM : MI N nt tn bn dc T b dp dq σ α) (h : LO nt α α') (hag : agN N N1 nt) (hM1 : NMo N1 (nt + 1) α') (h1 : σ' 1 = nI (nt + 1)) (h14 : σ' 14 = σ 14) (h16 : σ' 16 = σ 16) (h12 : σ' 12 = nI dc') (hd : ∀ k, k < dc' → α 13 k = nI (dp' k + 100 * dq' k)) : MI (setM N1 nt (meF N1 nt) (meM N1 nt) (meL N1 nt)) (nt + 1) tn bn dc' T b dp' dq' σ' (mm α' nt (nI (meF N1 nt)) (nI (meM N1 nt)) (nI (meL N1 nt))) := by
  obtain ⟨m1, m2, m3, m4, m5, m6, m7, m8, m9⟩ := hM
  have h' : LO nt α (mm α' nt (nI (meF N1 nt)) (nI (meM N1 nt)) (nI (meL N1 nt))) := h.mm
  obtain ⟨s1, s2, s3⟩ := setM_at (N := N1) (nt := nt) (a := meF N1 nt) (b := meM N1 nt) (c := meL N1 nt)
  refine ⟨h1, NMo.same setM_same hM1.mm, fun s hs => ?_, by rw [h14]; exact m4, by rw [h'.1 15 (by omega)]; exact m5, by rw [h16]; exact m6, by rw [h'.1 17 (by omega)]; exact m7, h12, fun k hk => by rw [h'.1 13 (by omega)]; exact hd k hk⟩
  by_cases e : s = nt
  · subst e
    rw [s1, s2, s3, mm_9, mm_10, mm_11]; exact ⟨rfl, rfl, rfl⟩
  · have hsn : s < nt := by omega
    obtain ⟨_, _, _, _, _, _, f7, f8, f9, _⟩ := hag.f hsn
    obtain ⟨_, _, _, _, _, _, g7, g8, g9, _⟩ := (agN.putM (N := N1) (a := meF N1 nt) (b := meM N1 nt) (c := meL N1 nt)).f hsn
    rw [g7, g8, g9, f7, f8, f9]
    exact h'.ex m3 s hsn
theorem VI.new {N1 : NT} {dc' : Nat} {dp' dq' : Nat → Nat} (hV : VI N nt tn bn dc b dp dq) (hag : agN N N1 nt) (hN1 : NWf N1 (nt + 1)) (hM : meM N1 nt ≤ 240) (hL : meL N1 nt ≤ 240) (hnt : nt < 16) (h6 : dc' ≤ 6) (hd : ∀ k, k < dc' → dp' k < nt + 1 ∧ dq' k ≤ 1) : VI (setM N1 nt (meF N1 nt) (meM N1 nt) (meL N1 nt)) (nt + 1) tn bn dc' b dp' dq' := by
  obtain ⟨a1, a2, a3, a4, a5⟩ := new_ok hV hag hN1 hM hL
  exact ⟨by omega, a2, a3, a4, a5, hV.2.2.2.2.2.1, hV.2.2.2.2.2.2.1, hV.2.2.2.2.2.2.2.1, h6, hd⟩
theorem ups_none {μ : Mm} {a q : Nat} {e : En} (h : ups μ a e q = none) : q ≠ a ∧ μ q = none := by
  have hne : q ≠ a := fun z => by rw [z, ups_s] at h; cases h
  exact ⟨hne, by rwa [ups_n hne] at h⟩
theorem ups_keep {μ : Mm} {a q : Nat} {e v : En} (h : μ q = some v) (hf : μ a = none) : ups μ a e q = some v := by
  rw [ups_n (fun z => by rw [z, hf] at h; cases h)]; exact h
theorem ups_kp {μ μ' : Mm} {a q : Nat} {e v w : En} (hv : μ q = some w) (hf : μ a = none) (h : μ' q = some v) : ups μ' a e q = some v := by
  rw [ups_n (fun z => by rw [z, hf] at hv; cases hv)]; exact h
end LOS
section BLD
variable {kd ad : Nat → Nat} {x out : Nat} {N : NT} {nt tn bn dc : Nat} {T : Nat → Int32} {b dp dq : Nat → Nat} {dm : Int32} {C μ : Mm}
/-- a type is made, and kept -/
theorem KC.build {μ14 : Mm} {K Cn q5 q9 it pn : Nat} {P O : Nat → Nat} {lo hi om : Int32} {pf : Nat → Option Nat} {a0 a1 a2 a3 a4 a5 a6 a7 a8 a9 : Value} {post : Int32 → Mm → Prop} {px : String → Mm → Prop} (h : KC kd x out N nt tn bn dc T b dp dq μ ad C dm) (hV : VI N nt tn bn dc b dp dq) (hkd : ∀ i j, i < 4 → j < 4 → kd i = kd j → i = j) (hK4 : K < 4) (hfr : ∀ a v, μ a = some v → μ14 a = some v)
    (hN1 : NWf (xtN N nt K Cn P O lo hi) (nt + 1)) (g0 : μ14 q5 = some (eO 2 [a0, a1, a2, a3, a4, a5, a6, a7, a8, a9])) (g1 : μ14 q9 = some (eO 3 [.ref it, .int (nI Cn)])) (g2 : μ14 it = some (eT pn pf)) (hpn : Cn ≤ pn) (hpn6 : pn ≤ 6) (hpf : ∀ k, k < Cn → pf k = some (ad (20 + 5 * P k))) (hom : K = 2 → ∀ k, k < Cn → msk om k = nI (O k))
    (f0 : μ q5 = none) (f1 : μ q9 = none) (f2 : μ it = none)
    (hno : (nt < 16 → ¬ (meM (xtN N nt K Cn P O lo hi) nt ≤ 240 ∧ meL (xtN N nt K Cn P O lo hi) nt ≤ 240)) → ∀ μ' : Mm, KI kd x out N nt tn bn dc T b dp dq μ' → px "java/lang/IllegalStateException" μ')
    (good : nt < 16 → meM (xtN N nt K Cn P O lo hi) nt ≤ 240 → meL (xtN N nt K Cn P O lo hi) nt ≤ 240 → ∀ μ' : Mm, KI kd x out (setM (xtN N nt K Cn P O lo hi) nt (meF (xtN N nt K Cn P O lo hi) nt) (meM (xtN N nt K Cn P O lo hi) nt) (meL (xtN N nt K Cn P O lo hi) nt)) (nt + 1) tn bn dc T b dp dq μ' → post (nI nt) μ') :
    wp_X3_init q5 kd (kd K) lo hi q9 om μ14 (fun μ16 => (∃ f20, μ16 x = some (.inl (5, f20))) ∧ wp_X6_keep x kd q5 μ16 (fun r17 μ18 => post r17 μ18) px) := by
  obtain ⟨x1, x2, x3, x4, x5, x6, x7, x8, x9, x10⟩ := xtN_at (N := N) (nt := nt) (K := K) (C := Cn) (P := P) (O := O) (lo := lo) (hi := hi)
  have sp := hN1.span (by omega : nt < nt + 1)
  rw [x9, x10] at sp
  have n59 : q5 ≠ q9 := q_ne g0 g1 (by simp)
  have n5i : q5 ≠ it := q_ne g0 g2 (by simp)
  refine y_init (an := if K = 2 then 3 else 0) g0 sp.1 sp.2.1 (fun c => ?_) (fun c => ?_) (fun q ai hq hai z1 z2 z3 => ?_)
  · rw [q_kd hkd hK4 (by omega)] at c; rw [if_pos c]
  · rw [q_kd hkd hK4 (by omega)] at c; rw [if_neg c]
  · have fq : μ q = none := by
      cases e : μ q with
      | none => rfl
      | some v => rw [hfr q v e] at hq; cases hq
    have fa : μ ai = none := by
      cases e : μ ai with
      | none => rfl
      | some v => rw [hfr ai v e] at hai; cases hai
    have nq9 : q9 ≠ q := fun z => by rw [z, hq] at g1; cases g1
    have nqi : it ≠ q := fun z => by rw [z, hq] at g2; cases g2
    have na9 : q9 ≠ ai := fun z => by rw [z, hai] at g1; cases g1
    have nai : it ≠ ai := fun z => by rw [z, hai] at g2; cases g2
    have hfr16 : ∀ a v, μ a = some v → ups (ups (ups μ14 ai (eT (if K = 2 then 3 else 0) (fun _ => none))) q (eO 3 [.ref ai, .int 0])) q5 (eO 2 [.ref (kd K), .int lo, .int hi, .int (nI (wdN (nV (xtN N nt K Cn P O lo hi) nt))), .ref q9, .int om, .ref q, .int 0, .int 0, .int 0]) a = some v := by
      intro a v hv
      rw [ups_n (fun z => by rw [z, f0] at hv; cases hv), ups_n (fun z => by rw [z, fq] at hv; cases hv), ups_n (fun z => by rw [z, fa] at hv; cases hv)]
      exact hfr a v hv
    refine ⟨⟨_, hfr16 _ _ h.cx⟩, h.keepN (a1 := q9) (a2 := it) (a3 := q) (a4 := ai) hV hkd hfr16 hN1 ups_s (by rw [ups_n n59.symm, ups_n nq9, ups_n na9]; exact g1) (by rw [ups_n n5i.symm, ups_n nqi, ups_n nai]; exact g2) hpn hpn6 hpf (by rw [ups_n z1]; exact ups_s) (by rw [ups_n z2, ups_n z3]; exact ups_s) ?_ (fun c => if_pos c) hom f0 f1 f2 fq fa nq9 nai hno good⟩
    split <;> omega
end BLD
