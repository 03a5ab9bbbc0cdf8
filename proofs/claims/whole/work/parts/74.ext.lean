/-! OPERATIONS: extend, its pieces -/
def natOf (v : Int32) : Nat := v.toBitVec.toNat
theorem nI_natOf (v : Int32) : nI (natOf v) = v := by
  apply Int32.toBitVec_inj.1
  show BitVec.ofNat 32 v.toBitVec.toNat = v.toBitVec
  simp
def adN (N : NT) (s o : Nat) : NT := (fun i t j => if t = s ∧ i = 2 then N.1 2 s 0 + 1 else if t = s ∧ i = 5 ∧ j = N.1 2 s 0 then o else N.1 i t j, N.2)
/-- the fields of one, the measures of another -/
def mxN (N M : NT) : NT := (fun i t j => if i < 6 then N.1 i t j else M.1 i t j, N.2)
section ADN
variable {N M : NT} {s o nt : Nat}
theorem adN_n {t : Nat} (h : t ≠ s) : ∀ i j, (adN N s o).1 i t j = N.1 i t j := fun i j => by
  show (if t = s ∧ i = 2 then _ else if t = s ∧ i = 5 ∧ j = N.1 2 s 0 then o else N.1 i t j) = _
  rw [if_neg (fun z => h z.1), if_neg (fun z => h z.1)]
theorem adN_i {t i j : Nat} (h2 : i ≠ 2) (h5 : i ≠ 5) : (adN N s o).1 i t j = N.1 i t j := by
  show (if t = s ∧ i = 2 then _ else if t = s ∧ i = 5 ∧ j = N.1 2 s 0 then o else N.1 i t j) = _
  rw [if_neg (fun z => h2 z.2), if_neg (fun z => h5 z.2.1)]
theorem adN_A : nA (adN N s o) s = nA N s + 1 := by
  show (if s = s ∧ 2 = 2 then N.1 2 s 0 + 1 else _) = _
  rw [if_pos ⟨rfl, rfl⟩]; rfl
theorem adN_D (k : Nat) : nD (adN N s o) s k = if k = nA N s then o else nD N s k := by
  show (if s = s ∧ 5 = 2 then N.1 2 s 0 + 1 else if s = s ∧ 5 = 5 ∧ k = N.1 2 s 0 then o else N.1 5 s k) = _
  rw [if_neg (by omega)]
  by_cases e : k = nA N s
  · rw [if_pos ⟨rfl, rfl, e⟩, if_pos e]
  · rw [if_neg (fun z => e z.2.2), if_neg e]; rfl
theorem adN_w (t : Nat) : nW (adN N s o) t = nW N t := by
  have a : nK (adN N s o) t = nK N t := adN_i (by omega) (by omega)
  have b : nC (adN N s o) t = nC N t := adN_i (by omega) (by omega)
  unfold nW nV
  rw [a, b]; rfl
theorem adN_wf (hN : NWf N nt) (ho : o < s) (hA : nA N s < 3) : NWf (adN N s o) nt := by
  intro t ht
  have hwf := hN t ht
  have a : nK (adN N s o) t = nK N t := adN_i (by omega) (by omega)
  have b : nC (adN N s o) t = nC N t := adN_i (by omega) (by omega)
  have c : ∀ k, nP (adN N s o) t k = nP N t k := fun k => adN_i (by omega) (by omega)
  have d : ∀ k, nO (adN N s o) t k = nO N t k := fun k => adN_i (by omega) (by omega)
  have e : nlo (adN N s o) t = nlo N t := rfl
  have f : nhi (adN N s o) t = nhi N t := rfl
  rw [a, b, e, f]
  simp only [c, d]
  by_cases q : t = s
  · subst q
    rw [adN_A]
    refine ⟨hwf.1, hwf.2.1, by omega, hwf.2.2.2.1, fun k hk => ?_, hwf.2.2.2.2.2⟩
    rw [adN_D]
    split
    · exact ho
    · exact hwf.2.2.2.2.1 k (by omega)
  · have g : nA (adN N s o) t = nA N t := adN_n q 2 0
    have i : ∀ k, nD (adN N s o) t k = nD N t k := fun k => adN_n q 5 k
    rw [g]
    simp only [i]
    exact hwf
theorem adN_mo {α : Nat → Nat → Int32} (hN : NWf N nt) (hM : NMo N nt α) (hs : s < nt) (hA : nA N s < 3) : NMo (adN N s o) nt (uA (uA α 7 (3 * s + nA N s) (nI o)) 8 s (nI (nA N s + 1))) := by
  intro t ht
  have hwf := hN t ht
  obtain ⟨m1, m2, m3, m4, m5, m6, m7⟩ := hM t ht
  have a : nK (adN N s o) t = nK N t := adN_i (by omega) (by omega)
  have b : nC (adN N s o) t = nC N t := adN_i (by omega) (by omega)
  have c : ∀ k, nP (adN N s o) t k = nP N t k := fun k => adN_i (by omega) (by omega)
  have d : ∀ k, nO (adN N s o) t k = nO N t k := fun k => adN_i (by omega) (by omega)
  have e : nlo (adN N s o) t = nlo N t := rfl
  have f : nhi (adN N s o) t = nhi N t := rfl
  rw [a, b, e, f]
  simp only [c, d]
  have g : ∀ x, x ≠ 7 → x ≠ 8 → uA (uA α 7 (3 * s + nA N s) (nI o)) 8 s (nI (nA N s + 1)) x = α x := fun x h1 h2 => by rw [uA_a h2, uA_a h1]
  rw [g 2 (by omega) (by omega), g 3 (by omega) (by omega), g 4 (by omega) (by omega), g 5 (by omega) (by omega), g 6 (by omega) (by omega)]
  by_cases q : t = s
  · subst q
    rw [adN_A]
    refine ⟨m1, m2, m3, m4, uA_s, m6, fun k hk => ?_⟩
    rw [adN_D, uA_a (by omega)]
    by_cases z : k = nA N t
    · rw [if_pos z, z, uA_s]
    · rw [if_neg z, uA_j (by omega)]; exact m7 k (by omega)
  · have i : nA (adN N s o) t = nA N t := adN_n q 2 0
    have j : ∀ k, nD (adN N s o) t k = nD N t k := fun k => adN_n q 5 k
    rw [i]
    simp only [j]
    refine ⟨m1, m2, m3, m4, by rw [uA_j (by omega), uA_a (by omega)]; exact m5, m6, fun k hk => ?_⟩
    rw [uA_a (by omega), uA_j (by omega)]; exact m7 k hk
theorem mxN_same : sameN N (mxN N M) := ⟨fun i t j hi => if_pos hi, rfl⟩
theorem mxN_m (t : Nat) : nF (mxN N M) t = nF M t ∧ nM (mxN N M) t = nM M t ∧ nL (mxN N M) t = nL M t := by
  have h : ∀ i, ¬ i < 6 → (mxN N M).1 i t 0 = M.1 i t 0 := fun i hi => if_neg hi
  exact ⟨h 6 (by omega), h 7 (by omega), h 8 (by omega)⟩
theorem sameN.symm (h : sameN N M) : sameN M N := ⟨fun i t j hi => (h.1 i t j hi).symm, h.2.symm⟩
end ADN
section EXC
variable {kd ad : Nat → Nat} {x out : Nat} {N : NT} {nt tn bn dc : Nat} {T : Nat → Int32} {b dp dq : Nat → Nat} {dm : Int32} {C C' μ : Mm}
theorem CI.tys {N' : NT} (h : CI kd ad N nt tn bn dc T b dp dq dm C) (e : ∀ r, r < 20 → C' r = C r) (hT : ∀ s, s < nt → TyR kd ad N' C' s) (hno : ∀ r, 20 + 5 * nt ≤ r → C' r = none) : CI kd ad N' nt tn bn dc T b dp dq dm C' := by
  unfold CI at *
  obtain ⟨c0, c1, c3, c5, c7, c10, c13, cm, ct, cn⟩ := h
  refine ⟨by rw [e 0 (by omega)]; exact c0, by rw [e 1 (by omega), e 2 (by omega)]; exact c1, by rw [e 3 (by omega), e 4 (by omega)]; exact c3, by rw [e 5 (by omega), e 6 (by omega)]; exact c5, by rw [e 7 (by omega), e 8 (by omega), e 9 (by omega)]; exact c7, by rw [e 10 (by omega), e 11 (by omega), e 12 (by omega)]; exact c10, by rw [e 13 (by omega), e 14 (by omega)]; exact c13, cm, hT, hno⟩
theorem KC.adds {s o : Nat} (h : KC kd x out N nt tn bn dc T b dp dq μ ad C dm) (hs : s < nt) (hk : nK N s = 2) (hA : nA N s < 3) : ∃ af, μ (ad (24 + 5 * s)) = some (eT 3 af) ∧ μ (ad (23 + 5 * s)) = some (eO 3 [.ref (ad (24 + 5 * s)), .int (nI (nA N s))]) ∧ ∃ C', KC kd x out (adN N s o) nt tn bn dc T b dp dq (ups (ups μ (ad (24 + 5 * s)) (eT 3 (va_up af (nA N s) (some (ad (20 + 5 * o)))))) (ad (23 + 5 * s)) (eO 3 [.ref (ad (24 + 5 * s)), .int (nI (nA N s + 1))])) ad C' dm := by
  obtain ⟨om, pn, pf, an, af, t1, t2, t3, t4, t5, t6, t7, t8, t9, t10, t11, t12, t13⟩ := h.tyr hs
  have e3 := t12 hk
  subst e3
  obtain ⟨hR, h0, h15, ⟨g, hg⟩, hC⟩ := id h
  obtain ⟨k0, k1, k3, k5, k7, k10, k13, km, kt, kn⟩ := id hC
  refine ⟨af, hR.get t9, hR.get t8, _, (hR.put (eT 3 (va_up af (nA N s) (some (ad (20 + 5 * o))))) t9).put (eO 3 [.ref (ad (24 + 5 * s)), .int (nI (nA N s + 1))]) ((ups_n (by omega)).trans t8), h0, h15, ⟨g, by rw [ups_n (by omega), ups_n (by omega)]; exact hg⟩, hC.tys (fun r hr => by rw [ups_n (by omega), ups_n (by omega)]) (fun t ht => ?_) (fun r hr => by rw [ups_n (by omega), ups_n (by omega)]; exact kn r hr)⟩
  have a : nK (adN N s o) t = nK N t := adN_i (by omega) (by omega)
  have b : nC (adN N s o) t = nC N t := adN_i (by omega) (by omega)
  have c : ∀ k, nP (adN N s o) t k = nP N t k := fun k => adN_i (by omega) (by omega)
  have d : ∀ k, nO (adN N s o) t k = nO N t k := fun k => adN_i (by omega) (by omega)
  have e : nlo (adN N s o) t = nlo N t := rfl
  have f : nhi (adN N s o) t = nhi N t := rfl
  have g6 : nF (adN N s o) t = nF N t := adN_i (by omega) (by omega)
  have g7 : nM (adN N s o) t = nM N t := adN_i (by omega) (by omega)
  have g8 : nL (adN N s o) t = nL N t := adN_i (by omega) (by omega)
  unfold TyR
  rw [a, b, e, f, g6, g7, g8, adN_w]
  simp only [c, d]
  by_cases q : t = s
  · subst q
    rw [adN_A]
    simp only [adN_D]
    refine ⟨om, pn, pf, 3, va_up af (nA N t) (some (ad (20 + 5 * o))), by rw [ups_n (by omega), ups_n (by omega)]; exact t1, by rw [ups_n (by omega), ups_n (by omega)]; exact t2, by rw [ups_n (by omega), ups_n (by omega)]; exact t3, t4, t5, t6, t7, ups_s, by rw [ups_n (by omega)]; exact ups_s, by omega, t11, t12, fun k hk => ?_⟩
    by_cases z : k = nA N t
    · rw [if_pos z, z]; simp [va_up]
    · rw [if_neg z]
      have := t13 k (by omega)
      simp only [va_up, if_neg z]; exact this
  · have i : nA (adN N s o) t = nA N t := adN_n q 2 0
    have j : ∀ k, nD (adN N s o) t k = nD N t k := fun k => adN_n q 5 k
    rw [i]
    simp only [j]
    have z : ∀ r, r = 20 + 5 * t ∨ r = 21 + 5 * t ∨ r = 22 + 5 * t ∨ r = 23 + 5 * t ∨ r = 24 + 5 * t → ups (ups C (24 + 5 * s) (eT 3 (va_up af (nA N s) (some (ad (20 + 5 * o)))))) (23 + 5 * s) (eO 3 [.ref (ad (24 + 5 * s)), .int (nI (nA N s + 1))]) r = C r := fun r hr => by rw [ups_n (by omega), ups_n (by omega)]
    rw [z (20 + 5 * t) (by omega), z (21 + 5 * t) (by omega), z (22 + 5 * t) (by omega), z (23 + 5 * t) (by omega), z (24 + 5 * t) (by omega)]
    exact kt t ht
theorem KC.dropA {s o : Nat} {M : NT} (h : KC kd x out M nt tn bn dc T b dp dq μ ad C dm) (hsame : sameN (adN N s o) M) (hs : s < nt) : μ (ad (23 + 5 * s)) = some (eO 3 [.ref (ad (24 + 5 * s)), .int (nI (nA N s + 1))]) ∧ ∃ C', KC kd x out (mxN N M) nt tn bn dc T b dp dq (ups μ (ad (23 + 5 * s)) (eO 3 [.ref (ad (24 + 5 * s)), .int (nI (nA N s))])) ad C' dm := by
  obtain ⟨om, pn, pf, an, af, t1, t2, t3, t4, t5, t6, t7, t8, t9, t10, t11, t12, t13⟩ := h.tyr hs
  obtain ⟨f1, f2, f3, f4, f5, f6, f7, f8, f9⟩ := hsame.f s
  rw [f3, adN_A] at t8 t10 t13
  obtain ⟨hR, h0, h15, ⟨g, hg⟩, hC⟩ := id h
  obtain ⟨k0, k1, k3, k5, k7, k10, k13, km, kt, kn⟩ := id hC
  refine ⟨hR.get t8, _, hR.put (eO 3 [.ref (ad (24 + 5 * s)), .int (nI (nA N s))]) t8, h0, h15, ⟨g, by rw [ups_n (by omega)]; exact hg⟩, hC.tys (fun r hr => by rw [ups_n (by omega)]) (fun t ht => ?_) (fun r hr => by rw [ups_n (by omega)]; exact kn r hr)⟩
  obtain ⟨e1, e2, e3, e4, e5, e6, e7, e8, e9⟩ := hsame.f t
  obtain ⟨d1, d2, d3, d4, d5, d6, d7, d8, d9⟩ := (mxN_same (N := N) (M := M)).f t
  have a : nK M t = nK N t := e1.trans (adN_i (by omega) (by omega))
  have b : nC M t = nC N t := e2.trans (adN_i (by omega) (by omega))
  have c : ∀ k, nP M t k = nP N t k := fun k => (e4 k).trans (adN_i (by omega) (by omega))
  have d : ∀ k, nO M t k = nO N t k := fun k => (e5 k).trans (adN_i (by omega) (by omega))
  have e : nlo M t = nlo N t := e7
  have f : nhi M t = nhi N t := e8
  have w : nW M t = nW N t := e9.trans (adN_w t)
  have g6 : nF (mxN N M) t = nF M t := (mxN_m t).1
  have g7 : nM (mxN N M) t = nM M t := (mxN_m t).2.1
  have g8 : nL (mxN N M) t = nL M t := (mxN_m t).2.2
  have hTM := kt t ht
  unfold TyR at hTM ⊢
  rw [a, b, e, f, w] at hTM
  simp only [c, d] at hTM
  rw [d1, d2, d3, d7, d8, d9, g6, g7, g8]
  simp only [d4, d5, d6]
  by_cases q : t = s
  · subst q
    rw [a] at t1 t7 t12
    rw [b] at t2 t4 t6 t7
    rw [e, f, w] at t1
    simp only [c] at t6
    simp only [d] at t7
    refine ⟨om, pn, pf, an, af, by rw [ups_n (by omega)]; exact t1, by rw [ups_n (by omega)]; exact t2, by rw [ups_n (by omega)]; exact t3, t4, t5, t6, t7, ups_s, by rw [ups_n (by omega)]; exact t9, by omega, t11, t12, fun k hk => ?_⟩
    have := t13 k (by omega)
    rw [e6 k, adN_D, if_neg (by omega)] at this
    exact this
  · have i : nA M t = nA N t := e3.trans (adN_n q 2 0)
    have j : ∀ k, nD M t k = nD N t k := fun k => (e6 k).trans (adN_n q 5 k)
    rw [i] at hTM
    simp only [j] at hTM
    rw [ups_n (by omega), ups_n (by omega), ups_n (by omega), ups_n (by omega), ups_n (by omega)]
    exact hTM
end EXC
