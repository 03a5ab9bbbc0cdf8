/-! A NOTATION WITH ONE TYPE MORE -/
def agN (N N' : NT) (nt : Nat) : Prop := (∀ i t j, t < nt → N'.1 i t j = N.1 i t j) ∧ ∀ t, t < nt → N'.2.1 t = N.2.1 t ∧ N'.2.2 t = N.2.2 t
section AGN
variable {N N' : NT} {nt : Nat}
theorem agN.f (h : agN N N' nt) {t : Nat} (ht : t < nt) : nK N' t = nK N t ∧ nC N' t = nC N t ∧ nA N' t = nA N t ∧ (∀ k, nP N' t k = nP N t k) ∧ (∀ k, nO N' t k = nO N t k) ∧ (∀ k, nD N' t k = nD N t k) ∧ nF N' t = nF N t ∧ nM N' t = nM N t ∧ nL N' t = nL N t ∧ nlo N' t = nlo N t ∧ nhi N' t = nhi N t ∧ nW N' t = nW N t := by
  have e := fun i j => h.1 i t j ht
  have e1 : nlo N' t = nlo N t := (h.2 t ht).1
  have e2 : nhi N' t = nhi N t := (h.2 t ht).2
  refine ⟨e 0 0, e 1 0, e 2 0, fun k => e 3 k, fun k => e 4 k, fun k => e 5 k, e 6 0, e 7 0, e 8 0, e1, e2, ?_⟩
  have a : nK N' t = nK N t := e 0 0
  have b : nC N' t = nC N t := e 1 0
  unfold nW nV
  rw [a, b, e1, e2]
theorem agN.wf (h : agN N N' nt) (hN : NWf N nt) : NWf N' nt := by
  intro t ht
  obtain ⟨f1, f2, f3, f4, f5, f6, f7, f8, f9, f10, f11, f12⟩ := h.f ht
  rw [f1, f2, f3, f10, f11]
  simp only [f4, f5, f6]
  exact hN t ht
theorem agN.bd (h : agN N N' nt) (hB : NBd N nt) : NBd N' nt := by
  intro t ht
  obtain ⟨f1, f2, f3, f4, f5, f6, f7, f8, f9, f10, f11, f12⟩ := h.f ht
  rw [f7, f8, f9]; exact hB t ht
theorem agN.fm (h : agN N N' nt) (hB : NFM N nt) : NFM N' nt := by
  intro t ht
  obtain ⟨f1, f2, f3, f4, f5, f6, f7, f8, f9, f10, f11, f12⟩ := h.f ht
  rw [f7, f8]; exact hB t ht
theorem agN.mo {α : Nat → Nat → Int32} (h : agN N N' nt) (hM : NMo N nt α) : NMo N' nt α := by
  intro t ht
  obtain ⟨f1, f2, f3, f4, f5, f6, f7, f8, f9, f10, f11, f12⟩ := h.f ht
  rw [f1, f2, f3, f10, f11]
  simp only [f4, f5, f6]
  exact hM t ht
theorem agN.ex {α : Nat → Nat → Int32} (h : agN N N' nt) (hM : MEx N nt α) : MEx N' nt α := by
  intro t ht
  obtain ⟨f1, f2, f3, f4, f5, f6, f7, f8, f9, f10, f11, f12⟩ := h.f ht
  rw [f7, f8, f9]; exact hM t ht
theorem agN.tyr {kd ad : Nat → Nat} {C : Mm} {s : Nat} (h : agN N N' nt) (hs : s < nt) (hT : TyR kd ad N C s) : TyR kd ad N' C s := by
  obtain ⟨f1, f2, f3, f4, f5, f6, f7, f8, f9, f10, f11, f12⟩ := h.f hs
  unfold TyR at *
  rw [f1, f2, f3, f7, f8, f9, f10, f11, f12]
  simp only [f4, f5, f6]
  exact hT
/-- measures look at the type's own fields, and at its parts' measures -/
theorem me_loc {t : Nat} (h : ∀ i j, i < 6 → N'.1 i t j = N.1 i t j) (el : nlo N' t = nlo N t) (eh : nhi N' t = nhi N t) (hN : NWf N nt) (ht : t < nt) (hm : ∀ s, s < t → nF N' s = nF N s ∧ nM N' s = nM N s ∧ nL N' s = nL N s) : meF N' t = meF N t ∧ meM N' t = meM N t ∧ meL N' t = meL N t := by
  have hwf := hN t ht
  have hP : ∀ k, k < nC N t → nP N t k < t := fun k hk => (hwf.2.2.2.1 k hk).1
  have hD : ∀ k, k < nA N t → nD N t k < t := fun k hk => hwf.2.2.2.2.1 k hk
  have eK : nK N' t = nK N t := h 0 0 (by omega)
  have eC : nC N' t = nC N t := h 1 0 (by omega)
  have eA : nA N' t = nA N t := h 2 0 (by omega)
  have eP : ∀ k, nP N' t k = nP N t k := fun k => h 3 k (by omega)
  have eO : ∀ k, nO N' t k = nO N t k := fun k => h 4 k (by omega)
  have eD : ∀ k, nD N' t k = nD N t k := fun k => h 5 k (by omega)
  have hW : nW N' t = nW N t := by unfold nW nV; rw [eK, eC, el, eh]
  unfold meF meM meL
  rw [eK, eC, eA, hW, el, eh]
  simp only [eP, eO, eD]
  by_cases h2 : nK N t = 2
  · rw [h2]
    simp only []
    have e1 := sumN_cong (fun k => if nO N t k = 1 then 1 else nF N' (nP N t k)) (fun k => if nO N t k = 1 then 1 else nF N (nP N t k)) (nC N t) 0 (fun i _ hi => by show (if nO N t i = 1 then 1 else nF N' (nP N t i)) = _; rw [(hm _ (hP i (by omega))).1])
    have e2 := sumN_cong (fun k => nO N t k + nM N' (nP N t k)) (fun k => nO N t k + nM N (nP N t k)) (nC N t) 0 (fun i _ hi => by show nO N t i + nM N' (nP N t i) = _; rw [(hm _ (hP i (by omega))).2.1])
    have e3 := sumN_cong (fun j => 8 + nM N' (nD N t j)) (fun j => 8 + nM N (nD N t j)) (nA N t) 0 (fun i _ hi => by show 8 + nM N' (nD N t i) = _; rw [(hm _ (hD i (by omega))).2.1])
    have e4 := sumN_cong (fun k => nO N t k + nL N' (nP N t k)) (fun k => nO N t k + nL N (nP N t k)) (nC N t) 0 (fun i _ hi => by show nO N t i + nL N' (nP N t i) = _; rw [(hm _ (hP i (by omega))).2.2])
    have e5 := sumN_cong (fun j => nL N' (nD N t j)) (fun j => nL N (nD N t j)) (nA N t) 0 (fun i _ hi => by show nL N' (nD N t i) = _; rw [(hm _ (hD i (by omega))).2.2])
    rw [e1, e2, e3, e4, e5]
    exact ⟨rfl, rfl, rfl⟩
  · by_cases h3 : nK N t = 3
    · rw [h3]
      simp only []
      have e1 := minL_cong (fun k => nF N' (nP N t k)) (fun k => nF N (nP N t k)) (nC N t) 0 240 (fun i _ hi => by show nF N' (nP N t i) = _; rw [(hm _ (hP i (by omega))).1])
      have e2 := maxL_cong (fun k => nM N' (nP N t k)) (fun k => nM N (nP N t k)) (nC N t) 0 0 (fun i _ hi => by show nM N' (nP N t i) = _; rw [(hm _ (hP i (by omega))).2.1])
      have e3 := maxL_cong (fun k => nL N' (nP N t k)) (fun k => nL N (nP N t k)) (nC N t) 0 0 (fun i _ hi => by show nL N' (nP N t i) = _; rw [(hm _ (hP i (by omega))).2.2])
      rw [e1, e2, e3]
      exact ⟨rfl, rfl, rfl⟩
    · by_cases h1 : nK N t = 1
      · obtain ⟨hC, _⟩ := hwf.2.2.2.2.2.2.1 h1
        obtain ⟨m1, m2, m3⟩ := hm _ (hP 0 (by omega))
        rw [h1]
        simp only []
        rw [m1, m2, m3]
        exact ⟨rfl, rfl, rfl⟩
      · have h0 : nK N t = 0 := by omega
        rw [h0]; exact ⟨rfl, rfl, rfl⟩
theorem agN.me (h : agN N N' nt) (hN : NWf N nt) (hM : NMe N nt) : NMe N' nt := by
  intro t ht
  obtain ⟨f1, f2, f3, f4, f5, f6, f7, f8, f9, f10, f11, f12⟩ := h.f ht
  obtain ⟨m1, m2, m3⟩ := me_loc (fun i j _ => h.1 i t j ht) f10 f11 hN ht (fun s hs => by obtain ⟨_, _, _, _, _, _, g7, g8, g9, _⟩ := h.f (t := s) (by omega); exact ⟨g7, g8, g9⟩)
  rw [f7, f8, f9, m1, m2, m3]
  exact hM t ht
theorem agN.putM {a b c : Nat} : agN N (setM N nt a b c) nt := by
  refine ⟨fun i t j ht => ?_, fun t ht => ⟨rfl, rfl⟩⟩
  show (if t = nt then _ else N.1 i t j) = N.1 i t j
  rw [if_neg (by omega)]
theorem setM_at {a b c : Nat} : nF (setM N nt a b c) nt = a ∧ nM (setM N nt a b c) nt = b ∧ nL (setM N nt a b c) nt = c := ⟨by simp [nF, setM], by simp [nM, setM], by simp [nL, setM]⟩
end AGN
/-- one type more: kind, how many parts, parts, which may be left out, least and greatest -/
def xtN (N : NT) (nt K C : Nat) (P O : Nat → Nat) (lo hi : Int32) : NT := (fun i t j => if t = nt then (if i = 0 then K else if i = 1 then C else if i = 3 then P j else if i = 4 then O j else 0) else N.1 i t j, fun t => if t = nt then lo else N.2.1 t, fun t => if t = nt then hi else N.2.2 t)
section EXN
variable {N : NT} {nt K C : Nat} {P O : Nat → Nat} {lo hi : Int32}
theorem xtN_ag : agN N (xtN N nt K C P O lo hi) nt := by
  refine ⟨fun i t j ht => ?_, fun t ht => ⟨?_, ?_⟩⟩
  · show (if t = nt then _ else N.1 i t j) = N.1 i t j
    rw [if_neg (by omega)]
  · show (if t = nt then _ else N.2.1 t) = N.2.1 t
    rw [if_neg (by omega)]
  · show (if t = nt then _ else N.2.2 t) = N.2.2 t
    rw [if_neg (by omega)]
theorem xtN_at : nK (xtN N nt K C P O lo hi) nt = K ∧ nC (xtN N nt K C P O lo hi) nt = C ∧ nA (xtN N nt K C P O lo hi) nt = 0 ∧ (∀ k, nP (xtN N nt K C P O lo hi) nt k = P k) ∧ (∀ k, nO (xtN N nt K C P O lo hi) nt k = O k) ∧ nF (xtN N nt K C P O lo hi) nt = 0 ∧ nM (xtN N nt K C P O lo hi) nt = 0 ∧ nL (xtN N nt K C P O lo hi) nt = 0 ∧ nlo (xtN N nt K C P O lo hi) nt = lo ∧ nhi (xtN N nt K C P O lo hi) nt = hi := by
  refine ⟨by simp [nK, xtN], by simp [nC, xtN], by simp [nA, xtN], fun k => by simp [nP, xtN], fun k => by simp [nO, xtN], by simp [nF, xtN], by simp [nM, xtN], by simp [nL, xtN], by simp [nlo, xtN], by simp [nhi, xtN]⟩
end EXN
