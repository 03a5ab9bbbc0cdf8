/-! THE CLASS'S MEASURES: all -/
theorem me_bd {N : NT} {nt t : Nat} (hN : NWf N nt) (ht : t < nt) (hB : NBd N t) : meM N t ≤ 10000 ∧ meL N t ≤ 10000 := by
  have hwf := hN t ht
  have hP : ∀ k, k < nC N t → nP N t k < t := fun k hk => (hwf.2.2.2.1 k hk).1
  have hD : ∀ k, k < nA N t → nD N t k < t := fun k hk => hwf.2.2.2.2.1 k hk
  have hW : nW N t ≤ 11 := wdN_le _
  unfold meM meL
  by_cases h2 : nK N t = 2
  · rw [h2]
    have s1 := sumN_le (fun k => nO N t k + nM N (nP N t k)) 241 (nC N t) 0 (fun i _ hi => by have := (hwf.2.2.2.1 i (by omega)).2; have := (hB _ (hP i (by omega))).2.1; omega)
    have s2 := sumN_le (fun j => 8 + nM N (nD N t j)) 248 (nA N t) 0 (fun i _ hi => by have := (hB _ (hD i (by omega))).2.1; omega)
    have s3 := sumN_le (fun k => nO N t k + nL N (nP N t k)) 241 (nC N t) 0 (fun i _ hi => by have := (hwf.2.2.2.1 i (by omega)).2; have := (hB _ (hP i (by omega))).2.2; omega)
    have s4 := sumN_le (fun j => nL N (nD N t j)) 240 (nA N t) 0 (fun i _ hi => (hB _ (hD i (by omega))).2.2)
    have s5 : (if nA N t = 0 then 0 else 2) ≤ 2 := by split <;> omega
    simp only []
    omega
  · by_cases h3 : nK N t = 3
    · rw [h3]
      have s1 := maxL_le (fun k => nM N (nP N t k)) 240 (nC N t) 0 0 (by omega) (fun i _ hi => (hB _ (hP i (by omega))).2.1)
      have s2 := maxL_le (fun k => nL N (nP N t k)) 240 (nC N t) 0 0 (by omega) (fun i _ hi => (hB _ (hP i (by omega))).2.2)
      simp only []
      omega
    · by_cases h1 : nK N t = 1
      · obtain ⟨hC, a, b, ea, eb, hab, hb⟩ := hwf.2.2.2.2.2.2.1 h1
        have b1 := (hB _ (hP 0 (by omega))).2.1
        have b2 := (hB _ (hP 0 (by omega))).2.2
        rw [h1]
        simp only []
        rw [eb, nI_clamp (by omega)]
        have s1 : b * nM N (nP N t 0) ≤ 8 * 240 := Nat.mul_le_mul hb b1
        have s2 : b * nL N (nP N t 0) ≤ 8 * 240 := Nat.mul_le_mul hb b2
        omega
      · have h0 : nK N t = 0 := by omega
        rw [h0]
        simp only []
        omega
theorem c_meas {N : NT} {nt t : Nat} {μ0 : Mm} {o pr ar : Nat} {om x y z : Int32} {kd : Nat → Nat} {post : Int32 → Mm → Prop} (hkd : ∀ i j, i < 4 → j < 4 → kd i = kd j → i = j) (hN : NWf N nt) (ht : t < nt) (hB : NBd N t) (hC : CM μ0 o pr (nC N t) (fun k => nF N (nP N t k)) (fun k => nM N (nP N t k)) (fun k => nL N (nP N t k)))
    (hD : CM μ0 o ar (nA N t) (fun k => nF N (nD N t k)) (fun k => nM N (nD N t k)) (fun k => nL N (nD N t k))) (hO : nK N t = 2 → ∀ k, k < nC N t → msk om k = nI (nO N t k))
    (hp : post (if meM N t ≤ 240 ∧ meL N t ≤ 240 then 1 else 0) (oS μ0 o (kd (nK N t)) pr ar (nlo N t) (nhi N t) (nI (nW N t)) om (nI (meF N t)) (nI (meM N t)) (nI (meL N t)))) : wp_X3_measure o kd (oS μ0 o (kd (nK N t)) pr ar (nlo N t) (nhi N t) (nI (nW N t)) om x y z) post := by
  have hwf := hN t ht
  have hK : nK N t < 4 := by omega
  obtain ⟨bM, bL⟩ := me_bd hN ht hB
  have f73 : wb_X3_measure_73 o kd post (oS μ0 o (kd (nK N t)) pr ar (nlo N t) (nhi N t) (nI (nW N t)) om (nI (meF N t)) (nI (meM N t)) (nI (meL N t))) := by
    refine ⟨_, _, oS_o, rfl, fun h => ?_, fun h => ⟨_, _, oS_o, rfl, fun h2 => ?_, fun h2 => ?_⟩⟩
    · rw [q_l240, q_lt (by omega) (by omega)] at h
      rwa [if_neg (by omega)] at hp
    · rw [q_l240, q_lt (by omega) (by omega)] at h2
      rwa [if_neg (by omega)] at hp
    · rw [q_l240, q_lt (by omega) (by omega)] at h h2
      rwa [if_pos (by omega)] at hp
  refine ⟨_, _, oS_o, rfl, _, oS_o, by simp, fun μ8 e => ?_⟩
  have e' : μ8 = oS μ0 o (kd (nK N t)) pr ar (nlo N t) (nhi N t) (nI (nW N t)) om (nI (nW N t)) y z := by rw [e]; exact oS_u
  clear e; subst e'
  refine ⟨_, _, oS_o, rfl, _, oS_o, by simp, fun μ17 e => ?_⟩
  have e' : μ17 = oS μ0 o (kd (nK N t)) pr ar (nlo N t) (nhi N t) (nI (nW N t)) om (nI (nW N t)) (nI (nW N t)) z := by rw [e]; exact oS_u
  clear e; subst e'
  refine ⟨_, oS_o, by simp, fun μ22 e => ?_⟩
  have e' : μ22 = oS μ0 o (kd (nK N t)) pr ar (nlo N t) (nhi N t) (nI (nW N t)) om (nI (nW N t)) (nI (nW N t)) (nI 1) := by rw [e]; exact oS_u
  clear e; subst e'
  refine ⟨_, _, oS_o, rfl, fun h1 => ⟨_, _, oS_o, rfl, fun h3 => ⟨_, _, oS_o, rfl, fun h2 => ?_, fun h2 => ⟨⟨_, oS_o⟩, ?_⟩⟩, fun h3 => ⟨⟨_, oS_o⟩, ?_⟩⟩, fun h1 => ⟨⟨_, oS_o⟩, ?_⟩⟩
  · rw [q_kd hkd hK (by omega)] at h1 h2 h3
    have h0 : nK N t = 0 := by omega
    unfold meF meM meL at f73
    rw [h0] at f73 ⊢
    exact f73
  · rw [q_kd hkd hK (by omega)] at h2
    refine ⟨_, oS_o, by simp, fun μ4 e => ?_⟩
    have e' : μ4 = oS μ0 o (kd (nK N t)) pr ar (nlo N t) (nhi N t) (nI (nW N t)) om (nI 1) (nI (nW N t)) (nI 1) := by rw [e]; exact oS_u
    clear e; subst e'
    refine ⟨_, oS_o, by simp, fun μ9 e => ⟨nC N t + 1, ?_⟩⟩
    have e' : μ9 = oS μ0 o (kd (nK N t)) pr ar (nlo N t) (nhi N t) (nI (nW N t)) om (nI 1) (nI 1) (nI 1) := by rw [e]; exact oS_u
    clear e; subst e'
    refine cm_parts (O := nO N t) hC (fun j hj => ⟨hO h2 j hj, (hwf.2.2.2.1 j hj).2⟩) (nC N t) 0 1 1 1 (by omega) ⟨⟨_, oS_o⟩, ?_⟩
    obtain ⟨⟨v, ho⟩, pi, pn, pf, c1, _⟩ := id hD
    have key : ∀ Y : Nat, Y = (1 + sumN (fun j => nO N t j + nM N (nP N t j)) (nC N t) 0) + (if nA N t = 0 then 0 else 2) → wb_X3_measureAdditions_20 o (fun μ42 => wb_X3_measure_73 o kd post μ42) (oS μ0 o (kd (nK N t)) pr ar (nlo N t) (nhi N t) (nI (nW N t)) om (nI (1 + sumN (fun j => if nO N t j = 1 then 1 else nF N (nP N t j)) (nC N t) 0)) (nI Y) (nI (1 + sumN (fun j => nO N t j + nL N (nP N t j)) (nC N t) 0))) := by
      intro Y eY
      subst eY
      refine ⟨nA N t + 1, cm_adds hD (nA N t) 0 _ _ (by omega) ?_⟩
      unfold meF meM meL at f73
      rw [h2] at f73 ⊢
      exact f73
    refine ⟨_, _, oS_o, rfl, ⟨_, oS_R ho c1⟩, t_size (oS_R ho c1) ⟨fun h => key _ ?_, fun h => ⟨_, _, oS_o, rfl, _, oS_o, by simp, fun μ15 e => ?_⟩⟩⟩
    · rw [show (0 : Int32) = nI 0 from rfl, q_le (by omega) (by omega)] at h
      rw [if_pos (by omega)]; rfl
    · rw [show (0 : Int32) = nI 0 from rfl, q_le (by omega) (by omega)] at h
      have e' : μ15 = oS μ0 o (kd (nK N t)) pr ar (nlo N t) (nhi N t) (nI (nW N t)) om (nI (1 + sumN (fun j => if nO N t j = 1 then 1 else nF N (nP N t j)) (nC N t) 0)) (nI ((1 + sumN (fun j => nO N t j + nM N (nP N t j)) (nC N t) 0) + 2)) (nI (1 + sumN (fun j => nO N t j + nL N (nP N t j)) (nC N t) 0)) := by
        rw [e, q_l2, ← nI_add (1 + sumN (fun j => nO N t j + nM N (nP N t j)) (nC N t) 0) 2]; exact oS_u
      clear e; subst e'
      exact key _ (by rw [if_neg (by omega)])
  · rw [q_kd hkd hK (by omega)] at h3
    refine ⟨nC N t + 1, cm_choices hC (nC N t) 0 240 0 0 (by omega) (by omega) (by omega) (by omega) ?_⟩
    rw [nI_add, nI_add, nI_add]
    unfold meF meM meL at f73
    rw [h3] at f73 ⊢
    exact f73
  · rw [q_kd hkd hK (by omega)] at h1
    obtain ⟨hC1, a, b, ea, eb, hab, hb⟩ := hwf.2.2.2.2.2.2.1 h1
    refine cm_things hC hC1 ?_
    unfold meF meM meL at f73
    rw [h1] at f73 ⊢
    simp only [] at f73
    rw [ea, eb, nI_clamp (by omega), nI_clamp (by omega)] at f73
    rw [ea, eb, pk_mul, pk_mul, pk_mul, nI_add, nI_add, nI_add]
    exact f73
