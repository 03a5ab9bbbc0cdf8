/-! THE CLASS KEEPS A TYPE -/
theorem sameN.f {N N' : NT} (h : sameN N N') (t : Nat) : nK N' t = nK N t ∧ nC N' t = nC N t ∧ nA N' t = nA N t ∧ (∀ k, nP N' t k = nP N t k) ∧ (∀ k, nO N' t k = nO N t k) ∧ (∀ k, nD N' t k = nD N t k) ∧ nlo N' t = nlo N t ∧ nhi N' t = nhi N t ∧ nW N' t = nW N t :=
  ⟨h.1 0 t 0 (by omega), h.1 1 t 0 (by omega), h.1 2 t 0 (by omega), fun k => h.1 3 t k (by omega), fun k => h.1 4 t k (by omega), fun k => h.1 5 t k (by omega), by unfold nlo; rw [h.2], by unfold nhi; rw [h.2], h.w t⟩
theorem TyR.mv {kd ad ad' : Nat → Nat} {N : NT} {nt s : Nat} {C C' : Mm} (hN : NWf N nt) (hs : s < nt) (h : TyR kd ad N C s) (e : ∀ r, 20 ≤ r → r < 20 + 5 * nt → ad' r = ad r ∧ C' r = C r) : TyR kd ad' N C' s := by
  have hwf := hN s hs
  obtain ⟨om, pn, pf, an, af, t1, t2, t3, t4, t5, t6, t7, t8, t9, t10, t11, t12, t13⟩ := h
  unfold TyR
  rw [(e (20 + 5 * s) (by omega) (by omega)).2, (e (21 + 5 * s) (by omega) (by omega)).2, (e (22 + 5 * s) (by omega) (by omega)).2, (e (23 + 5 * s) (by omega) (by omega)).2, (e (24 + 5 * s) (by omega) (by omega)).2, (e (21 + 5 * s) (by omega) (by omega)).1, (e (22 + 5 * s) (by omega) (by omega)).1, (e (23 + 5 * s) (by omega) (by omega)).1, (e (24 + 5 * s) (by omega) (by omega)).1]
  refine ⟨om, pn, pf, an, af, t1, t2, t3, t4, t5, fun k hk => ?_, t7, t8, t9, t10, t11, t12, fun k hk => ?_⟩
  · have := (hwf.2.2.2.1 k hk).1
    rw [(e (20 + 5 * nP N s k) (by omega) (by omega)).1]; exact t6 k hk
  · have := hwf.2.2.2.2.1 k hk
    rw [(e (20 + 5 * nD N s k) (by omega) (by omega)).1]; exact t13 k hk
theorem k_keep {kd ad : Nat → Nat} {N : NT} {nt x : Nat} {μ C : Mm} {v : List Value} {nf : Nat → Option Nat} {post : Int32 → Mm → Prop} {px : String → Mm → Prop} (hkd : ∀ i j, i < 4 → j < 4 → kd i = kd j → i = j) (hR : Rp μ ad C) (h0 : C 0 = some (eO 5 (.ref (ad 1) :: v))) (hx : ad 0 = x) (h1 : C 1 = some (eO 3 [.ref (ad 2), .int (nI nt)])) (h2 : C 2 = some (eT 16 nf)) (h2' : ∀ s, s < nt → nf s = some (ad (20 + 5 * s))) (hT : ∀ s, s < nt + 1 → TyR kd ad N C s) (hN : NWf N (nt + 1)) (hB : NBd N nt) (hnt : nt ≤ 16)
    (full : nt = 16 → px "java/lang/IllegalStateException" μ)
    (long : nt < 16 → ¬ (meM N nt ≤ 240 ∧ meL N nt ≤ 240) → ∀ μ' : Mm, (∀ a, a ≠ ad (20 + 5 * nt) → μ' a = μ a) → px "java/lang/IllegalStateException" μ')
    (good : nt < 16 → meM N nt ≤ 240 → meL N nt ≤ 240 → ∀ μ' C' : Mm, Rp μ' ad C' → (∀ r, r ≠ 1 → r ≠ 2 → r ≠ 20 + 5 * nt → C' r = C r) → C' 1 = some (eO 3 [.ref (ad 2), .int (nI (nt + 1))]) → (∃ nf', C' 2 = some (eT 16 nf') ∧ ∀ s, s < nt + 1 → nf' s = some (ad (20 + 5 * s))) → (∀ s, s < nt + 1 → TyR kd ad (setM N nt (meF N nt) (meM N nt) (meL N nt)) C' s) → post (nI nt) μ') : wp_X6_keep x kd (ad (20 + 5 * nt)) μ post px := by
  obtain ⟨om, pn, pf, an, af, t1, t2, t3, t4, t5, t6, t7, t8, t9, t10, t11, t12, t13⟩ := id (hT nt (by omega))
  have hwf := hN nt (by omega)
  have g0 : μ x = some (eO 5 (.ref (ad 1) :: v)) := by rw [← hx]; exact hR.get h0
  have hobj := hR.get t1
  have ob : ∀ q, q < nt → ∃ a b c d e f g, ad (20 + 5 * q) ≠ ad (20 + 5 * nt) ∧ μ (ad (20 + 5 * q)) = some (eO 2 [a, b, c, d, e, f, g, .int (nI (nF N q)), .int (nI (nM N q)), .int (nI (nL N q))]) ∧ nF N q ≤ 240 ∧ nM N q ≤ 240 ∧ nL N q ≤ 240 := by
    intro q hq
    obtain ⟨om', pn', pf', an', af', s1, _⟩ := hT q (by omega)
    obtain ⟨b1, b2, b3⟩ := hB q hq
    exact ⟨_, _, _, _, _, _, _, hR.ne s1 t1 (by omega), hR.get s1, b1, b2, b3⟩
  refine ⟨_, _, g0, rfl, ⟨_, hR.get h1⟩, t_isFull (hR.get h1) (hR.get h2) (by omega) (by omega) ⟨fun h => ?_, fun h => ?_⟩⟩
  · have : ¬ nt < 16 := fun c => h (if_pos c)
    exact full (by omega)
  · have hlt : nt < 16 := by
      by_cases c : nt < 16
      · exact c
      · rw [if_neg c] at h; exact absurd h (by decide)
    have hC : CM μ (ad (20 + 5 * nt)) (ad (21 + 5 * nt)) (nC N nt) (fun k => nF N (nP N nt k)) (fun k => nM N (nP N nt k)) (fun k => nL N (nP N nt k)) := by
      refine ⟨⟨_, hobj⟩, _, pn, pf, hR.get t2, hR.get t3, t4, t5, fun j hj => ?_⟩
      obtain ⟨a, b, c, d, e, f, g, o1, o2, o3⟩ := ob (nP N nt j) (hwf.2.2.2.1 j hj).1
      exact ⟨_, a, b, c, d, e, f, g, t6 j hj, o1, o2, o3⟩
    have hD : CM μ (ad (20 + 5 * nt)) (ad (23 + 5 * nt)) (nA N nt) (fun k => nF N (nD N nt k)) (fun k => nM N (nD N nt k)) (fun k => nL N (nD N nt k)) := by
      refine ⟨⟨_, hobj⟩, _, an, af, hR.get t8, hR.get t9, t10, by omega, fun j hj => ?_⟩
      obtain ⟨a, b, c, d, e, f, g, o1, o2, o3⟩ := ob (nD N nt j) (hwf.2.2.2.2.1 j hj)
      exact ⟨_, a, b, c, d, e, f, g, t13 j hj, o1, o2, o3⟩
    have eS : oS μ (ad (20 + 5 * nt)) (kd (nK N nt)) (ad (21 + 5 * nt)) (ad (23 + 5 * nt)) (nlo N nt) (nhi N nt) (nI (nW N nt)) om (nI (nF N nt)) (nI (nM N nt)) (nI (nL N nt)) = μ := q_ups_id hobj
    have hmeas : ∀ post' : Int32 → Mm → Prop, post' (if meM N nt ≤ 240 ∧ meL N nt ≤ 240 then 1 else 0) (oS μ (ad (20 + 5 * nt)) (kd (nK N nt)) (ad (21 + 5 * nt)) (ad (23 + 5 * nt)) (nlo N nt) (nhi N nt) (nI (nW N nt)) om (nI (meF N nt)) (nI (meM N nt)) (nI (meL N nt))) → wp_X3_measure (ad (20 + 5 * nt)) kd μ post' := by
      intro post' h
      have := c_meas (x := nI (nF N nt)) (y := nI (nM N nt)) (z := nI (nL N nt)) hkd hN (by omega) hB hC hD t7 h
      rwa [eS] at this
    refine ⟨⟨_, hobj⟩, hmeas _ ?_⟩
    by_cases ok : meM N nt ≤ 240 ∧ meL N nt ≤ 240
    · rw [if_pos ok]
      refine ⟨fun _ => ?_, fun h => absurd h (by decide)⟩
      have hR2 := hR.put (eO 2 [.ref (kd (nK N nt)), .int (nlo N nt), .int (nhi N nt), .int (nI (nW N nt)), .ref (ad (21 + 5 * nt)), .int om, .ref (ad (23 + 5 * nt)), .int (nI (meF N nt)), .int (nI (meM N nt)), .int (nI (meL N nt))]) t1
      have k0 := hR2.get ((ups_n (by omega)).trans h0)
      have k1 := hR2.get ((ups_n (by omega)).trans h1)
      have k2 := hR2.get ((ups_n (by omega)).trans h2)
      have k3 := hR2.get (r := 20 + 5 * nt) ups_s
      rw [hx] at k0
      refine ⟨_, _, k0, rfl, ⟨_, k1⟩, t_append k1 k2 k3 (by omega) hlt ?_⟩
      have hR3 := (hR2.put (eT 16 (va_up nf nt (some (ad (20 + 5 * nt))))) ((ups_n (by omega)).trans h2)).put (eO 3 [.ref (ad 2), .int (nI (nt + 1))]) ((ups_n (by omega)).trans ((ups_n (by omega)).trans h1))
      have m0 := hR3.get ((ups_n (by omega)).trans ((ups_n (by omega)).trans ((ups_n (by omega)).trans h0)))
      have m1 := hR3.get (r := 1) ups_s
      rw [hx] at m0
      refine ⟨_, _, m0, rfl, ⟨_, m1⟩, t_size m1 ?_⟩
      rw [show nI (nt + 1) - 1 = nI nt from nI_pred nt]
      refine good hlt ok.1 ok.2 _ _ hR3 (fun r z1 z2 z3 => by rw [ups_n z1, ups_n z2, ups_n z3]) ups_s ⟨_, by rw [ups_n (by omega)]; exact ups_s, fun s hs => ?_⟩ (fun s hs => ?_)
      · by_cases e : s = nt
        · subst e; simp [va_up]
        · have := h2' s (by omega)
          simp only [va_up, if_neg e]; exact this
      · by_cases e : s = nt
        · subst e
          obtain ⟨f1, f2, f3, f4, f5, f6, f7, f8, f9⟩ := (setM_same (N := N) (k := s) (a := meF N s) (b := meM N s) (c := meL N s)).f s
          obtain ⟨g1, g2, g3⟩ := setM_at (N := N) (nt := s) (a := meF N s) (b := meM N s) (c := meL N s)
          unfold TyR
          rw [f1, f2, f3, f7, f8, f9, g1, g2, g3]
          simp only [f4, f5, f6]
          refine ⟨om, pn, pf, an, af, by rw [ups_n (by omega), ups_n (by omega)]; exact ups_s, ?_, ?_, t4, t5, t6, t7, ?_, ?_, t10, t11, t12, t13⟩
          · rw [ups_n (by omega), ups_n (by omega), ups_n (by omega)]; exact t2
          · rw [ups_n (by omega), ups_n (by omega), ups_n (by omega)]; exact t3
          · rw [ups_n (by omega), ups_n (by omega), ups_n (by omega)]; exact t8
          · rw [ups_n (by omega), ups_n (by omega), ups_n (by omega)]; exact t9
        · refine agN.putM.tyr (by omega) ((hT s hs).mv (nt := nt) (fun t ht => hN t (by omega)) (by omega) (fun r z1 z2 => ⟨rfl, ?_⟩))
          rw [ups_n (by omega), ups_n (by omega), ups_n (by omega)]
    · rw [if_neg ok]
      refine ⟨fun h => absurd rfl h, fun _ => long hlt ok _ (fun a ha => ups_n ha)⟩
