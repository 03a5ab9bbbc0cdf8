/-! OPERATIONS: extend, the call -/
section EXT
variable {kd : Nat → Nat} {x out : Nat}
theorem p_extend (hkd : ∀ i j, i < 4 → j < 4 → kd i = kd j → i = j) : op_5 kd x out (II kd x out) := by
  intro μ σ α p1 p2 ⟨N, nt, tn, bn, dc, T, b, dp, dq, ⟨ad, C, dm, hK⟩, hM, hV⟩
  have hK : KC kd x out N nt tn bn dc T b dp dq μ ad C dm := hK
  have v1 := hV.1
  have m1 := hM.1
  -- the reference refuses
  have bad : ∀ (v : Int32), v ≠ 0 → ∀ (μ' : Mm), KI kd x out N nt tn bn dc T b dp dq μ' → ∀ α', MI N nt tn bn dc T b dp dq σ α' → wb_X7_extend_159 (fun b σ1 α1 => wp_X7_thrown σ1 α1 (fun t σ2 α2 => t = v ∧ (v = 0 → ∃ n f, μ' out = some (eL n f) ∧ vp_in (0 : Int32) n ∧ f (0 : Int32).toNatClampNeg = b.toInt64) ∧ II kd x out μ' σ2 α2)) p1 v σ α' := fun v hv μ' hK' α' hM' => m_ref1 hv ⟨fun h => absurd h (by decide), fun _ => ⟨q_us, fun h => absurd h hv, N, nt, tn, bn, dc, T, b, dp, dq, hK', hM'.s0 (fun k hk => pk_un hk), hV⟩⟩
  -- no such type
  have r1 : ∀ μ' : Mm, KI kd x out N nt tn bn dc T b dp dq μ' → wb_X7_extend_20 (fun b σ1 α1 => wp_X7_thrown σ1 α1 (fun t σ2 α2 => t = (1 : Int32) ∧ ((1 : Int32) = 0 → ∃ n f, μ' out = some (eL n f) ∧ vp_in (0 : Int32) n ∧ f (0 : Int32).toNatClampNeg = b.toInt64) ∧ II kd x out μ' σ2 α2)) p1 p2 σ α := fun μ' hK' =>
    ⟨fun _ => ⟨fun _ => ⟨fun _ => ⟨fun h => absurd rfl h, fun _ => bad 1 (by decide) _ hK' α hM⟩, fun h => absurd rfl h⟩, fun h => absurd rfl h⟩, fun h => absurd rfl h⟩
  refine ⟨⟨_, hK.cx⟩, ⟨_, hK.cx⟩, hK.num v1 (fun s hs e => ⟨⟨_, hK.cx⟩, hK.num v1 (fun o ho e2 => ?_) (fun hn => Or.inl ⟨rfl, ?_⟩)⟩) (fun hn => Or.inl ⟨rfl, ?_⟩)⟩
  · have hvs : vp_in p1 16 := by rw [e]; exact vp_in_nI (by omega) (by omega)
    have hcs : p1.toNatClampNeg = s := by rw [e, nI_clamp (by omega)]
    have hwf := hV.2.1 s hs
    obtain ⟨q1, q2, q3, q4, q5, q6, q7⟩ := hM.2.1 s hs
    -- no sequence, or no type from before it
    have r2 : ∀ μ' : Mm, KI kd x out N nt tn bn dc T b dp dq μ' → wb_X7_extend_45 (fun b σ1 α1 => wp_X7_thrown σ1 α1 (fun t σ2 α2 => t = (2 : Int32) ∧ ((2 : Int32) = 0 → ∃ n f, μ' out = some (eL n f) ∧ vp_in (0 : Int32) n ∧ f (0 : Int32).toNatClampNeg = b.toInt64) ∧ II kd x out μ' σ2 α2)) p1 p2 1 σ α := fun μ' hK' =>
      ⟨fun _ => ⟨fun _ => ⟨fun _ => ⟨fun h => absurd rfl h, fun _ => bad 2 (by decide) _ hK' α hM⟩, fun h => absurd h (by decide)⟩, fun h => absurd rfl h⟩, fun h => absurd rfl h⟩
    -- as far as both are types
    have toty : ∀ post, wb_X7_extend_21 post p1 p2 1 σ α → wp_X7_extend p1 p2 σ α post := fun post h =>
      m_isType m1 v1 (fun t' ht' e' => ⟨fun h => absurd h (by decide), fun _ => m_isType m1 v1 (fun t'' ht'' e'' => ⟨fun h => absurd h (by decide), fun _ => h⟩) (fun hn => absurd ⟨o, ho, e2⟩ hn)⟩) (fun hn => absurd ⟨s, hs, e⟩ hn)
    obtain ⟨om, pn, pf, an, af, t1, t2, t3, t4, t5, t6, t7, t8, t9, t10, t11, t12, t13⟩ := hK.tyr hs
    have hty := hK.1.get t1
    refine ⟨_, _, hty, rfl, fun hk => ?_, fun hk => ⟨fun hlt => ?_, fun hlt => ?_⟩⟩
    · rw [q_kd hkd (by omega) (by omega)] at hk
      refine Or.inr (Or.inl ⟨rfl, toty _ ⟨fun h => absurd h (by decide), fun _ => ⟨hvs, fun _ => r2 _ hK.ki, fun h => ?_⟩⟩⟩)
      rw [hcs, q1, q_l2, q_eq (by omega) (by omega)] at h
      exact absurd h hk
    · rw [q_kd hkd (by omega) (by omega)] at hk
      have hos : o < s := by rw [e, e2, q_lt (by omega) (by omega)] at hlt; exact hlt
      have e3 := t12 hk
      subst e3
      refine ⟨_, _, hty, rfl, ⟨_, hK.1.get t8⟩, t_isFull (hK.1.get t8) (hK.1.get t9) (by omega) (by omega) ?_⟩
      -- as far as it is a sequence, and the other from before it
      have tofit : ∀ post, wb_X7_extend_46 post p1 p2 1 1 σ α → wp_X7_extend p1 p2 σ α post := fun post h => toty post ⟨fun h => absurd h (by decide), fun _ => ⟨hvs, fun h => absurd (by rw [hcs, q1, hk]; rfl) h, fun _ => ⟨fun h' => by rw [e, e2, q_le (by omega) (by omega)] at h'; omega, fun _ => h⟩⟩⟩
      by_cases hA : nA N s < 3
      · rw [if_pos hA]
        refine ⟨fun _ => ?_, fun h => absurd rfl h⟩
        obtain ⟨fa, fc, om0, hto⟩ := hK.tyo ho
        obtain ⟨af2, a1, a2, C1, hK1⟩ := hK.adds (o := o) hs hk hA
        refine ⟨_, _, hty, rfl, ⟨_, a2⟩, t_append a2 a1 hto (by omega) hA ?_⟩
        have hN1 : NWf (adN N s o) nt := adN_wf hV.2.1 hos hA
        obtain ⟨N2, t0, hsame, hU, hF⟩ := up_ex hN1
        have hN2 := hsame.wf hN1
        have hUN : NUp N nt nt := ⟨Nat.le_refl _, hV.2.2.1, hV.2.2.2.1, fun h => absurd h (Nat.lt_irrefl _)⟩
        have hMo1 := adN_mo (o := o) hV.2.1 hM.2.1 hs hA
        have hMo2 := NMo.same hsame hMo1
        -- the reference, up to where it is measured
        have tome : ∀ post, wp_X7_measureAll σ (uA (uA α 7 (3 * s + nA N s) (nI o)) 8 s (nI (nA N s + 1))) (fun r29 σ30 α31 => vp_in p1 16 ∧ (r29 = 0 → wb_X7_extend_124 post p1 1 1 r29 1 (α31 8 p1.toNatClampNeg) p1 σ30 α31) ∧ (¬ r29 = 0 → wb_X7_extend_124 post p1 1 1 r29 0 (α31 8 p1.toNatClampNeg) p1 σ30 α31)) → wp_X7_extend p1 p2 σ α post := by
          intro post h
          refine tofit post ⟨fun h => absurd h (by decide), fun _ => ⟨hvs, fun h' => ?_, fun _ => ⟨fun h => absurd h (by decide), fun _ => ⟨hvs, ?_⟩⟩⟩⟩
          · rw [hcs, q5, q_l3, q_le (by omega) (by omega)] at h'; omega
          · rw [hcs, q5, e, e2, q_l3, pk_mul, nI_add, nI_clamp (by omega)]
            refine ⟨vp_in_nI (by omega) (by omega), fun α23 e23 => ?_⟩
            have e23 : α23 = uA α 7 (3 * s + nA N s) (nI o) := e23
            refine ⟨by rw [← e]; exact hvs, by rw [← e]; exact hvs, fun α27 e27 => ?_⟩
            have e27 : α27 = uA (uA α 7 (3 * s + nA N s) (nI o)) 8 s (nI (nA N s + 1)) := by
              rw [e27, e23, uA_a (show 8 ≠ 7 by omega), q5, ← nI_succ]; rfl
            rw [e27]
            rw [hcs, e] at h
            exact h
        refine ⟨_, _, hK1.cx, rfl, ⟨_, hK1.c1⟩, hK1.all hkd hN1 v1 hsame hU (fun et μ' C' hK2 => ⟨fun _ => ?_, fun h => absurd h (by decide)⟩) (fun et μ' C' M' hsM hK2 => ⟨fun h => absurd rfl h, fun _ => ?_⟩)⟩
        · -- it fits
          subst et
          obtain ⟨om', pn', pf', an', af', s1, s2, s3, s4, s5, s6, s7, s8, s9⟩ := hK2.tyr hs
          have eA : nA N2 s = nA N s + 1 := ((hsame.f s).2.2.1).trans adN_A
          rw [eA] at s8
          refine ⟨_, _, hK2.1.get s1, rfl, ⟨_, hK2.1.get s8⟩, t_size (hK2.1.get s8) (hK2.ki.outQ _ (fun μ7 hK7 hO => ?_))⟩
          refine tome _ (m_all hN2 hMo2 v1 m1 hU (fun α' hf hE => ?_))
          rw [if_pos rfl]
          refine ⟨hvs, fun h => absurd h (by decide), fun _ => ⟨hvs, fun α40 e40 => ?_⟩⟩
          have h8 : α' 8 = uA (uA α 7 (3 * s + nA N s) (nI o)) 8 s (nI (nA N s + 1)) 8 := hf 8 (by omega) (by omega) (by omega)
          have e40 : α40 = α' := by
            rw [e40, hcs, h8, uA_s]
            have : nI (nA N s + 1) - 0 = nI (nA N s + 1) := Int32.sub_zero _
            rw [this]
            have e5 : upd (uA (uA α 7 (3 * s + nA N s) (nI o)) 8 s (nI (nA N s + 1)) 8) s (nI (nA N s + 1)) = α' 8 := by rw [h8]; exact q_uid uA_s
            rw [e5]; exact upA_id rfl
          subst e40
          have hMo3 : NMo N2 t0 α40 := hMo2.cong (fun a ha => hf a (by omega) (by omega) (by omega))
          refine m_all hN2 hMo3 v1 m1 hU (fun α2 hf2 hE2 => ?_)
          refine ⟨fun _ => ⟨fun _ => ⟨fun h => absurd h (by decide), fun _ => m_ref0 ⟨fun _ => ⟨hvs, ?_⟩, fun h => absurd rfl h⟩⟩, fun h => absurd h (by decide)⟩, fun h => absurd h (by decide)⟩
          rw [hcs, hf2 8 (by omega) (by omega) (by omega), h8, uA_s]
          have ha : ∀ a, a < 18 → a ≠ 7 → a ≠ 8 → a ≠ 9 → a ≠ 10 → a ≠ 11 → α2 a = α a := fun a z0 z1 z2 z3 z4 z5 => by rw [hf2 a z3 z4 z5, hf a z3 z4 z5, uA_a z2, uA_a z1]
          obtain ⟨n1, n2, n3, n4, n5, n6, n7, n8, n9⟩ := hM
          exact ⟨q_us, fun _ => hO, N2, t0, tn, bn, dc, T, b, dp, dq, hK7, ⟨by rw [pk_un (by omega)]; exact n1, hMo3.cong (fun a ha => hf2 a (by omega) (by omega) (by omega)), hE2, by rw [pk_un (by omega)]; exact n4, by rw [ha 15 (by omega) (by omega) (by omega) (by omega) (by omega) (by omega)]; exact n5, by rw [pk_un (by omega)]; exact n6, by rw [ha 17 (by omega) (by omega) (by omega) (by omega) (by omega) (by omega)]; exact n7, by rw [pk_un (by omega)]; exact n8, by rw [ha 13 (by omega) (by omega) (by omega) (by omega) (by omega) (by omega)]; exact n9⟩, v1, hN2, hU.2.1, hU.2.2.1, hF, hV.2.2.2.2.2⟩
        · -- too long
          obtain ⟨om', pn', pf', an', af', s1, s2, s3, s4, s5, s6, s7, s8, s9⟩ := hK2.tyr hs
          obtain ⟨d1, C3, hK3⟩ := hK2.dropA hsM hs
          refine ⟨_, _, hK2.1.get s1, rfl, ⟨_, d1⟩, t_dropLast d1 (by omega) ⟨_, _, hK3.cx, rfl, ⟨_, hK3.c1⟩, hK3.all hkd (mxN_same.wf hV.2.1) v1 mxN_same.symm hUN (fun _ μ4 C4 hK4 => Or.inr (Or.inr ⟨rfl, ?_⟩)) (fun h => absurd rfl h)⟩⟩
          refine tome _ (m_all hN2 hMo2 v1 m1 hU (fun α' hf hE => ?_))
          rw [if_neg et]
          refine ⟨hvs, fun _ => ⟨hvs, fun α40 e40 => ?_⟩, fun h => absurd rfl h⟩
          have h8 : α' 8 = uA (uA α 7 (3 * s + nA N s) (nI o)) 8 s (nI (nA N s + 1)) 8 := hf 8 (by omega) (by omega) (by omega)
          have e40 : α40 = uA α' 8 s (nI (nA N s)) := by
            rw [e40, hcs, h8, uA_s, show nI (nA N s + 1) - 1 = nI (nA N s) from nI_pred _, ← h8]; rfl
          have g : ∀ a j, a < 9 → a ≠ 7 → α40 a j = α a j := by
            intro a j z1 z2
            rw [e40]
            by_cases z3 : a = 8
            · subst z3
              by_cases z4 : j = s
              · subst z4; rw [uA_s, q5]
              · rw [uA_j z4, h8, uA_j z4, uA_a (by omega)]
            · rw [uA_a z3, hf a (by omega) (by omega) (by omega), uA_a z3, uA_a z2]
          have g7 : ∀ j, j ≠ 3 * s + nA N s → α40 7 j = α 7 j := by
            intro j z1
            rw [e40, uA_a (by omega), hf 7 (by omega) (by omega) (by omega), uA_a (by omega), uA_j z1]
          have hMo4 : NMo N nt α40 := by
            intro t ht
            have hw := hV.2.1 t ht
            obtain ⟨n1, n2, n3, n4, n5, n6, n7⟩ := hM.2.1 t ht
            refine ⟨by rw [g 2 t (by omega) (by omega)]; exact n1, by rw [g 3 t (by omega) (by omega)]; exact n2, by rw [g 4 t (by omega) (by omega)]; exact n3, by rw [g 6 t (by omega) (by omega)]; exact n4, by rw [g 8 t (by omega) (by omega)]; exact n5, fun k hk => by rw [g 5 _ (by omega) (by omega)]; exact n6 k hk, fun k hk => ?_⟩
            rw [g7 _ (by
              by_cases z : t = s
              · rw [z] at hk; rw [z]; omega
              · omega)]
            exact n7 k hk
          refine m_all hV.2.1 hMo4 v1 m1 hUN (fun α2 hf2 hE2 => ?_)
          have ha : ∀ a, 11 < a → a < 18 → α2 a = α a := fun a z0 z1 => by rw [hf2 a (by omega) (by omega) (by omega), e40, uA_a (by omega), hf a (by omega) (by omega) (by omega), uA_a (by omega), uA_a (by omega)]
          have hM2 : MI N nt tn bn dc T b dp dq σ α2 := by
            obtain ⟨n1, n2, n3, n4, n5, n6, n7, n8, n9⟩ := hM
            exact ⟨n1, hMo4.cong (fun a ha => hf2 a (by omega) (by omega) (by omega)), hE2, n4, by rw [ha 15 (by omega) (by omega)]; exact n5, n6, by rw [ha 17 (by omega) (by omega)]; exact n7, n8, by rw [ha 13 (by omega) (by omega)]; exact n9⟩
          exact ⟨fun _ => ⟨fun _ => ⟨fun _ => bad 3 (by decide) _ hK4.ki α2 hM2, fun h => absurd rfl h⟩, fun h => absurd h (by decide)⟩, fun h => absurd h (by decide)⟩
      · rw [if_neg hA]
        refine ⟨fun h => absurd h (by decide), fun _ => Or.inr (Or.inr ⟨rfl, ?_⟩)⟩
        refine tofit _ ⟨fun h => absurd h (by decide), fun _ => ⟨hvs, fun _ => ⟨fun _ => ⟨fun _ => ⟨fun _ => ⟨fun _ => bad 3 (by decide) _ hK.ki α hM, fun h => absurd rfl h⟩, fun h => absurd h (by decide)⟩, fun h => absurd h (by decide)⟩, fun h => absurd rfl h⟩, fun h => absurd ?_ h⟩⟩
        rw [hcs, q5, q_l3, q_le (by omega) (by omega)]; omega
    · rw [q_kd hkd (by omega) (by omega)] at hk
      refine Or.inr (Or.inl ⟨rfl, toty _ ⟨fun h => absurd h (by decide), fun _ => ⟨hvs, fun h => absurd ?_ h, fun _ => ⟨fun _ => r2 _ hK.ki, fun h => absurd ?_ h⟩⟩⟩⟩)
      · rw [hcs, q1, hk]; rfl
      · exact Int32.not_lt.mp hlt
  · exact m_isType m1 v1 (fun t' ht' e' => ⟨fun h => absurd h (by decide), fun _ => m_isType m1 v1 (fun t'' ht'' e'' => absurd ⟨t'', ht'', e''⟩ hn) (fun _ => ⟨fun _ => r1 _ hK.ki, fun h => absurd rfl h⟩)⟩) (fun hn => absurd ⟨s, hs, e⟩ hn)
  · exact m_isType m1 v1 (fun t' ht' e' => absurd ⟨t', ht', e'⟩ hn) (fun _ => ⟨fun _ => r1 _ hK.ki, fun h => absurd rfl h⟩)
end EXT
