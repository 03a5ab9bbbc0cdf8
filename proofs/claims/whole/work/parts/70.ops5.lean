/-! OPERATIONS: addNumber, addList -/
section OY
variable {kd : Nat → Nat} {x out : Nat}
theorem q_int {v : Int32} {a b : Int32} (h : a ≤ v ∧ v ≤ b) : a.toInt ≤ v.toInt ∧ v.toInt ≤ b.toInt := ⟨Int32.le_iff_toInt_le.mp h.1, Int32.le_iff_toInt_le.mp h.2⟩
theorem NWf.num {N : NT} {nt : Nat} {lo hi : Int32} (hN : NWf N nt) (h1 : -1000 ≤ lo.toInt) (h2 : lo.toInt ≤ hi.toInt) (h3 : hi.toInt ≤ 1000) : NWf (xtN N nt 0 0 (fun _ => 0) (fun _ => 0) lo hi) (nt + 1) := by
  intro t ht
  by_cases e : t = nt
  · subst e
    obtain ⟨x1, x2, x3, x4, x5, x6, x7, x8, x9, x10⟩ := xtN_at (N := N) (nt := t) (K := 0) (C := 0) (P := fun _ => 0) (O := fun _ => 0) (lo := lo) (hi := hi)
    rw [x1, x2, x3, x9, x10]
    exact ⟨by omega, by omega, by omega, fun k hk => by omega, fun k hk => by omega, fun _ => ⟨h1, h2, h3⟩, fun h => by omega, fun h => by omega, fun h => by omega⟩
  · exact xtN_ag.wf hN t (by omega)
theorem NWf.lst {N : NT} {nt a c o : Nat} (hN : NWf N nt) (h1 : a ≤ c) (h2 : c ≤ 8) (ho : o < nt) : NWf (xtN N nt 1 1 (fun _ => o) (fun _ => 0) (nI a) (nI c)) (nt + 1) := by
  intro t ht
  by_cases e : t = nt
  · subst e
    obtain ⟨x1, x2, x3, x4, x5, x6, x7, x8, x9, x10⟩ := xtN_at (N := N) (nt := t) (K := 1) (C := 1) (P := fun _ => o) (O := fun _ => 0) (lo := nI a) (hi := nI c)
    rw [x1, x2, x3, x9, x10]
    simp only [x4, x5]
    exact ⟨by omega, by omega, by omega, fun k hk => ⟨ho, by omega⟩, fun k hk => by omega, fun h => by omega, fun _ => ⟨trivial, a, c, rfl, rfl, h1, h2⟩, fun h => by omega, fun h => by omega⟩
  · exact xtN_ag.wf hN t (by omega)
theorem p_addNumber (hkd : ∀ i j, i < 4 → j < 4 → kd i = kd j → i = j) : op_0 kd x out (II kd x out) := by
  intro μ σ α p1 p2 ⟨N, nt, tn, bn, dc, T, b, dp, dq, ⟨ad, C, dm, hK⟩, hM, hV⟩
  have hK : KC kd x out N nt tn bn dc T b dp dq μ ad C dm := hK
  have v1 := hV.1
  have m1 := hM.1
  -- the reference refuses
  have bad : ∀ (v : Int32), v ≠ 0 → ∀ (μ' : Mm), KI kd x out N nt tn bn dc T b dp dq μ' → wb_X7_addNumber_53 (fun b σ1 α1 => wp_X7_thrown σ1 α1 (fun t σ2 α2 => t = v ∧ (v = 0 → ∃ n f, μ' out = some (eL n f) ∧ vp_in (0 : Int32) n ∧ f (0 : Int32).toNatClampNeg = b.toInt64) ∧ II kd x out μ' σ2 α2)) p1 p2 v σ α := fun v hv μ' hK' => m_ref1 hv ⟨fun h => absurd h (by decide), fun _ => ⟨q_us, fun h => absurd h hv, N, nt, tn, bn, dc, T, b, dp, dq, hK', hM.s0 (fun k hk => pk_un hk), hV⟩⟩
  refine ⟨⟨_, hK.cx⟩, c_out ?_⟩
  by_cases c1 : (-1000 : Int32) ≤ p1 ∧ p1 ≤ 1000
  · rw [if_pos c1]
    refine ⟨fun h => absurd rfl h, fun _ => c_out ?_⟩
    by_cases c2 : p1 ≤ p2 ∧ p2 ≤ 1000
    · rw [if_pos c2]
      refine ⟨fun _ q5 hq5 μ7 e7 q9 hq9 μ11 e11 => ?_, fun h => absurd rfl h⟩
      subst e7 e11
      obtain ⟨n95, fq9⟩ := ups_none hq9
      refine t_init (n := 0) ups_s rfl (by omega) (by omega) (fun it hit hne => ?_)
      obtain ⟨ni9, hit⟩ := ups_none hit
      obtain ⟨ni5, fit⟩ := ups_none hit
      have i1 := q_int c1
      have i2 := q_int c2
      have e1 : (-1000 : Int32).toInt = -1000 := by decide
      have e2 : (1000 : Int32).toInt = 1000 := by decide
      rw [e1] at i1
      rw [e2] at i2
      have hN1 := hV.2.1.num i1.1 i2.1 i2.2
      have small : meM (xtN N nt 0 0 (fun _ => 0) (fun _ => 0) p1 p2) nt ≤ 240 ∧ meL (xtN N nt 0 0 (fun _ => 0) (fun _ => 0) p1 p2) nt ≤ 240 := by
        obtain ⟨x1, _⟩ := xtN_at (N := N) (nt := nt) (K := 0) (C := 0) (P := fun _ => 0) (O := fun _ => 0) (lo := p1) (hi := p2)
        unfold meM meL
        rw [x1]
        simp only []
        have : nW (xtN N nt 0 0 (fun _ => 0) (fun _ => 0) p1 p2) nt ≤ 11 := wdN_le _
        omega
      refine hK.build (K := 0) (Cn := 0) (P := fun _ => 0) (O := fun _ => 0) (pf := fun _ => none) hV hkd (by omega) (fun a v hv => ?_) hN1 (by rw [ups_n n95.symm, ups_n ni5.symm, ups_n n95.symm]; exact ups_s) ups_s (by rw [ups_n hne]; exact ups_s) (Nat.le_refl _) (by omega) (fun k hk => by omega) (fun h => by omega) hq5 fq9 fit (fun hn μ' hK' => Or.inr ⟨rfl, ?_⟩) (fun hlt hMM hLL μ' hK' => ?_)
      · exact ups_kp hv fq9 (ups_kp hv fit (ups_kp hv fq9 (ups_kp hv hq5 hv)))
      · have e16 : nt = 16 := by
          by_cases c : nt < 16
          · exact absurd small (hn c)
          · omega
        refine m_in ?_
        rw [if_pos c1]
        refine ⟨fun h => absurd h (by decide), fun _ => m_in ?_⟩
        rw [if_pos c2]
        refine ⟨fun h => absurd h (by decide), fun _ => ⟨fun _ => ⟨fun h => absurd ?_ h, fun _ => bad 2 (by decide) _ hK'⟩, fun h => absurd h (by decide)⟩⟩
        rw [m1, e16]; rfl
      · refine KI.outQ hK' _ (fun μ7 hK7 hO => ?_)
        refine m_in ?_
        rw [if_pos c1]
        refine ⟨fun h => absurd h (by decide), fun _ => m_in ?_⟩
        rw [if_pos c2]
        refine ⟨fun h => absurd h (by decide), fun _ => ⟨fun _ => ⟨fun _ => m_ref0 ⟨fun _ => ?_, fun h => absurd rfl h⟩, fun h => ?_⟩, fun h => absurd h (by decide)⟩⟩
        · have hs1 : upd σ 0 0 1 = nI nt := by rw [pk_un (by omega)]; exact m1
          refine m_lay hs1 hlt ?_
          have hLO : LO nt α (uA (uA (uA (uA (uA α 2 nt 0) 3 nt p1) 4 nt p2) 6 nt 0) 8 nt 0) := ((((LO.refl.uA (by omega) (by omega) (fun _ _ => Nat.le_refl _) (by omega) (by omega)).uA (by omega) (by omega) (fun _ _ => Nat.le_refl _) (by omega) (by omega)).uA (by omega) (by omega) (fun _ _ => Nat.le_refl _) (by omega) (by omega)).uA (by omega) (by omega) (fun _ _ => Nat.le_refl _) (by omega) (by omega)).uA (by omega) (by omega) (fun _ _ => Nat.le_refl _) (by omega) (by omega)
          have hM1 : NMo (xtN N nt 0 0 (fun _ => 0) (fun _ => 0) p1 p2) (nt + 1) (uA (uA (uA (uA (uA α 2 nt 0) 3 nt p1) 4 nt p2) 6 nt 0) 8 nt 0) := by
            refine NMo.new hV.2.1 hM.2.1 hLO ?_ ?_ (fun _ => ?_) ?_ ?_ (fun k hk => by omega)
            · rw [uA_a (by omega), uA_a (by omega), uA_a (by omega), uA_a (by omega), uA_s]; rfl
            · rw [uA_a (by omega), uA_a (by omega), uA_a (by omega), uA_s]
            · rw [uA_a (by omega), uA_a (by omega), uA_s]
            · rw [uA_a (by omega), uA_s]; rfl
            · rw [uA_s]; rfl
          show wp_X7_measure (upd σ 0 0 1) _ _ _
          rw [hs1]
          refine m_new hN1 (xtN_ag.bd hV.2.2.1) hM1 (xtN_ag.ex (hLO.ex hM.2.2.1)) hlt ?_
          intro σ19 e19
          have hs19 : σ19 1 = nI (nt + 1) := by rw [e19, q_us, hs1, nI_succ]
          rw [hs19, show nI (nt + 1) - 1 = nI nt from nI_pred nt]
          have hk : ∀ k, k ≠ 1 → k ≠ 0 → σ19 k = σ k := fun k z1 z2 => by rw [e19, pk_un z1, pk_un z2]
          refine ⟨by rw [e19]; show upd _ _ _ 0 = 0; rw [pk_un (by omega), q_us], fun _ => hO, _, nt + 1, tn, bn, dc, T, b, dp, dq, hK7, MI.new hM hLO xtN_ag hM1 hs19 (hk 14 (by omega) (by omega)) (hk 16 (by omega) (by omega)) (by rw [hk 12 (by omega) (by omega)]; exact hM.2.2.2.2.2.2.2.1) hM.2.2.2.2.2.2.2.2, VI.new hV xtN_ag hN1 hMM hLL hlt hV.2.2.2.2.2.2.2.2.1 (fun k hk => ?_)⟩
          obtain ⟨d1, d2⟩ := hV.2.2.2.2.2.2.2.2.2 k hk
          exact ⟨by omega, d2⟩
        · rw [m1, q_l16, q_eq (by omega) (by omega)] at h; omega
    · rw [if_neg c2]
      refine ⟨fun h => absurd h (by decide), fun _ => Or.inl ⟨rfl, ?_⟩⟩
      refine m_in ?_
      rw [if_pos c1]
      refine ⟨fun h => absurd h (by decide), fun _ => m_in ?_⟩
      rw [if_neg c2]
      exact ⟨fun _ => ⟨fun h => absurd rfl h, fun _ => bad 1 (by decide) _ hK.ki⟩, fun h => absurd rfl h⟩
  · rw [if_neg c1]
    refine ⟨fun _ => Or.inl ⟨rfl, ?_⟩, fun h => absurd h (by decide)⟩
    refine m_in ?_
    rw [if_neg c1]
    exact ⟨fun _ => ⟨fun h => absurd rfl h, fun _ => bad 1 (by decide) _ hK.ki⟩, fun h => absurd rfl h⟩
theorem p_addList (hkd : ∀ i j, i < 4 → j < 4 → kd i = kd j → i = j) : op_1 kd x out (II kd x out) := by
  intro μ σ α p1 p2 p3 ⟨N, nt, tn, bn, dc, T, b, dp, dq, ⟨ad, C, dm, hK⟩, hM, hV⟩
  have hK : KC kd x out N nt tn bn dc T b dp dq μ ad C dm := hK
  have v1 := hV.1
  have m1 := hM.1
  -- the reference refuses
  have bad : ∀ (v : Int32), v ≠ 0 → ∀ (μ' : Mm), KI kd x out N nt tn bn dc T b dp dq μ' → ∀ α', LO nt α α' → wb_X7_addList_124 (fun b σ1 α1 => wp_X7_thrown σ1 α1 (fun t σ2 α2 => t = v ∧ (v = 0 → ∃ n f, μ' out = some (eL n f) ∧ vp_in (0 : Int32) n ∧ f (0 : Int32).toNatClampNeg = b.toInt64) ∧ II kd x out μ' σ2 α2)) v σ α' := fun v hv μ' hK' α' hLO => m_ref1 hv ⟨fun h => absurd h (by decide), fun _ => ⟨q_us, fun h => absurd h hv, N, nt, tn, bn, dc, T, b, dp, dq, hK', hLO.mi hV.2.1 hM (fun k hk => pk_un (by omega)), hV⟩⟩
  refine ⟨⟨_, hK.cx⟩, ⟨_, hK.cx⟩, hK.num v1 (fun t ht e => c_out ?_) (fun hn => Or.inl ⟨rfl, ?_⟩)⟩
  · subst e
    -- sizes out of range
    have out2 : ∀ (μ' : Mm), KI kd x out N nt tn bn dc T b dp dq μ' → wb_X7_addList_25 (fun b σ1 α1 => wp_X7_thrown σ1 α1 (fun t σ2 α2 => t = (2 : Int32) ∧ ((2 : Int32) = 0 → ∃ n f, μ' out = some (eL n f) ∧ vp_in (0 : Int32) n ∧ f (0 : Int32).toNatClampNeg = b.toInt64) ∧ II kd x out μ' σ2 α2)) (nI t) p2 p3 0 σ α := fun μ' hK' => by
      have r92 : wb_X7_addList_92 (fun b σ1 α1 => wp_X7_thrown σ1 α1 (fun t σ2 α2 => t = (2 : Int32) ∧ ((2 : Int32) = 0 → ∃ n f, μ' out = some (eL n f) ∧ vp_in (0 : Int32) n ∧ f (0 : Int32).toNatClampNeg = b.toInt64) ∧ II kd x out μ' σ2 α2)) (nI t) 0 0 σ α := m_isType m1 v1 (fun t' ht' e => ⟨fun _ => ⟨fun h => absurd rfl h, fun _ => bad 2 (by decide) _ hK' α LO.refl⟩, fun h => absurd h (by decide)⟩) (fun hn => absurd ⟨t, ht, rfl⟩ hn)
      have r53 : wb_X7_addList_53 (fun b σ1 α1 => wp_X7_thrown σ1 α1 (fun t σ2 α2 => t = (2 : Int32) ∧ ((2 : Int32) = 0 → ∃ n f, μ' out = some (eL n f) ∧ vp_in (0 : Int32) n ∧ f (0 : Int32).toNatClampNeg = b.toInt64) ∧ II kd x out μ' σ2 α2)) (nI t) p2 p3 0 σ α := ⟨fun _ => r92, fun h => absurd rfl h⟩
      exact m_isType m1 v1 (fun t' ht' e => ⟨fun h => absurd h (by decide), fun _ => ⟨fun _ => r53, fun h => absurd rfl h⟩⟩) (fun hn => absurd ⟨t, ht, rfl⟩ hn)
    by_cases c1 : (0 : Int32) ≤ p2 ∧ p2 ≤ 8
    · rw [if_pos c1]
      refine ⟨fun h => absurd rfl h, fun _ => c_out ?_⟩
      by_cases c2 : p2 ≤ p3 ∧ p3 ≤ 8
      · rw [if_pos c2]
        obtain ⟨a, _, ha8, ea⟩ := q_num (a := 0) (b := 8) c1.1 c1.2 (by omega) (by omega)
        subst ea
        obtain ⟨c, hac, hc8, ec⟩ := q_num (a := a) (b := 8) c2.1 c2.2 ha8 (by omega)
        subst ec
        refine ⟨fun _ q7 hq7 μ9 e9 => ?_, fun h => absurd rfl h⟩
        subst e9
        refine t_init (n := 1) ups_s rfl (by omega) (by omega) (fun it hit hne => ?_)
        obtain ⟨ni7, fit⟩ := ups_none hit
        obtain ⟨fa, fc, om0, hty⟩ := hK.tyo ht
        have hty2 := ups_kp (e := eO 3 [.ref it, .int 0]) hty hq7 (ups_kp (e := eT 1 (fun _ => none)) hty fit (ups_kp (e := .inl (3, [.null, .int 0])) hty hq7 hty))
        refine ⟨⟨_, ups_s⟩, t_append (n := 0) ups_s (by rw [ups_n hne]; exact ups_s) hty2 (by omega) (by omega) ?_⟩
        intro q15 hq15 μ17 e17
        subst e17
        obtain ⟨n157, hq⟩ := ups_none hq15
        obtain ⟨n15i, hq⟩ := ups_none hq
        obtain ⟨_, hq⟩ := ups_none hq
        obtain ⟨_, hq⟩ := ups_none hq
        obtain ⟨_, fq15⟩ := ups_none hq
        have hN1 := hV.2.1.lst hac hc8 ht
        have hpf : ∀ k, k < 1 → va_up (fun _ => none) 0 (some (ad (20 + 5 * t))) k = some (ad (20 + 5 * (fun _ => t) k)) := fun k hk => by
          have : k = 0 := by omega
          subst this; rfl
        have ref : nt < 16 → ∀ post : Int32 → (Nat → Int32) → (Nat → Nat → Int32) → Prop, (∀ α', LO nt α α' → NMo (xtN N nt 1 1 (fun _ => t) (fun _ => 0) (nI a) (nI c)) (nt + 1) α' → wb_X7_addList_124 post (if meM (xtN N nt 1 1 (fun _ => t) (fun _ => 0) (nI a) (nI c)) nt ≤ 240 ∧ meL (xtN N nt 1 1 (fun _ => t) (fun _ => 0) (nI a) (nI c)) nt ≤ 240 then 0 else 3) σ (mm α' nt (nI (meF (xtN N nt 1 1 (fun _ => t) (fun _ => 0) (nI a) (nI c)) nt)) (nI (meM (xtN N nt 1 1 (fun _ => t) (fun _ => 0) (nI a) (nI c)) nt)) (nI (meL (xtN N nt 1 1 (fun _ => t) (fun _ => 0) (nI a) (nI c)) nt)))) → wb_X7_addList_25 post (nI t) (nI a) (nI c) 1 σ α := by
          intro hlt post hp
          refine m_isType m1 v1 (fun t' ht' e => ⟨fun h => absurd h (by decide), fun _ => ⟨fun h => absurd h (by decide), fun _ => ⟨fun h => ?_, fun _ => ⟨fun h => absurd h (by decide), fun _ => ?_⟩⟩⟩⟩) (fun hn => absurd ⟨t, ht, rfl⟩ hn)
          · rw [m1, q_l16, q_le (by omega) (by omega)] at h; omega
          · refine m_lay m1 hlt ?_
            rw [m1, q_l6, pk_mul, nI_clamp (by omega)]
            refine ⟨vp_in_nI (by omega) (by omega), fun α20 e20 => ?_⟩
            have e20 : α20 = uA (uA (uA (uA (uA (uA α 2 nt 1) 3 nt (nI a)) 4 nt (nI c)) 6 nt 1) 8 nt 0) 5 (6 * nt) (nI t) := e20
            have hLO : LO nt α α20 := by
              rw [e20]
              exact (((((LO.refl.uA (by omega) (by omega) (fun _ _ => Nat.le_refl _) (by omega) (by omega)).uA (by omega) (by omega) (fun _ _ => Nat.le_refl _) (by omega) (by omega)).uA (by omega) (by omega) (fun _ _ => Nat.le_refl _) (by omega) (by omega)).uA (by omega) (by omega) (fun _ _ => Nat.le_refl _) (by omega) (by omega)).uA (by omega) (by omega) (fun _ _ => Nat.le_refl _) (by omega) (by omega)).uA (by omega) (by omega) (by omega) (fun _ => Nat.le_refl _) (by omega)
            have hM1 : NMo (xtN N nt 1 1 (fun _ => t) (fun _ => 0) (nI a) (nI c)) (nt + 1) α20 := by
              refine NMo.new hV.2.1 hM.2.1 hLO ?_ ?_ (fun _ => ?_) ?_ ?_ (fun k hk => ?_)
              · rw [e20, uA_a (by omega), uA_a (by omega), uA_a (by omega), uA_a (by omega), uA_a (by omega), uA_s]; rfl
              · rw [e20, uA_a (by omega), uA_a (by omega), uA_a (by omega), uA_a (by omega), uA_s]
              · rw [e20, uA_a (by omega), uA_a (by omega), uA_a (by omega), uA_s]
              · rw [e20, uA_a (by omega), uA_a (by omega), uA_s]; rfl
              · rw [e20, uA_a (by omega), uA_s]; rfl
              · have : k = 0 := by omega
                subst this
                rw [e20, Nat.add_zero, uA_s]; rfl
            refine m_new hN1 (xtN_ag.bd hV.2.2.1) hM1 (xtN_ag.ex (hLO.ex hM.2.2.1)) hlt ?_
            have fin := hp α20 hLO hM1
            refine m_isType m1 v1 (fun t' ht' e => ⟨fun _ => ⟨fun _ => ⟨fun h => ?_, fun h => ?_⟩, fun h => absurd h (by decide)⟩, fun h => absurd h (by decide)⟩) (fun hn => absurd ⟨t, ht, rfl⟩ hn)
            · by_cases ok : meM (xtN N nt 1 1 (fun _ => t) (fun _ => 0) (nI a) (nI c)) nt ≤ 240 ∧ meL (xtN N nt 1 1 (fun _ => t) (fun _ => 0) (nI a) (nI c)) nt ≤ 240
              · rw [if_pos ok] at h; exact absurd h (by decide)
              · rwa [if_neg ok] at fin
            · by_cases ok : meM (xtN N nt 1 1 (fun _ => t) (fun _ => 0) (nI a) (nI c)) nt ≤ 240 ∧ meL (xtN N nt 1 1 (fun _ => t) (fun _ => 0) (nI a) (nI c)) nt ≤ 240
              · rwa [if_pos ok] at fin
              · rw [if_neg ok] at h; exact absurd rfl h
        refine hK.build (K := 1) (Cn := 1) (P := fun _ => t) (O := fun _ => 0) hV hkd (by omega) (fun a' v hv => ?_) hN1 ups_s (by rw [ups_n n157.symm]; exact ups_s) (by rw [ups_n n15i.symm, ups_n hne]; exact ups_s) (Nat.le_refl _) (by omega) hpf (fun h => by omega) fq15 hq7 fit (fun hn μ' hK' => Or.inr (Or.inr ⟨rfl, ?_⟩)) (fun hlt hMM hLL μ' hK' => ?_)
        · exact ups_kp hv fq15 (ups_kp hv hq7 (ups_kp hv fit (ups_kp hv hq7 (ups_kp hv fit (ups_kp hv hq7 hv)))))
        · -- refused: full, or too long
          refine m_in ?_
          rw [if_pos c1]
          refine ⟨fun h => absurd h (by decide), fun _ => m_in ?_⟩
          rw [if_pos c2]
          refine ⟨fun h => absurd h (by decide), fun _ => ?_⟩
          by_cases c16 : nt < 16
          · refine ref c16 _ (fun α' hLO hM1 => ?_)
            rw [if_neg (hn c16)]
            exact bad 3 (by decide) _ hK' _ hLO.mm
          · have r92 : wb_X7_addList_92 (fun b σ1 α1 => wp_X7_thrown σ1 α1 (fun t σ2 α2 => t = (3 : Int32) ∧ ((3 : Int32) = 0 → ∃ n f, μ' out = some (eL n f) ∧ vp_in (0 : Int32) n ∧ f (0 : Int32).toNatClampNeg = b.toInt64) ∧ II kd x out μ' σ2 α2)) (nI t) 1 0 σ α := m_isType m1 v1 (fun t' ht' e => ⟨fun _ => ⟨fun _ => ⟨fun _ => bad 3 (by decide) _ hK' α LO.refl, fun h => absurd rfl h⟩, fun h => absurd h (by decide)⟩, fun h => absurd h (by decide)⟩) (fun hn => absurd ⟨t, ht, rfl⟩ hn)
            refine m_isType m1 v1 (fun t' ht' e => ⟨fun h => absurd h (by decide), fun _ => ⟨fun h => absurd h (by decide), fun _ => ⟨fun _ => ⟨fun _ => r92, fun h => absurd rfl h⟩, fun h => absurd ?_ h⟩⟩⟩) (fun hn => absurd ⟨t, ht, rfl⟩ hn)
            rw [m1, q_l16, q_le (by omega) (by omega)]; omega
        · refine KI.outQ hK' _ (fun μ7 hK7 hO => ?_)
          refine m_in ?_
          rw [if_pos c1]
          refine ⟨fun h => absurd h (by decide), fun _ => m_in ?_⟩
          rw [if_pos c2]
          refine ⟨fun h => absurd h (by decide), fun _ => ?_⟩
          refine ref hlt _ (fun α' hLO hM1 => ?_)
          rw [if_pos ⟨hMM, hLL⟩]
          refine m_ref0 ⟨fun _ σ19 e19 => ?_, fun h => absurd rfl h⟩
          have hs19 : σ19 1 = nI (nt + 1) := by rw [e19, q_us, pk_un (by omega), m1, nI_succ]
          rw [hs19, show nI (nt + 1) - 1 = nI nt from nI_pred nt]
          have hk : ∀ k, k ≠ 1 → k ≠ 0 → σ19 k = σ k := fun k z1 z2 => by rw [e19, pk_un z1, pk_un z2]
          refine ⟨by rw [e19]; show upd _ _ _ 0 = 0; rw [pk_un (by omega), q_us], fun _ => hO, _, nt + 1, tn, bn, dc, T, b, dp, dq, hK7, MI.new hM hLO xtN_ag hM1 hs19 (hk 14 (by omega) (by omega)) (hk 16 (by omega) (by omega)) (by rw [hk 12 (by omega) (by omega)]; exact hM.2.2.2.2.2.2.2.1) hM.2.2.2.2.2.2.2.2, VI.new hV xtN_ag hN1 hMM hLL hlt hV.2.2.2.2.2.2.2.2.1 (fun k hk => ?_)⟩
          obtain ⟨d1, d2⟩ := hV.2.2.2.2.2.2.2.2.2 k hk
          exact ⟨by omega, d2⟩
      · rw [if_neg c2]
        refine ⟨fun h => absurd h (by decide), fun _ => Or.inr (Or.inl ⟨rfl, ?_⟩)⟩
        refine m_in ?_
        rw [if_pos c1]
        refine ⟨fun h => absurd h (by decide), fun _ => m_in ?_⟩
        rw [if_neg c2]
        exact ⟨fun _ => out2 _ hK.ki, fun h => absurd rfl h⟩
    · rw [if_neg c1]
      refine ⟨fun _ => Or.inr (Or.inl ⟨rfl, ?_⟩), fun h => absurd h (by decide)⟩
      refine m_in ?_
      rw [if_neg c1]
      exact ⟨fun _ => out2 _ hK.ki, fun h => absurd rfl h⟩
  · have r92 : ∀ s0, wb_X7_addList_92 (fun b σ1 α1 => wp_X7_thrown σ1 α1 (fun t σ2 α2 => t = (1 : Int32) ∧ ((1 : Int32) = 0 → ∃ n f, μ out = some (eL n f) ∧ vp_in (0 : Int32) n ∧ f (0 : Int32).toNatClampNeg = b.toInt64) ∧ II kd x out μ σ2 α2)) p1 s0 0 σ α := fun s0 => m_isType m1 v1 (fun t' ht' e => absurd ⟨t', ht', e⟩ hn) (fun hn => ⟨fun h => absurd rfl h, fun _ => bad 1 (by decide) _ hK.ki α LO.refl⟩)
    have r25 : ∀ s0, wb_X7_addList_25 (fun b σ1 α1 => wp_X7_thrown σ1 α1 (fun t σ2 α2 => t = (1 : Int32) ∧ ((1 : Int32) = 0 → ∃ n f, μ out = some (eL n f) ∧ vp_in (0 : Int32) n ∧ f (0 : Int32).toNatClampNeg = b.toInt64) ∧ II kd x out μ σ2 α2)) p1 p2 p3 s0 σ α := fun s0 => m_isType m1 v1 (fun t' ht' e => absurd ⟨t', ht', e⟩ hn) (fun hn => ⟨fun _ => ⟨fun _ => r92 s0, fun h => absurd rfl h⟩, fun h => absurd rfl h⟩)
    refine m_in ?_
    by_cases c1 : (0 : Int32) ≤ p2 ∧ p2 ≤ 8
    · rw [if_pos c1]
      refine ⟨fun h => absurd h (by decide), fun _ => m_in ?_⟩
      by_cases c2 : p2 ≤ p3 ∧ p3 ≤ 8
      · rw [if_pos c2]
        exact ⟨fun h => absurd h (by decide), fun _ => r25 1⟩
      · rw [if_neg c2]
        exact ⟨fun _ => r25 0, fun h => absurd rfl h⟩
    · rw [if_neg c1]
      exact ⟨fun _ => r25 0, fun h => absurd rfl h⟩
end OY
