/-! THE LAW: holds, block by block -/
section HO
variable {kd : Nat → Nat} {j t n : Nat}
/-- bits that are a value of the type -/
def PR (N : NT) (nt t n : Nat) (S : SS) : Prop := VS S ∧ sN S = N ∧ snt S = nt ∧ sbn S = n ∧ ∃ l, rV N (sb S) n 3 17 t 0 = .inr (n, l)
theorem VS.nmw {S : SS} (h : VS S) : NMw (sN S) (snt S) := NMe.mw h.2.2.1 h.2.2.2.1
theorem VS.nlw {S : SS} (h : VS S) : NLw (sN S) (snt S) := NMe.lw h.2.2.1 h.2.2.2.1
/-- turned back -/
theorem fl_fl {b : Nat → Nat} (hb : ∀ i, b i ≤ 1) {a : Nat} : (fun i => if i = a then 1 - (fun i => if i = a then 1 - b a else b i) a else (fun i => if i = a then 1 - b a else b i) i) = b := by
  funext i
  have := hb a
  by_cases e : i = a
  · subst e; simp only [if_true]; omega
  · simp only [if_neg e]
theorem fl_01 {b : Nat → Nat} (hb : ∀ i, b i ≤ 1) {a : Nat} : ∀ i, (fun i => if i = a then 1 - b a else b i) i ≤ 1 := by
  intro i
  have := hb i
  show (if i = a then 1 - b a else b i) ≤ 1
  split <;> omega
theorem btL_at {b : Nat → Nat} {bs : List Int32} {a : Nat} (h : AT (bI b) 0 bs) (h01 : ∀ i, btL bs i ≤ 1) (h1 : is01 bs) (ha : a < bs.length) (hb : b a ≤ 1) : btL bs a = b a := by
  have e := AT_get bs 0 a h ha
  rw [Nat.zero_add, (btL_01 h1 a).1] at e
  have e : nI (b a) = nI (btL bs a) := e
  have := h01 a
  exact ((nI_eq (by omega) (by omega)).mp e).symm
theorem rV_240 {S : SS} (hV : VS S) {b : Nat → Nat} {bn kn p' : Nat} {l : List Int32} (ht : t < snt S) (h : rV (sN S) b bn kn 17 t 0 = .inr (p', l)) : l.length ≤ 240 := by
  have h1 := rV_len hV.2.1 hV.nlw 17 t 0 p' l ht h
  have h2 := (hV.2.2.1 t ht).2.2
  omega
theorem vT_240 {S : SS} (hV : VS S) {T : Nat → Int32} {tn p' : Nat} {l : List Int32} (ht : t < snt S) (h : vT (sN S) T tn 17 t 0 = .inr (p', l)) : l.length ≤ 240 := by
  have h1 := vT_len hV.2.1 hV.nmw 17 t 0 p' l ht h
  have h2 := (hV.2.2.1 t ht).2.1
  omega
/-- a turn: from bits that are a value to bits that are a value -/
theorem ho_turn (hkd : ∀ i j, i < 4 → j < 4 → kd i = kd j → i = j) {N : NT} {nt : Nat} {S : SS} (hP : PR N nt t n S) (ht : t < nt) {a : Nat} (ha : a < n) (hj : j < 2 ^ 31) {i : Nat} : ∃ S', PR N nt t n S' ∧ ∀ (x cz : Nat) (μ : Mm) (post : Int32 → Mm → Prop) (K : Nat → Int32 → Int32 → Int32 → Int32 → Int32 → Mm → Nat → Prop), cz ≤ 500 → KS kd x S μ → (∀ (μ' : Mm) (cz' : Nat), cz' ≤ cz + 14 → KS kd x S' μ' → K x (nI j) 1 (nI t) (nI n) (nI (i + 1)) μ' cz') →
    (cz + 1 ≤ 1000 ∧ wp_L_flips x (nI a) μ (fun r182 μ185 => cz + 3 ≤ 1000 ∧ wp_L_fault kd x (nI t) (3 : Int32) μ185 (fun r187 μ190 => (r182 = 0 → (wb_L_holds_372 kd post K x (nI j) (nI t) (nI n) (nI i) (nI a) r182 r187 (1 : Int32) μ190 (cz + 3))) ∧ (¬ r182 = 0 → ((¬ r182 = (1 : Int32) → (wb_L_holds_372 kd post K x (nI j) (nI t) (nI n) (nI i) (nI a) r182 r187 (0 : Int32) μ190 (cz + 3))) ∧ (r182 = (1 : Int32) → (wb_L_holds_372 kd post K x (nI j) (nI t) (nI n) (nI i) (nI a) r182 r187 (1 : Int32) μ190 (cz + 3)))))))) := by
  obtain ⟨N0, ⟨nt0, tn, bn, dc⟩, T, b, dp, dq⟩ := S
  obtain ⟨hV, e1, e2, e3, l0, hR0⟩ := hP
  have e1 : N0 = N := e1
  have e2 : nt0 = nt := e2
  have e3 : bn = n := e3
  subst e1
  subst e2
  subst e3
  have hR0 : rV N0 b bn 3 17 t 0 = .inr (bn, l0) := hR0
  have v1 : nt0 ≤ 16 := hV.v1
  have v7 : bn ≤ 240 := hV.v7
  have hb : ∀ i, b i ≤ 1 := hV.v8
  have hN : NWf N0 nt0 := hV.2.1
  have hM : NMw N0 nt0 := hV.nmw
  have hba := hb a
  have eK : nI i + 1 = nI (i + 1) := (nI_succ i).symm
  have e34 : nI j - nI j / (4 : Int32) * (4 : Int32) = nI (j % 4) := pk_rem (d := 4) hj (by omega) (by omega)
  have hV4 : VS (N0, (nt0, tn, bn, dc), T, (fun i => if i = a then 1 - b a else b i), dp, dq) := hV.msg v7 (fl_01 hb)
  -- the two ways in
  have way : ∀ (v : Nat) (A0 A1 : Prop), v ≤ 1 → A1 → ((nI v = 0 → A1) ∧ (¬ nI v = 0 → ((¬ nI v = (1 : Int32) → A0) ∧ (nI v = (1 : Int32) → A1)))) := by
    intro v A0 A1 hv h
    refine ⟨fun _ => h, fun h0 => ⟨fun h1 => ?_, fun _ => h⟩⟩
    have : v = 0 ∨ v = 1 := by omega
    rcases this with e | e
    · rw [e] at h0; exact absurd rfl h0
    · rw [e] at h1; exact absurd rfl h1
  by_cases hf : fvN N0 (fun i => if i = a then 1 - b a else b i) bn 3 t = -1
  · -- the turned bits are a value
    obtain ⟨l4, hr4⟩ := fv_m1 v7 hf
    obtain ⟨l', r1, r2⟩ := go_read hN ht (fl_01 hb) (Nat.le_refl 3) hr4
    rw [hr4] at r1
    cases r1
    obtain ⟨bs, hv5, r3⟩ := r2 _ (AT_cp (T := T))
    obtain ⟨hbl, hA⟩ := r3 rfl
    obtain ⟨hb6, hA6, l6, _, _, hr6⟩ := go_write hN hM ht hv5
    have h01 := vT_01 17 t 0 _ _ hv5
    have hbit : btL bs a = 1 - b a := by
      have := btL_at hA hb6 h01 (by omega) (fl_01 hb a)
      rw [this]; simp only [if_true]
    obtain ⟨l7, hr7, r7⟩ := go_read hN ht hb6 (show j % 4 ≤ 3 by omega) hr6
    obtain ⟨bs7, hv7, _⟩ := r7 _ (AT_cp (T := cpF T (fun i => l4.getD i 0) l4.length))
    have p4 := rV_pos hr4
    have p7 := rV_pos hr7
    have q4 : l4.length ≤ 240 := rV_240 hV ht hr4
    have q7 : l7.length ≤ 240 := rV_240 hV ht hr7
    have hV5 : VS (N0, (nt0, l4.length, bn, dc), cpF T (fun i => l4.getD i 0) l4.length, (fun i => if i = a then 1 - b a else b i), dp, dq) := hV4.tale (by omega)
    have hV6 : VS (N0, (nt0, l4.length, bs.length, dc), cpF T (fun i => l4.getD i 0) l4.length, btL bs, dp, dq) := hV5.msg (by omega) hb6
    have hV7 : VS (N0, (nt0, l7.length, bs.length, dc), cpF (cpF T (fun i => l4.getD i 0) l4.length) (fun i => l7.getD i 0) l7.length, btL bs, dp, dq) := hV6.tale (by omega)
    refine ⟨(N0, (nt0, l7.length, bs.length, dc), cpF (cpF T (fun i => l4.getD i 0) l4.length) (fun i => l7.getD i 0) l7.length, btL bs, dp, dq), ⟨hV7, rfl, rfl, hbl, l6, by rw [← hbl]; exact hr6⟩, fun x cz μ post K hc hK hk => ?_⟩
    refine ⟨by omega, x_flips hV hK ha (fun μ hK => ⟨by omega, x_fault hkd hV4 hK ht (Nat.le_refl 3) (fun μ hK => way _ _ _ (by omega) ?_)⟩)⟩
    refine ⟨fun h => absurd h (by decide), fun _ => ⟨fun h => absurd hf h, fun _ => ⟨by omega, x_readsG hkd hV4 hK ht (Nat.le_refl 3) hr4 (Nat.le_refl _) (fun _ μ hK => ⟨fun h => absurd h (nI_nle p4 (by omega)), fun _ => ?_⟩)⟩⟩⟩
    refine ⟨by omega, x_wrong hkd hV5 hK ht (fun μ hK => ⟨fun h => absurd (wv_ok hv5) h, fun _ => ?_⟩)⟩
    refine ⟨by omega, x_writesG hkd hV5 hK ht hv5 (Nat.le_refl _) (fun _ μ hK => ⟨by omega, y_bits hV6 hK ⟨fun h => absurd rfl h, fun _ => ?_⟩⟩)⟩
    refine ⟨by omega, x_bit hV6 hK (show a < bs.length by omega) (fun μ hK => ⟨fun h => absurd (congrArg nI hbit) h, fun _ => ?_⟩)⟩
    refine ⟨by omega, y_bits hV6 hK ⟨fun h => absurd (congrArg nI hbl) h, fun _ => ?_⟩⟩
    rw [e34]
    refine ⟨by omega, x_readsG hkd hV6 hK ht (show j % 4 ≤ 3 by omega) hr7 (Nat.le_refl _) (fun _ μ hK => ⟨fun h => absurd h (nI_nle p7 (by omega)), fun _ => ?_⟩)⟩
    refine ⟨by omega, x_wrong hkd hV7 hK ht (fun μ hK => ⟨fun h => absurd (wv_ok hv7) h, fun _ => ?_⟩)⟩
    rw [eK]
    exact hk _ _ (by omega) hK
  · -- they have a fault
    rcases fv_cases (N := N0) (b := fun i => if i = a then 1 - b a else b i) (bn := bn) (kn := 3) (t := t) with h | ⟨q, hq, eq⟩
    · exact absurd h hf
    · refine ⟨(N0, (nt0, tn, bn, dc), T, b, dp, dq), ⟨hV, rfl, rfl, rfl, l0, hR0⟩, fun x cz μ post K hc hK hk => ?_⟩
      refine ⟨by omega, x_flips hV hK ha (fun μ hK => ⟨by omega, x_fault hkd hV4 hK ht (Nat.le_refl 3) (fun μ hK => way _ _ _ (by omega) ?_)⟩)⟩
      refine ⟨fun h => absurd h (by decide), fun _ => ⟨fun _ => ?_, fun h => absurd h hf⟩⟩
      refine ⟨fun h => absurd h (by decide), fun _ => ⟨fun h => absurd h (by show ¬ fvN N0 _ bn 3 t < 0; rw [eq]; exact nI_pos (by omega)), fun _ => ⟨fun h => absurd h (by show ¬ nI bn < fvN N0 _ bn 3 t; rw [eq]; exact nI_nlt hq (by omega)), fun _ => ?_⟩⟩⟩
      refine ⟨by omega, x_readsB hkd hV4 hK ht (Nat.le_refl 3) hf (fun μ hK => ⟨fun h => absurd rfl h, fun _ => ?_⟩)⟩
      refine ⟨by omega, x_flips hV4 hK ha (fun μ hK => ⟨fun h => absurd ?_ h, fun _ => ?_⟩)⟩
      · show nI (1 - (if a = a then 1 - b a else b a)) = 1 - nI (1 - b a)
        rw [if_pos rfl, q_l1, q_sub (by omega)]
      · have hK2 : KS kd x (N0, (nt0, tn, bn, dc), T, (fun i => if i = a then 1 - (fun i => if i = a then 1 - b a else b i) a else (fun i => if i = a then 1 - b a else b i) i), dp, dq) μ := hK
        rw [fl_fl hb] at hK2
        refine ⟨by omega, x_fault hkd hV hK2 ht (Nat.le_refl 3) (fun μ hK => ⟨fun h => absurd (fv_ok hR0) h, fun _ => ?_⟩)⟩
        show K x (nI j) 1 (nI t) (nI bn) (nI i + 1) μ _
        rw [eK]
        exact hk _ _ (by omega) hK
/-- behind the turns: bits are cut off -/
theorem ho_524 (hkd : ∀ i j, i < 4 → j < 4 → kd i = kd j → i = j) {N : NT} {nt : Nat} {S : SS} (hP : PR N nt t n S) (ht : t < nt) (hj : j < 2 ^ 31) : ∃ S', VS S' ∧ ∀ (x cz : Nat) (μ : Mm) (post : Int32 → Mm → Prop), cz ≤ 500 → KS kd x S μ → (∀ μ', KS kd x S' μ' → post 1 μ') → wb_L_holds_524 kd post x (nI j) 1 (nI t) (nI n) μ cz := by
  obtain ⟨N0, ⟨nt0, tn, bn, dc⟩, T, b, dp, dq⟩ := S
  obtain ⟨hV, e1, e2, e3, l0, hR0⟩ := hP
  have e1 : N0 = N := e1
  have e2 : nt0 = nt := e2
  have e3 : bn = n := e3
  subst e1
  subst e2
  subst e3
  have hR0 : rV N0 b bn 3 17 t 0 = .inr (bn, l0) := hR0
  have v7 : bn ≤ 240 := hV.v7
  have hb : ∀ i, b i ≤ 1 := hV.v8
  have hN : NWf N0 nt0 := hV.2.1
  have e34 : nI j - nI j / (4 : Int32) * (4 : Int32) = nI (j % 4) := pk_rem (d := 4) hj (by omega) (by omega)
  by_cases hn : bn = 0
  · refine ⟨(N0, (nt0, tn, bn, dc), T, b, dp, dq), hV, fun x cz μ post hc hK hp => ⟨fun h => absurd (by rw [hn]; rfl) h, fun _ => ⟨fun h => absurd h (by decide), fun _ => ⟨fun _ => ⟨by omega, hp _ hK⟩, fun h => absurd (by rw [hn]; rfl) h⟩⟩⟩⟩
  · have hlt : j / 9 % bn < bn := Nat.mod_lt _ (by omega)
    obtain ⟨l', hr', _⟩ := go_read hN ht hb (show j % 4 ≤ 3 by omega) hR0
    have c3 := go_cut hN ht hlt hR0
    have c4 := go_cut hN ht hlt hr'
    have eL : nI j / (9 : Int32) - nI j / (9 : Int32) / nI bn * nI bn = nI (j / 9 % bn) := by
      have e9 : nI j / (9 : Int32) = nI (j / 9) := pk_div (d := 9) hj (by omega) (by omega)
      rw [e9]
      exact pk_rem (Nat.lt_of_le_of_lt (Nat.div_le_self _ _) hj) (by omega) (by omega)
    have hVc : VS (N0, (nt0, tn, j / 9 % bn, dc), T, b, dp, dq) := hV.msg (by omega) hb
    refine ⟨(N0, (nt0, tn, j / 9 % bn, dc), T, b, dp, dq), hVc, fun x cz μ post hc hK hp => ⟨fun _ => ⟨nI_ne0 (by omega) (by omega), ?_⟩, fun h => absurd h (nI_ne0 (by omega) (by omega))⟩⟩
    rw [eL]
    refine ⟨fun h => absurd h (by decide), fun _ => ⟨fun h => absurd h (nI_ne0 (by omega) (by omega)), fun _ => ?_⟩⟩
    refine ⟨by omega, x_cuts hV hK (show j / 9 % bn ≤ bn by omega) (fun μ hK => ⟨fun h => absurd (q_sub (by omega)).symm h, fun _ => ?_⟩)⟩
    refine ⟨by omega, x_fault hkd hVc hK ht (Nat.le_refl 3) (fun μ hK => ⟨fun h => absurd c3 h, fun _ => ?_⟩)⟩
    rw [e34]
    exact ⟨by omega, x_fault hkd hVc hK ht (show j % 4 ≤ 3 by omega) (fun μ hK => ⟨fun h => absurd c4 h, fun _ => ⟨by omega, hp _ hK⟩⟩)⟩
/-- the turns -/
theorem ho_314 (hkd : ∀ i j, i < 4 → j < 4 → kd i = kd j → i = j) {N : NT} {nt : Nat} (ht : t < nt) (hj : j < 2 ^ 31) : ∀ (k i : Nat) (S : SS), i + k = 4 → PR N nt t n S → ∃ S', VS S' ∧ ∀ (x cz : Nat) (μ : Mm) (post : Int32 → Mm → Prop), cz ≤ 200 + 14 * i → KS kd x S μ → (∀ μ', KS kd x S' μ' → post 1 μ') → wb_L_holds_314 kd post (k + 1) x (nI j) 1 (nI t) (nI n) (nI i) μ cz := by
  intro k
  induction k with
  | zero =>
    intro i S hi hP
    obtain ⟨S', h1, h2⟩ := ho_524 hkd hP ht hj
    refine ⟨S', h1, fun x cz μ post hc hK hp => ⟨fun _ => h2 x cz μ post (by omega) hK hp, fun h => absurd (nI_le (a := 4) (by omega) (by omega)) h⟩⟩
  | succ k ih =>
    intro i S hi hP
    have v7 : n ≤ 240 := by
      have h := hP.1.v7
      have e := hP.2.2.2.1
      omega
    by_cases hn : n = 0
    · obtain ⟨S', h1, h2⟩ := ho_524 hkd hP ht hj
      exact ⟨S', h1, fun x cz μ post hc hK hp => ⟨fun _ => h2 x cz μ post (by omega) hK hp, fun _ => ⟨fun h => absurd h (by decide), fun _ => ⟨fun _ => h2 x cz μ post (by omega) hK hp, fun h => absurd (by rw [hn]; decide) h⟩⟩⟩⟩
    · have hlt : j / (4 + i) % n < n := Nat.mod_lt _ (by omega)
      obtain ⟨S1, hP1, h1⟩ := ho_turn (i := i) hkd hP ht hlt hj
      obtain ⟨S', h2, h3⟩ := ih (i + 1) S1 (by omega) hP1
      refine ⟨S', h2, fun x cz μ post hc hK hp => ?_⟩
      have e4 : (4 : Int32) + nI i = nI (4 + i) := nI_add 4 i
      have eat : nI j / nI (4 + i) - nI j / nI (4 + i) / nI n * nI n = nI (j / (4 + i) % n) := by
        rw [pk_div hj (by omega) (by omega)]
        exact pk_rem (Nat.lt_of_le_of_lt (Nat.div_le_self _ _) hj) (by omega) (by omega)
      refine ⟨fun h => absurd h (nI_ge (b := 4) (by omega) (by omega)), fun _ => ⟨fun h => absurd h (by decide), fun _ => ⟨fun h => absurd h (nI_nle (by omega) (by omega)), fun _ => ?_⟩⟩⟩
      rw [e4, eat]
      exact ⟨nI_ne0 (by omega) (by omega), nI_ne0 (by omega) (by omega), h1 x cz μ post _ (by omega) hK (fun μ' cz' hc' hK' => h3 x cz' μ' post (by omega) hK' hp)⟩
end HO
