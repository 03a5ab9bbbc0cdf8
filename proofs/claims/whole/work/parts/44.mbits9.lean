/-! THE REFERENCE over bits: the walk; small leaves -/
section MBZ
variable {post : Int32 → (Nat → Int32) → (Nat → Nat → Int32) → Prop} {N : NT} {nt bn kn : Nat} {b : Nat → Nat}
theorem m_walkB {t : Nat} {σ : Nat → Int32} {α : Nat → Nat → Int32} (hN : NWf N nt) (hL : NLw N nt) (hkn : kn ≤ 3) (hnt : nt ≤ 16) (hM : NMo N nt α) (ht : t < nt) (hB : MB bn b σ α)
    (hg : ∀ p' l, rV N b bn kn 17 t 0 = .inr (p', l) → p' ≤ bn → ∀ σ' α', MSR 0 0 l σ α σ' α' → post (if bn ≤ p' then -1 else nI p') σ' α')
    (hx : ∀ q, rV N b bn kn 17 t 0 = .inl q → q ≤ bn → ∀ σ' α', FBR σ α σ' α' → post (nI q) σ' α') : wp_X7_walkBits (nI t) (nI kn) σ α post := by
  have hbn := hB.2.2.1
  have hl4 := (hL t ht).2.2.2.2
  intro σ1 e1 σ3 e3 σ5 e5 σ7 e7
  subst e1 e3 e5 e7
  refine m_push (j := 0) (by rw [pk_un (by omega), pk_un (by omega), pk_un (by omega), q_us]; rfl) (by omega) ?_
  have hS : ∀ k, k ≠ 18 → k ≠ 20 → k ≠ 28 → k ≠ 29 → upd (upd (upd (upd (upd σ 20 0) 28 0) 29 (-1)) 18 0) 20 (nI (0 + 1)) k = σ k := fun k z1 z2 z3 z4 => by rw [pk_un z2, pk_un z1, pk_un z4, pk_un z3, pk_un z2]
  have hS0 : MSR 0 0 [] σ α (upd (upd (upd (upd (upd σ 20 0) 28 0) 29 (-1)) 18 0) 20 (nI (0 + 1))) (psh α 0 (nI t)) := ⟨hS, fun a ha _ => psh_a ha, by rw [psh_a (by omega), apL_nil], by rw [pk_un (by omega), q_us]; rfl, fun a j _ hj => by omega⟩
  refine run_vB hN hL hkn hnt hbn 17 t 0 0 0 _ (psh α 0 (nI t)) ht (by omega) (by omega) (by omega) (by omega) ⟨hB.cong (hS 16 (by omega) (by omega) (by omega) (by omega)) (psh_a (by omega)), q_us, ?_, ?_, ?_, psh_21, psh_22, hM.cong (fun a ha => psh_a (by omega))⟩ psh_25 ⟨fun p' l hv hp' σ' α' hMS h20 h28 h29 => ⟨1, ?_⟩, fun q hv hq σ' α' hF h29 => ⟨1, ?_⟩⟩
  · rw [pk_un (by omega), pk_un (by omega), pk_un (by omega), q_us]; rfl
  · rw [pk_un (by omega), pk_un (by omega), q_us]
  · rw [pk_un (by omega), q_us]; rfl
  · have h16' : σ' 16 = nI bn := by rw [hMS.1 16 (by omega) (by omega) (by omega) (by omega), hS 16 (by omega) (by omega) (by omega) (by omega), hB.1]
    have hMS2 := hS0.trans (Nat.le_refl _) hMS
    rw [List.nil_append] at hMS2
    have fin := hg p' l hv hp' σ' α' hMS2
    refine ⟨fun _ => ⟨fun _ => ?_, fun h => absurd (by rw [h29]; decide) h⟩, fun h => absurd (by rw [h20]; decide) h⟩
    rw [h16', h28, q_le (by omega) (by omega)]
    exact ⟨fun h => by rwa [if_pos h] at fin, fun h => by rwa [if_neg h] at fin⟩
  · have fin := hx q hv hq σ' α' (hS0.fb.trans hF)
    have e47 : wb_X7_walkBits_47 post σ' α' := ⟨fun h => absurd h (by rw [h29]; exact nI_pos (by omega)), fun _ => by rw [h29]; exact fin⟩
    exact ⟨fun _ => e47, fun _ => ⟨fun _ => e47, fun h => absurd (by rw [h29]; exact nI_pos' (by omega)) h⟩⟩
end MBZ
/-! small leaves of the reference -/
section MSL
variable {σ : Nat → Int32} {α : Nat → Nat → Int32}
theorem m_refused {post : Int32 → (Nat → Int32) → (Nat → Nat → Int32) → Prop} {x : Int32} (hp : post (if x = 0 then 0 else 1) (upd σ 0 x) α) : wp_X7_refused x σ α post := by
  intro σ1 e
  subst e
  exact ⟨fun h => by rwa [if_pos h] at hp, fun h => by rwa [if_neg h] at hp⟩
theorem m_in {post : Int32 → Prop} {x lo hi : Int32} (hp : post (if lo ≤ x ∧ x ≤ hi then 1 else 0)) : wp_X7_in x lo hi post := by
  refine ⟨fun h => ?_, fun h => ⟨fun h2 => ?_, fun h2 => ?_⟩⟩
  · rwa [if_neg (fun h2 => absurd h2.1 (Int32.not_le.mpr h))] at hp
  · rwa [if_neg (fun h3 => absurd h3.2 (Int32.not_le.mpr h2))] at hp
  · rwa [if_pos ⟨Int32.not_lt.mp h, Int32.not_lt.mp h2⟩] at hp
theorem c_out {post : Int32 → Prop} {x lo hi : Int32} (hp : post (if lo ≤ x ∧ x ≤ hi then 0 else 1)) : wp_X6_isOutside x lo hi post := by
  refine ⟨fun h => ?_, fun h => ⟨fun h2 => ?_, fun h2 => ?_⟩⟩
  · rwa [if_neg (fun h2 => absurd h2.1 (Int32.not_le.mpr h))] at hp
  · rwa [if_pos ⟨Int32.not_lt.mp h, h2⟩] at hp
  · rwa [if_neg (fun h3 => absurd h3.2 h2)] at hp
/-- a place below n, as the reference asks: 0 ≤ x ≤ n - 1 -/
theorem q_below {n : Nat} {x : Int32} (hn : n < 2 ^ 30) : ((0 : Int32) ≤ x ∧ x ≤ nI n - (1 : Int32)) ↔ ∃ j, j < n ∧ x = nI j := by
  show (nI 0 ≤ x ∧ x ≤ nI n - nI 1) ↔ ∃ j, j < n ∧ x = nI j
  cases n with
  | zero =>
    rw [q_dec0]
    constructor
    · rintro ⟨h1, h2⟩
      have e1 : (-nI 1 : Int32).toInt = -1 := by decide
      have e0 : (nI 0 : Int32).toInt = 0 := by decide
      rw [Int32.le_iff_toInt_le] at h1 h2
      omega
    · rintro ⟨j, hj, _⟩; omega
  | succ n =>
    rw [q_sub (by omega)]
    constructor
    · rintro ⟨h1, h2⟩
      have e2 := nI_toInt (n := n + 1 - 1) (by omega)
      have e0 : (0 : Int32).toInt = 0 := by decide
      have e0' : (nI 0 : Int32).toInt = 0 := by decide
      have h0 : ¬ x < 0 := by rw [Int32.lt_iff_toInt_lt, e0]; rw [Int32.le_iff_toInt_le, e0'] at h1; omega
      obtain ⟨j, hj, e⟩ := nI_of2 (x := x) (M := nI (n + 1 - 1)) (n := n + 1 - 1) e2 h0 h2
      exact ⟨j, by omega, e⟩
    · rintro ⟨j, hj, e⟩
      subst e
      exact ⟨by rw [q_le (by omega) (by omega)]; omega, by rw [q_le (by omega) (by omega)]; omega⟩
theorem m_isType {post : Int32 → (Nat → Int32) → (Nat → Nat → Int32) → Prop} {x : Int32} {nt : Nat} (h1 : σ 1 = nI nt) (hnt : nt ≤ 16) (ht : ∀ t, t < nt → x = nI t → post 1 σ α) (hf : (¬ ∃ t, t < nt ∧ x = nI t) → post 0 σ α) : wp_X7_isType x σ α post := by
  refine m_in ?_
  rw [h1]
  by_cases h : ∃ t, t < nt ∧ x = nI t
  · rw [if_pos ((q_below (by omega)).mpr h)]
    obtain ⟨t, h2, h3⟩ := h
    exact ⟨Or.inr rfl, ht t h2 h3⟩
  · rw [if_neg (fun h2 => h ((q_below (by omega)).mp h2))]
    exact ⟨Or.inl rfl, hf h⟩
theorem m_noType {post : Int32 → (Nat → Int32) → (Nat → Nat → Int32) → Prop} {x : Int32} {nt : Nat} (h1 : σ 1 = nI nt) (hnt : nt ≤ 16) (ht : ∀ t, t < nt → x = nI t → post 0 (upd σ 0 0) α) (hf : (¬ ∃ t, t < nt ∧ x = nI t) → post 1 (upd σ 0 1) α) : wp_X7_noType x σ α post := by
  refine m_isType h1 hnt (fun t h2 h3 => ⟨fun h => absurd h (by decide), fun _ => m_refused ?_⟩) (fun h => ⟨fun _ => m_refused ?_, fun h => absurd rfl h⟩)
  · exact ⟨Or.inl rfl, ht t h2 h3⟩
  · exact ⟨Or.inr rfl, hf h⟩
end MSL
