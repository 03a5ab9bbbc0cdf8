/-! THE REFERENCE over a tale: leaves -/
def uA (α : Nat → Nat → Int32) (k i : Nat) (x : Int32) : Nat → Nat → Int32 := upA α k (upd (α k) i x)
theorem uA_s {α : Nat → Nat → Int32} {k i : Nat} {x : Int32} : uA α k i x k i = x := by simp [uA, upA, upd]
theorem uA_a {α : Nat → Nat → Int32} {k i a : Nat} {x : Int32} (h : a ≠ k) : uA α k i x a = α a := by simp [uA, upA, h]
theorem uA_j {α : Nat → Nat → Int32} {k i a j : Nat} {x : Int32} (h : j ≠ i) : uA α k i x a j = α a j := by
  by_cases e : a = k
  · subst e; simp [uA, upA, upd, h]
  · rw [uA_a e]
theorem uA_uA {α : Nat → Nat → Int32} {k i : Nat} {x y : Int32} : uA (uA α k i x) k i y = uA α k i y := by
  funext a j
  by_cases h : a = k
  · subst h
    by_cases h2 : j = i
    · subst h2; rw [uA_s, uA_s]
    · rw [uA_j h2, uA_j h2, uA_j h2]
  · rw [uA_a h, uA_a h, uA_a h]
theorem q_us {σ : Nat → Int32} {k : Nat} {x : Int32} : upd σ k x k = x := pk_us
theorem q_uu {σ : Nat → Int32} {k : Nat} {x y : Int32} : upd (upd σ k x) k y = upd σ k y := by
  funext j; by_cases h : j = k <;> simp [upd, h]
theorem q_uid {σ : Nat → Int32} {k : Nat} {x : Int32} (h : σ k = x) : upd σ k x = σ := by
  funext j; by_cases h2 : j = k
  · subst h2; simp [upd, h]
  · simp [upd, h2]
theorem upA_id {α : Nat → Nat → Int32} {k : Nat} {f : Nat → Int32} (h : α k = f) : upA α k f = α := by
  funext j; by_cases h2 : j = k
  · subst h2; simp [upA, h]
  · simp [upA, h2]
theorem upA_s {α : Nat → Nat → Int32} {k : Nat} {f : Nat → Int32} : upA α k f k = f := by simp [upA]
theorem upA_n {α : Nat → Nat → Int32} {k j : Nat} {f : Nat → Int32} (h : j ≠ k) : upA α k f j = α j := by simp [upA, h]
theorem upA_upA {α : Nat → Nat → Int32} {k : Nat} {f g : Nat → Int32} : upA (upA α k f) k g = upA α k g := by
  funext j; by_cases h : j = k <;> simp [upA, h]
def wl (iw : Int32) (bs : List Int32) : List Int32 := if iw = 0 then [] else bs
theorem wl_app (iw : Int32) (as bs : List Int32) : wl iw (as ++ bs) = wl iw as ++ wl iw bs := by
  unfold wl; split <;> simp
section ML
variable {σ : Nat → Int32} {α : Nat → Nat → Int32} {N : NT} {nt : Nat}
theorem m_wrong0 {post : Int32 → (Nat → Int32) → (Nat → Nat → Int32) → Prop} {tn p : Nat} {lo hi : Int32} (h14 : σ 14 = nI tn) (h28 : σ 28 = nI p) (htn : tn ≤ 300) (hx : nxt (α 15) tn p lo hi) (hp : post 0 σ α) : wp_X7_isWrong lo hi σ α post := by
  have hp1 := hx.1
  refine ⟨fun h => ?_, fun _ => ?_⟩
  · rw [h14, h28, q_le (by omega) (by omega)] at h; omega
  · rw [h28]
    refine ⟨vp_in_nI (by omega) (by omega), ?_⟩
    rw [nI_clamp (by omega)]
    refine ⟨fun h => absurd hx.2.1 (Int32.not_le.mpr h), fun _ => ⟨fun h => absurd hx.2.2 (Int32.not_le.mpr h), fun _ => ⟨fun _ => ⟨fun _ => ?_, fun h => absurd rfl h⟩, fun h => absurd h (by decide)⟩⟩⟩
    intro σ7 e
    subst e
    rw [q_uid rfl]
    exact ⟨Or.inl rfl, hp⟩
theorem m_wrong1 {post : Int32 → (Nat → Int32) → (Nat → Nat → Int32) → Prop} {tn p : Nat} {lo hi : Int32} (h14 : σ 14 = nI tn) (h28 : σ 28 = nI p) (htn : tn ≤ 300) (hp2 : p ≤ 300) (hx : ¬ nxt (α 15) tn p lo hi) (hp : post 1 (upd σ 29 (nI p)) α) : wp_X7_isWrong lo hi σ α post := by
  have go : wb_X7_isWrong_33 post (1 : Int32) σ α := by
    refine ⟨fun h => absurd h (by decide), fun _ σ7 e => ?_⟩
    subst e
    rw [h28]; exact ⟨Or.inr rfl, hp⟩
  refine ⟨fun _ => go, fun h => ?_⟩
  rw [h14, h28, q_le (by omega) (by omega)] at h
  rw [h28]
  refine ⟨vp_in_nI (by omega) (by omega), ?_⟩
  rw [nI_clamp (by omega)]
  refine ⟨fun h1 => ⟨fun h2 => absurd rfl h2, fun _ => go⟩, fun h1 => ⟨fun h2 => ⟨fun h3 => absurd rfl h3, fun _ => go⟩, fun h2 => ?_⟩⟩
  exact absurd ⟨by omega, Int32.not_lt.mp h1, Int32.not_lt.mp h2⟩ hx
theorem m_partOf {post : Int32 → (Nat → Int32) → (Nat → Nat → Int32) → Prop} {t k : Nat} (hN : NWf N nt) (hM : NMo N nt α) (ht : t < nt) (hnt : nt ≤ 16) (hk : k < nC N t) (hp : post (nI (nP N t k)) σ α) : wp_X7_partOf (nI t) (nI k) σ α post := by
  have hwf := hN t ht
  have hP := hwf.2.2.2.1 k hk
  have e : (6 : Int32) * nI t + nI k = nI (6 * t + k) := by rw [q_l6, pk_mul, nI_add]
  unfold wp_X7_partOf
  rw [e, nI_clamp (by omega), (hM t ht).2.2.2.2.2.1 k hk, q_l100, q_rem (by omega) (by omega) (by omega)]
  have : (nP N t k + 100 * nO N t k) % 100 = nP N t k := by omega
  rw [this]
  exact ⟨vp_in_nI (by omega) (by omega), hp⟩
theorem m_isOpt {post : Int32 → (Nat → Int32) → (Nat → Nat → Int32) → Prop} {t k : Nat} (hN : NWf N nt) (hM : NMo N nt α) (ht : t < nt) (hnt : nt ≤ 16) (hk : k < nC N t) (h1 : nO N t k = 1 → post 1 σ α) (h0 : nO N t k = 0 → post 0 σ α) : wp_X7_isOptional (nI t) (nI k) σ α post := by
  have hwf := hN t ht
  have hP := hwf.2.2.2.1 k hk
  have e : (6 : Int32) * nI t + nI k = nI (6 * t + k) := by rw [q_l6, pk_mul, nI_add]
  unfold wp_X7_isOptional
  rw [e, nI_clamp (by omega), (hM t ht).2.2.2.2.2.1 k hk, q_l100, q_lt (by omega) (by omega)]
  exact ⟨vp_in_nI (by omega) (by omega), fun h => h0 (by omega), fun h => h1 (by omega)⟩
theorem m_widthOf {post : Int32 → (Nat → Int32) → (Nat → Nat → Int32) → Prop} {t : Nat} (hN : NWf N nt) (hM : NMo N nt α) (ht : t < nt) (hnt : nt ≤ 16) (hp : post (nI (nW N t)) σ α) : wp_X7_widthOf (nI t) σ α post := by
  have hwf := hN t ht
  have hs := hN.span ht
  obtain ⟨e2, e3, e4, e6, _⟩ := hM t ht
  have hi : vp_in (nI t) 16 := vp_in_nI (by omega) (by omega)
  unfold wp_X7_widthOf
  rw [nI_clamp (by omega), e2, e3, e6]
  refine ⟨hi, fun h => ⟨hi, hi, ?_⟩, fun h => ⟨hi, ?_⟩⟩
  · rw [q_l3, q_eq (by omega) (by omega)] at h
    rw [e4 h, hs.1]
    exact m_wd hs.2.1 hp
  · rw [q_l3, q_eq (by omega) (by omega)] at h
    refine m_wd (by omega) ?_
    unfold nW nV at hp
    rw [if_pos h] at hp; exact hp
theorem m_push {post : (Nat → Int32) → (Nat → Nat → Int32) → Prop} {j : Nat} {x : Int32} (h20 : σ 20 = nI j) (hj : j < 20) (hp : post (upd σ 20 (nI (j + 1))) (uA (uA (uA α 21 j x) 22 j 0) 25 j (-1))) : wp_X7_push x σ α post := by
  unfold wp_X7_push
  rw [h20, nI_clamp (by omega)]
  have hi : vp_in (nI j) 20 := vp_in_nI (by omega) (by omega)
  refine ⟨hi, fun α2 e2 => ⟨hi, fun α5 e5 => ⟨hi, fun α8 e8 σ10 e10 => ?_⟩⟩⟩
  subst e2 e5 e8 e10
  rw [nI_succ] at hp
  exact hp
theorem m_emit {post : (Nat → Int32) → (Nat → Nat → Int32) → Prop} {iw v : Int32} : ∀ (wd w : Nat) (σ : Nat → Int32) (α : Nat → Nat → Int32), wd ≤ 1000 → σ 16 = nI w → w + (wl iw (bin wd v)).length ≤ 300 →
    post (upd σ 16 (nI (w + (wl iw (bin wd v)).length))) (upA α 17 (apL (α 17) w (wl iw (bin wd v)))) → wp_X7_emit v (nI wd) iw σ α post := by
  by_cases hiw : iw = 0
  · intro wd w σ α hwd h16 hr hp
    refine ⟨1, fun _ => ?_, fun _ => ⟨fun _ => ?_, fun h => absurd hiw h⟩⟩ <;> (simp only [wl, if_pos hiw, apL_nil, List.length_nil, Nat.add_zero] at hp; rw [q_uid h16, upA_id rfl] at hp; exact hp)
  · have go : ∀ (wd w : Nat) (σ : Nat → Int32) (α : Nat → Nat → Int32), wd ≤ 1000 → σ 16 = nI w → w + wd ≤ 300 → post (upd σ 16 (nI (w + wd))) (upA α 17 (apL (α 17) w (bin wd v))) → wb_X7_emit_5 post (wd + 1) v iw (nI wd - 1) σ α := by
      intro wd
      induction wd with
      | zero =>
        intro w σ α _ h16 hr hp
        simp only [bin, apL_nil, Nat.add_zero] at hp
        rw [q_uid h16, upA_id rfl] at hp
        exact ⟨fun _ => hp, fun h => absurd (by decide) h⟩
      | succ wd ih =>
        intro w σ α hwd h16 hr hp
        rw [nI_pred]
        refine ⟨fun h => absurd h (nI_pos (by omega)), fun _ => ⟨fun h => absurd h hiw, fun _ => ?_⟩⟩
        rw [h16, nI_clamp (by omega)]
        refine ⟨vp_in_nI (by omega) (by omega), fun α4 e4 σ6 e6 => ?_⟩
        subst e4 e6
        rw [show (nI wd + (-1) : Int32) = nI wd - 1 from (Int32.sub_eq_add_neg _ _).symm]
        refine ih (w + 1) _ _ (by omega) (by rw [q_us, nI_succ]) (by omega) ?_
        rw [q_uu, upA_upA, upA_s, apL_cons]
        have : w + 1 + wd = w + (wd + 1) := by omega
        rw [this]
        exact hp
    intro wd w σ α hwd h16 hr hp
    simp only [wl, if_neg hiw, bin_len] at hr hp
    exact ⟨wd + 1, go wd w σ α hwd h16 hr hp⟩
end ML
