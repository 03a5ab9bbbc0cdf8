/-! THE LAW: again -/
def rgI (v : Int32) : Prop := (-1000 : Int32) ≤ v ∧ v ≤ 1000
section AG
variable {kd : Nat → Nat} {S : SS} {t a : Nat}
theorem x_tellsN {x : Nat} {μ : Mm} (hV : VS S) (hK : KS kd x S μ) {p1 : Int32} {post : Int32 → Mm → Prop} (hg : rgI p1) (hf : stn S < 300) (h : ∀ μ', KS kd x (s_tale S (stn S + 1) (upd (sT S) (stn S) p1)) μ' → post (nI (stn S + 1)) μ') : wp_L_tells0 x p1 μ post := by
  obtain ⟨N, ⟨nt, tn, bn, dc⟩, T, b, dp, dq⟩ := S
  obtain ⟨out, ad, C, dm, hK⟩ := hK
  have hK : KC kd x out N nt tn bn dc T b dp dq μ ad C dm := hK
  have v6 : tn ≤ 300 := hV.v6
  have hf : tn < 300 := hf
  refine ⟨⟨_, hK.cx⟩, c_out ?_⟩
  rw [if_pos (show (-1000 : Int32) ≤ p1 ∧ p1 ≤ 1000 from hg)]
  refine ⟨fun _ => ⟨_, _, hK.cx, rfl, ⟨_, hK.c3⟩, k_isFull hK.c3 hK.c4 (by omega) (by omega) ?_⟩, fun h => absurd rfl h⟩
  rw [if_pos hf]
  refine ⟨fun _ => ⟨_, _, hK.cx, rfl, ⟨_, hK.c3⟩, k_append hK.c3 hK.c4 (by omega) hf ?_⟩, fun h => absurd rfl h⟩
  obtain ⟨C', hK2⟩ := hK.tale (tn + 1) (upd T tn p1)
  exact ⟨_, _, hK2.cx, rfl, ⟨_, hK2.c3⟩, k_size hK2.c3 (h _ ⟨out, hK2.ki⟩)⟩
/-- the row, and the tale that is told again out of it -/
theorem ag_58 (hkd : ∀ i j, i < 4 → j < 4 → kd i = kd j → i = j) (hV : VS S) (ha : a ≤ 23) {T' : Nat → Int32} (hT : ∀ i, i < a → rgI (T' i)) {x q : Nat} {ν : Int32} {f : Nat → Int32} {μ2 : Mm} (hq : μ2 q = some (eI 64 f)) (hf : ∀ i, i < a → f i = T' i) {post : Int32 → Mm → Prop} {K : Int32 → Int32 → Int32 → Nat → Int32 → Mm → Mm → Nat → Prop} {cz : Nat} (hc : cz ≤ 90) {v2 : Int32}
    (hp : ∀ μ1, KS kd x (s_tale S a T') μ1 → (cz ≤ 100 ∧ wp_L_tells0 x ν μ1 (fun r42 μ45 => cz + 1 ≤ 100 ∧ wp_L_wrong kd x (nI t) μ45 (fun r48 μ51 => (r48 = v2 → (K (nI t) v2 (nI a) q (ν + 1) μ51 μ2 (cz + 1))) ∧ (¬ r48 = v2 → (cz + 2 ≤ 100 ∧ wp_L_wrong kd x (nI t) μ51 (fun r55 μ58 => cz + 2 ≤ 100 ∧ post r55 μ58))))))) : ∀ (k i : Nat) (μ1 : Mm), i + k = a → KS kd x (s_tale S i T') μ1 → wb_L_again_58 x kd post K (k + 1) (nI t) v2 (nI a) q ν (nI i) μ1 μ2 cz := by
  intro k
  induction k with
  | zero =>
    intro i μ1 hi hK
    have e : i = a := by omega
    subst e
    exact ⟨fun _ => hp μ1 hK, fun h => absurd (nI_le (by omega) (by omega)) h⟩
  | succ k ih =>
    intro i μ1 hi hK
    refine ⟨fun h => absurd h (nI_ge (by omega) (by omega)), fun _ => ⟨64, f, hq, vp_in_nI (by omega) (by omega), by omega, ?_⟩⟩
    rw [nI_clamp (by omega), hf i (by omega)]
    refine x_tellsN (hV.tale (by omega)) hK (hT i (by omega)) (show i < 300 by omega) (fun μ hK => ?_)
    have eT : upd T' i (T' i) = T' := q_uid rfl
    have hK : KS kd x (s_tale S (i + 1) (upd T' i (T' i))) μ := hK
    rw [eT] at hK
    rw [← nI_succ]
    exact ih (i + 1) μ (by omega) hK
theorem ng_s (m : Nat) : (-4 : Int32) + nI m + 1 = -4 + nI (m + 1) := by
  rw [Int32.add_assoc, nI_succ]
theorem ng_9 : ∀ m, m < 13 → ¬ (9 : Int32) ≤ -4 + nI m := by decide
theorem ng_r : ∀ m, m < 13 → ((-1000 : Int32) ≤ -4 + nI m ∧ -4 + nI m ≤ 1000) := by decide
/-- number by number -/
theorem ag_43 (hkd : ∀ i j, i < 4 → j < 4 → kd i = kd j → i = j) (hV : VS S) (ht : t < snt S) (ha : a ≤ 23) : ∀ (k m : Nat), m + k = 13 → ∀ (T' : Nat → Int32), (∀ i, i < a + 1 → rgI (T' i)) → ∃ (r : Int32) (T2 : Nat → Int32), (∀ i, i < a + 1 → rgI (T2 i)) ∧ ∀ (x q cz : Nat) (f : Nat → Int32) (μ1 μ2 : Mm) (post : Int32 → Mm → Prop), cz ≤ 40 + m → μ2 q = some (eI 64 f) → (∀ i, i < a → f i = T' i) → KS kd x (s_tale S (a + 1) T') μ1 → (∀ μ', KS kd x (s_tale S (a + 1) T2) μ' → post r μ') → wb_L_again_43 x kd post (k + 1) (nI t) (nI a) (nI a) q (-4 + nI m) μ1 μ2 cz := by
  intro k
  induction k with
  | zero =>
    intro m hm T' hT
    have e : m = 13 := by omega
    subst e
    exact ⟨-2, T', hT, fun x q cz f μ1 μ2 post hc hq hf hK hp => ⟨fun _ => ⟨by omega, hp _ hK⟩, fun h => absurd (by decide) h⟩⟩
  | succ k ih =>
    intro m hm T' hT
    have hT2 : ∀ i, i < a + 1 → rgI (upd T' a (-4 + nI m) i) := fun i hi => by
      by_cases e : i = a
      · subst e; rw [q_us]; exact ng_r m (by omega)
      · rw [pk_un e]; exact hT i hi
    have front : ∀ (r : Int32) (T2 : Nat → Int32) (x q cz : Nat) (f : Nat → Int32) (μ1 μ2 : Mm) (post : Int32 → Mm → Prop), cz ≤ 40 + m → μ2 q = some (eI 64 f) → (∀ i, i < a → f i = T' i) → KS kd x (s_tale S (a + 1) T') μ1 → (∀ μ, KS kd x (s_tale S (a + 1) (upd T' a (-4 + nI m))) μ → ((wvN (sN S) (upd T' a (-4 + nI m)) (a + 1) t = nI a → (wb_L_again_43 x kd post (k + 1) (nI t) (nI a) (nI a) q (-4 + nI (m + 1)) μ μ2 (cz + 1))) ∧ (¬ wvN (sN S) (upd T' a (-4 + nI m)) (a + 1) t = nI a → (cz + 2 ≤ 100 ∧ wp_L_wrong kd x (nI t) μ (fun r55 μ58 => cz + 2 ≤ 100 ∧ post r55 μ58))))) → wb_L_again_43 x kd post (k + 1 + 1) (nI t) (nI a) (nI a) q (-4 + nI m) μ1 μ2 cz := by
      intro r T2 x q cz f μ1 μ2 post hc hq hf hK hp
      refine ⟨fun h => absurd h (ng_9 m (by omega)), fun _ => ⟨by omega, y_forget (hV.tale (by omega)) hK (fun μ hK => ⟨a + 1, ?_⟩)⟩⟩
      refine ag_58 hkd hV ha (fun i hi => hT i (by omega)) hq hf (by omega) (fun μ hK => ⟨by omega, x_tellsN (hV.tale (by omega)) hK (ng_r m (by omega)) (show a < 300 by omega) (fun μ hK => ⟨by omega, x_wrong hkd (hV.tale (tn' := a + 1) (by omega)) hK ht (fun μ hK => ?_)⟩)⟩) a 0 μ (by omega) hK
      rw [ng_s]
      exact hp μ hK
    by_cases hw : wvN (sN S) (upd T' a (-4 + nI m)) (a + 1) t = nI a
    · obtain ⟨r, T2, h1, h2⟩ := ih (m + 1) (by omega) (upd T' a (-4 + nI m)) hT2
      refine ⟨r, T2, h1, fun x q cz f μ1 μ2 post hc hq hf hK hp => front r T2 x q cz f μ1 μ2 post hc hq hf hK (fun μ hK => ⟨fun _ => ?_, fun h => absurd hw h⟩)⟩
      exact h2 x q (cz + 1) f μ μ2 post (by omega) hq (fun i hi => by rw [hf i hi, pk_un (by omega)]) hK hp
    · refine ⟨wvN (sN S) (upd T' a (-4 + nI m)) (a + 1) t, upd T' a (-4 + nI m), hT2, fun x q cz f μ1 μ2 post hc hq hf hK hp => front 0 T' x q cz f μ1 μ2 post hc hq hf hK (fun μ hK => ⟨fun h => absurd h hw, fun _ => ?_⟩)⟩
      exact ⟨by omega, x_wrong hkd (hV.tale (by omega)) hK ht (fun μ hK => ⟨by omega, hp _ hK⟩)⟩
/-- the tale into the row -/
theorem ag_16 (hV : VS S) (ha : a ≤ 23) (hn : stn S = a + 1) {x q : Nat} {post : Int32 → Mm → Prop} (hp : ∀ (cz : Nat) (f : Nat → Int32) (μ1 μ2 : Mm), cz ≤ 40 → μ2 q = some (eI 64 f) → (∀ i, i < a → f i = sT S i) → KS kd x S μ1 → ∃ n9, wb_L_again_43 x kd post n9 (nI t) (nI a) (nI a) q (-4) μ1 μ2 cz) : ∀ (k i cz : Nat) (f : Nat → Int32) (μ1 μ2 : Mm), i + k = a → cz ≤ 8 + i → μ2 q = some (eI 64 f) → (∀ i', i' < i → f i' = sT S i') → KS kd x S μ1 → wb_L_again_16 x kd post (k + 1) (nI t) (nI a) (nI a) q (nI i) μ1 μ2 cz := by
  intro k
  induction k with
  | zero =>
    intro i cz f μ1 μ2 hi hc hq hf hK
    have e : i = a := by omega
    subst e
    exact ⟨fun _ => hp cz f μ1 μ2 (by omega) hq hf hK, fun h => absurd (nI_le (by omega) (by omega)) h⟩
  | succ k ih =>
    intro i cz f μ1 μ2 hi hc hq hf hK
    refine ⟨fun h => absurd h (nI_ge (by omega) (by omega)), fun _ => ⟨by omega, x_told hV hK (show i < stn S by omega) (fun μ hK => ⟨64, f, hq, vp_in_nI (by omega) (by omega), fun μ30 e30 => ?_⟩)⟩⟩
    rw [nI_clamp (by omega)] at e30
    rw [← nI_succ]
    refine ih (i + 1) (cz + 1) (upd f i (sT S i)) μ μ30 (by omega) (by omega) (by rw [e30]; exact ups_s) (fun i' hi' => ?_) hK
    by_cases e : i' = i
    · subst e; exact q_us
    · rw [pk_un e]; exact hf i' (by omega)
theorem ag_ok (hkd : ∀ i j, i < 4 → j < 4 → kd i = kd j → i = j) (hV : VS S) (ht : t < snt S) (ha : a ≤ 23) (hn : stn S = a + 1) (hT : ∀ i, i < a + 1 → rgI (sT S i)) : ∃ (r : Int32) (T2 : Nat → Int32), (∀ i, i < a + 1 → rgI (T2 i)) ∧ ∀ (x : Nat) (μ : Mm) (post : Int32 → Mm → Prop), KS kd x S μ → (∀ μ', KS kd x (s_tale S (a + 1) T2) μ' → post r μ') → wp_L_again x kd (nI t) (nI a) μ post := by
  obtain ⟨r, T2, h1, h2⟩ := ag_43 hkd hV ht ha 13 0 rfl (sT S) hT
  refine ⟨r, T2, h1, fun x μ post hK hp => ?_⟩
  have eS : s_tale S (a + 1) (sT S) = S := by rw [← hn]
  refine ⟨by omega, y_length hV hK ⟨by omega, fun q hq μ13 e13 => ⟨a + 1, ?_⟩⟩⟩
  rw [hn, show nI (a + 1) - (1 : Int32) = nI a from nI_pred a]
  refine ag_16 hV ha hn (fun cz f μ1 μ2 hc hq hf hK => ⟨14, ?_⟩) a 0 8 (fun _ => 0) μ μ13 (by omega) (by omega) (by rw [e13]; exact ups_s) (fun i' hi' => by omega) hK
  exact h2 x q cz f μ1 μ2 post (by omega) hq hf (by rw [eS]; exact hK) hp
end AG
