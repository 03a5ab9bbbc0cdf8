/-! THE PURE HALF: numbers, rows -/
theorem q_l0 : (0 : Int32) = nI 0 := rfl
theorem q_l1 : (1 : Int32) = nI 1 := rfl
theorem q_l2 : (2 : Int32) = nI 2 := rfl
theorem q_l3 : (3 : Int32) = nI 3 := rfl
theorem q_l6 : (6 : Int32) = nI 6 := rfl
theorem q_l7 : (7 : Int32) = nI 7 := rfl
theorem q_l8 : (8 : Int32) = nI 8 := rfl
theorem q_l11 : (11 : Int32) = nI 11 := rfl
theorem q_l16 : (16 : Int32) = nI 16 := rfl
theorem q_l100 : (100 : Int32) = nI 100 := rfl
theorem q_l240 : (240 : Int32) = nI 240 := rfl
theorem q_l241 : (241 : Int32) = nI 241 := rfl
theorem q_l255 : (255 : Int32) = nI 255 := rfl
theorem q_l300 : (300 : Int32) = nI 300 := rfl
theorem q_in {n N : Nat} (h : n < N) (hN : N < 2 ^ 31) : vp_in (nI n) N = True := eq_true (vp_in_nI h hN)
theorem q_le {a b : Nat} (ha : a < 2 ^ 31) (hb : b < 2 ^ 31) : (nI a ≤ nI b) = (a ≤ b) := propext (nI_leI ha hb)
theorem q_lt {a b : Nat} (ha : a < 2 ^ 31) (hb : b < 2 ^ 31) : (nI a < nI b) = (a < b) := propext (nI_ltI ha hb)
theorem q_eq {a b : Nat} (ha : a < 2 ^ 31) (hb : b < 2 ^ 31) : (nI a = nI b) = (a = b) := propext (nI_eq ha hb)
theorem q_sub {a b : Nat} (h : b ≤ a) : nI a - nI b = nI (a - b) := pk_sub h
theorem q_m1_lt : ((-nI 1 : Int32) < nI 0) = True := by decide
theorem q_m1_le : (nI 0 ≤ (-nI 1 : Int32)) = False := by decide
theorem q_m1_ge {a : Nat} (h : a < 2 ^ 31) : ((-nI 1 : Int32) ≤ nI a) = True := by
  have h1 := nI_toInt h
  have h2 : (-nI 1 : Int32).toInt = -1 := by decide
  simp only [Int32.le_iff_toInt_le, h1, h2, eq_iff_iff, iff_true]; omega
theorem q_m1_ltn {a : Nat} (h : a < 2 ^ 31) : ((-nI 1 : Int32) < nI a) = True := by
  have h1 := nI_toInt h
  have h2 : (-nI 1 : Int32).toInt = -1 := by decide
  simp only [Int32.lt_iff_toInt_lt, h1, h2, eq_iff_iff, iff_true]; omega
theorem q_ltm1 {a : Nat} (h : a < 2 ^ 31) : (nI a < (-nI 1 : Int32)) = False := by
  have h1 := nI_toInt h
  have h2 : (-nI 1 : Int32).toInt = -1 := by decide
  simp only [Int32.lt_iff_toInt_lt, h1, h2, eq_iff_iff, iff_false]; omega
theorem q_em1 {a : Nat} (h : a < 2 ^ 31) : (nI a = (-nI 1 : Int32)) = False := by
  have h1 := nI_toInt h
  have h2 : (-nI 1 : Int32).toInt = -1 := by decide
  simp only [eq_iff_iff, iff_false]
  intro e
  rw [e, h2] at h1; omega
theorem q_m1e {a : Nat} (h : a < 2 ^ 31) : ((-nI 1 : Int32) = nI a) = False := by
  rw [← q_em1 h]; exact propext eq_comm
theorem q_decr {n : Nat} : nI (n + 1) + -nI 1 = nI n := pk_m1 n
theorem q_dec0 : (nI 0 : Int32) - nI 1 = -nI 1 := by decide
theorem q_rem {a d : Nat} (ha : a < 2 ^ 31) (h0 : 0 < d) (hd : d < 2 ^ 31) : nI a - nI a / nI d * nI d = nI (a % d) := pk_rem ha h0 hd
theorem q_nle (a b : Int32) : (¬ a ≤ b) = (b < a) := propext Int32.not_le
theorem q_nlt (a b : Int32) : (¬ a < b) = (b ≤ a) := propext Int32.not_lt
theorem q_ups_s {μ : Mm} {a : Nat} {e : En} : ups μ a e a = some e := ups_s
theorem q_ups_ss {μ : Mm} {a : Nat} {e e' : En} : ups (ups μ a e) a e' = ups μ a e' := by
  funext b; by_cases h : b = a <;> simp [ups, h]
theorem q_ups_id {μ : Mm} {a : Nat} {e : En} (h : μ a = some e) : ups μ a e = μ := by
  funext b; by_cases hb : b = a
  · subst hb; simp [ups, h]
  · simp [ups, hb]
theorem q_ups_sw {μ : Mm} {a b : Nat} {e e' : En} (h : a ≠ b) : ups (ups μ a e) b e' = ups (ups μ b e') a e := by
  funext c
  by_cases h1 : c = a
  · subst h1; simp [ups, h]
  · by_cases h2 : c = b
    · subst h2; simp [ups, h1]
    · simp [ups, h1, h2]
/-- different things lie at different places -/
theorem q_ne {μ : Mm} {a b : Nat} {e e' : En} (h1 : μ a = some e) (h2 : μ b = some e') (h : e ≠ e') : a ≠ b := by
  intro hab; subst hab; rw [h1] at h2; cases h2; exact h rfl
theorem k_size {o it : Nat} {μ : Mm} {post : Int32 → Mm → Prop} {n : Int32} (h1 : μ o = some (eO 1 [.ref it, .int n])) (hp : post n μ) : wp_X2_size o μ post := ⟨_, _, h1, rfl, hp⟩
theorem k_has {o it c n : Nat} {f : Nat → Int32} {x : Int32} {μ : Mm} {post : Int32 → Mm → Prop} (h1 : μ o = some (eO 1 [.ref it, .int (nI n)])) (h2 : μ it = some (eI c f)) (hn : n ≤ c) (hc : c < 2 ^ 31)
    (hp : ∀ r, (r = 0 → ¬ (∃ j, j < n ∧ x = nI j)) → (r ≠ 0 → ∃ j, j < n ∧ x = nI j) → post r μ) : wp_X2_has o x μ post := by
  have hz : (0 : Int32) = 0 := rfl
  refine ⟨fun h => hp 0 (fun _ ⟨j, hj, e⟩ => ?_) (fun q => absurd rfl q), fun h => ⟨_, _, h1, rfl, fun h3 => hp 0 (fun _ ⟨j, hj, e⟩ => ?_) (fun q => absurd rfl q), fun h3 => ⟨_, _, h1, rfl, _, _, h2, fun h4 => ?_, fun h4 => ?_⟩⟩⟩
  · subst e; exact absurd h (nI_pos (by omega))
  · subst e; exact absurd h3 (nI_ge hj (by omega))
  · obtain ⟨j, hj, e⟩ := nI_of h
    subst e
    rw [q_le (by omega) (by omega)] at h3 h4
    omega
  · obtain ⟨j, hj, e⟩ := nI_of h
    subst e
    rw [q_le (by omega) (by omega)] at h3
    exact hp 1 (fun q => absurd q (by decide)) (fun _ => ⟨j, by omega, rfl⟩)
theorem k_at {o it c n j : Nat} {f : Nat → Int32} {μ : Mm} {post : Int32 → Mm → Prop} (h1 : μ o = some (eO 1 [.ref it, .int (nI n)])) (h2 : μ it = some (eI c f)) (hn : n ≤ c) (hc : c < 2 ^ 31) (hj : j < n) (hp : post (f j) μ) : wp_X2_at o (nI j) μ post := by
  refine ⟨fun h => absurd h (nI_pos (by omega)), fun _ => ⟨_, _, h1, rfl, fun h3 => absurd h3 (nI_ge hj (by omega)), fun _ => ⟨_, _, h1, rfl, _, _, h2, fun h4 => absurd h4 (nI_ge (by omega) (by omega)), fun _ => ⟨_, _, h1, rfl, _, _, h2, vp_in_nI (by omega) hc, ?_⟩⟩⟩⟩
  rw [nI_clamp (by omega)]; exact hp
theorem k_at0 {o it c n : Nat} {x : Int32} {f : Nat → Int32} {μ : Mm} {post : Int32 → Mm → Prop} (h1 : μ o = some (eO 1 [.ref it, .int (nI n)])) (h2 : μ it = some (eI c f)) (hn : n ≤ c) (hc : c < 2 ^ 31) (hj : ¬ ∃ j, j < n ∧ x = nI j) (hp : post 0 μ) : wp_X2_at o x μ post := by
  refine ⟨fun _ => hp, fun h => ⟨_, _, h1, rfl, fun _ => hp, fun h3 => ⟨_, _, h1, rfl, _, _, h2, fun _ => hp, fun h4 => ?_⟩⟩⟩
  obtain ⟨j, hj', e⟩ := nI_of h
  subst e
  rw [q_le (by omega) (by omega)] at h3
  exact absurd ⟨j, by omega, rfl⟩ hj
/-- of any place something is answered -/
theorem k_any {o it c n : Nat} {x : Int32} {f : Nat → Int32} {μ : Mm} {post : Int32 → Mm → Prop} (h1 : μ o = some (eO 1 [.ref it, .int (nI n)])) (h2 : μ it = some (eI c f)) (hn : n ≤ c) (hc : c < 2 ^ 31) (hp : ∀ v, (∀ j, j < n → x = nI j → v = f j) → post v μ) : wp_X2_at o x μ post := by
  by_cases h : ∃ j, j < n ∧ x = nI j
  · obtain ⟨j, hj, e⟩ := h
    subst e
    exact k_at h1 h2 hn hc hj (hp _ (fun j' hj' e => by rw [q_eq (by omega) (by omega)] at e; rw [e]))
  · exact k_at0 h1 h2 hn hc h (hp _ (fun j hj e => absurd ⟨j, hj, e⟩ h))
theorem k_append {o it c n : Nat} {x : Int32} {f : Nat → Int32} {μ : Mm} {post : Mm → Prop} (h1 : μ o = some (eO 1 [.ref it, .int (nI n)])) (h2 : μ it = some (eI c f)) (hc : c < 2 ^ 31) (hn : n < c)
    (hp : post (ups (ups μ it (eI c (upd f n x))) o (eO 1 [.ref it, .int (nI (n + 1))]))) : wp_X2_append o x μ post := by
  have hne : o ≠ it := q_ne h1 h2 (by simp)
  refine ⟨_, _, h1, rfl, fun h => absurd h (nI_pos (by omega)), fun _ => ⟨_, _, h1, rfl, _, _, h1, rfl, _, _, h2, fun h => ?_, fun _ => ⟨_, _, h1, rfl, _, _, h1, rfl, _, _, h2, vp_in_nI hn hc, ?_⟩⟩⟩
  · rw [q_le (by omega) (by omega)] at h; omega
  · intro μ30 e
    subst e
    refine ⟨_, _, (ups_n hne).trans h1, rfl, _, (ups_n hne).trans h1, by simp, ?_⟩
    intro μ39 e
    subst e
    rw [nI_clamp (by omega)]
    rw [nI_succ] at hp
    exact hp
theorem k_appendF {o it c n : Nat} {x : Int32} {f : Nat → Int32} {μ : Mm} {post : Mm → Prop} (h1 : μ o = some (eO 1 [.ref it, .int (nI n)])) (h2 : μ it = some (eI c f)) (hc : c < 2 ^ 31) (hn : c ≤ n) (hn2 : n < 2 ^ 31) (hp : post μ) : wp_X2_append o x μ post := by
  refine ⟨_, _, h1, rfl, fun h => absurd h (nI_pos (by omega)), fun _ => ⟨_, _, h1, rfl, _, _, h1, rfl, _, _, h2, fun h => hp, fun h => ?_⟩⟩
  rw [q_le (by omega) (by omega)] at h; omega
theorem k_replace {o it c n j : Nat} {x : Int32} {f : Nat → Int32} {μ : Mm} {post : Mm → Prop} (h1 : μ o = some (eO 1 [.ref it, .int (nI n)])) (h2 : μ it = some (eI c f)) (hn : n ≤ c) (hc : c < 2 ^ 31) (hj : j < n)
    (hp : post (ups μ it (eI c (upd f j x)))) : wp_X2_replace o (nI j) x μ post := by
  refine ⟨⟨_, h1⟩, k_has h1 h2 hn hc (fun r hr0 hr1 => ⟨fun h => absurd ⟨j, hj, rfl⟩ (hr0 h), fun h => ⟨_, _, h1, rfl, _, _, h2, vp_in_nI (by omega) hc, ?_⟩⟩)⟩
  intro μ12 e
  subst e
  rw [nI_clamp (by omega)]; exact hp
/-- whatever the place, only the items change -/
theorem k_replaceA {o it c n : Nat} {i x : Int32} {f : Nat → Int32} {μ : Mm} {post : Mm → Prop} (h1 : μ o = some (eO 1 [.ref it, .int (nI n)])) (h2 : μ it = some (eI c f)) (hn : n ≤ c) (hc : c < 2 ^ 31)
    (hp : ∀ f', (∀ j, j < n → i = nI j → f' = upd f j x) → post (ups μ it (eI c f'))) : wp_X2_replace o i x μ post := by
  by_cases h : ∃ j, j < n ∧ i = nI j
  · obtain ⟨j, hj, e⟩ := h
    subst e
    exact k_replace h1 h2 hn hc hj (hp _ (fun j' hj' e => by rw [q_eq (by omega) (by omega)] at e; rw [e]))
  · refine ⟨⟨_, h1⟩, k_has h1 h2 hn hc (fun r hr0 hr1 => ⟨fun _ => ?_, fun h3 => absurd (hr1 h3) h⟩)⟩
    have := hp f (fun j hj e => absurd ⟨j, hj, e⟩ h)
    rwa [q_ups_id h2] at this
theorem k_keepFirst {o it n m : Nat} {μ : Mm} {post : Mm → Prop} (h1 : μ o = some (eO 1 [.ref it, .int (nI n)])) (hn : n < 2 ^ 31) (hm : m ≤ n) (hp : post (ups μ o (eO 1 [.ref it, .int (nI m)]))) : wp_X2_keepFirst o (nI m) μ post := by
  refine ⟨fun h => absurd h (nI_pos (by omega)), fun _ => ⟨_, _, h1, rfl, fun h => ?_, fun h => ⟨_, h1, by simp, fun μ10 e => ?_⟩⟩⟩
  · rw [q_le (by omega) (by omega)] at h
    have : m = n := by omega
    subst this
    rwa [q_ups_id h1] at hp
  · subst e; exact hp
theorem k_isFull {o it c n : Nat} {f : Nat → Int32} {μ : Mm} {post : Int32 → Mm → Prop} (h1 : μ o = some (eO 1 [.ref it, .int (nI n)])) (h2 : μ it = some (eI c f)) (hc : c < 2 ^ 31) (hn : n < 2 ^ 31) (hp : post (if n < c then 0 else 1) μ) : wp_X2_isFull o μ post := by
  refine ⟨_, _, h1, rfl, _, _, h1, rfl, _, _, h2, fun h => ?_, fun h => ?_⟩
  · rw [q_lt (by omega) (by omega)] at h; rwa [if_pos h] at hp
  · rw [q_lt (by omega) (by omega)] at h; rwa [if_neg h] at hp
theorem t_size {o it : Nat} {μ : Mm} {post : Int32 → Mm → Prop} {n : Int32} (h1 : μ o = some (eO 3 [.ref it, .int n])) (hp : post n μ) : wp_X4_size o μ post := ⟨_, _, h1, rfl, hp⟩
theorem t_at {o it c n j : Nat} {f : Nat → Option Nat} {μ : Mm} {post : Option Nat → Mm → Prop} (h1 : μ o = some (eO 3 [.ref it, .int (nI n)])) (h2 : μ it = some (eT c f)) (hn : n ≤ c) (hc : c < 2 ^ 31) (hj : j < n) (hp : post (f j) μ) : wp_X4_at o (nI j) μ post := by
  refine ⟨fun h => absurd h (nI_pos (by omega)), fun _ => ⟨_, _, h1, rfl, fun h => ?_, fun _ => ⟨_, _, h1, rfl, _, _, h2, fun h => ?_, fun _ => ⟨_, _, h1, rfl, _, _, h2, vp_in_nI (by omega) hc, fun r e => ?_⟩⟩⟩⟩
  · rw [q_le (by omega) (by omega)] at h; omega
  · rw [q_le (by omega) (by omega)] at h; omega
  · subst e; rw [nI_clamp (by omega)]; exact hp
theorem t_atN {o it c n : Nat} {x : Int32} {f : Nat → Option Nat} {μ : Mm} {post : Option Nat → Mm → Prop} (h1 : μ o = some (eO 3 [.ref it, .int (nI n)])) (h2 : μ it = some (eT c f)) (hn : n ≤ c) (hc : c < 2 ^ 31) (hj : ¬ ∃ j, j < n ∧ x = nI j) (hp : post none μ) : wp_X4_at o x μ post := by
  refine ⟨fun h => hp, fun h0 => ⟨_, _, h1, rfl, fun h => hp, fun h3 => ?_⟩⟩
  obtain ⟨j, hj2, e⟩ := nI_of h0
  subst e
  rw [q_le (by omega) (by omega)] at h3
  exact absurd ⟨j, by omega, rfl⟩ hj
theorem t_isFull {o it c n : Nat} {f : Nat → Option Nat} {μ : Mm} {post : Int32 → Mm → Prop} (h1 : μ o = some (eO 3 [.ref it, .int (nI n)])) (h2 : μ it = some (eT c f)) (hc : c < 2 ^ 31) (hn : n < 2 ^ 31) (hp : post (if n < c then 0 else 1) μ) : wp_X4_isFull o μ post := by
  refine ⟨_, _, h1, rfl, _, _, h1, rfl, _, _, h2, fun h => ?_, fun h => ?_⟩
  · rw [q_lt (by omega) (by omega)] at h; rwa [if_pos h] at hp
  · rw [q_lt (by omega) (by omega)] at h; rwa [if_neg h] at hp
theorem t_append {o it c n x : Nat} {fx : List Value} {f : Nat → Option Nat} {μ : Mm} {post : Mm → Prop} (h1 : μ o = some (eO 3 [.ref it, .int (nI n)])) (h2 : μ it = some (eT c f)) (hx : μ x = some (eO 2 fx)) (hc : c < 2 ^ 31) (hn : n < c)
    (hp : post (ups (ups μ it (eT c (va_up f n (some x)))) o (eO 3 [.ref it, .int (nI (n + 1))]))) : wp_X4_append o x μ post := by
  have hne : o ≠ it := q_ne h1 h2 (by simp)
  refine ⟨_, _, h1, rfl, fun h => absurd h (nI_pos (by omega)), fun _ => ⟨_, _, h1, rfl, _, _, h1, rfl, _, _, h2, fun h => ?_, fun _ => ⟨_, _, h1, rfl, _, _, h1, rfl, _, _, h2, vp_in_nI hn hc, ⟨_, hx⟩, ?_⟩⟩⟩
  · rw [q_le (by omega) (by omega)] at h; omega
  · intro μ30 e
    subst e
    refine ⟨_, _, (ups_n hne).trans h1, rfl, _, (ups_n hne).trans h1, by simp, ?_⟩
    intro μ39 e
    subst e
    rw [nI_clamp (by omega)]
    rw [nI_succ] at hp
    exact hp
theorem t_dropLast {o it n : Nat} {μ : Mm} {post : Mm → Prop} (h1 : μ o = some (eO 3 [.ref it, .int (nI (n + 1))])) (hn : n + 1 < 2 ^ 31) (hp : post (ups μ o (eO 3 [.ref it, .int (nI n)]))) : wp_X4_dropLast o μ post := by
  refine ⟨_, _, h1, rfl, fun h => absurd h (nI_nle (by omega) hn), fun _ => ⟨_, _, h1, rfl, _, h1, by simp, fun μ13 e => ?_⟩⟩
  subst e
  rw [nI_pred]
  exact hp
theorem k_isOpt {o : Nat} {g : Int32} {i : Int32} {a b c d e f : Value} {r : List Value} {μ : Mm} {post : Int32 → Mm → Prop} (h1 : μ o = some (eO 2 (a :: b :: c :: d :: e :: .int g :: r))) (hp : post (if ((g >>> (i &&& 31)) &&& (1 : Int32)) = (1 : Int32) then 1 else 0) μ) : wp_X3_isOptional o i μ post := by
  refine ⟨_, _, h1, rfl, fun h => ?_, fun h => ?_⟩
  · rwa [if_neg h] at hp
  · rwa [if_pos h] at hp
