/-! A MEMORY BY ROLES: ad says where a role's cell lies, C what it holds -/
def Rp (μ : Mm) (ad : Nat → Nat) (C : Mm) : Prop := (∀ r e, C r = some e → μ (ad r) = some e) ∧ ∀ r s, C r ≠ none → C s ≠ none → ad r = ad s → r = s
theorem Rp.get {μ : Mm} {ad : Nat → Nat} {C : Mm} (h : Rp μ ad C) {r : Nat} {e : En} (hr : C r = some e) : μ (ad r) = some e := h.1 r e hr
theorem Rp.ne {μ : Mm} {ad : Nat → Nat} {C : Mm} (h : Rp μ ad C) {r s : Nat} {e e' : En} (hr : C r = some e) (hs : C s = some e') (n : r ≠ s) : ad r ≠ ad s := fun q => n (h.2 r s (by rw [hr]; simp) (by rw [hs]; simp) q)
theorem Rp.cong {μ : Mm} {ad : Nat → Nat} {C C' : Mm} (h : Rp μ ad C) (e : ∀ r, C' r = C r) : Rp μ ad C' := by
  have : C' = C := funext e
  rw [this]; exact h
/-- a write moves one role -/
theorem Rp.put {μ : Mm} {ad : Nat → Nat} {C : Mm} (h : Rp μ ad C) {r : Nat} {e0 : En} (e : En) (hr : C r = some e0) : Rp (ups μ (ad r) e) ad (ups C r e) := by
  have hn : ∀ s, ups C r e s ≠ none → C s ≠ none := by
    intro s hs
    by_cases q : s = r
    · subst q; rw [hr]; simp
    · rwa [ups_n q] at hs
  refine ⟨fun s e' hs => ?_, fun s s' h1 h2 q => h.2 s s' (hn s h1) (hn s' h2) q⟩
  by_cases q : s = r
  · subst q
    rw [ups_s] at hs ⊢; exact hs
  · rw [ups_n q] at hs
    rw [ups_n (h.ne hs hr q)]
    exact h.1 s e' hs
/-- a fresh place takes a new role -/
theorem Rp.new {μ : Mm} {ad : Nat → Nat} {C : Mm} (h : Rp μ ad C) {r q : Nat} (e : En) (hq : μ q = none) (hr : C r = none) : Rp (ups μ q e) (fun s => if s = r then q else ad s) (ups C r e) := by
  have hf : ∀ s e', C s = some e' → ad s ≠ q := fun s e' hs z => by
    have := h.1 s e' hs
    rw [z, hq] at this; cases this
  refine ⟨fun s e' hs => ?_, fun s s' h1 h2 z => ?_⟩
  · by_cases z : s = r
    · subst z
      rw [ups_s] at hs
      simp only [if_true]
      rw [ups_s]; exact hs
    · rw [ups_n z] at hs
      simp only [if_neg z]
      rw [ups_n (hf s e' hs)]
      exact h.1 s e' hs
  · by_cases z1 : s = r
    · by_cases z2 : s' = r
      · rw [z1, z2]
      · simp only [if_pos z1, if_neg z2] at z
        rw [ups_n z2] at h2
        obtain ⟨e', he⟩ := Option.ne_none_iff_exists'.mp h2
        exact absurd z.symm (hf s' e' he)
    · by_cases z2 : s' = r
      · simp only [if_neg z1, if_pos z2] at z
        rw [ups_n z1] at h1
        obtain ⟨e', he⟩ := Option.ne_none_iff_exists'.mp h1
        exact absurd z (hf s e' he)
      · simp only [if_neg z1, if_neg z2] at z
        rw [ups_n z1] at h1
        rw [ups_n z2] at h2
        exact h.2 s s' h1 h2 z
/-- a fresh place that nobody keeps -/
theorem Rp.junk {μ : Mm} {ad : Nat → Nat} {C : Mm} (h : Rp μ ad C) {q : Nat} (e : En) (hq : μ q = none) : Rp (ups μ q e) ad C := by
  refine ⟨fun s e' hs => ?_, h.2⟩
  have hn : ad s ≠ q := fun z => by
    have := h.1 s e' hs
    rw [z, hq] at this; cases this
  rw [ups_n hn]
  exact h.1 s e' hs
/-- a write at a place that has no role -/
theorem Rp.out {μ : Mm} {ad : Nat → Nat} {C : Mm} (h : Rp μ ad C) {q : Nat} (e : En) (hq : ∀ s, C s ≠ none → ad s ≠ q) : Rp (ups μ q e) ad C := by
  refine ⟨fun s e' hs => ?_, h.2⟩
  rw [ups_n (hq s (by rw [hs]; simp))]
  exact h.1 s e' hs
/-! THE CLASS'S measureAll -/
/-- the rows of a type's parts, or of its additions -/
def RwT (μ : Mm) (pr C : Nat) (q : Nat → Nat) : Prop := ∃ pi pn pf, μ pr = some (eO 3 [.ref pi, .int (nI C)]) ∧ μ pi = some (eT pn pf) ∧ C ≤ pn ∧ pn ≤ 6 ∧ ∀ j, j < C → pf j = some (q j)
def ObT (kd : Nat → Nat) (N : NT) (μ : Mm) (a t pr ar : Nat) (om x y z : Int32) : Prop := μ a = some (eO 2 [.ref (kd (nK N t)), .int (nlo N t), .int (nhi N t), .int (nI (nW N t)), .ref pr, .int om, .ref ar, .int x, .int y, .int z])
theorem c_all {kd ty : Nat → Nat} {N : NT} {nt t0 nr ni nn : Nat} {nf : Nat → Option Nat} {pr ar : Nat → Nat} {om : Nat → Int32} {μ0 : Mm} {post : Int32 → Mm → Prop} (hkd : ∀ i j, i < 4 → j < 4 → kd i = kd j → i = j) (hN : NWf N nt) (hnt : nt ≤ 16) (hU : NUp N nt t0)
    (h1 : μ0 nr = some (eO 3 [.ref ni, .int (nI nt)])) (h2 : μ0 ni = some (eT nn nf)) (h3 : nt ≤ nn) (h4 : nn ≤ 16) (h5 : ∀ s, s < nt → nf s = some (ty s)) (hinj : ∀ s s', s < nt → s' < nt → ty s = ty s' → s = s')
    (hT : ∀ s, s < nt → ∃ x y z, ObT kd N μ0 (ty s) s (pr s) (ar s) (om s) x y z) (hP : ∀ s, s < nt → RwT μ0 (pr s) (nC N s) (fun k => ty (nP N s k))) (hD : ∀ s, s < nt → RwT μ0 (ar s) (nA N s) (fun k => ty (nD N s k))) (hO : ∀ s, s < nt → nK N s = 2 → ∀ k, k < nC N s → msk (om s) k = nI (nO N s k))
    (hp : ∀ μ, (∀ a, (∀ s, s < nt → a ≠ ty s) → μ a = μ0 a) → (∀ s, s < nt → ∃ x y z, ObT kd N μ (ty s) s (pr s) (ar s) (om s) x y z ∧ (s < t0 → x = nI (nF N s) ∧ y = nI (nM N s) ∧ z = nI (nL N s))) → post (if t0 = nt then 1 else 0) μ) : wp_X4_measureAll nr kd μ0 post := by
  obtain ⟨u1, u2, u3, u4⟩ := hU
  have go : ∀ (j k : Nat) (μ : Mm), k + j = nt → k ≤ t0 → (∀ a, (∀ s, s < nt → a ≠ ty s) → μ a = μ0 a) → (∀ s, s < nt → ∃ x y z, ObT kd N μ (ty s) s (pr s) (ar s) (om s) x y z ∧ (s < k → x = nI (nF N s) ∧ y = nI (nM N s) ∧ z = nI (nL N s))) → wb_X4_measureAll_2 nr kd post (j + 1) (nI k) μ := by
    intro j
    induction j with
    | zero =>
      intro k μ hk hk0 hf ht
      have e : k = nt := by omega
      subst e
      have e0 : t0 = k := by omega
      have hnr : μ nr = some (eO 3 [.ref ni, .int (nI k)]) := by
        rw [hf nr (fun s hs => by obtain ⟨x, y, z, hz⟩ := hT s hs; exact q_ne h1 hz (by simp)), h1]
      refine ⟨_, _, hnr, rfl, fun _ => ?_, fun h => ?_⟩
      · have := hp μ hf (fun s hs => by rw [e0]; exact ht s hs)
        rwa [if_pos e0] at this
      · rw [q_le (by omega) (by omega)] at h; omega
    | succ j ih =>
      intro k μ hk hk0 hf ht
      have hr3 : ∀ (a : Nat) (v : List Value), μ0 a = some (eO 3 v) → μ a = some (eO 3 v) := fun a v ha => by
        rw [hf a (fun s hs => by obtain ⟨x, y, z, hz⟩ := hT s hs; exact q_ne ha hz (by simp)), ha]
      have hrA : ∀ (a c : Nat) (v : Nat → Option Nat), μ0 a = some (eT c v) → μ a = some (eT c v) := fun a c v ha => by
        rw [hf a (fun s hs => by obtain ⟨x, y, z, hz⟩ := hT s hs; exact q_ne ha hz (by simp)), ha]
      have hkn : k < nt := by omega
      obtain ⟨x, y, z, hob, _⟩ := ht k hkn
      have hBk : NBd N k := fun s hs => u2 s (by omega)
      have cm : ∀ (row C : Nat) (q : Nat → Nat), RwT μ0 row C (fun i => ty (q i)) → (∀ i, i < C → q i < k) → CM μ (ty k) row C (fun i => nF N (q i)) (fun i => nM N (q i)) (fun i => nL N (q i)) := by
        intro row C q hrow hq
        obtain ⟨pi, pn, pf, c1, c2, c3, c4, c5⟩ := hrow
        refine ⟨⟨_, hob⟩, pi, pn, pf, hr3 _ _ c1, hrA _ _ _ c2, c3, c4, fun i hi => ?_⟩
        have hqk := hq i hi
        obtain ⟨x', y', z', ho', hex⟩ := ht (q i) (by omega)
        obtain ⟨e1, e2, e3⟩ := hex hqk
        subst e1 e2 e3
        obtain ⟨b1, b2, b3⟩ := hBk (q i) hqk
        exact ⟨ty (q i), _, _, _, _, _, _, _, c5 i hi, fun h => by have := hinj _ _ (by omega) hkn h; omega, ho', b1, b2, b3⟩
      have hC := cm (pr k) (nC N k) (nP N k) (hP k hkn) (fun i hi => ((hN k hkn).2.2.2.1 i hi).1)
      have hDD := cm (ar k) (nA N k) (nD N k) (hD k hkn) (fun i hi => (hN k hkn).2.2.2.2.1 i hi)
      have eS : oS μ (ty k) (kd (nK N k)) (pr k) (ar k) (nlo N k) (nhi N k) (nI (nW N k)) (om k) x y z = μ := q_ups_id hob
      have hmeas : ∀ post' : Int32 → Mm → Prop, post' (if meM N k ≤ 240 ∧ meL N k ≤ 240 then 1 else 0) (oS μ (ty k) (kd (nK N k)) (pr k) (ar k) (nlo N k) (nhi N k) (nI (nW N k)) (om k) (nI (meF N k)) (nI (meM N k)) (nI (meL N k))) → wp_X3_measure (ty k) kd μ post' := by
        intro post' h
        have := c_meas (x := x) (y := y) (z := z) hkd hN hkn hBk hC hDD (hO k hkn) h
        rwa [eS] at this
      have hf' : ∀ a, (∀ s, s < nt → a ≠ ty s) → oS μ (ty k) (kd (nK N k)) (pr k) (ar k) (nlo N k) (nhi N k) (nI (nW N k)) (om k) (nI (meF N k)) (nI (meM N k)) (nI (meL N k)) a = μ0 a := fun a ha => by rw [oS_n (ha k hkn), hf a ha]
      have ht' : ∀ s, s < nt → ∃ x y z, ObT kd N (oS μ (ty k) (kd (nK N k)) (pr k) (ar k) (nlo N k) (nhi N k) (nI (nW N k)) (om k) (nI (meF N k)) (nI (meM N k)) (nI (meL N k))) (ty s) s (pr s) (ar s) (om s) x y z ∧ (s < k → x = nI (nF N s) ∧ y = nI (nM N s) ∧ z = nI (nL N s)) ∧ (s = k → x = nI (meF N k) ∧ y = nI (meM N k) ∧ z = nI (meL N k)) := by
        intro s hs
        by_cases e : s = k
        · subst e
          exact ⟨_, _, _, oS_o, fun h => by omega, fun _ => ⟨rfl, rfl, rfl⟩⟩
        · obtain ⟨x', y', z', ho', hex⟩ := ht s hs
          exact ⟨x', y', z', (oS_n (fun h => e (hinj _ _ hs hkn h))).trans ho', hex, fun h => absurd h e⟩
      refine ⟨_, _, hr3 _ _ h1, rfl, fun h => ?_, fun _ => ⟨⟨_, hr3 _ _ h1⟩, t_at (hr3 _ _ h1) (hrA _ _ _ h2) h3 (by omega) hkn ⟨fun h => ?_, fun a9 ha => ?_⟩⟩⟩
      · rw [q_le (by omega) (by omega)] at h; omega
      · rw [h5 k hkn] at h; cases h
      · rw [h5 k hkn] at ha
        cases ha
        refine ⟨⟨_, hob⟩, hmeas _ ?_⟩
        by_cases hlt : k < t0
        · obtain ⟨m1, m2, m3⟩ := u3 k hlt
          obtain ⟨d1, d2, d3⟩ := u2 k hlt
          rw [if_pos (by omega)]
          refine ⟨fun _ => ?_, fun h => absurd h (by decide)⟩
          rw [← nI_succ]
          refine ih (k + 1) _ (by omega) (by omega) hf' (fun s hs => ?_)
          obtain ⟨x', y', z', g1, g2, g3⟩ := ht' s hs
          refine ⟨x', y', z', g1, fun hsk => ?_⟩
          by_cases e : s = k
          · obtain ⟨r1, r2, r3⟩ := g3 e
            rw [e, m1, m2, m3]; exact ⟨r1, r2, r3⟩
          · exact g2 (by omega)
        · have e : k = t0 := by omega
          have := u4 (by omega)
          rw [e, if_neg this]
          refine ⟨fun h => absurd rfl h, fun _ => ?_⟩
          have fin := hp _ hf' (fun s hs => by obtain ⟨x', y', z', g1, g2, g3⟩ := ht' s hs; exact ⟨x', y', z', g1, fun h => g2 (by omega)⟩)
          rw [if_neg (by omega)] at fin
          rw [← e]; exact fin
  exact ⟨nt + 1, go nt 0 μ0 (by omega) (by omega) (fun _ _ => rfl) (fun s hs => by obtain ⟨x, y, z, h⟩ := hT s hs; exact ⟨x, y, z, h, fun q => by omega⟩)⟩
/-! MEASURES recomputed -/
theorem sumN_le2 (g h : Nat → Nat) : ∀ n k, (∀ i, k ≤ i → i < k + n → g i ≤ h i) → sumN g n k ≤ sumN h n k
  | 0, k, _ => Nat.le_refl _
  | n + 1, k, e => by
    have h1 := e k (Nat.le_refl _) (by omega)
    have h2 := sumN_le2 g h n (k + 1) (fun i h3 h4 => e i (by omega) (by omega))
    rw [sumN, sumN]; omega
theorem minL_le (g : Nat → Nat) : ∀ n k a, minL g n k a ≤ a ∧ ∀ i, k ≤ i → i < k + n → minL g n k a ≤ g i
  | 0, k, a => ⟨Nat.le_refl _, fun i h1 h2 => by omega⟩
  | n + 1, k, a => by
    obtain ⟨h1, h2⟩ := minL_le g n (k + 1) (if g k < a then g k else a)
    rw [minL]
    have h3 : (if g k < a then g k else a) ≤ a ∧ (if g k < a then g k else a) ≤ g k := by split <;> omega
    refine ⟨by omega, fun i h4 h5 => ?_⟩
    by_cases e : i = k
    · subst e; omega
    · exact h2 i (by omega) (by omega)
def NFM (N : NT) (n : Nat) : Prop := ∀ s, s < n → nF N s ≤ nM N s
theorem me_fm {N : NT} {nt t : Nat} (hN : NWf N nt) (ht : t < nt) (hF : NFM N t) : meF N t ≤ meM N t := by
  have hwf := hN t ht
  have hP : ∀ k, k < nC N t → nP N t k < t := fun k hk => (hwf.2.2.2.1 k hk).1
  unfold meF meM
  by_cases h2 : nK N t = 2
  · rw [h2]
    have s1 := sumN_le2 (fun k => if nO N t k = 1 then 1 else nF N (nP N t k)) (fun k => nO N t k + nM N (nP N t k)) (nC N t) 0 (fun i _ hi => by
      have h1 := hF _ (hP i (by omega))
      by_cases ho : nO N t i = 1
      · simp only [if_pos ho]; omega
      · simp only [if_neg ho]; omega)
    simp only []
    omega
  · by_cases h3 : nK N t = 3
    · obtain ⟨_, _, hC⟩ := hwf.2.2.2.2.2.2.2.2 h3
      rw [h3]
      have s1 := (minL_le (fun k => nF N (nP N t k)) (nC N t) 0 240).2 0 (by omega) (by omega)
      have s2 := (maxL_ge (fun k => nM N (nP N t k)) (nC N t) 0 0).2 0 (by omega) (by omega)
      have s3 := hF _ (hP 0 (by omega))
      simp only [] at s1 s2 ⊢
      omega
    · by_cases h1 : nK N t = 1
      · obtain ⟨hC, a, b, ea, eb, hab, hb⟩ := hwf.2.2.2.2.2.2.1 h1
        rw [h1]
        simp only []
        rw [ea, eb, nI_clamp (by omega), nI_clamp (by omega)]
        have s1 : a * nF N (nP N t 0) ≤ b * nM N (nP N t 0) := Nat.mul_le_mul hab (hF _ (hP 0 (by omega)))
        omega
      · have h0 : nK N t = 0 := by omega
        rw [h0]; exact Nat.le_refl _
/-! MEASURES recomputed: there is a notation with right measures up to the first type that is too long -/
theorem minL_cong (g h : Nat → Nat) : ∀ n k a, (∀ i, k ≤ i → i < k + n → g i = h i) → minL g n k a = minL h n k a
  | 0, k, a, _ => rfl
  | n + 1, k, a, e => by rw [minL, minL, e k (Nat.le_refl _) (by omega), minL_cong g h n (k + 1) _ (fun i h1 h2 => e i (by omega) (by omega))]
theorem maxL_cong (g h : Nat → Nat) : ∀ n k a, (∀ i, k ≤ i → i < k + n → g i = h i) → maxL g n k a = maxL h n k a
  | 0, k, a, _ => rfl
  | n + 1, k, a, e => by rw [maxL, maxL, e k (Nat.le_refl _) (by omega), maxL_cong g h n (k + 1) _ (fun i h1 h2 => e i (by omega) (by omega))]
def sameN (N N' : NT) : Prop := (∀ i t j, i < 6 → N'.1 i t j = N.1 i t j) ∧ N'.2 = N.2
theorem sameN.wf {N N' : NT} {nt : Nat} (h : sameN N N') (hN : NWf N nt) : NWf N' nt := by
  obtain ⟨h1, h2⟩ := h
  intro t ht
  have := hN t ht
  unfold nK nC nA nP nO nD nlo nhi at *
  rw [h1 0 t 0 (by omega), h1 1 t 0 (by omega), h1 2 t 0 (by omega), h2]
  refine ⟨this.1, this.2.1, this.2.2.1, fun k hk => ?_, fun k hk => ?_, this.2.2.2.2.2⟩
  · rw [h1 3 t k (by omega), h1 4 t k (by omega)]; exact this.2.2.2.1 k hk
  · rw [h1 5 t k (by omega)]; exact this.2.2.2.2.1 k hk
theorem sameN.w {N N' : NT} (h : sameN N N') (t : Nat) : nW N' t = nW N t := by
  obtain ⟨h1, h2⟩ := h
  unfold nW nV nK nC nlo nhi
  rw [h1 0 t 0 (by omega), h1 1 t 0 (by omega), h2]
theorem me_cong {N N' : NT} {nt t : Nat} (h : sameN N N') (hN : NWf N nt) (ht : t < nt) (hm : ∀ s, s < t → nF N' s = nF N s ∧ nM N' s = nM N s ∧ nL N' s = nL N s) : meF N' t = meF N t ∧ meM N' t = meM N t ∧ meL N' t = meL N t := by
  have hwf := hN t ht
  have hP : ∀ k, k < nC N t → nP N t k < t := fun k hk => (hwf.2.2.2.1 k hk).1
  have hD : ∀ k, k < nA N t → nD N t k < t := fun k hk => hwf.2.2.2.2.1 k hk
  have hW := h.w t
  have eK : nK N' t = nK N t := h.1 0 t 0 (by omega)
  have eC : nC N' t = nC N t := h.1 1 t 0 (by omega)
  have eA : nA N' t = nA N t := h.1 2 t 0 (by omega)
  have eP : ∀ k, nP N' t k = nP N t k := fun k => h.1 3 t k (by omega)
  have eO : ∀ k, nO N' t k = nO N t k := fun k => h.1 4 t k (by omega)
  have eD : ∀ k, nD N' t k = nD N t k := fun k => h.1 5 t k (by omega)
  have el : nlo N' t = nlo N t := by unfold nlo; rw [h.2]
  have eh : nhi N' t = nhi N t := by unfold nhi; rw [h.2]
  unfold meF meM meL
  rw [eK, eC, eA, hW, el, eh]
  simp only [eP, eO, eD]
  by_cases h2 : nK N t = 2
  · rw [h2]
    simp only []
    have e1 := sumN_cong (fun k => if nO N t k = 1 then 1 else nF N' (nP N t k)) (fun k => if nO N t k = 1 then 1 else nF N (nP N t k)) (nC N t) 0 (fun i _ hi => by show (if nO N t i = 1 then 1 else nF N' (nP N t i)) = _; rw [(hm _ (hP i (by omega))).1])
    have e2 := sumN_cong (fun k => nO N t k + nM N' (nP N t k)) (fun k => nO N t k + nM N (nP N t k)) (nC N t) 0 (fun i _ hi => by show nO N t i + nM N' (nP N t i) = _; rw [(hm _ (hP i (by omega))).2.1])
    have e3 := sumN_cong (fun j => 8 + nM N' (nD N t j)) (fun j => 8 + nM N (nD N t j)) (nA N t) 0 (fun i _ hi => by show 8 + nM N' (nD N t i) = _; rw [(hm _ (hD i (by omega))).2.1])
    have e4 := sumN_cong (fun k => nO N t k + nL N' (nP N t k)) (fun k => nO N t k + nL N (nP N t k)) (nC N t) 0 (fun i _ hi => by show nO N t i + nL N' (nP N t i) = _; rw [(hm _ (hP i (by omega))).2.2])
    have e5 := sumN_cong (fun j => nL N' (nD N t j)) (fun j => nL N (nD N t j)) (nA N t) 0 (fun i _ hi => by show nL N' (nD N t i) = _; rw [(hm _ (hD i (by omega))).2.2])
    rw [e1, e2, e3, e4, e5]
    exact ⟨rfl, rfl, rfl⟩
  · by_cases h3 : nK N t = 3
    · rw [h3]
      simp only []
      have e1 := minL_cong (fun k => nF N' (nP N t k)) (fun k => nF N (nP N t k)) (nC N t) 0 240 (fun i _ hi => by show nF N' (nP N t i) = _; rw [(hm _ (hP i (by omega))).1])
      have e2 := maxL_cong (fun k => nM N' (nP N t k)) (fun k => nM N (nP N t k)) (nC N t) 0 0 (fun i _ hi => by show nM N' (nP N t i) = _; rw [(hm _ (hP i (by omega))).2.1])
      have e3 := maxL_cong (fun k => nL N' (nP N t k)) (fun k => nL N (nP N t k)) (nC N t) 0 0 (fun i _ hi => by show nL N' (nP N t i) = _; rw [(hm _ (hP i (by omega))).2.2])
      rw [e1, e2, e3]
      exact ⟨rfl, rfl, rfl⟩
    · by_cases h1 : nK N t = 1
      · obtain ⟨hC, _⟩ := hwf.2.2.2.2.2.2.1 h1
        obtain ⟨m1, m2, m3⟩ := hm _ (hP 0 (by omega))
        rw [h1]
        simp only []
        rw [m1, m2, m3]
        exact ⟨rfl, rfl, rfl⟩
      · have h0 : nK N t = 0 := by omega
        rw [h0]; exact ⟨rfl, rfl, rfl⟩
/-! MEASURES recomputed: it exists -/
def setM (N : NT) (k a b c : Nat) : NT := (fun i t j => if t = k then (if i = 6 then a else if i = 7 then b else if i = 8 then c else N.1 i t j) else N.1 i t j, N.2)
theorem setM_same {N : NT} {k a b c : Nat} : sameN N (setM N k a b c) := by
  refine ⟨fun i t j hi => ?_, rfl⟩
  show (if t = k then (if i = 6 then a else if i = 7 then b else if i = 8 then c else N.1 i t j) else N.1 i t j) = N.1 i t j
  rw [if_neg (show ¬ i = 6 by omega), if_neg (show ¬ i = 7 by omega), if_neg (show ¬ i = 8 by omega)]
  split <;> rfl
theorem sameN.trans {N N' N2 : NT} (h1 : sameN N N') (h2 : sameN N' N2) : sameN N N2 := ⟨fun i t j hi => (h2.1 i t j hi).trans (h1.1 i t j hi), h2.2.trans h1.2⟩
theorem up_ex {N : NT} {nt : Nat} (hN : NWf N nt) : ∃ N2 t0, sameN N N2 ∧ NUp N2 nt t0 ∧ NFM N2 t0 := by
  have go : ∀ k, k ≤ nt → (∃ N2, sameN N N2 ∧ NBd N2 k ∧ NMe N2 k ∧ NFM N2 k) ∨ (∃ N2 t0, sameN N N2 ∧ NUp N2 nt t0 ∧ NFM N2 t0) := by
    intro k
    induction k with
    | zero => intro _; exact Or.inl ⟨N, ⟨fun _ _ _ _ => rfl, rfl⟩, fun s hs => by omega, fun s hs => by omega, fun s hs => by omega⟩
    | succ k ih =>
      intro hk
      rcases ih (by omega) with ⟨N2, h1, h2, h3, h4⟩ | h
      · have hN2 := h1.wf hN
        by_cases ok : meM N2 k ≤ 240 ∧ meL N2 k ≤ 240
        · left
          refine ⟨setM N2 k (meF N2 k) (meM N2 k) (meL N2 k), h1.trans setM_same, ?_⟩
          have old : ∀ s, s ≠ k → nF (setM N2 k (meF N2 k) (meM N2 k) (meL N2 k)) s = nF N2 s ∧ nM (setM N2 k (meF N2 k) (meM N2 k) (meL N2 k)) s = nM N2 s ∧ nL (setM N2 k (meF N2 k) (meM N2 k) (meL N2 k)) s = nL N2 s := by
            intro s hs
            unfold nF nM nL setM
            simp only [if_neg hs]
            exact ⟨trivial, trivial, trivial⟩
          have new : nF (setM N2 k (meF N2 k) (meM N2 k) (meL N2 k)) k = meF N2 k ∧ nM (setM N2 k (meF N2 k) (meM N2 k) (meL N2 k)) k = meM N2 k ∧ nL (setM N2 k (meF N2 k) (meM N2 k) (meL N2 k)) k = meL N2 k := ⟨by simp [nF, setM], by simp [nM, setM], by simp [nL, setM]⟩
          have me : ∀ s, s ≤ k → meF (setM N2 k (meF N2 k) (meM N2 k) (meL N2 k)) s = meF N2 s ∧ meM (setM N2 k (meF N2 k) (meM N2 k) (meL N2 k)) s = meM N2 s ∧ meL (setM N2 k (meF N2 k) (meM N2 k) (meL N2 k)) s = meL N2 s := fun s hs => me_cong setM_same hN2 (by omega) (fun u hu => old u (by omega))
          have fm := me_fm hN2 (by omega : k < nt) h4
          refine ⟨fun s hs => ?_, fun s hs => ?_, fun s hs => ?_⟩
          · by_cases e : s = k
            · subst e; rw [new.1, new.2.1, new.2.2]; omega
            · obtain ⟨a, b, c⟩ := old s e
              rw [a, b, c]; exact h2 s (by omega)
          · obtain ⟨x, y, z⟩ := me s (by omega)
            by_cases e : s = k
            · subst e; rw [new.1, new.2.1, new.2.2, x, y, z]; exact ⟨rfl, rfl, rfl⟩
            · obtain ⟨a, b, c⟩ := old s e
              rw [a, b, c, x, y, z]; exact h3 s (by omega)
          · by_cases e : s = k
            · subst e; rw [new.1, new.2.1]; exact fm
            · obtain ⟨a, b, c⟩ := old s e
              rw [a, b]; exact h4 s (by omega)
        · exact Or.inr ⟨N2, k, h1, ⟨by omega, h2, h3, fun _ => ok⟩, h4⟩
      · exact Or.inr h
  rcases go nt (Nat.le_refl _) with ⟨N2, h1, h2, h3, h4⟩ | h
  · exact ⟨N2, nt, h1, ⟨Nat.le_refl _, h2, h3, fun h => by omega⟩, h4⟩
  · exact h
/-! THE INVARIANT: one value, held by the class and by the reference -/
/-- a type in the class's memory, by roles -/
def TyR (kd ad : Nat → Nat) (N : NT) (C : Mm) (s : Nat) : Prop := ∃ om pn pf an af, C (20 + 5 * s) = some (eO 2 [.ref (kd (nK N s)), .int (nlo N s), .int (nhi N s), .int (nI (nW N s)), .ref (ad (21 + 5 * s)), .int om, .ref (ad (23 + 5 * s)), .int (nI (nF N s)), .int (nI (nM N s)), .int (nI (nL N s))]) ∧
  C (21 + 5 * s) = some (eO 3 [.ref (ad (22 + 5 * s)), .int (nI (nC N s))]) ∧ C (22 + 5 * s) = some (eT pn pf) ∧ nC N s ≤ pn ∧ pn ≤ 6 ∧ (∀ k, k < nC N s → pf k = some (ad (20 + 5 * nP N s k))) ∧ (nK N s = 2 → ∀ k, k < nC N s → msk om k = nI (nO N s k)) ∧
  C (23 + 5 * s) = some (eO 3 [.ref (ad (24 + 5 * s)), .int (nI (nA N s))]) ∧ C (24 + 5 * s) = some (eT an af) ∧ nA N s ≤ an ∧ an ≤ 3 ∧ (nK N s = 2 → an = 3) ∧ (∀ k, k < nA N s → af k = some (ad (20 + 5 * nD N s k)))
/-- the class's memory -/
def CI (kd ad : Nat → Nat) (N : NT) (nt tn bn dc : Nat) (T : Nat → Int32) (b dp dq : Nat → Nat) (dm : Int32) (C : Mm) : Prop :=
  C 0 = some (eO 5 [.ref (ad 1), .ref (ad 3), .ref (ad 5), .ref (ad 7), .ref (ad 10), .ref (ad 13), .int dm]) ∧
  (C 1 = some (eO 3 [.ref (ad 2), .int (nI nt)]) ∧ ∃ nf, C 2 = some (eT 16 nf) ∧ ∀ s, s < nt → nf s = some (ad (20 + 5 * s))) ∧
  (C 3 = some (eO 1 [.ref (ad 4), .int (nI tn)]) ∧ C 4 = some (eI 300 T)) ∧
  (C 5 = some (eO 1 [.ref (ad 6), .int (nI bn)]) ∧ ∃ f, C 6 = some (eI 240 f) ∧ ∀ i, i < bn → f i = nI (b i)) ∧
  (∃ p w n f, n ≤ 240 ∧ C 7 = some (eO 4 [.ref (ad 8), .int (nI p), .int w]) ∧ C 8 = some (eO 1 [.ref (ad 9), .int (nI n)]) ∧ C 9 = some (eI 240 f)) ∧
  (∃ k p w n f, n ≤ 240 ∧ C 10 = some (eO 0 [.ref (ad 11), .int (nI k), .int (nI p), .int w]) ∧ C 11 = some (eO 1 [.ref (ad 12), .int (nI n)]) ∧ C 12 = some (eI 240 f)) ∧
  (C 13 = some (eO 3 [.ref (ad 14), .int (nI dc)]) ∧ ∃ df, C 14 = some (eT 6 df) ∧ ∀ k, k < dc → df k = some (ad (20 + 5 * dp k))) ∧
  (∀ k, k < 6 → msk dm k = nI (if k < dc then dq k else 0)) ∧ (∀ s, s < nt → TyR kd ad N C s) ∧ ∀ r, 20 + 5 * nt ≤ r → C r = none
def VI (N : NT) (nt tn bn dc : Nat) (b dp dq : Nat → Nat) : Prop := nt ≤ 16 ∧ NWf N nt ∧ NBd N nt ∧ NMe N nt ∧ NFM N nt ∧ tn ≤ 300 ∧ bn ≤ 240 ∧ (∀ i, b i ≤ 1) ∧ dc ≤ 6 ∧ ∀ k, k < dc → dp k < nt ∧ dq k ≤ 1
/-- the class holds these values -/
def KI (kd : Nat → Nat) (x out : Nat) (N : NT) (nt tn bn dc : Nat) (T : Nat → Int32) (b dp dq : Nat → Nat) (μ : Mm) : Prop := ∃ ad C dm, Rp μ ad C ∧ ad 0 = x ∧ ad 15 = out ∧ (∃ g : Nat, C 15 = none) ∧ CI kd ad N nt tn bn dc T b dp dq dm C
/-! OPERATIONS: those that only ask -/
section OP
variable {kd : Nat → Nat} {x out : Nat}
theorem KI.at0 {N : NT} {nt tn bn dc : Nat} {T : Nat → Int32} {b dp dq : Nat → Nat} {μ : Mm} (h : KI kd x out N nt tn bn dc T b dp dq μ) : ∃ a1 a3 a5 a7 a10 a13 dm, μ x = some (.inl (5, [.ref a1, .ref a3, .ref a5, .ref a7, .ref a10, .ref a13, .int dm])) ∧ (∃ ni nf, μ a1 = some (eO 3 [.ref ni, .int (nI nt)]) ∧ μ ni = some (eT 16 nf)) ∧ (∃ ti, μ a3 = some (eO 1 [.ref ti, .int (nI tn)]) ∧ μ ti = some (eI 300 T)) ∧ (∃ mi f, μ a5 = some (eO 1 [.ref mi, .int (nI bn)]) ∧ μ mi = some (eI 240 f) ∧ ∀ i, i < bn → f i = nI (b i)) := by
  obtain ⟨ad, C, dm, hR, h0, h15, ⟨g, hg⟩, c0, ⟨c1, nf, c2, c2'⟩, ⟨c3, c4⟩, ⟨c5, f, c6, c6'⟩, c7, c10, c13, cm, ct, cn⟩ := h
  refine ⟨ad 1, ad 3, ad 5, ad 7, ad 10, ad 13, dm, by rw [← h0]; exact hR.get c0, ⟨ad 2, nf, hR.get c1, hR.get c2⟩, ⟨ad 4, hR.get c3, hR.get c4⟩, ⟨ad 6, f, hR.get c5, hR.get c6, c6'⟩⟩
end OP
/-! THE INVARIANT, its parts: what is read off it, what changes in it -/
section CH
variable {kd ad : Nat → Nat} {N : NT} {nt tn bn dc : Nat} {T : Nat → Int32} {b dp dq : Nat → Nat} {dm : Int32} {C C' : Mm}
theorem TyR.cong {s : Nat} (h : TyR kd ad N C s) (e : ∀ r, 20 ≤ r → C' r = C r) : TyR kd ad N C' s := by
  unfold TyR at *
  rw [e (20 + 5 * s) (by omega), e (21 + 5 * s) (by omega), e (22 + 5 * s) (by omega), e (23 + 5 * s) (by omega), e (24 + 5 * s) (by omega)]
  exact h
theorem CI.tale (h : CI kd ad N nt tn bn dc T b dp dq dm C) {tn' : Nat} {T' : Nat → Int32} (e : ∀ r, r ≠ 3 → r ≠ 4 → C' r = C r) (h3 : C' 3 = some (eO 1 [.ref (ad 4), .int (nI tn')])) (h4 : C' 4 = some (eI 300 T')) : CI kd ad N nt tn' bn dc T' b dp dq dm C' := by
  unfold CI at *
  obtain ⟨c0, c1, c3, c5, c7, c10, c13, cm, ct, cn⟩ := h
  refine ⟨by rw [e 0 (by omega) (by omega)]; exact c0, by rw [e 1 (by omega) (by omega), e 2 (by omega) (by omega)]; exact c1, ⟨h3, h4⟩, by rw [e 5 (by omega) (by omega), e 6 (by omega) (by omega)]; exact c5, by rw [e 7 (by omega) (by omega), e 8 (by omega) (by omega), e 9 (by omega) (by omega)]; exact c7, by rw [e 10 (by omega) (by omega), e 11 (by omega) (by omega), e 12 (by omega) (by omega)]; exact c10, by rw [e 13 (by omega) (by omega), e 14 (by omega) (by omega)]; exact c13, cm, fun s hs => (ct s hs).cong (fun r hr => e r (by omega) (by omega)), fun r hr => by rw [e r (by omega) (by omega)]; exact cn r hr⟩
theorem CI.msg (h : CI kd ad N nt tn bn dc T b dp dq dm C) {bn' : Nat} {b' : Nat → Nat} {f : Nat → Int32} (e : ∀ r, r ≠ 5 → r ≠ 6 → C' r = C r) (h5 : C' 5 = some (eO 1 [.ref (ad 6), .int (nI bn')])) (h6 : C' 6 = some (eI 240 f)) (hf : ∀ i, i < bn' → f i = nI (b' i)) : CI kd ad N nt tn bn' dc T b' dp dq dm C' := by
  unfold CI at *
  obtain ⟨c0, c1, c3, c5, c7, c10, c13, cm, ct, cn⟩ := h
  refine ⟨by rw [e 0 (by omega) (by omega)]; exact c0, by rw [e 1 (by omega) (by omega), e 2 (by omega) (by omega)]; exact c1, by rw [e 3 (by omega) (by omega), e 4 (by omega) (by omega)]; exact c3, ⟨h5, f, h6, hf⟩, by rw [e 7 (by omega) (by omega), e 8 (by omega) (by omega), e 9 (by omega) (by omega)]; exact c7, by rw [e 10 (by omega) (by omega), e 11 (by omega) (by omega), e 12 (by omega) (by omega)]; exact c10, by rw [e 13 (by omega) (by omega), e 14 (by omega) (by omega)]; exact c13, cm, fun s hs => (ct s hs).cong (fun r hr => e r (by omega) (by omega)), fun r hr => by rw [e r (by omega) (by omega)]; exact cn r hr⟩
theorem CI.wr (h : CI kd ad N nt tn bn dc T b dp dq dm C) {p n : Nat} {w : Int32} {f : Nat → Int32} (hn : n ≤ 240) (e : ∀ r, r ≠ 7 → r ≠ 8 → r ≠ 9 → C' r = C r) (h7 : C' 7 = some (eO 4 [.ref (ad 8), .int (nI p), .int w])) (h8 : C' 8 = some (eO 1 [.ref (ad 9), .int (nI n)])) (h9 : C' 9 = some (eI 240 f)) : CI kd ad N nt tn bn dc T b dp dq dm C' := by
  unfold CI at *
  obtain ⟨c0, c1, c3, c5, c7, c10, c13, cm, ct, cn⟩ := h
  refine ⟨by rw [e 0 (by omega) (by omega) (by omega)]; exact c0, by rw [e 1 (by omega) (by omega) (by omega), e 2 (by omega) (by omega) (by omega)]; exact c1, by rw [e 3 (by omega) (by omega) (by omega), e 4 (by omega) (by omega) (by omega)]; exact c3, by rw [e 5 (by omega) (by omega) (by omega), e 6 (by omega) (by omega) (by omega)]; exact c5, ⟨p, w, n, f, hn, h7, h8, h9⟩, by rw [e 10 (by omega) (by omega) (by omega), e 11 (by omega) (by omega) (by omega), e 12 (by omega) (by omega) (by omega)]; exact c10, by rw [e 13 (by omega) (by omega) (by omega), e 14 (by omega) (by omega) (by omega)]; exact c13, cm, fun s hs => (ct s hs).cong (fun r hr => e r (by omega) (by omega) (by omega)), fun r hr => by rw [e r (by omega) (by omega) (by omega)]; exact cn r hr⟩
theorem CI.rd (h : CI kd ad N nt tn bn dc T b dp dq dm C) {k p n : Nat} {w : Int32} {f : Nat → Int32} (hn : n ≤ 240) (e : ∀ r, r ≠ 10 → r ≠ 11 → r ≠ 12 → C' r = C r) (h7 : C' 10 = some (eO 0 [.ref (ad 11), .int (nI k), .int (nI p), .int w])) (h8 : C' 11 = some (eO 1 [.ref (ad 12), .int (nI n)])) (h9 : C' 12 = some (eI 240 f)) : CI kd ad N nt tn bn dc T b dp dq dm C' := by
  unfold CI at *
  obtain ⟨c0, c1, c3, c5, c7, c10, c13, cm, ct, cn⟩ := h
  refine ⟨by rw [e 0 (by omega) (by omega) (by omega)]; exact c0, by rw [e 1 (by omega) (by omega) (by omega), e 2 (by omega) (by omega) (by omega)]; exact c1, by rw [e 3 (by omega) (by omega) (by omega), e 4 (by omega) (by omega) (by omega)]; exact c3, by rw [e 5 (by omega) (by omega) (by omega), e 6 (by omega) (by omega) (by omega)]; exact c5, by rw [e 7 (by omega) (by omega) (by omega), e 8 (by omega) (by omega) (by omega), e 9 (by omega) (by omega) (by omega)]; exact c7, ⟨k, p, w, n, f, hn, h7, h8, h9⟩, by rw [e 13 (by omega) (by omega) (by omega), e 14 (by omega) (by omega) (by omega)]; exact c13, cm, fun s hs => (ct s hs).cong (fun r hr => e r (by omega) (by omega) (by omega)), fun r hr => by rw [e r (by omega) (by omega) (by omega)]; exact cn r hr⟩
end CH
section KC
variable {kd ad : Nat → Nat} {x out : Nat} {N : NT} {nt tn bn dc : Nat} {T : Nat → Int32} {b dp dq : Nat → Nat} {dm : Int32} {C μ : Mm}
def KC (kd : Nat → Nat) (x out : Nat) (N : NT) (nt tn bn dc : Nat) (T : Nat → Int32) (b dp dq : Nat → Nat) (μ : Mm) (ad : Nat → Nat) (C : Mm) (dm : Int32) : Prop := Rp μ ad C ∧ ad 0 = x ∧ ad 15 = out ∧ (∃ g : Nat, C 15 = none) ∧ CI kd ad N nt tn bn dc T b dp dq dm C
theorem KC.ki (h : KC kd x out N nt tn bn dc T b dp dq μ ad C dm) : KI kd x out N nt tn bn dc T b dp dq μ := ⟨ad, C, dm, h⟩
theorem KC.cx (h : KC kd x out N nt tn bn dc T b dp dq μ ad C dm) : μ x = some (.inl (5, [.ref (ad 1), .ref (ad 3), .ref (ad 5), .ref (ad 7), .ref (ad 10), .ref (ad 13), .int dm])) := by
  rw [← h.2.1]; exact h.1.get h.2.2.2.2.1
theorem KC.c1 (h : KC kd x out N nt tn bn dc T b dp dq μ ad C dm) : μ (ad 1) = some (eO 3 [.ref (ad 2), .int (nI nt)]) := h.1.get h.2.2.2.2.2.1.1
theorem KC.c2 (h : KC kd x out N nt tn bn dc T b dp dq μ ad C dm) : ∃ nf, μ (ad 2) = some (eT 16 nf) ∧ ∀ s, s < nt → nf s = some (ad (20 + 5 * s)) := by
  obtain ⟨nf, h1, h2⟩ := h.2.2.2.2.2.1.2
  exact ⟨nf, h.1.get h1, h2⟩
theorem KC.c3 (h : KC kd x out N nt tn bn dc T b dp dq μ ad C dm) : μ (ad 3) = some (eO 1 [.ref (ad 4), .int (nI tn)]) := h.1.get h.2.2.2.2.2.2.1.1
theorem KC.c4 (h : KC kd x out N nt tn bn dc T b dp dq μ ad C dm) : μ (ad 4) = some (eI 300 T) := h.1.get h.2.2.2.2.2.2.1.2
theorem KC.c5 (h : KC kd x out N nt tn bn dc T b dp dq μ ad C dm) : μ (ad 5) = some (eO 1 [.ref (ad 6), .int (nI bn)]) := h.1.get h.2.2.2.2.2.2.2.1.1
theorem KC.c6 (h : KC kd x out N nt tn bn dc T b dp dq μ ad C dm) : ∃ f, μ (ad 6) = some (eI 240 f) ∧ ∀ i, i < bn → f i = nI (b i) := by
  obtain ⟨nf, h1, h2⟩ := h.2.2.2.2.2.2.2.1.2
  exact ⟨nf, h.1.get h1, h2⟩
theorem KC.tyr (h : KC kd x out N nt tn bn dc T b dp dq μ ad C dm) {s : Nat} (hs : s < nt) : TyR kd ad N C s := h.2.2.2.2.2.2.2.2.2.2.2.2.1 s hs
theorem KC.tyc (h : KC kd x out N nt tn bn dc T b dp dq μ ad C dm) {s : Nat} (hs : s < nt) : TyC kd (fun s => ad (20 + 5 * s)) N μ s := by
  obtain ⟨om, pn, pf, an, af, t1, t2, t3, t4, t5, t6, t7, t8, t9, t10, t11, t12, t13⟩ := h.tyr hs
  exact ⟨_, _, pn, pf, om, _, _, an, af, _, _, _, h.1.get t1, h.1.get t2, h.1.get t3, t4, t5, t6, t7, h.1.get t8, h.1.get t9, t10, t11, t13⟩
theorem KC.tyo (h : KC kd x out N nt tn bn dc T b dp dq μ ad C dm) {s : Nat} (hs : s < nt) : ∃ a c om, μ (ad (20 + 5 * s)) = some (eO 2 [.ref (kd (nK N s)), .int (nlo N s), .int (nhi N s), .int (nI (nW N s)), .ref a, .int om, .ref c, .int (nI (nF N s)), .int (nI (nM N s)), .int (nI (nL N s))]) := by
  obtain ⟨om, pn, pf, an, af, t1, t2⟩ := h.tyr hs
  exact ⟨_, _, om, h.1.get t1⟩
/-- typeNumbered -/
theorem KC.num (h : KC kd x out N nt tn bn dc T b dp dq μ ad C dm) (hnt : nt ≤ 16) {p : Int32} {post : Nat → Mm → Prop} {px : String → Mm → Prop} (hg : ∀ t, t < nt → p = nI t → post (ad (20 + 5 * t)) μ) (hx : (¬ ∃ t, t < nt ∧ p = nI t) → px "java/lang/IndexOutOfBoundsException" μ) : wp_X6_typeNumbered x p μ post px := by
  obtain ⟨nf, n1, n2⟩ := h.c2
  refine ⟨_, _, h.cx, rfl, ⟨_, h.c1⟩, ?_⟩
  by_cases c : ∃ t, t < nt ∧ p = nI t
  · obtain ⟨t, ht, e⟩ := c
    subst e
    refine t_at h.c1 n1 hnt (by omega) ht ⟨fun q => ?_, fun a q => ?_⟩
    · rw [n2 t ht] at q; cases q
    · rw [n2 t ht] at q; cases q
      exact hg t ht rfl
  · exact t_atN h.c1 n1 hnt (by omega) c ⟨fun _ => hx c, fun a q => by cases q⟩
theorem KC.tale (h : KC kd x out N nt tn bn dc T b dp dq μ ad C dm) (tn' : Nat) (T' : Nat → Int32) : ∃ C', KC kd x out N nt tn' bn dc T' b dp dq (ups (ups μ (ad 4) (eI 300 T')) (ad 3) (eO 1 [.ref (ad 4), .int (nI tn')])) ad C' dm := by
  obtain ⟨hR, h0, h15, ⟨g, hg⟩, hC⟩ := h
  have c3 := hC.2.2.1
  refine ⟨_, (hR.put (eI 300 T') c3.2).put (eO 1 [.ref (ad 4), .int (nI tn')]) ((ups_n (by omega)).trans c3.1), h0, h15, ⟨g, by rw [ups_n (by omega), ups_n (by omega)]; exact hg⟩, hC.tale (fun r h1 h2 => by rw [ups_n h1, ups_n h2]) ups_s (by rw [ups_n (by omega)]; exact ups_s)⟩
theorem KC.talen (h : KC kd x out N nt tn bn dc T b dp dq μ ad C dm) (tn' : Nat) : ∃ C', KC kd x out N nt tn' bn dc T b dp dq (ups μ (ad 3) (eO 1 [.ref (ad 4), .int (nI tn')])) ad C' dm := by
  obtain ⟨C', h'⟩ := h.tale tn' T
  rw [q_ups_id h.c4] at h'
  exact ⟨C', h'⟩
theorem KC.msg (h : KC kd x out N nt tn bn dc T b dp dq μ ad C dm) {bn' : Nat} {b' : Nat → Nat} {f : Nat → Int32} (hf : ∀ i, i < bn' → f i = nI (b' i)) : ∃ C', KC kd x out N nt tn bn' dc T b' dp dq (ups (ups μ (ad 6) (eI 240 f)) (ad 5) (eO 1 [.ref (ad 6), .int (nI bn')])) ad C' dm := by
  obtain ⟨hR, h0, h15, ⟨g, hg⟩, hC⟩ := h
  obtain ⟨c5, f0, c6, _⟩ := hC.2.2.2.1
  refine ⟨_, (hR.put (eI 240 f) c6).put (eO 1 [.ref (ad 6), .int (nI bn')]) ((ups_n (by omega)).trans c5), h0, h15, ⟨g, by rw [ups_n (by omega), ups_n (by omega)]; exact hg⟩, hC.msg (fun r h1 h2 => by rw [ups_n h1, ups_n h2]) ups_s (by rw [ups_n (by omega)]; exact ups_s) hf⟩
theorem KC.wr (h : KC kd x out N nt tn bn dc T b dp dq μ ad C dm) (htn : tn ≤ 300) : WB μ (ad 7) (ad 8) (ad 9) (ad 3) (ad 4) tn T ∧ (∃ p w n f, n ≤ 240 ∧ wS μ (ad 7) (ad 8) (ad 9) p w n f = μ) ∧ ∀ p w n f, n ≤ 240 → ∃ C', KC kd x out N nt tn bn dc T b dp dq (wS μ (ad 7) (ad 8) (ad 9) p w n f) ad C' dm := by
  obtain ⟨hR, h0, h15, ⟨g, hg⟩, hC⟩ := h
  obtain ⟨c3, c4⟩ := hC.2.2.1
  obtain ⟨p, w, n, f, hn, c7, c8, c9⟩ := hC.2.2.2.2.1
  refine ⟨⟨⟨_, hR.get c7⟩, ⟨_, hR.get c8⟩, ⟨_, _, hR.get c9⟩, hR.get c3, hR.get c4, htn, hR.ne c3 c8 (by omega), hR.ne c4 c9 (by omega)⟩, ⟨p, w, n, f, hn, ?_⟩, fun p w n f hn => ⟨_, ((hR.put (eI 240 f) c9).put (eO 1 [.ref (ad 9), .int (nI n)]) ((ups_n (by omega)).trans c8)).put (eO 4 [.ref (ad 8), .int (nI p), .int w]) ((ups_n (by omega)).trans ((ups_n (by omega)).trans c7)), h0, h15, ⟨g, by rw [ups_n (by omega), ups_n (by omega), ups_n (by omega)]; exact hg⟩, hC.wr hn (fun r h1 h2 h3 => by rw [ups_n h1, ups_n h2, ups_n h3]) ups_s (by rw [ups_n (by omega)]; exact ups_s) (by rw [ups_n (by omega), ups_n (by omega)]; exact ups_s)⟩⟩
  unfold wS
  rw [q_ups_id (hR.get c9), q_ups_id (hR.get c8), q_ups_id (hR.get c7)]
theorem KC.rd (h : KC kd x out N nt tn bn dc T b dp dq μ ad C dm) (hbn : bn ≤ 240) (hb : ∀ i, b i ≤ 1) : RB μ (ad 10) (ad 11) (ad 12) (ad 5) (ad 6) bn b ∧ (∃ k p w n f, n ≤ 240 ∧ rS μ (ad 10) (ad 11) (ad 12) k p w n f = μ) ∧ ∀ k p w n f, n ≤ 240 → ∃ C', KC kd x out N nt tn bn dc T b dp dq (rS μ (ad 10) (ad 11) (ad 12) k p w n f) ad C' dm := by
  obtain ⟨hR, h0, h15, ⟨g, hg⟩, hC⟩ := h
  obtain ⟨c5, f0, c6, hf0⟩ := hC.2.2.2.1
  obtain ⟨k, p, w, n, f, hn, c7, c8, c9⟩ := hC.2.2.2.2.2.1
  refine ⟨⟨⟨_, hR.get c7⟩, ⟨_, hR.get c8⟩, ⟨_, _, hR.get c9⟩, hR.get c5, ⟨f0, hR.get c6, hf0⟩, hbn, hb, hR.ne c5 c8 (by omega), hR.ne c6 c9 (by omega)⟩, ⟨k, p, w, n, f, hn, ?_⟩, fun k p w n f hn => ⟨_, ((hR.put (eI 240 f) c9).put (eO 1 [.ref (ad 12), .int (nI n)]) ((ups_n (by omega)).trans c8)).put (eO 0 [.ref (ad 11), .int (nI k), .int (nI p), .int w]) ((ups_n (by omega)).trans ((ups_n (by omega)).trans c7)), h0, h15, ⟨g, by rw [ups_n (by omega), ups_n (by omega), ups_n (by omega)]; exact hg⟩, hC.rd hn (fun r h1 h2 h3 => by rw [ups_n h1, ups_n h2, ups_n h3]) ups_s (by rw [ups_n (by omega)]; exact ups_s) (by rw [ups_n (by omega), ups_n (by omega)]; exact ups_s)⟩⟩
  unfold rS
  rw [q_ups_id (hR.get c9), q_ups_id (hR.get c8), q_ups_id (hR.get c7)]
end KC
