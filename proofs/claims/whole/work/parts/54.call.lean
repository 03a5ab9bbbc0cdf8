/-! THE CLASS'S measureAll -/
/-- the rows of a type's parts, or of its additions -/
def RwT (μ : Mm) (pr C : Nat) (q : Nat → Nat) : Prop := ∃ pi pn pf, μ pr = some (eO 3 [.ref pi, .int (nI C)]) ∧ μ pi = some (eT pn pf) ∧ C ≤ pn ∧ pn ≤ 6 ∧ ∀ j, j < C → pf j = some (q j)
def ObT (kd : Nat → Nat) (N : NT) (μ : Mm) (a t pr ar : Nat) (om x y z : Int32) : Prop := μ a = some (eO 2 [.ref (kd (nK N t)), .int (nlo N t), .int (nhi N t), .int (nI (nW N t)), .ref pr, .int om, .ref ar, .int x, .int y, .int z])
theorem c_all {kd ty : Nat → Nat} {N : NT} {nt t0 nr ni nn : Nat} {nf : Nat → Option Nat} {pr ar : Nat → Nat} {om : Nat → Int32} {μ0 : Mm} {post : Int32 → Mm → Prop} (hkd : ∀ i j, i < 4 → j < 4 → kd i = kd j → i = j) (hN : NWf N nt) (hnt : nt ≤ 16) (hU : NUp N nt t0)
    (h1 : μ0 nr = some (eO 3 [.ref ni, .int (nI nt)])) (h2 : μ0 ni = some (eT nn nf)) (h3 : nt ≤ nn) (h4 : nn ≤ 16) (h5 : ∀ s, s < nt → nf s = some (ty s)) (hinj : ∀ s s', s < nt → s' < nt → ty s = ty s' → s = s')
    (hT : ∀ s, s < nt → ∃ x y z, ObT kd N μ0 (ty s) s (pr s) (ar s) (om s) x y z) (hP : ∀ s, s < nt → RwT μ0 (pr s) (nC N s) (fun k => ty (nP N s k))) (hD : ∀ s, s < nt → RwT μ0 (ar s) (nA N s) (fun k => ty (nD N s k))) (hO : ∀ s, s < nt → nK N s = 2 → ∀ k, k < nC N s → msk (om s) k = nI (nO N s k))
    (hp : ∀ μ, (∀ a, (∀ s, s < nt → a ≠ ty s) → μ a = μ0 a) → (∀ s, s < nt → ∃ x y z, ObT kd N μ (ty s) s (pr s) (ar s) (om s) x y z ∧ (s < t0 → x = nI (nF N s) ∧ y = nI (nM N s) ∧ z = nI (nL N s))) → post (if t0 = nt then 1 else 0) μ) : wp_X4_measureAll nr kd μ0 post := by
  obtain ⟨u1, u2, u3, u4⟩ := hU
  have go : ∀ (j k : Nat) (μ : Mm), k + j = nt → k ≤ t0 → (∀ a, (∀ s, s < nt → a ≠ ty s) → μ a = μ0 a) → (∀ s, s < nt → ∃ x y z, ObT kd N μ (ty s) s (pr s) (ar s) (om s) x y z ∧ (s < k → x = nI (nF N s) ∧ y = nI (nM N s) ∧ z = nI (nL N s))) → wb_X4_measureAll_2 nr kd post (j + 1) (nI k) μ := by
    intro j
    induction j with
    | zero =>
      intro k μ hk hk0 hf ht
      have e : k = nt := by omega
      subst e
      have e0 : t0 = k := by omega
      have hnr : μ nr = some (eO 3 [.ref ni, .int (nI k)]) := by
        rw [hf nr (fun s hs => by obtain ⟨x, y, z, hz⟩ := hT s hs; exact q_ne h1 hz (by simp)), h1]
      refine ⟨_, _, hnr, rfl, fun _ => ?_, fun h => ?_⟩
      · have := hp μ hf (fun s hs => by rw [e0]; exact ht s hs)
        rwa [if_pos e0] at this
      · rw [q_le (by omega) (by omega)] at h; omega
    | succ j ih =>
      intro k μ hk hk0 hf ht
      have hr3 : ∀ (a : Nat) (v : List Value), μ0 a = some (eO 3 v) → μ a = some (eO 3 v) := fun a v ha => by
        rw [hf a (fun s hs => by obtain ⟨x, y, z, hz⟩ := hT s hs; exact q_ne ha hz (by simp)), ha]
      have hrA : ∀ (a c : Nat) (v : Nat → Option Nat), μ0 a = some (eT c v) → μ a = some (eT c v) := fun a c v ha => by
        rw [hf a (fun s hs => by obtain ⟨x, y, z, hz⟩ := hT s hs; exact q_ne ha hz (by simp)), ha]
      have hkn : k < nt := by omega
      obtain ⟨x, y, z, hob, _⟩ := ht k hkn
      have hBk : NBd N k := fun s hs => u2 s (by omega)
      have cm : ∀ (row C : Nat) (q : Nat → Nat), RwT μ0 row C (fun i => ty (q i)) → (∀ i, i < C → q i < k) → CM μ (ty k) row C (fun i => nF N (q i)) (fun i => nM N (q i)) (fun i => nL N (q i)) := by
        intro row C q hrow hq
        obtain ⟨pi, pn, pf, c1, c2, c3, c4, c5⟩ := hrow
        refine ⟨⟨_, hob⟩, pi, pn, pf, hr3 _ _ c1, hrA _ _ _ c2, c3, c4, fun i hi => ?_⟩
        have hqk := hq i hi
        obtain ⟨x', y', z', ho', hex⟩ := ht (q i) (by omega)
        obtain ⟨e1, e2, e3⟩ := hex hqk
        subst e1 e2 e3
        obtain ⟨b1, b2, b3⟩ := hBk (q i) hqk
        exact ⟨ty (q i), _, _, _, _, _, _, _, c5 i hi, fun h => by have := hinj _ _ (by omega) hkn h; omega, ho', b1, b2, b3⟩
      have hC := cm (pr k) (nC N k) (nP N k) (hP k hkn) (fun i hi => ((hN k hkn).2.2.2.1 i hi).1)
      have hDD := cm (ar k) (nA N k) (nD N k) (hD k hkn) (fun i hi => (hN k hkn).2.2.2.2.1 i hi)
      have eS : oS μ (ty k) (kd (nK N k)) (pr k) (ar k) (nlo N k) (nhi N k) (nI (nW N k)) (om k) x y z = μ := q_ups_id hob
      have hmeas : ∀ post' : Int32 → Mm → Prop, post' (if meM N k ≤ 240 ∧ meL N k ≤ 240 then 1 else 0) (oS μ (ty k) (kd (nK N k)) (pr k) (ar k) (nlo N k) (nhi N k) (nI (nW N k)) (om k) (nI (meF N k)) (nI (meM N k)) (nI (meL N k))) → wp_X3_measure (ty k) kd μ post' := by
        intro post' h
        have := c_meas (x := x) (y := y) (z := z) hkd hN hkn hBk hC hDD (hO k hkn) h
        rwa [eS] at this
      have hf' : ∀ a, (∀ s, s < nt → a ≠ ty s) → oS μ (ty k) (kd (nK N k)) (pr k) (ar k) (nlo N k) (nhi N k) (nI (nW N k)) (om k) (nI (meF N k)) (nI (meM N k)) (nI (meL N k)) a = μ0 a := fun a ha => by rw [oS_n (ha k hkn), hf a ha]
      have ht' : ∀ s, s < nt → ∃ x y z, ObT kd N (oS μ (ty k) (kd (nK N k)) (pr k) (ar k) (nlo N k) (nhi N k) (nI (nW N k)) (om k) (nI (meF N k)) (nI (meM N k)) (nI (meL N k))) (ty s) s (pr s) (ar s) (om s) x y z ∧ (s < k → x = nI (nF N s) ∧ y = nI (nM N s) ∧ z = nI (nL N s)) ∧ (s = k → x = nI (meF N k) ∧ y = nI (meM N k) ∧ z = nI (meL N k)) := by
        intro s hs
        by_cases e : s = k
        · subst e
          exact ⟨_, _, _, oS_o, fun h => by omega, fun _ => ⟨rfl, rfl, rfl⟩⟩
        · obtain ⟨x', y', z', ho', hex⟩ := ht s hs
          exact ⟨x', y', z', (oS_n (fun h => e (hinj _ _ hs hkn h))).trans ho', hex, fun h => absurd h e⟩
      refine ⟨_, _, hr3 _ _ h1, rfl, fun h => ?_, fun _ => ⟨⟨_, hr3 _ _ h1⟩, t_at (hr3 _ _ h1) (hrA _ _ _ h2) h3 (by omega) hkn ⟨fun h => ?_, fun a9 ha => ?_⟩⟩⟩
      · rw [q_le (by omega) (by omega)] at h; omega
      · rw [h5 k hkn] at h; cases h
      · rw [h5 k hkn] at ha
        cases ha
        refine ⟨⟨_, hob⟩, hmeas _ ?_⟩
        by_cases hlt : k < t0
        · obtain ⟨m1, m2, m3⟩ := u3 k hlt
          obtain ⟨d1, d2, d3⟩ := u2 k hlt
          rw [if_pos (by omega)]
          refine ⟨fun _ => ?_, fun h => absurd h (by decide)⟩
          rw [← nI_succ]
          refine ih (k + 1) _ (by omega) (by omega) hf' (fun s hs => ?_)
          obtain ⟨x', y', z', g1, g2, g3⟩ := ht' s hs
          refine ⟨x', y', z', g1, fun hsk => ?_⟩
          by_cases e : s = k
          · obtain ⟨r1, r2, r3⟩ := g3 e
            rw [e, m1, m2, m3]; exact ⟨r1, r2, r3⟩
          · exact g2 (by omega)
        · have e : k = t0 := by omega
          have := u4 (by omega)
          rw [e, if_neg this]
          refine ⟨fun h => absurd rfl h, fun _ => ?_⟩
          have fin := hp _ hf' (fun s hs => by obtain ⟨x', y', z', g1, g2, g3⟩ := ht' s hs; exact ⟨x', y', z', g1, fun h => g2 (by omega)⟩)
          rw [if_neg (by omega)] at fin
          rw [← e]; exact fin
  exact ⟨nt + 1, go nt 0 μ0 (by omega) (by omega) (fun _ _ => rfl) (fun s hs => by obtain ⟨x, y, z, h⟩ := hT s hs; exact ⟨x, y, z, h, fun q => by omega⟩)⟩
