/-! NEW OBJECTS of the class -/
theorem t_init {q n NB : Nat} {a b : Value} {v : Int32} {μ : Mm} {post : Mm → Prop} (h : μ q = some (eO 3 [a, b])) (hv : v = nI n) (hn : n ≤ NB) (hn2 : n < 2 ^ 31) (hp : ∀ it, μ it = none → it ≠ q → post (ups (ups μ it (eT n (fun _ => none))) q (eO 3 [.ref it, .int 0]))) : wp_X4_init q NB v μ post := by
  subst hv
  refine ⟨_, h, by simp, fun μ4 e => ?_⟩
  subst e
  have e0 : (if nI n < (0 : Int32) then (0 : Int32) else nI n) = nI n := if_neg (nI_pos (by omega))
  rw [e0, nI_clamp (by omega)]
  refine ⟨nI_pos (by omega), hn, fun q6 hq μ8 e => ?_⟩
  subst e
  have hne : q6 ≠ q := fun z => by rw [z, ups_s] at hq; cases hq
  have hq' : μ q6 = none := by rw [ups_n hne] at hq; exact hq
  refine ⟨_, by rw [ups_n hne.symm]; exact ups_s, by simp, fun μ15 e => ?_⟩
  have := hp q6 hq' hne
  rw [q_ups_sw hne.symm, q_ups_ss] at e
  rw [e]; exact this
theorem k_init {q n NB : Nat} {a b : Value} {v : Int32} {μ : Mm} {post : Mm → Prop} (h : μ q = some (eO 1 [a, b])) (hv : v = nI n) (hn : n ≤ NB) (hn2 : n < 2 ^ 31) (hp : ∀ it, μ it = none → it ≠ q → post (ups (ups μ it (eI n (fun _ => 0))) q (eO 1 [.ref it, .int 0]))) : wp_X2_init q NB v μ post := by
  subst hv
  refine ⟨_, h, by simp, fun μ4 e => ?_⟩
  subst e
  have e0 : (if nI n < (0 : Int32) then (0 : Int32) else nI n) = nI n := if_neg (nI_pos (by omega))
  rw [e0, nI_clamp (by omega)]
  refine ⟨nI_pos (by omega), hn, fun q6 hq μ8 e => ?_⟩
  subst e
  have hne : q6 ≠ q := fun z => by rw [z, ups_s] at hq; cases hq
  have hq' : μ q6 = none := by rw [ups_n hne] at hq; exact hq
  refine ⟨_, by rw [ups_n hne.symm]; exact ups_s, by simp, fun μ15 e => ?_⟩
  have := hp q6 hq' hne
  rw [q_ups_sw hne.symm, q_ups_ss] at e
  rw [e]; exact this
/-- a new type, before it is measured -/
theorem y_init {o n an K pr : Nat} {kd : Nat → Nat} {lo hi om : Int32} {a0 a1 a2 a3 a4 a5 a6 a7 a8 a9 : Value} {μ : Mm} {post : Mm → Prop} (h : μ o = some (eO 2 [a0, a1, a2, a3, a4, a5, a6, a7, a8, a9])) (hw : hi - lo + 1 = nI n) (hn : n ≤ 2048) (h3 : some K = some (kd 2) → an = 3) (h0 : ¬ some K = some (kd 2) → an = 0)
    (hp : ∀ q ai, μ q = none → μ ai = none → q ≠ o → ai ≠ o → ai ≠ q → post (ups (ups (ups μ ai (eT an (fun _ => none))) q (eO 3 [.ref ai, .int 0])) o (eO 2 [.ref K, .int lo, .int hi, .int (nI (wdN n)), .ref pr, .int om, .ref q, .int 0, .int 0, .int 0]))) : wp_X3_init o kd K lo hi pr om μ post := by
  have key : ∀ q, μ q = none → q ≠ o → ∀ s0 : Int32, s0 = nI an → wb_X3_init_75 o kd post s0 q q (ups (ups μ o (eO 2 [.ref K, .int lo, .int hi, .int (nI (wdN n)), .ref pr, .int om, a6, .int 0, .int 0, .int 0])) q (eO 3 [.null, .int 0])) := by
    intro q hq hqo s0 hs
    have han : an ≤ 3 := by
      by_cases c : some K = some (kd 2)
      · rw [h3 c]; omega
      · rw [h0 c]; omega
    refine t_init ups_s hs han (by omega) (fun it hit hiq => ?_)
    have hio : it ≠ o := fun z => by rw [z, ups_n hqo.symm, ups_s] at hit; cases hit
    have hit' : μ it = none := by rw [ups_n hiq, ups_n hio] at hit; exact hit
    refine ⟨_, by rw [ups_n hqo.symm, ups_n hio.symm, ups_n hqo.symm]; exact ups_s, by simp, fun μ58 e => ?_⟩
    have fin := hp q it hq hit' hqo hio hiq
    have e2 : μ58 = ups (ups (ups μ it (eT an (fun _ => none))) q (eO 3 [.ref it, .int 0])) o (eO 2 [.ref K, .int lo, .int hi, .int (nI (wdN n)), .ref pr, .int om, .ref q, .int 0, .int 0, .int 0]) := by
      rw [e]
      funext a
      by_cases z1 : a = o
      · subst z1; rw [ups_s, ups_s]; rfl
      · rw [ups_n z1, ups_n z1]
        by_cases z2 : a = q
        · subst z2; rw [ups_s, ups_s]
        · rw [ups_n z2, ups_n z2]
          by_cases z3 : a = it
          · subst z3; rw [ups_s, ups_s]
          · rw [ups_n z3, ups_n z3, ups_n z2, ups_n z1]
    rw [e2]; exact fin
  refine ⟨_, h, by simp, fun μ4 e => ?_⟩
  subst e
  refine ⟨_, ups_s, by simp, fun μ9 e => ?_⟩
  rw [q_ups_ss] at e; subst e
  refine ⟨_, ups_s, by simp, fun μ14 e => ?_⟩
  rw [q_ups_ss] at e; subst e
  refine ⟨_, ups_s, by simp, fun μ19 e => ?_⟩
  rw [q_ups_ss] at e; subst e
  refine ⟨_, ups_s, by simp, fun μ24 e => ?_⟩
  rw [q_ups_ss] at e; subst e
  refine ⟨_, ups_s, by simp, fun μ29 e => ?_⟩
  rw [q_ups_ss] at e; subst e
  rw [hw]
  refine c_wd hn ⟨_, ups_s, by simp, fun μ35 e => ?_⟩
  rw [q_ups_ss] at e; subst e
  refine ⟨_, ups_s, by simp, fun μ40 e => ?_⟩
  rw [q_ups_ss] at e; subst e
  refine ⟨_, ups_s, by simp, fun μ45 e => ?_⟩
  rw [q_ups_ss] at e; subst e
  intro q hq μ49 e
  subst e
  have hqo : q ≠ o := fun z => by rw [z, ups_s] at hq; cases hq
  rw [ups_n hqo] at hq
  exact ⟨fun c => key q hq hqo 0 (by rw [h0 c]; rfl), fun c => key q hq hqo 3 (by rw [h3 c]; rfl)⟩
/-! roles taken -/
theorem Rp.ext {μ μ' : Mm} {ad : Nat → Nat} {C : Mm} (h : Rp μ ad C) (e : ∀ a v, μ a = some v → μ' a = some v) : Rp μ' ad C := ⟨fun r v hr => e _ _ (h.1 r v hr), h.2⟩
theorem Rp.drop {μ : Mm} {ad : Nat → Nat} {C C' : Mm} (h : Rp μ ad C) (e : ∀ r, C' r = C r ∨ C' r = none) : Rp μ ad C' := by
  have hn : ∀ r, C' r ≠ none → C r ≠ none := fun r hr => by
    rcases e r with z | z
    · rwa [z] at hr
    · exact absurd z hr
  refine ⟨fun r v hr => ?_, fun r s h1 h2 => h.2 r s (hn r h1) (hn s h2)⟩
  rcases e r with z | z
  · rw [z] at hr; exact h.1 r v hr
  · rw [z] at hr; cases hr
theorem Rp.add {μ : Mm} {ad : Nat → Nat} {C : Mm} (h : Rp μ ad C) {r q : Nat} {v : En} (hq : μ q = some v) (hf : ∀ s, C s ≠ none → ad s ≠ q) : Rp μ (fun s => if s = r then q else ad s) (ups C r v) := by
  refine ⟨fun s e' hs => ?_, fun s s' h1 h2 z => ?_⟩
  · by_cases z : s = r
    · subst z
      rw [ups_s] at hs
      cases hs
      show μ (if s = s then q else ad s) = some v
      rw [if_pos rfl]; exact hq
    · rw [ups_n z] at hs
      show μ (if s = r then q else ad s) = some e'
      rw [if_neg z]
      exact h.1 s e' hs
  · have z : (if s = r then q else ad s) = (if s' = r then q else ad s') := z
    by_cases z1 : s = r
    · by_cases z2 : s' = r
      · rw [z1, z2]
      · rw [if_pos z1, if_neg z2] at z
        rw [ups_n z2] at h2
        exact absurd z.symm (hf s' h2)
    · by_cases z2 : s' = r
      · rw [if_neg z1, if_pos z2] at z
        rw [ups_n z1] at h1
        exact absurd z (hf s h1)
      · rw [if_neg z1, if_neg z2] at z
        rw [ups_n z1] at h1
        rw [ups_n z2] at h2
        exact h.2 s s' h1 h2 z
theorem Rp.addf {ad : Nat → Nat} {C : Mm} {r q q' : Nat} {v : En} (hf : ∀ s, C s ≠ none → ad s ≠ q') (n : q ≠ q') : ∀ s, ups C r v s ≠ none → (fun s => if s = r then q else ad s) s ≠ q' := by
  intro s hs
  show (if s = r then q else ad s) ≠ q'
  by_cases z : s = r
  · rw [if_pos z]; exact n
  · rw [if_neg z]
    rw [ups_n z] at hs
    exact hf s hs
/-- the five cells of a new type take their roles -/
theorem Rp.ty {μ : Mm} {ad : Nat → Nat} {C : Mm} (h : Rp μ ad C) {n a0 a1 a2 a3 a4 : Nat} {v0 v1 v2 v3 v4 : En} (g0 : μ a0 = some v0) (g1 : μ a1 = some v1) (g2 : μ a2 = some v2) (g3 : μ a3 = some v3) (g4 : μ a4 = some v4)
    (f0 : ∀ s, C s ≠ none → ad s ≠ a0) (f1 : ∀ s, C s ≠ none → ad s ≠ a1) (f2 : ∀ s, C s ≠ none → ad s ≠ a2) (f3 : ∀ s, C s ≠ none → ad s ≠ a3) (f4 : ∀ s, C s ≠ none → ad s ≠ a4)
    (d01 : a0 ≠ a1) (d02 : a0 ≠ a2) (d03 : a0 ≠ a3) (d04 : a0 ≠ a4) (d12 : a1 ≠ a2) (d13 : a1 ≠ a3) (d14 : a1 ≠ a4) (d23 : a2 ≠ a3) (d24 : a2 ≠ a4) (d34 : a3 ≠ a4) :
    ∃ ad' C', Rp μ ad' C' ∧ (∀ r, (r < 20 + 5 * n ∨ 25 + 5 * n ≤ r) → ad' r = ad r ∧ C' r = C r) ∧ ad' (20 + 5 * n) = a0 ∧ ad' (21 + 5 * n) = a1 ∧ ad' (22 + 5 * n) = a2 ∧ ad' (23 + 5 * n) = a3 ∧ ad' (24 + 5 * n) = a4 ∧ C' (20 + 5 * n) = some v0 ∧ C' (21 + 5 * n) = some v1 ∧ C' (22 + 5 * n) = some v2 ∧ C' (23 + 5 * n) = some v3 ∧ C' (24 + 5 * n) = some v4 := by
  have hA := h.add (r := 20 + 5 * n) g0 f0
  have hB := hA.add (r := 21 + 5 * n) g1 (Rp.addf f1 d01)
  have hC := hB.add (r := 22 + 5 * n) g2 (Rp.addf (Rp.addf f2 d02) d12)
  have hD := hC.add (r := 23 + 5 * n) g3 (Rp.addf (Rp.addf (Rp.addf f3 d03) d13) d23)
  have hE := hD.add (r := 24 + 5 * n) g4 (Rp.addf (Rp.addf (Rp.addf (Rp.addf f4 d04) d14) d24) d34)
  refine ⟨_, _, hE, fun r hr => ⟨?_, ?_⟩, ?_, ?_, ?_, ?_, ?_, ?_, ?_, ?_, ?_, ?_⟩
  · skip
    rw [if_neg (by omega), if_neg (by omega), if_neg (by omega), if_neg (by omega), if_neg (by omega)]
  · rw [ups_n (by omega), ups_n (by omega), ups_n (by omega), ups_n (by omega), ups_n (by omega)]
  · skip
    rw [if_neg (by omega), if_neg (by omega), if_neg (by omega), if_neg (by omega), if_pos rfl]
  · skip
    rw [if_neg (by omega), if_neg (by omega), if_neg (by omega), if_pos rfl]
  · skip
    rw [if_neg (by omega), if_neg (by omega), if_pos rfl]
  · skip
    rw [if_neg (by omega), if_pos rfl]
  · skip
    rw [if_pos rfl]
  · rw [ups_n (by omega), ups_n (by omega), ups_n (by omega), ups_n (by omega)]; exact ups_s
  · rw [ups_n (by omega), ups_n (by omega), ups_n (by omega)]; exact ups_s
  · rw [ups_n (by omega), ups_n (by omega)]; exact ups_s
  · rw [ups_n (by omega)]; exact ups_s
  · exact ups_s
