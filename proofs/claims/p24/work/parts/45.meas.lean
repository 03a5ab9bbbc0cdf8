/-! MEASURES -/
/-- what the measures of a type are, by those of its parts -/
def minL (g : Nat → Nat) : Nat → Nat → Nat → Nat
  | 0, _, a => a
  | n + 1, k, a => minL g n (k + 1) (if g k < a then g k else a)
def maxL (g : Nat → Nat) : Nat → Nat → Nat → Nat
  | 0, _, a => a
  | n + 1, k, a => maxL g n (k + 1) (if a < g k then g k else a)
def meF (N : NT) (t : Nat) : Nat := match nK N t with
  | 0 => nW N t
  | 1 => nW N t + (nlo N t).toNatClampNeg * nF N (nP N t 0)
  | 2 => 1 + sumN (fun k => if nO N t k = 1 then 1 else nF N (nP N t k)) (nC N t) 0
  | _ => nW N t + minL (fun k => nF N (nP N t k)) (nC N t) 0 240
def meM (N : NT) (t : Nat) : Nat := match nK N t with
  | 0 => nW N t
  | 1 => nW N t + (nhi N t).toNatClampNeg * nM N (nP N t 0)
  | 2 => 1 + sumN (fun k => nO N t k + nM N (nP N t k)) (nC N t) 0 + (if nA N t = 0 then 0 else 2) + sumN (fun j => 8 + nM N (nD N t j)) (nA N t) 0
  | _ => nW N t + maxL (fun k => nM N (nP N t k)) (nC N t) 0 0
def meL (N : NT) (t : Nat) : Nat := match nK N t with
  | 0 => 1
  | 1 => 1 + (nhi N t).toNatClampNeg * nL N (nP N t 0)
  | 2 => 1 + sumN (fun k => nO N t k + nL N (nP N t k)) (nC N t) 0 + sumN (fun j => nL N (nD N t j)) (nA N t) 0
  | _ => 1 + maxL (fun k => nL N (nP N t k)) (nC N t) 0 0
theorem maxL_ge (g : Nat → Nat) : ∀ n k a, a ≤ maxL g n k a ∧ ∀ i, k ≤ i → i < k + n → g i ≤ maxL g n k a
  | 0, k, a => ⟨Nat.le_refl _, fun i h1 h2 => by omega⟩
  | n + 1, k, a => by
    obtain ⟨h1, h2⟩ := maxL_ge g n (k + 1) (if a < g k then g k else a)
    rw [maxL]
    have h3 : a ≤ (if a < g k then g k else a) ∧ g k ≤ (if a < g k then g k else a) := by split <;> omega
    refine ⟨by omega, fun i h4 h5 => ?_⟩
    by_cases e : i = k
    · subst e; omega
    · exact h2 i (by omega) (by omega)
theorem sumN_le (g : Nat → Nat) (c : Nat) : ∀ n k, (∀ i, k ≤ i → i < k + n → g i ≤ c) → sumN g n k ≤ n * c
  | 0, k, _ => by simp [sumN]
  | n + 1, k, h => by
    have h1 := h k (Nat.le_refl _) (by omega)
    have h2 := sumN_le g c n (k + 1) (fun i h3 h4 => h i (by omega) (by omega))
    rw [sumN, Nat.succ_mul]; omega
theorem maxL_le (g : Nat → Nat) (c : Nat) : ∀ n k a, a ≤ c → (∀ i, k ≤ i → i < k + n → g i ≤ c) → maxL g n k a ≤ c
  | 0, k, a, h, _ => h
  | n + 1, k, a, h, hg => by
    rw [maxL]
    exact maxL_le g c n (k + 1) _ (by have := hg k (Nat.le_refl _) (by omega); split <;> omega) (fun i h1 h2 => hg i (by omega) (by omega))
/-- the parts' measures are in bounds -/
def NBd (N : NT) (nt : Nat) : Prop := ∀ t, t < nt → nF N t ≤ 240 ∧ nM N t ≤ 240 ∧ nL N t ≤ 240
/-- all measures are as the parts' say -/
def NMe (N : NT) (nt : Nat) : Prop := ∀ t, t < nt → nF N t = meF N t ∧ nM N t = meM N t ∧ nL N t = meL N t
theorem NMe.mw {N : NT} {nt : Nat} (hB : NBd N nt) (h : NMe N nt) : NMw N nt := by
  intro t ht
  obtain ⟨h1, h2, h3⟩ := h t ht
  rw [h2]
  have hb := (hB t ht).2.1
  rw [h2] at hb
  refine ⟨fun hk => ?_, fun hk b eb hb8 => ?_, fun hk => ?_, fun hk j hj => ?_, hb⟩
  · unfold meM; rw [hk]; exact Nat.le_refl _
  · unfold meM; rw [hk]
    exact Nat.le_of_eq (by rw [eb, nI_clamp (by omega)]; rfl)
  · have e := sumN_add (nO N t) (fun k => nM N (nP N t k)) (nC N t) 0
    unfold meM; rw [hk]
    simp only [] at e ⊢
    omega
  · unfold meM; rw [hk]
    simp only []
    have := (maxL_ge (fun k => nM N (nP N t k)) (nC N t) 0 0).2 j (by omega) (by omega)
    omega
theorem NMe.lw {N : NT} {nt : Nat} (hB : NBd N nt) (h : NMe N nt) : NLw N nt := by
  intro t ht
  obtain ⟨h1, h2, h3⟩ := h t ht
  rw [h3]
  have hb := (hB t ht).2.2
  rw [h3] at hb
  refine ⟨fun hk => ?_, fun hk b eb hb8 => ?_, fun hk => ?_, fun hk j hj => ?_, hb⟩
  · unfold meL; rw [hk]; exact Nat.le_refl _
  · unfold meL; rw [hk]
    exact Nat.le_of_eq (by rw [eb, nI_clamp (by omega)]; rfl)
  · have e := sumN_add (nO N t) (fun k => nL N (nP N t k)) (nC N t) 0
    unfold meL; rw [hk]
    simp only [] at e ⊢
    omega
  · unfold meL; rw [hk]
    simp only []
    have := (maxL_ge (fun k => nL N (nP N t k)) (nC N t) 0 0).2 j (by omega) (by omega)
    omega
/-! THE REFERENCE'S MEASURES -/
/-- sums of the machine -/
def fsum (g : Nat → Int32) : Nat → Nat → Int32 → Int32
  | 0, _, a => a
  | n + 1, k, a => fsum g n (k + 1) (a + g k)
theorem fsum_nI {g : Nat → Int32} {h : Nat → Nat} : ∀ n k a, (∀ i, k ≤ i → i < k + n → g i = nI (h i)) → fsum g n k (nI a) = nI (a + sumN h n k)
  | 0, k, a, _ => by simp [fsum, sumN]
  | n + 1, k, a, e => by
    rw [fsum, e k (Nat.le_refl _) (by omega), nI_add, fsum_nI n (k + 1) (a + h k) (fun i h1 h2 => e i (by omega) (by omega)), sumN, Nat.add_assoc]
section MM
variable {N : NT} {nt t : Nat} {σ : Nat → Int32} {α : Nat → Nat → Int32}
def sL (N : NT) (α : Nat → Nat → Int32) (t k : Nat) : Int32 := if nO N t k = 1 then 0 else α 9 (nP N t k)
end MM
/-! THE REFERENCE'S MEASURES: choices, and all -/
def fmn (g : Nat → Int32) : Nat → Nat → Int32 → Int32
  | 0, _, a => a
  | n + 1, k, a => fmn g n (k + 1) (if a ≤ g k then a else g k)
def fmx (g : Nat → Int32) : Nat → Nat → Int32 → Int32
  | 0, _, a => a
  | n + 1, k, a => fmx g n (k + 1) (if g k ≤ a then a else g k)
theorem fmn_nI {g : Nat → Int32} {h : Nat → Nat} : ∀ n k a, a < 2 ^ 20 → (∀ i, k ≤ i → i < k + n → g i = nI (h i) ∧ h i < 2 ^ 20) → fmn g n k (nI a) = nI (minL h n k a)
  | 0, k, a, _, _ => rfl
  | n + 1, k, a, ha, e => by
    obtain ⟨e1, e2⟩ := e k (Nat.le_refl _) (by omega)
    rw [fmn, minL, e1]
    by_cases hc : a ≤ h k
    · rw [if_pos (by rw [q_le (by omega) (by omega)]; exact hc), if_neg (by omega)]
      exact fmn_nI n (k + 1) a ha (fun i h1 h2 => e i (by omega) (by omega))
    · rw [if_neg (by rw [q_le (by omega) (by omega)]; exact hc), if_pos (by omega)]
      exact fmn_nI n (k + 1) _ e2 (fun i h1 h2 => e i (by omega) (by omega))
theorem fmx_nI {g : Nat → Int32} {h : Nat → Nat} : ∀ n k a, a < 2 ^ 20 → (∀ i, k ≤ i → i < k + n → g i = nI (h i) ∧ h i < 2 ^ 20) → fmx g n k (nI a) = nI (maxL h n k a)
  | 0, k, a, _, _ => rfl
  | n + 1, k, a, ha, e => by
    obtain ⟨e1, e2⟩ := e k (Nat.le_refl _) (by omega)
    rw [fmx, maxL, e1]
    by_cases hc : h k ≤ a
    · rw [if_pos (by rw [q_le (by omega) (by omega)]; exact hc), if_neg (by omega)]
      exact fmx_nI n (k + 1) a ha (fun i h1 h2 => e i (by omega) (by omega))
    · rw [if_neg (by rw [q_le (by omega) (by omega)]; exact hc), if_pos (by omega)]
      exact fmx_nI n (k + 1) _ e2 (fun i h1 h2 => e i (by omega) (by omega))
section MN
variable {N : NT} {nt t : Nat} {σ : Nat → Int32} {α : Nat → Nat → Int32}
def iL (N : NT) (α : Nat → Nat → Int32) (t : Nat) : Int32 := if nK N t = 2 then fsum (sL N α t) (nC N t) 0 (nI 1 + nI (sumN (nO N t) (nC N t) 0)) else if nK N t = 3 then nI (nW N t) + fmn (fun k => α 9 (nP N t k)) (nC N t) 0 (nI 241) else if nK N t = 1 then nI (nW N t) + nlo N t * α 9 (nP N t 0) else nI (nW N t) + nI 0
def iH (N : NT) (α : Nat → Nat → Int32) (t : Nat) : Int32 := if nK N t = 2 then fsum (fun j => nI 8 + α 10 (nD N t j)) (nA N t) 0 (fsum (fun k => α 10 (nP N t k)) (nC N t) 0 (nI 1 + nI (sumN (nO N t) (nC N t) 0) + nI (if nA N t = 0 then 0 else 2))) else if nK N t = 3 then nI (nW N t) + fmx (fun k => α 10 (nP N t k)) (nC N t) 0 (nI 0) else if nK N t = 1 then nI (nW N t) + nhi N t * α 10 (nP N t 0) else nI (nW N t) + nI 0
def iG (N : NT) (α : Nat → Nat → Int32) (t : Nat) : Int32 := if nK N t = 2 then fsum (fun j => α 11 (nD N t j)) (nA N t) 0 (fsum (fun k => α 11 (nP N t k)) (nC N t) 0 (nI 1 + nI (sumN (nO N t) (nC N t) 0))) else if nK N t = 3 then nI 1 + fmx (fun k => α 11 (nP N t k)) (nC N t) 0 (nI 0) else if nK N t = 1 then nI 1 + nhi N t * α 11 (nP N t 0) else nI 1 + nI 0
end MN
/-! THE REFERENCE'S MEASURES: exact where the parts' are -/
theorem minL_start (g : Nat → Nat) (n k : Nat) (hn : 0 < n) (hg : g k ≤ 240) : minL g n k 241 = minL g n k 240 := by
  obtain ⟨n, rfl⟩ : ∃ e, n = e + 1 := ⟨n - 1, by omega⟩
  rw [minL, minL]
  by_cases h : g k < 240
  · rw [if_pos (by omega), if_pos h]
  · rw [if_pos (by omega), if_neg h]; congr 1; omega
section ME
variable {N : NT} {nt t : Nat} {α : Nat → Nat → Int32}
end ME
/-! THE CLASS'S MEASURES -/
def oS (μ0 : Mm) (o k pr ar : Nat) (lo hi w om x y z : Int32) : Mm := ups μ0 o (eO 2 [.ref k, .int lo, .int hi, .int w, .ref pr, .int om, .ref ar, .int x, .int y, .int z])
theorem q_ifn {a b : Nat} (ha : a < 2 ^ 20) (hb : b < 2 ^ 20) : (if nI a < nI b then nI a else nI b) = nI (if a < b then a else b) := by
  by_cases h : a < b
  · rw [if_pos h, if_pos (by rw [q_lt (by omega) (by omega)]; exact h)]
  · rw [if_neg h, if_neg (by rw [q_lt (by omega) (by omega)]; exact h)]
theorem q_ifx {a b : Nat} (ha : a < 2 ^ 20) (hb : b < 2 ^ 20) : (if nI a < nI b then nI b else nI a) = nI (if a < b then b else a) := by
  by_cases h : a < b
  · rw [if_pos h, if_pos (by rw [q_lt (by omega) (by omega)]; exact h)]
  · rw [if_neg h, if_neg (by rw [q_lt (by omega) (by omega)]; exact h)]
/-- what the parts of a type are, for its measures -/
def CM (μ0 : Mm) (o pr C : Nat) (F M L : Nat → Nat) : Prop := (∃ v, μ0 o = some (eO 2 v)) ∧ ∃ pi pn pf, μ0 pr = some (eO 3 [.ref pi, .int (nI C)]) ∧ μ0 pi = some (eT pn pf) ∧ C ≤ pn ∧ pn ≤ 6 ∧ ∀ j, j < C → ∃ q a b c d e f g, pf j = some q ∧ q ≠ o ∧ μ0 q = some (eO 2 [a, b, c, d, e, f, g, .int (nI (F j)), .int (nI (M j)), .int (nI (L j))]) ∧ F j ≤ 240 ∧ M j ≤ 240 ∧ L j ≤ 240
section CMS
variable {μ0 : Mm} {o k pr ar C : Nat} {lo hi w om : Int32} {F M L : Nat → Nat}
theorem oS_o {x y z : Int32} : oS μ0 o k pr ar lo hi w om x y z o = some (eO 2 [.ref k, .int lo, .int hi, .int w, .ref pr, .int om, .ref ar, .int x, .int y, .int z]) := ups_s
theorem oS_n {a : Nat} {x y z : Int32} (h : a ≠ o) : oS μ0 o k pr ar lo hi w om x y z a = μ0 a := ups_n h
theorem oS_u {x y z x' y' z' : Int32} : ups (oS μ0 o k pr ar lo hi w om x y z) o (eO 2 [.ref k, .int lo, .int hi, .int w, .ref pr, .int om, .ref ar, .int x', .int y', .int z']) = oS μ0 o k pr ar lo hi w om x' y' z' := q_ups_ss
theorem oS_R {v : List Value} {u : List Value} {a : Nat} {x y z : Int32} (ho : μ0 o = some (eO 2 v)) (ha : μ0 a = some (eO 3 u)) : oS μ0 o k pr ar lo hi w om x y z a = some (eO 3 u) := by
  rw [oS_n (q_ne ha ho (by simp)), ha]
theorem oS_A {v : List Value} {c : Nat} {u : Nat → Option Nat} {a : Nat} {x y z : Int32} (ho : μ0 o = some (eO 2 v)) (ha : μ0 a = some (eT c u)) : oS μ0 o k pr ar lo hi w om x y z a = some (eT c u) := by
  rw [oS_n (q_ne ha ho (by simp)), ha]
theorem cm_things {x y z : Int32} {post : Mm → Prop} (hC : CM μ0 o pr C F M L) (h1 : C = 1) (hp : post (oS μ0 o k pr ar lo hi w om (x + lo * nI (F 0)) (y + hi * nI (M 0)) (z + hi * nI (L 0)))) : wp_X3_measureThings o (oS μ0 o k pr ar lo hi w om x y z) post := by
  obtain ⟨⟨v, ho⟩, pi, pn, pf, c1, c2, c3, c4, c5⟩ := hC
  obtain ⟨q, a, b, c, d, e, f, g, e1, e2, e3, _⟩ := c5 0 (by omega)
  have hq : ∀ x y z : Int32, oS μ0 o k pr ar lo hi w om x y z q = some (eO 2 [a, b, c, d, e, f, g, .int (nI (F 0)), .int (nI (M 0)), .int (nI (L 0))]) := fun x y z => (oS_n e2).trans e3
  refine ⟨_, _, oS_o, rfl, ⟨_, oS_R ho c1⟩, t_at (j := 0) (oS_R ho c1) (oS_A ho c2) c3 (by omega) (by omega) ⟨fun h => ?_, fun a8 ha8 => ?_⟩⟩
  · rw [e1] at h; cases h
  · rw [e1] at ha8
    cases ha8
    refine ⟨_, _, oS_o, rfl, _, _, oS_o, rfl, _, _, hq _ _ _, rfl, _, oS_o, by simp, fun μ24 e => ?_⟩
    have e' : μ24 = oS μ0 o k pr ar lo hi w om (x + lo * nI (F 0)) y z := by rw [e]; exact oS_u
    clear e; subst e'
    refine ⟨_, _, oS_o, rfl, _, _, oS_o, rfl, _, _, hq _ _ _, rfl, _, oS_o, by simp, fun μ41 e => ?_⟩
    have e' : μ41 = oS μ0 o k pr ar lo hi w om (x + lo * nI (F 0)) (y + hi * nI (M 0)) z := by rw [e]; exact oS_u
    clear e; subst e'
    refine ⟨_, _, oS_o, rfl, _, _, oS_o, rfl, _, _, hq _ _ _, rfl, _, oS_o, by simp, fun μ58 e => ?_⟩
    have e' : μ58 = oS μ0 o k pr ar lo hi w om (x + lo * nI (F 0)) (y + hi * nI (M 0)) (z + hi * nI (L 0)) := by rw [e]; exact oS_u
    clear e; subst e'
    exact hp
theorem cm_choices {x y z : Int32} {post : Mm → Prop} (hC : CM μ0 o pr C F M L) : ∀ (i j a b c : Nat), j + i = C → a < 2 ^ 20 → b < 2 ^ 20 → c < 2 ^ 20 → post (oS μ0 o k pr ar lo hi w om (x + nI (minL F i j a)) (y + nI (maxL M i j b)) (z + nI (maxL L i j c))) → wb_X3_measureChoices_11 o post (i + 1) (nI a) (nI b) (nI c) (nI j) (oS μ0 o k pr ar lo hi w om x y z) := by
  obtain ⟨⟨v, ho⟩, pi, pn, pf, c1, c2, c3, c4, c5⟩ := hC
  intro i
  induction i with
  | zero =>
    intro j a b c hj ha hb hc hp
    refine ⟨_, _, oS_o, rfl, ⟨_, oS_R ho c1⟩, t_size (oS_R ho c1) ⟨fun _ => ⟨_, _, oS_o, rfl, _, oS_o, by simp, fun μ15 e => ?_⟩, fun h => ?_⟩⟩
    · have e' : μ15 = oS μ0 o k pr ar lo hi w om (x + nI a) y z := by rw [e]; exact oS_u
      clear e; subst e'
      refine ⟨_, _, oS_o, rfl, _, oS_o, by simp, fun μ24 e => ?_⟩
      have e' : μ24 = oS μ0 o k pr ar lo hi w om (x + nI a) (y + nI b) z := by rw [e]; exact oS_u
      clear e; subst e'
      refine ⟨_, _, oS_o, rfl, _, oS_o, by simp, fun μ33 e => ?_⟩
      have e' : μ33 = oS μ0 o k pr ar lo hi w om (x + nI a) (y + nI b) (z + nI c) := by rw [e]; exact oS_u
      clear e; subst e'
      exact hp
    · rw [q_le (by omega) (by omega)] at h; omega
  | succ i ih =>
    intro j a b c hj ha hb hc hp
    obtain ⟨q, a1, b1, c1', d1, e1', f1, g1, e1, e2, e3, e4, e5, e6⟩ := c5 j (by omega)
    have hq : ∀ x y z : Int32, oS μ0 o k pr ar lo hi w om x y z q = some (eO 2 [a1, b1, c1', d1, e1', f1, g1, .int (nI (F j)), .int (nI (M j)), .int (nI (L j))]) := fun x y z => (oS_n e2).trans e3
    refine ⟨_, _, oS_o, rfl, ⟨_, oS_R ho c1⟩, t_size (oS_R ho c1) ⟨fun h => ?_, fun _ => ⟨_, _, oS_o, rfl, ⟨_, oS_R ho c1⟩, t_at (oS_R ho c1) (oS_A ho c2) c3 (by omega) (by omega) ⟨fun h => ?_, fun a42 ha => ?_⟩⟩⟩⟩
    · rw [q_le (by omega) (by omega)] at h; omega
    · rw [e1] at h; cases h
    · rw [e1] at ha
      cases ha
      refine ⟨_, _, hq _ _ _, rfl, _, _, hq _ _ _, rfl, _, _, hq _ _ _, rfl, ?_⟩
      rw [q_ifn (by omega) (by omega), q_ifx (by omega) (by omega), q_ifx (by omega) (by omega), ← nI_succ]
      exact ih (j + 1) _ _ _ (by omega) (by split <;> omega) (by split <;> omega) (by split <;> omega) hp
end CMS
/-! THE CLASS'S MEASURES: sequences, and all -/
section CMT
variable {μ0 : Mm} {o k pr ar C A : Nat} {lo hi w om : Int32} {F M L O Fd Md Ld : Nat → Nat}
theorem cm_parts {post : Mm → Prop} (hC : CM μ0 o pr C F M L) (hO : ∀ j, j < C → msk om j = nI (O j) ∧ O j ≤ 1) : ∀ (i j X Y Z : Nat), j + i = C → post (oS μ0 o k pr ar lo hi w om (nI (X + sumN (fun j => if O j = 1 then 1 else F j) i j)) (nI (Y + sumN (fun j => O j + M j) i j)) (nI (Z + sumN (fun j => O j + L j) i j))) → wb_X3_measureParts_12 o post (i + 1) (nI j) (oS μ0 o k pr ar lo hi w om (nI X) (nI Y) (nI Z)) := by
  obtain ⟨⟨v, ho⟩, pi, pn, pf, c1, c2, c3, c4, c5⟩ := hC
  intro i
  induction i with
  | zero =>
    intro j X Y Z hj hp
    refine ⟨_, _, oS_o, rfl, ⟨_, oS_R ho c1⟩, t_size (oS_R ho c1) ⟨fun _ => hp, fun h => ?_⟩⟩
    rw [q_le (by omega) (by omega)] at h; omega
  | succ i ih =>
    intro j X Y Z hj hp
    obtain ⟨q, a1, b1, c1', d1, e1', f1, g1, e1, e2, e3, e4, e5, e6⟩ := c5 j (by omega)
    have hq : ∀ x y z : Int32, oS μ0 o k pr ar lo hi w om x y z q = some (eO 2 [a1, b1, c1', d1, e1', f1, g1, .int (nI (F j)), .int (nI (M j)), .int (nI (L j))]) := fun x y z => (oS_n e2).trans e3
    obtain ⟨hm, hO1⟩ := hO j (by omega)
    rw [sumN, sumN, sumN, ← Nat.add_assoc X (if O j = 1 then 1 else F j), ← Nat.add_assoc Y (O j + M j), ← Nat.add_assoc Z (O j + L j)] at hp
    have c71 : ∀ s0 : Int32, s0 = nI (if O j = 1 then 1 else F j) → wb_X3_measureParts_71 o post (wb_X3_measureParts_12 o post (i + 1)) (nI j) q (nI (O j)) s0 (nI X) (oS μ0 o k pr ar lo hi w om (nI X) (nI Y) (nI Z)) := by
      intro s0 es
      refine ⟨_, oS_o, by simp, fun μ51 e => ?_⟩
      have e' : μ51 = oS μ0 o k pr ar lo hi w om (nI (X + if O j = 1 then 1 else F j)) (nI Y) (nI Z) := by rw [e, es, nI_add X]; exact oS_u
      clear e; subst e'
      refine ⟨_, _, oS_o, rfl, _, _, hq _ _ _, rfl, _, oS_o, by simp, fun μ64 e => ?_⟩
      have e' : μ64 = oS μ0 o k pr ar lo hi w om (nI (X + if O j = 1 then 1 else F j)) (nI (Y + (O j + M j))) (nI Z) := by rw [e, nI_add (O j), nI_add Y]; exact oS_u
      clear e; subst e'
      refine ⟨_, _, oS_o, rfl, _, _, hq _ _ _, rfl, _, oS_o, by simp, fun μ77 e => ?_⟩
      have e' : μ77 = oS μ0 o k pr ar lo hi w om (nI (X + if O j = 1 then 1 else F j)) (nI (Y + (O j + M j))) (nI (Z + (O j + L j))) := by rw [e, nI_add (O j), nI_add Z]; exact oS_u
      clear e; subst e'
      rw [← nI_succ]
      exact ih (j + 1) _ _ _ (by omega) hp
    have c49 : ∀ s0 : Int32, s0 = nI (O j) → wb_X3_measureParts_49 o post (wb_X3_measureParts_12 o post (i + 1)) (nI j) q s0 (oS μ0 o k pr ar lo hi w om (nI X) (nI Y) (nI Z)) := by
      intro s0 es
      subst es
      refine ⟨_, _, oS_o, rfl, ⟨_, oS_o⟩, w_opt oS_o hm hO1 (fun h1 => ⟨fun h => absurd h (by decide), fun _ => c71 _ (by rw [if_pos h1]; rfl)⟩) (fun h0 => ⟨fun _ => ⟨_, _, hq _ _ _, rfl, c71 _ (by rw [if_neg (by omega)])⟩, fun h => absurd rfl h⟩)⟩
    refine ⟨_, _, oS_o, rfl, ⟨_, oS_R ho c1⟩, t_size (oS_R ho c1) ⟨fun h => ?_, fun _ => ⟨_, _, oS_o, rfl, ⟨_, oS_R ho c1⟩, t_at (oS_R ho c1) (oS_A ho c2) c3 (by omega) (by omega) ⟨fun h => ?_, fun a25 ha => ?_⟩⟩⟩⟩
    · rw [q_le (by omega) (by omega)] at h; omega
    · rw [e1] at h; cases h
    · rw [e1] at ha
      cases ha
      exact ⟨⟨_, oS_o⟩, w_opt oS_o hm hO1 (fun h1 => ⟨fun h => absurd h (by decide), fun _ => c49 _ (by rw [h1]; rfl)⟩) (fun h0 => ⟨fun _ => c49 _ (by rw [h0]; rfl), fun h => absurd rfl h⟩)⟩
theorem cm_adds {x : Int32} {post : Mm → Prop} (hC : CM μ0 o ar A Fd Md Ld) : ∀ (i j Y Z : Nat), j + i = A → post (oS μ0 o k pr ar lo hi w om x (nI (Y + sumN (fun j => 8 + Md j) i j)) (nI (Z + sumN Ld i j))) → wb_X3_measureAdditions_22 o post (i + 1) (nI j) (oS μ0 o k pr ar lo hi w om x (nI Y) (nI Z)) := by
  obtain ⟨⟨v, ho⟩, pi, pn, pf, c1, c2, c3, c4, c5⟩ := hC
  intro i
  induction i with
  | zero =>
    intro j Y Z hj hp
    refine ⟨_, _, oS_o, rfl, ⟨_, oS_R ho c1⟩, t_size (oS_R ho c1) ⟨fun _ => hp, fun h => ?_⟩⟩
    rw [q_le (by omega) (by omega)] at h; omega
  | succ i ih =>
    intro j Y Z hj hp
    obtain ⟨q, a1, b1, c1', d1, e1', f1, g1, e1, e2, e3, e4, e5, e6⟩ := c5 j (by omega)
    have hq : ∀ x y z : Int32, oS μ0 o k pr ar lo hi w om x y z q = some (eO 2 [a1, b1, c1', d1, e1', f1, g1, .int (nI (Fd j)), .int (nI (Md j)), .int (nI (Ld j))]) := fun x y z => (oS_n e2).trans e3
    rw [sumN, sumN, ← Nat.add_assoc Y (8 + Md j), ← Nat.add_assoc Z (Ld j)] at hp
    refine ⟨_, _, oS_o, rfl, ⟨_, oS_R ho c1⟩, t_size (oS_R ho c1) ⟨fun h => ?_, fun _ => ⟨_, _, oS_o, rfl, ⟨_, oS_R ho c1⟩, t_at (oS_R ho c1) (oS_A ho c2) c3 (by omega) (by omega) ⟨fun h => ?_, fun a33 ha => ?_⟩⟩⟩⟩
    · rw [q_le (by omega) (by omega)] at h; omega
    · rw [e1] at h; cases h
    · rw [e1] at ha
      cases ha
      refine ⟨_, _, oS_o, rfl, _, _, hq _ _ _, rfl, _, oS_o, by simp, fun μ45 e => ?_⟩
      have e' : μ45 = oS μ0 o k pr ar lo hi w om x (nI (Y + (8 + Md j))) (nI Z) := by rw [e, q_l8, nI_add 8, nI_add Y]; exact oS_u
      clear e; subst e'
      refine ⟨_, _, oS_o, rfl, _, _, hq _ _ _, rfl, _, oS_o, by simp, fun μ58 e => ?_⟩
      have e' : μ58 = oS μ0 o k pr ar lo hi w om x (nI (Y + (8 + Md j))) (nI (Z + Ld j)) := by rw [e, nI_add Z]; exact oS_u
      clear e; subst e'
      rw [← nI_succ]
      exact ih (j + 1) _ _ (by omega) hp
end CMT
/-! THE CLASS'S MEASURES: all -/
theorem me_bd {N : NT} {nt t : Nat} (hN : NWf N nt) (ht : t < nt) (hB : NBd N t) : meM N t ≤ 10000 ∧ meL N t ≤ 10000 := by
  have hwf := hN t ht
  have hP : ∀ k, k < nC N t → nP N t k < t := fun k hk => (hwf.2.2.2.1 k hk).1
  have hD : ∀ k, k < nA N t → nD N t k < t := fun k hk => hwf.2.2.2.2.1 k hk
  have hW : nW N t ≤ 11 := wdN_le _
  unfold meM meL
  by_cases h2 : nK N t = 2
  · rw [h2]
    have s1 := sumN_le (fun k => nO N t k + nM N (nP N t k)) 241 (nC N t) 0 (fun i _ hi => by have := (hwf.2.2.2.1 i (by omega)).2; have := (hB _ (hP i (by omega))).2.1; omega)
    have s2 := sumN_le (fun j => 8 + nM N (nD N t j)) 248 (nA N t) 0 (fun i _ hi => by have := (hB _ (hD i (by omega))).2.1; omega)
    have s3 := sumN_le (fun k => nO N t k + nL N (nP N t k)) 241 (nC N t) 0 (fun i _ hi => by have := (hwf.2.2.2.1 i (by omega)).2; have := (hB _ (hP i (by omega))).2.2; omega)
    have s4 := sumN_le (fun j => nL N (nD N t j)) 240 (nA N t) 0 (fun i _ hi => (hB _ (hD i (by omega))).2.2)
    have s5 : (if nA N t = 0 then 0 else 2) ≤ 2 := by split <;> omega
    simp only []
    omega
  · by_cases h3 : nK N t = 3
    · rw [h3]
      have s1 := maxL_le (fun k => nM N (nP N t k)) 240 (nC N t) 0 0 (by omega) (fun i _ hi => (hB _ (hP i (by omega))).2.1)
      have s2 := maxL_le (fun k => nL N (nP N t k)) 240 (nC N t) 0 0 (by omega) (fun i _ hi => (hB _ (hP i (by omega))).2.2)
      simp only []
      omega
    · by_cases h1 : nK N t = 1
      · obtain ⟨hC, a, b, ea, eb, hab, hb⟩ := hwf.2.2.2.2.2.2.1 h1
        have b1 := (hB _ (hP 0 (by omega))).2.1
        have b2 := (hB _ (hP 0 (by omega))).2.2
        rw [h1]
        simp only []
        rw [eb, nI_clamp (by omega)]
        have s1 : b * nM N (nP N t 0) ≤ 8 * 240 := Nat.mul_le_mul hb b1
        have s2 : b * nL N (nP N t 0) ≤ 8 * 240 := Nat.mul_le_mul hb b2
        omega
      · have h0 : nK N t = 0 := by omega
        rw [h0]
        simp only []
        omega
theorem c_meas {N : NT} {nt t : Nat} {μ0 : Mm} {o pr ar : Nat} {om x y z : Int32} {kd : Nat → Nat} {post : Int32 → Mm → Prop} (hkd : ∀ i j, i < 4 → j < 4 → kd i = kd j → i = j) (hN : NWf N nt) (ht : t < nt) (hB : NBd N t) (hC : CM μ0 o pr (nC N t) (fun k => nF N (nP N t k)) (fun k => nM N (nP N t k)) (fun k => nL N (nP N t k)))
    (hD : CM μ0 o ar (nA N t) (fun k => nF N (nD N t k)) (fun k => nM N (nD N t k)) (fun k => nL N (nD N t k))) (hO : nK N t = 2 → ∀ k, k < nC N t → msk om k = nI (nO N t k))
    (hp : post (if meM N t ≤ 240 ∧ meL N t ≤ 240 then 1 else 0) (oS μ0 o (kd (nK N t)) pr ar (nlo N t) (nhi N t) (nI (nW N t)) om (nI (meF N t)) (nI (meM N t)) (nI (meL N t)))) : wp_X3_measure o kd (oS μ0 o (kd (nK N t)) pr ar (nlo N t) (nhi N t) (nI (nW N t)) om x y z) post := by
  have hwf := hN t ht
  have hK : nK N t < 4 := by omega
  obtain ⟨bM, bL⟩ := me_bd hN ht hB
  have f73 : wb_X3_measure_73 o kd post (oS μ0 o (kd (nK N t)) pr ar (nlo N t) (nhi N t) (nI (nW N t)) om (nI (meF N t)) (nI (meM N t)) (nI (meL N t))) := by
    refine ⟨_, _, oS_o, rfl, fun h => ?_, fun h => ⟨_, _, oS_o, rfl, fun h2 => ?_, fun h2 => ?_⟩⟩
    · rw [q_l240, q_lt (by omega) (by omega)] at h
      rwa [if_neg (by omega)] at hp
    · rw [q_l240, q_lt (by omega) (by omega)] at h2
      rwa [if_neg (by omega)] at hp
    · rw [q_l240, q_lt (by omega) (by omega)] at h h2
      rwa [if_pos (by omega)] at hp
  refine ⟨_, _, oS_o, rfl, _, oS_o, by simp, fun μ8 e => ?_⟩
  have e' : μ8 = oS μ0 o (kd (nK N t)) pr ar (nlo N t) (nhi N t) (nI (nW N t)) om (nI (nW N t)) y z := by rw [e]; exact oS_u
  clear e; subst e'
  refine ⟨_, _, oS_o, rfl, _, oS_o, by simp, fun μ17 e => ?_⟩
  have e' : μ17 = oS μ0 o (kd (nK N t)) pr ar (nlo N t) (nhi N t) (nI (nW N t)) om (nI (nW N t)) (nI (nW N t)) z := by rw [e]; exact oS_u
  clear e; subst e'
  refine ⟨_, oS_o, by simp, fun μ22 e => ?_⟩
  have e' : μ22 = oS μ0 o (kd (nK N t)) pr ar (nlo N t) (nhi N t) (nI (nW N t)) om (nI (nW N t)) (nI (nW N t)) (nI 1) := by rw [e]; exact oS_u
  clear e; subst e'
  refine ⟨_, _, oS_o, rfl, fun h1 => ⟨_, _, oS_o, rfl, fun h3 => ⟨_, _, oS_o, rfl, fun h2 => ?_, fun h2 => ⟨⟨_, oS_o⟩, ?_⟩⟩, fun h3 => ⟨⟨_, oS_o⟩, ?_⟩⟩, fun h1 => ⟨⟨_, oS_o⟩, ?_⟩⟩
  · rw [q_kd hkd hK (by omega)] at h1 h2 h3
    have h0 : nK N t = 0 := by omega
    unfold meF meM meL at f73
    rw [h0] at f73 ⊢
    exact f73
  · rw [q_kd hkd hK (by omega)] at h2
    refine ⟨_, oS_o, by simp, fun μ4 e => ?_⟩
    have e' : μ4 = oS μ0 o (kd (nK N t)) pr ar (nlo N t) (nhi N t) (nI (nW N t)) om (nI 1) (nI (nW N t)) (nI 1) := by rw [e]; exact oS_u
    clear e; subst e'
    refine ⟨_, oS_o, by simp, fun μ9 e => ⟨nC N t + 1, ?_⟩⟩
    have e' : μ9 = oS μ0 o (kd (nK N t)) pr ar (nlo N t) (nhi N t) (nI (nW N t)) om (nI 1) (nI 1) (nI 1) := by rw [e]; exact oS_u
    clear e; subst e'
    refine cm_parts (O := nO N t) hC (fun j hj => ⟨hO h2 j hj, (hwf.2.2.2.1 j hj).2⟩) (nC N t) 0 1 1 1 (by omega) ⟨⟨_, oS_o⟩, ?_⟩
    obtain ⟨⟨v, ho⟩, pi, pn, pf, c1, _⟩ := id hD
    have key : ∀ Y : Nat, Y = (1 + sumN (fun j => nO N t j + nM N (nP N t j)) (nC N t) 0) + (if nA N t = 0 then 0 else 2) → wb_X3_measureAdditions_20 o (fun μ42 => wb_X3_measure_73 o kd post μ42) (oS μ0 o (kd (nK N t)) pr ar (nlo N t) (nhi N t) (nI (nW N t)) om (nI (1 + sumN (fun j => if nO N t j = 1 then 1 else nF N (nP N t j)) (nC N t) 0)) (nI Y) (nI (1 + sumN (fun j => nO N t j + nL N (nP N t j)) (nC N t) 0))) := by
      intro Y eY
      subst eY
      refine ⟨nA N t + 1, cm_adds hD (nA N t) 0 _ _ (by omega) ?_⟩
      unfold meF meM meL at f73
      rw [h2] at f73 ⊢
      exact f73
    refine ⟨_, _, oS_o, rfl, ⟨_, oS_R ho c1⟩, t_size (oS_R ho c1) ⟨fun h => key _ ?_, fun h => ⟨_, _, oS_o, rfl, _, oS_o, by simp, fun μ15 e => ?_⟩⟩⟩
    · rw [show (0 : Int32) = nI 0 from rfl, q_le (by omega) (by omega)] at h
      rw [if_pos (by omega)]; rfl
    · rw [show (0 : Int32) = nI 0 from rfl, q_le (by omega) (by omega)] at h
      have e' : μ15 = oS μ0 o (kd (nK N t)) pr ar (nlo N t) (nhi N t) (nI (nW N t)) om (nI (1 + sumN (fun j => if nO N t j = 1 then 1 else nF N (nP N t j)) (nC N t) 0)) (nI ((1 + sumN (fun j => nO N t j + nM N (nP N t j)) (nC N t) 0) + 2)) (nI (1 + sumN (fun j => nO N t j + nL N (nP N t j)) (nC N t) 0)) := by
        rw [e, q_l2, ← nI_add (1 + sumN (fun j => nO N t j + nM N (nP N t j)) (nC N t) 0) 2]; exact oS_u
      clear e; subst e'
      exact key _ (by rw [if_neg (by omega)])
  · rw [q_kd hkd hK (by omega)] at h3
    refine ⟨nC N t + 1, cm_choices hC (nC N t) 0 240 0 0 (by omega) (by omega) (by omega) (by omega) ?_⟩
    rw [nI_add, nI_add, nI_add]
    unfold meF meM meL at f73
    rw [h3] at f73 ⊢
    exact f73
  · rw [q_kd hkd hK (by omega)] at h1
    obtain ⟨hC1, a, b, ea, eb, hab, hb⟩ := hwf.2.2.2.2.2.2.1 h1
    refine cm_things hC hC1 ?_
    unfold meF meM meL at f73
    rw [h1] at f73 ⊢
    simp only [] at f73
    rw [ea, eb, nI_clamp (by omega), nI_clamp (by omega)] at f73
    rw [ea, eb, pk_mul, pk_mul, pk_mul, nI_add, nI_add, nI_add]
    exact f73
/-! THE REFERENCE'S measureAll: exact up to the first type that is too long -/
section MAL
variable {N : NT} {nt t0 : Nat} {σ : Nat → Int32}
/-- up to t0 all measures are right and in bounds; at t0, if it is a type, they are too great -/
def NUp (N : NT) (nt t0 : Nat) : Prop := t0 ≤ nt ∧ NBd N t0 ∧ NMe N t0 ∧ (t0 < nt → ¬ (meM N t0 ≤ 240 ∧ meL N t0 ≤ 240))
end MAL
