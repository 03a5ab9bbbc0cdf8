/-! THE CLASS'S MEASURES -/
def oS (μ0 : Mm) (o k pr ar : Nat) (lo hi w om x y z : Int32) : Mm := ups μ0 o (eO 2 [.ref k, .int lo, .int hi, .int w, .ref pr, .int om, .ref ar, .int x, .int y, .int z])
theorem q_ifn {a b : Nat} (ha : a < 2 ^ 20) (hb : b < 2 ^ 20) : (if nI a < nI b then nI a else nI b) = nI (if a < b then a else b) := by
  by_cases h : a < b
  · rw [if_pos h, if_pos (by rw [q_lt (by omega) (by omega)]; exact h)]
  · rw [if_neg h, if_neg (by rw [q_lt (by omega) (by omega)]; exact h)]
theorem q_ifx {a b : Nat} (ha : a < 2 ^ 20) (hb : b < 2 ^ 20) : (if nI a < nI b then nI b else nI a) = nI (if a < b then b else a) := by
  by_cases h : a < b
  · rw [if_pos h, if_pos (by rw [q_lt (by omega) (by omega)]; exact h)]
  · rw [if_neg h, if_neg (by rw [q_lt (by omega) (by omega)]; exact h)]
/-- what the parts of a type are, for its measures -/
def CM (μ0 : Mm) (o pr C : Nat) (F M L : Nat → Nat) : Prop := (∃ v, μ0 o = some (eO 2 v)) ∧ ∃ pi pn pf, μ0 pr = some (eO 3 [.ref pi, .int (nI C)]) ∧ μ0 pi = some (eT pn pf) ∧ C ≤ pn ∧ pn ≤ 6 ∧ ∀ j, j < C → ∃ q a b c d e f g, pf j = some q ∧ q ≠ o ∧ μ0 q = some (eO 2 [a, b, c, d, e, f, g, .int (nI (F j)), .int (nI (M j)), .int (nI (L j))]) ∧ F j ≤ 240 ∧ M j ≤ 240 ∧ L j ≤ 240
section CMS
variable {μ0 : Mm} {o k pr ar C : Nat} {lo hi w om : Int32} {F M L : Nat → Nat}
theorem oS_o {x y z : Int32} : oS μ0 o k pr ar lo hi w om x y z o = some (eO 2 [.ref k, .int lo, .int hi, .int w, .ref pr, .int om, .ref ar, .int x, .int y, .int z]) := ups_s
theorem oS_n {a : Nat} {x y z : Int32} (h : a ≠ o) : oS μ0 o k pr ar lo hi w om x y z a = μ0 a := ups_n h
theorem oS_u {x y z x' y' z' : Int32} : ups (oS μ0 o k pr ar lo hi w om x y z) o (eO 2 [.ref k, .int lo, .int hi, .int w, .ref pr, .int om, .ref ar, .int x', .int y', .int z']) = oS μ0 o k pr ar lo hi w om x' y' z' := q_ups_ss
theorem oS_R {v : List Value} {u : List Value} {a : Nat} {x y z : Int32} (ho : μ0 o = some (eO 2 v)) (ha : μ0 a = some (eO 3 u)) : oS μ0 o k pr ar lo hi w om x y z a = some (eO 3 u) := by
  rw [oS_n (q_ne ha ho (by simp)), ha]
theorem oS_A {v : List Value} {c : Nat} {u : Nat → Option Nat} {a : Nat} {x y z : Int32} (ho : μ0 o = some (eO 2 v)) (ha : μ0 a = some (eT c u)) : oS μ0 o k pr ar lo hi w om x y z a = some (eT c u) := by
  rw [oS_n (q_ne ha ho (by simp)), ha]
theorem cm_things {x y z : Int32} {post : Mm → Prop} (hC : CM μ0 o pr C F M L) (h1 : C = 1) (hp : post (oS μ0 o k pr ar lo hi w om (x + lo * nI (F 0)) (y + hi * nI (M 0)) (z + hi * nI (L 0)))) : wp_X3_measureThings o (oS μ0 o k pr ar lo hi w om x y z) post := by
  obtain ⟨⟨v, ho⟩, pi, pn, pf, c1, c2, c3, c4, c5⟩ := hC
  obtain ⟨q, a, b, c, d, e, f, g, e1, e2, e3, _⟩ := c5 0 (by omega)
  have hq : ∀ x y z : Int32, oS μ0 o k pr ar lo hi w om x y z q = some (eO 2 [a, b, c, d, e, f, g, .int (nI (F 0)), .int (nI (M 0)), .int (nI (L 0))]) := fun x y z => (oS_n e2).trans e3
  refine ⟨_, _, oS_o, rfl, ⟨_, oS_R ho c1⟩, t_at (j := 0) (oS_R ho c1) (oS_A ho c2) c3 (by omega) (by omega) ⟨fun h => ?_, fun a8 ha8 => ?_⟩⟩
  · rw [e1] at h; cases h
  · rw [e1] at ha8
    cases ha8
    refine ⟨_, _, oS_o, rfl, _, _, oS_o, rfl, _, _, hq _ _ _, rfl, _, oS_o, by simp, fun μ24 e => ?_⟩
    have e' : μ24 = oS μ0 o k pr ar lo hi w om (x + lo * nI (F 0)) y z := by rw [e]; exact oS_u
    clear e; subst e'
    refine ⟨_, _, oS_o, rfl, _, _, oS_o, rfl, _, _, hq _ _ _, rfl, _, oS_o, by simp, fun μ41 e => ?_⟩
    have e' : μ41 = oS μ0 o k pr ar lo hi w om (x + lo * nI (F 0)) (y + hi * nI (M 0)) z := by rw [e]; exact oS_u
    clear e; subst e'
    refine ⟨_, _, oS_o, rfl, _, _, oS_o, rfl, _, _, hq _ _ _, rfl, _, oS_o, by simp, fun μ58 e => ?_⟩
    have e' : μ58 = oS μ0 o k pr ar lo hi w om (x + lo * nI (F 0)) (y + hi * nI (M 0)) (z + hi * nI (L 0)) := by rw [e]; exact oS_u
    clear e; subst e'
    exact hp
theorem cm_choices {x y z : Int32} {post : Mm → Prop} (hC : CM μ0 o pr C F M L) : ∀ (i j a b c : Nat), j + i = C → a < 2 ^ 20 → b < 2 ^ 20 → c < 2 ^ 20 → post (oS μ0 o k pr ar lo hi w om (x + nI (minL F i j a)) (y + nI (maxL M i j b)) (z + nI (maxL L i j c))) → wb_X3_measureChoices_11 o post (i + 1) (nI a) (nI b) (nI c) (nI j) (oS μ0 o k pr ar lo hi w om x y z) := by
  obtain ⟨⟨v, ho⟩, pi, pn, pf, c1, c2, c3, c4, c5⟩ := hC
  intro i
  induction i with
  | zero =>
    intro j a b c hj ha hb hc hp
    refine ⟨_, _, oS_o, rfl, ⟨_, oS_R ho c1⟩, t_size (oS_R ho c1) ⟨fun _ => ⟨_, _, oS_o, rfl, _, oS_o, by simp, fun μ15 e => ?_⟩, fun h => ?_⟩⟩
    · have e' : μ15 = oS μ0 o k pr ar lo hi w om (x + nI a) y z := by rw [e]; exact oS_u
      clear e; subst e'
      refine ⟨_, _, oS_o, rfl, _, oS_o, by simp, fun μ24 e => ?_⟩
      have e' : μ24 = oS μ0 o k pr ar lo hi w om (x + nI a) (y + nI b) z := by rw [e]; exact oS_u
      clear e; subst e'
      refine ⟨_, _, oS_o, rfl, _, oS_o, by simp, fun μ33 e => ?_⟩
      have e' : μ33 = oS μ0 o k pr ar lo hi w om (x + nI a) (y + nI b) (z + nI c) := by rw [e]; exact oS_u
      clear e; subst e'
      exact hp
    · rw [q_le (by omega) (by omega)] at h; omega
  | succ i ih =>
    intro j a b c hj ha hb hc hp
    obtain ⟨q, a1, b1, c1', d1, e1', f1, g1, e1, e2, e3, e4, e5, e6⟩ := c5 j (by omega)
    have hq : ∀ x y z : Int32, oS μ0 o k pr ar lo hi w om x y z q = some (eO 2 [a1, b1, c1', d1, e1', f1, g1, .int (nI (F j)), .int (nI (M j)), .int (nI (L j))]) := fun x y z => (oS_n e2).trans e3
    refine ⟨_, _, oS_o, rfl, ⟨_, oS_R ho c1⟩, t_size (oS_R ho c1) ⟨fun h => ?_, fun _ => ⟨_, _, oS_o, rfl, ⟨_, oS_R ho c1⟩, t_at (oS_R ho c1) (oS_A ho c2) c3 (by omega) (by omega) ⟨fun h => ?_, fun a42 ha => ?_⟩⟩⟩⟩
    · rw [q_le (by omega) (by omega)] at h; omega
    · rw [e1] at h; cases h
    · rw [e1] at ha
      cases ha
      refine ⟨_, _, hq _ _ _, rfl, _, _, hq _ _ _, rfl, _, _, hq _ _ _, rfl, ?_⟩
      rw [q_ifn (by omega) (by omega), q_ifx (by omega) (by omega), q_ifx (by omega) (by omega), ← nI_succ]
      exact ih (j + 1) _ _ _ (by omega) (by split <;> omega) (by split <;> omega) (by split <;> omega) hp
end CMS
