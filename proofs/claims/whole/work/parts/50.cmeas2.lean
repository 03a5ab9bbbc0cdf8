/-! THE CLASS'S MEASURES: sequences, and all -/
section CMT
variable {μ0 : Mm} {o k pr ar C A : Nat} {lo hi w om : Int32} {F M L O Fd Md Ld : Nat → Nat}
theorem cm_parts {post : Mm → Prop} (hC : CM μ0 o pr C F M L) (hO : ∀ j, j < C → msk om j = nI (O j) ∧ O j ≤ 1) : ∀ (i j X Y Z : Nat), j + i = C → post (oS μ0 o k pr ar lo hi w om (nI (X + sumN (fun j => if O j = 1 then 1 else F j) i j)) (nI (Y + sumN (fun j => O j + M j) i j)) (nI (Z + sumN (fun j => O j + L j) i j))) → wb_X3_measureParts_12 o post (i + 1) (nI j) (oS μ0 o k pr ar lo hi w om (nI X) (nI Y) (nI Z)) := by
  obtain ⟨⟨v, ho⟩, pi, pn, pf, c1, c2, c3, c4, c5⟩ := hC
  intro i
  induction i with
  | zero =>
    intro j X Y Z hj hp
    refine ⟨_, _, oS_o, rfl, ⟨_, oS_R ho c1⟩, t_size (oS_R ho c1) ⟨fun _ => hp, fun h => ?_⟩⟩
    rw [q_le (by omega) (by omega)] at h; omega
  | succ i ih =>
    intro j X Y Z hj hp
    obtain ⟨q, a1, b1, c1', d1, e1', f1, g1, e1, e2, e3, e4, e5, e6⟩ := c5 j (by omega)
    have hq : ∀ x y z : Int32, oS μ0 o k pr ar lo hi w om x y z q = some (eO 2 [a1, b1, c1', d1, e1', f1, g1, .int (nI (F j)), .int (nI (M j)), .int (nI (L j))]) := fun x y z => (oS_n e2).trans e3
    obtain ⟨hm, hO1⟩ := hO j (by omega)
    rw [sumN, sumN, sumN, ← Nat.add_assoc X (if O j = 1 then 1 else F j), ← Nat.add_assoc Y (O j + M j), ← Nat.add_assoc Z (O j + L j)] at hp
    have c71 : ∀ s0 : Int32, s0 = nI (if O j = 1 then 1 else F j) → wb_X3_measureParts_71 o post (wb_X3_measureParts_12 o post (i + 1)) (nI j) q (nI (O j)) s0 (nI X) (oS μ0 o k pr ar lo hi w om (nI X) (nI Y) (nI Z)) := by
      intro s0 es
      refine ⟨_, oS_o, by simp, fun μ51 e => ?_⟩
      have e' : μ51 = oS μ0 o k pr ar lo hi w om (nI (X + if O j = 1 then 1 else F j)) (nI Y) (nI Z) := by rw [e, es, nI_add X]; exact oS_u
      clear e; subst e'
      refine ⟨_, _, oS_o, rfl, _, _, hq _ _ _, rfl, _, oS_o, by simp, fun μ64 e => ?_⟩
      have e' : μ64 = oS μ0 o k pr ar lo hi w om (nI (X + if O j = 1 then 1 else F j)) (nI (Y + (O j + M j))) (nI Z) := by rw [e, nI_add (O j), nI_add Y]; exact oS_u
      clear e; subst e'
      refine ⟨_, _, oS_o, rfl, _, _, hq _ _ _, rfl, _, oS_o, by simp, fun μ77 e => ?_⟩
      have e' : μ77 = oS μ0 o k pr ar lo hi w om (nI (X + if O j = 1 then 1 else F j)) (nI (Y + (O j + M j))) (nI (Z + (O j + L j))) := by rw [e, nI_add (O j), nI_add Z]; exact oS_u
      clear e; subst e'
      rw [← nI_succ]
      exact ih (j + 1) _ _ _ (by omega) hp
    have c49 : ∀ s0 : Int32, s0 = nI (O j) → wb_X3_measureParts_49 o post (wb_X3_measureParts_12 o post (i + 1)) (nI j) q s0 (oS μ0 o k pr ar lo hi w om (nI X) (nI Y) (nI Z)) := by
      intro s0 es
      subst es
      refine ⟨_, _, oS_o, rfl, ⟨_, oS_o⟩, w_opt oS_o hm hO1 (fun h1 => ⟨fun h => absurd h (by decide), fun _ => c71 _ (by rw [if_pos h1]; rfl)⟩) (fun h0 => ⟨fun _ => ⟨_, _, hq _ _ _, rfl, c71 _ (by rw [if_neg (by omega)])⟩, fun h => absurd rfl h⟩)⟩
    refine ⟨_, _, oS_o, rfl, ⟨_, oS_R ho c1⟩, t_size (oS_R ho c1) ⟨fun h => ?_, fun _ => ⟨_, _, oS_o, rfl, ⟨_, oS_R ho c1⟩, t_at (oS_R ho c1) (oS_A ho c2) c3 (by omega) (by omega) ⟨fun h => ?_, fun a25 ha => ?_⟩⟩⟩⟩
    · rw [q_le (by omega) (by omega)] at h; omega
    · rw [e1] at h; cases h
    · rw [e1] at ha
      cases ha
      exact ⟨⟨_, oS_o⟩, w_opt oS_o hm hO1 (fun h1 => ⟨fun h => absurd h (by decide), fun _ => c49 _ (by rw [h1]; rfl)⟩) (fun h0 => ⟨fun _ => c49 _ (by rw [h0]; rfl), fun h => absurd rfl h⟩)⟩
theorem cm_adds {x : Int32} {post : Mm → Prop} (hC : CM μ0 o ar A Fd Md Ld) : ∀ (i j Y Z : Nat), j + i = A → post (oS μ0 o k pr ar lo hi w om x (nI (Y + sumN (fun j => 8 + Md j) i j)) (nI (Z + sumN Ld i j))) → wb_X3_measureAdditions_22 o post (i + 1) (nI j) (oS μ0 o k pr ar lo hi w om x (nI Y) (nI Z)) := by
  obtain ⟨⟨v, ho⟩, pi, pn, pf, c1, c2, c3, c4, c5⟩ := hC
  intro i
  induction i with
  | zero =>
    intro j Y Z hj hp
    refine ⟨_, _, oS_o, rfl, ⟨_, oS_R ho c1⟩, t_size (oS_R ho c1) ⟨fun _ => hp, fun h => ?_⟩⟩
    rw [q_le (by omega) (by omega)] at h; omega
  | succ i ih =>
    intro j Y Z hj hp
    obtain ⟨q, a1, b1, c1', d1, e1', f1, g1, e1, e2, e3, e4, e5, e6⟩ := c5 j (by omega)
    have hq : ∀ x y z : Int32, oS μ0 o k pr ar lo hi w om x y z q = some (eO 2 [a1, b1, c1', d1, e1', f1, g1, .int (nI (Fd j)), .int (nI (Md j)), .int (nI (Ld j))]) := fun x y z => (oS_n e2).trans e3
    rw [sumN, sumN, ← Nat.add_assoc Y (8 + Md j), ← Nat.add_assoc Z (Ld j)] at hp
    refine ⟨_, _, oS_o, rfl, ⟨_, oS_R ho c1⟩, t_size (oS_R ho c1) ⟨fun h => ?_, fun _ => ⟨_, _, oS_o, rfl, ⟨_, oS_R ho c1⟩, t_at (oS_R ho c1) (oS_A ho c2) c3 (by omega) (by omega) ⟨fun h => ?_, fun a33 ha => ?_⟩⟩⟩⟩
    · rw [q_le (by omega) (by omega)] at h; omega
    · rw [e1] at h; cases h
    · rw [e1] at ha
      cases ha
      refine ⟨_, _, oS_o, rfl, _, _, hq _ _ _, rfl, _, oS_o, by simp, fun μ45 e => ?_⟩
      have e' : μ45 = oS μ0 o k pr ar lo hi w om x (nI (Y + (8 + Md j))) (nI Z) := by rw [e, q_l8, nI_add 8, nI_add Y]; exact oS_u
      clear e; subst e'
      refine ⟨_, _, oS_o, rfl, _, _, hq _ _ _, rfl, _, oS_o, by simp, fun μ58 e => ?_⟩
      have e' : μ58 = oS μ0 o k pr ar lo hi w om x (nI (Y + (8 + Md j))) (nI (Z + Ld j)) := by rw [e, nI_add Z]; exact oS_u
      clear e; subst e'
      rw [← nI_succ]
      exact ih (j + 1) _ _ (by omega) hp
end CMT
