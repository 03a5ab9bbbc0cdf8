/-! OPERATIONS: those that only ask -/
section OP
variable {kd : Nat → Nat} {x out : Nat}
theorem MI.s0 {N : NT} {nt tn bn dc : Nat} {T : Nat → Int32} {b dp dq : Nat → Nat} {σ σ' : Nat → Int32} {α : Nat → Nat → Int32} (h : MI N nt tn bn dc T b dp dq σ α) (e : ∀ k, k ≠ 0 → σ' k = σ k) : MI N nt tn bn dc T b dp dq σ' α := by
  unfold MI at *
  rw [e 1 (by omega), e 14 (by omega), e 16 (by omega), e 12 (by omega)]
  exact h
theorem KI.at0 {N : NT} {nt tn bn dc : Nat} {T : Nat → Int32} {b dp dq : Nat → Nat} {μ : Mm} (h : KI kd x out N nt tn bn dc T b dp dq μ) : ∃ a1 a3 a5 a7 a10 a13 dm, μ x = some (.inl (5, [.ref a1, .ref a3, .ref a5, .ref a7, .ref a10, .ref a13, .int dm])) ∧ (∃ ni nf, μ a1 = some (eO 3 [.ref ni, .int (nI nt)]) ∧ μ ni = some (eT 16 nf)) ∧ (∃ ti, μ a3 = some (eO 1 [.ref ti, .int (nI tn)]) ∧ μ ti = some (eI 300 T)) ∧ (∃ mi f, μ a5 = some (eO 1 [.ref mi, .int (nI bn)]) ∧ μ mi = some (eI 240 f) ∧ ∀ i, i < bn → f i = nI (b i)) := by
  obtain ⟨ad, C, dm, hR, h0, h15, ⟨g, hg⟩, c0, ⟨c1, nf, c2, c2'⟩, ⟨c3, c4⟩, ⟨c5, f, c6, c6'⟩, c7, c10, c13, cm, ct, cn⟩ := h
  refine ⟨ad 1, ad 3, ad 5, ad 7, ad 10, ad 13, dm, by rw [← h0]; exact hR.get c0, ⟨ad 2, nf, hR.get c1, hR.get c2⟩, ⟨ad 4, hR.get c3, hR.get c4⟩, ⟨ad 6, f, hR.get c5, hR.get c6, c6'⟩⟩
theorem p_types : op_6 kd x out (II kd x out) := by
  intro μ σ α ⟨N, nt, tn, bn, dc, T, b, dp, dq, hK, hM, hV⟩
  obtain ⟨a1, a3, a5, a7, a10, a13, dm, hx, ⟨ni, nf, h1, h2⟩, _, _⟩ := hK.at0
  refine ⟨⟨_, hx⟩, _, _, hx, rfl, ⟨_, h1⟩, t_size h1 (fun σ1 e => ?_)⟩
  subst e
  exact ⟨hM.1.symm, N, nt, tn, bn, dc, T, b, dp, dq, hK, hM.s0 (fun k hk => pk_un hk), hV⟩
theorem p_length : op_11 kd x out (II kd x out) := by
  intro μ σ α ⟨N, nt, tn, bn, dc, T, b, dp, dq, hK, hM, hV⟩
  obtain ⟨a1, a3, a5, a7, a10, a13, dm, hx, _, ⟨ti, h1, h2⟩, _⟩ := hK.at0
  refine ⟨⟨_, hx⟩, _, _, hx, rfl, ⟨_, h1⟩, k_size h1 (fun σ1 e => ?_)⟩
  subst e
  exact ⟨hM.2.2.2.1.symm, N, nt, tn, bn, dc, T, b, dp, dq, hK, hM.s0 (fun k hk => pk_un hk), hV⟩
theorem p_bits : op_15 kd x out (II kd x out) := by
  intro μ σ α ⟨N, nt, tn, bn, dc, T, b, dp, dq, hK, hM, hV⟩
  obtain ⟨a1, a3, a5, a7, a10, a13, dm, hx, _, _, ⟨mi, f, h1, h2, _⟩⟩ := hK.at0
  refine ⟨⟨_, hx⟩, _, _, hx, rfl, ⟨_, h1⟩, k_size h1 (fun σ1 e => ?_)⟩
  subst e
  exact ⟨hM.2.2.2.2.2.1.symm, N, nt, tn, bn, dc, T, b, dp, dq, hK, hM.s0 (fun k hk => pk_un hk), hV⟩
end OP
