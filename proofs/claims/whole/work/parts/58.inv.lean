/-! THE INVARIANT: one value, held by the class and by the reference -/
/-- a type in the class's memory, by roles -/
def TyR (kd ad : Nat → Nat) (N : NT) (C : Mm) (s : Nat) : Prop := ∃ om pn pf an af, C (20 + 5 * s) = some (eO 2 [.ref (kd (nK N s)), .int (nlo N s), .int (nhi N s), .int (nI (nW N s)), .ref (ad (21 + 5 * s)), .int om, .ref (ad (23 + 5 * s)), .int (nI (nF N s)), .int (nI (nM N s)), .int (nI (nL N s))]) ∧
  C (21 + 5 * s) = some (eO 3 [.ref (ad (22 + 5 * s)), .int (nI (nC N s))]) ∧ C (22 + 5 * s) = some (eT pn pf) ∧ nC N s ≤ pn ∧ pn ≤ 6 ∧ (∀ k, k < nC N s → pf k = some (ad (20 + 5 * nP N s k))) ∧ (nK N s = 2 → ∀ k, k < nC N s → msk om k = nI (nO N s k)) ∧
  C (23 + 5 * s) = some (eO 3 [.ref (ad (24 + 5 * s)), .int (nI (nA N s))]) ∧ C (24 + 5 * s) = some (eT an af) ∧ nA N s ≤ an ∧ an ≤ 3 ∧ (nK N s = 2 → an = 3) ∧ (∀ k, k < nA N s → af k = some (ad (20 + 5 * nD N s k)))
/-- the class's memory -/
def CI (kd ad : Nat → Nat) (N : NT) (nt tn bn dc : Nat) (T : Nat → Int32) (b dp dq : Nat → Nat) (dm : Int32) (C : Mm) : Prop :=
  C 0 = some (eO 5 [.ref (ad 1), .ref (ad 3), .ref (ad 5), .ref (ad 7), .ref (ad 10), .ref (ad 13), .int dm]) ∧
  (C 1 = some (eO 3 [.ref (ad 2), .int (nI nt)]) ∧ ∃ nf, C 2 = some (eT 16 nf) ∧ ∀ s, s < nt → nf s = some (ad (20 + 5 * s))) ∧
  (C 3 = some (eO 1 [.ref (ad 4), .int (nI tn)]) ∧ C 4 = some (eI 300 T)) ∧
  (C 5 = some (eO 1 [.ref (ad 6), .int (nI bn)]) ∧ ∃ f, C 6 = some (eI 240 f) ∧ ∀ i, i < bn → f i = nI (b i)) ∧
  (∃ p w n f, n ≤ 240 ∧ C 7 = some (eO 4 [.ref (ad 8), .int (nI p), .int w]) ∧ C 8 = some (eO 1 [.ref (ad 9), .int (nI n)]) ∧ C 9 = some (eI 240 f)) ∧
  (∃ k p w n f, n ≤ 240 ∧ C 10 = some (eO 0 [.ref (ad 11), .int (nI k), .int (nI p), .int w]) ∧ C 11 = some (eO 1 [.ref (ad 12), .int (nI n)]) ∧ C 12 = some (eI 240 f)) ∧
  (C 13 = some (eO 3 [.ref (ad 14), .int (nI dc)]) ∧ ∃ df, C 14 = some (eT 6 df) ∧ ∀ k, k < dc → df k = some (ad (20 + 5 * dp k))) ∧
  (∀ k, k < 6 → msk dm k = nI (if k < dc then dq k else 0)) ∧ (∀ s, s < nt → TyR kd ad N C s) ∧ ∀ r, 20 + 5 * nt ≤ r → C r = none
/-- the reference's state -/
def MI (N : NT) (nt tn bn dc : Nat) (T : Nat → Int32) (b dp dq : Nat → Nat) (σ : Nat → Int32) (α : Nat → Nat → Int32) : Prop :=
  σ 1 = nI nt ∧ NMo N nt α ∧ MEx N nt α ∧ σ 14 = nI tn ∧ α 15 = T ∧ σ 16 = nI bn ∧ (∀ i, i < bn → α 17 i = nI (b i)) ∧ σ 12 = nI dc ∧ ∀ k, k < dc → α 13 k = nI (dp k + 100 * dq k)
def VI (N : NT) (nt tn bn dc : Nat) (b dp dq : Nat → Nat) : Prop := nt ≤ 16 ∧ NWf N nt ∧ NBd N nt ∧ NMe N nt ∧ NFM N nt ∧ tn ≤ 300 ∧ bn ≤ 240 ∧ (∀ i, b i ≤ 1) ∧ dc ≤ 6 ∧ ∀ k, k < dc → dp k < nt ∧ dq k ≤ 1
/-- the class holds these values -/
def KI (kd : Nat → Nat) (x out : Nat) (N : NT) (nt tn bn dc : Nat) (T : Nat → Int32) (b dp dq : Nat → Nat) (μ : Mm) : Prop := ∃ ad C dm, Rp μ ad C ∧ ad 0 = x ∧ ad 15 = out ∧ (∃ g, C 15 = some (eL 1 g)) ∧ CI kd ad N nt tn bn dc T b dp dq dm C
def II (kd : Nat → Nat) (x out : Nat) (μ : Mm) (σ : Nat → Int32) (α : Nat → Nat → Int32) : Prop := ∃ N nt tn bn dc T b dp dq, KI kd x out N nt tn bn dc T b dp dq μ ∧ MI N nt tn bn dc T b dp dq σ α ∧ VI N nt tn bn dc b dp dq
/-- the answer is laid into out -/
theorem KI.out {kd : Nat → Nat} {x out : Nat} {N : NT} {nt tn bn dc : Nat} {T : Nat → Int32} {b dp dq : Nat → Nat} {μ : Mm} (h : KI kd x out N nt tn bn dc T b dp dq μ) (v : Int32) {post : Int32 → Mm → Prop}
    (hp : ∀ μ7, KI kd x out N nt tn bn dc T b dp dq μ7 → (∃ n f, μ7 out = some (eL n f) ∧ vp_in (0 : Int32) n ∧ f (0 : Int32).toNatClampNeg = v.toInt64) → post 0 μ7) : ∃ n3 f4, μ out = some (eL n3 f4) ∧ vp_in (0 : Int32) n3 ∧ ∀ μ7, μ7 = ups μ out (eL n3 (vp_updL f4 (0 : Int32).toNatClampNeg v.toInt64)) → post 0 μ7 := by
  obtain ⟨ad, C, dm, hR, h0, h15, ⟨g, hg⟩, c0, c1, c3, c5, c7, c10, c13, cm, ct, cn⟩ := h
  have ho : μ out = some (eL 1 g) := by rw [← h15]; exact hR.get hg
  have hin : vp_in (0 : Int32) 1 := vp_in_nI (n := 0) (by omega) (by omega)
  refine ⟨1, g, ho, hin, fun μ7 e => ?_⟩
  subst e
  refine hp _ ?_ ⟨1, _, ups_s, hin, by simp [vp_updL]⟩
  rw [← h15]
  have u : ∀ r, r ≠ 15 → ups C 15 (eL 1 (vp_updL g (0 : Int32).toNatClampNeg v.toInt64)) r = C r := fun r hr => ups_n hr
  refine ⟨ad, _, dm, hR.put _ hg, h0, rfl, ⟨_, ups_s⟩, ?_⟩
  unfold CI TyR at *
  obtain ⟨n2, c2⟩ := c1
  refine ⟨by rw [u 0 (by omega)]; exact c0, ⟨by rw [u 1 (by omega)]; exact n2, by rw [u 2 (by omega)]; exact c2⟩, ⟨by rw [u 3 (by omega)]; exact c3.1, by rw [u 4 (by omega)]; exact c3.2⟩, ⟨by rw [u 5 (by omega)]; exact c5.1, by rw [u 6 (by omega)]; exact c5.2⟩, by rw [u 7 (by omega), u 8 (by omega), u 9 (by omega)]; exact c7, by rw [u 10 (by omega), u 11 (by omega), u 12 (by omega)]; exact c10, ⟨by rw [u 13 (by omega)]; exact c13.1, by rw [u 14 (by omega)]; exact c13.2⟩, cm, fun s hs => ?_, fun r hr => by rw [u r (by omega)]; exact cn r hr⟩
  have := ct s hs
  rw [u (20 + 5 * s) (by omega), u (21 + 5 * s) (by omega), u (22 + 5 * s) (by omega), u (23 + 5 * s) (by omega), u (24 + 5 * s) (by omega)]
  exact this
