/-! THE INVARIANT: one value, held by the class and by the reference -/
/-- a type in the class's memory, by roles -/
def TyR (kd ad : Nat → Nat) (N : NT) (C : Mm) (s : Nat) : Prop := ∃ om pn pf an af, C (20 + 5 * s) = some (eO 2 [.ref (kd (nK N s)), .int (nlo N s), .int (nhi N s), .int (nI (nW N s)), .ref (ad (21 + 5 * s)), .int om, .ref (ad (23 + 5 * s)), .int (nI (nF N s)), .int (nI (nM N s)), .int (nI (nL N s))]) ∧
  C (21 + 5 * s) = some (eO 3 [.ref (ad (22 + 5 * s)), .int (nI (nC N s))]) ∧ C (22 + 5 * s) = some (eT pn pf) ∧ nC N s ≤ pn ∧ pn ≤ 6 ∧ (∀ k, k < nC N s → pf k = some (ad (20 + 5 * nP N s k))) ∧ (nK N s = 2 → ∀ k, k < nC N s → msk om k = nI (nO N s k)) ∧
  C (23 + 5 * s) = some (eO 3 [.ref (ad (24 + 5 * s)), .int (nI (nA N s))]) ∧ C (24 + 5 * s) = some (eT an af) ∧ nA N s ≤ an ∧ an ≤ 3 ∧ (nK N s = 2 → an = 3) ∧ (∀ k, k < nA N s → af k = some (ad (20 + 5 * nD N s k)))
/-- the class's memory -/
def CI (kd ad : Nat → Nat) (N : NT) (nt tn bn dc : Nat) (T : Nat → Int32) (b dp dq : Nat → Nat) (dm : Int32) (C : Mm) : Prop :=
  C 0 = some (eO 5 [.ref (ad 1), .ref (ad 3), .ref (ad 5), .ref (ad 7), .ref (ad 10), .ref (ad 13), .int dm]) ∧
  (C 1 = some (eO 3 [.ref (ad 2), .int (nI nt)]) ∧ ∃ nf, C 2 = some (eT 16 nf) ∧ ∀ s, s < nt → nf s = some (ad (20 + 5 * s))) ∧
  (C 3 = some (eO 1 [.ref (ad 4), .int (nI tn)]) ∧ C 4 = some (eI 300 T)) ∧
  (C 5 = some (eO 1 [.ref (ad 6), .int (nI bn)]) ∧ ∃ f, C 6 = some (eI 240 f) ∧ ∀ i, i < bn → f i = nI (b i)) ∧
  (∃ p w n f, n ≤ 240 ∧ C 7 = some (eO 4 [.ref (ad 8), .int (nI p), .int w]) ∧ C 8 = some (eO 1 [.ref (ad 9), .int (nI n)]) ∧ C 9 = some (eI 240 f)) ∧
  (∃ k p w n f, n ≤ 240 ∧ C 10 = some (eO 0 [.ref (ad 11), .int (nI k), .int (nI p), .int w]) ∧ C 11 = some (eO 1 [.ref (ad 12), .int (nI n)]) ∧ C 12 = some (eI 240 f)) ∧
  (C 13 = some (eO 3 [.ref (ad 14), .int (nI dc)]) ∧ ∃ df, C 14 = some (eT 6 df) ∧ ∀ k, k < dc → df k = some (ad (20 + 5 * dp k))) ∧
  (∀ k, k < 6 → msk dm k = nI (if k < dc then dq k else 0)) ∧ (∀ s, s < nt → TyR kd ad N C s) ∧ ∀ r, 20 + 5 * nt ≤ r → C r = none
/-- the reference's state -/
def MI (N : NT) (nt tn bn dc : Nat) (T : Nat → Int32) (b dp dq : Nat → Nat) (σ : Nat → Int32) (α : Nat → Nat → Int32) : Prop :=
  σ 1 = nI nt ∧ NMo N nt α ∧ MEx N nt α ∧ σ 14 = nI tn ∧ α 15 = T ∧ σ 16 = nI bn ∧ (∀ i, i < bn → α 17 i = nI (b i)) ∧ σ 12 = nI dc ∧ ∀ k, k < dc → α 13 k = nI (dp k + 100 * dq k)
def VI (N : NT) (nt tn bn dc : Nat) (b dp dq : Nat → Nat) : Prop := nt ≤ 16 ∧ NWf N nt ∧ NBd N nt ∧ NMe N nt ∧ NFM N nt ∧ tn ≤ 300 ∧ bn ≤ 240 ∧ (∀ i, b i ≤ 1) ∧ dc ≤ 6 ∧ ∀ k, k < dc → dp k < nt ∧ dq k ≤ 1
def II (kd : Nat → Nat) (x out : Nat) (μ : Mm) (σ : Nat → Int32) (α : Nat → Nat → Int32) : Prop := ∃ N nt tn bn dc T b dp dq ad C dm, Rp μ ad C ∧ ad 0 = x ∧ ad 15 = out ∧ (∃ g, C 15 = some (eL 1 g)) ∧ CI kd ad N nt tn bn dc T b dp dq dm C ∧ MI N nt tn bn dc T b dp dq σ α ∧ VI N nt tn bn dc b dp dq
