/-! THE REFERENCE over a tale: leaves -/
theorem q_us {σ : Nat → Int32} {k : Nat} {x : Int32} : upd σ k x k = x := pk_us
theorem q_uu {σ : Nat → Int32} {k : Nat} {x y : Int32} : upd (upd σ k x) k y = upd σ k y := by
  funext j; by_cases h : j = k <;> simp [upd, h]
theorem q_uid {σ : Nat → Int32} {k : Nat} {x : Int32} (h : σ k = x) : upd σ k x = σ := by
  funext j; by_cases h2 : j = k
  · subst h2; simp [upd, h]
  · simp [upd, h2]
def wl (iw : Int32) (bs : List Int32) : List Int32 := if iw = 0 then [] else bs
theorem wl_app (iw : Int32) (as bs : List Int32) : wl iw (as ++ bs) = wl iw as ++ wl iw bs := by
  unfold wl; split <;> simp
section ML
variable {σ : Nat → Int32} {α : Nat → Nat → Int32} {N : NT} {nt : Nat}
end ML
/-! THE REFERENCE over a tale: the head of a sequence -/
theorem q_shl0 : ∀ k, k < 32 → (nI 0 : Int32) <<< (nI k &&& 31) = nI 0 := by decide
theorem q_or0 (x : Int32) : x ||| nI 0 = x := by
  apply Int32.toBitVec_inj.mp; simp [nI]
section MH
variable {N : NT} {nt : Nat} {iw : Int32} {t δ tn : Nat} {T : Nat → Int32}
end MH
/-! THE REFERENCE over a tale: the run -/
def FB (iw : Int32) (σ : Nat → Int32) (α : Nat → Nat → Int32) (σ' : Nat → Int32) (α' : Nat → Nat → Int32) : Prop := (∀ k, k ≠ 16 → k ≠ 20 → k ≠ 28 → k ≠ 29 → σ' k = σ k) ∧ (∀ a, a < 21 → a ≠ 17 → α' a = α a) ∧ (iw = 0 → σ' 16 = σ 16 ∧ α' 17 = α 17)
def MS (δ w : Nat) (bs : List Int32) (σ : Nat → Int32) (α : Nat → Nat → Int32) (σ' : Nat → Int32) (α' : Nat → Nat → Int32) : Prop := (∀ k, k ≠ 16 → k ≠ 20 → k ≠ 28 → k ≠ 29 → σ' k = σ k) ∧ (∀ a, a < 21 → a ≠ 17 → α' a = α a) ∧ α' 17 = apL (α 17) w bs ∧ σ' 16 = nI (w + bs.length) ∧ (∀ a j, a ≠ 17 → j < δ → α' a j = α a j)
theorem MS.trans {δ δ2 w : Nat} {as bs : List Int32} {σ σ1 σ2 : Nat → Int32} {α α1 α2 : Nat → Nat → Int32} (hδ : δ ≤ δ2) (h1 : MS δ w as σ α σ1 α1) (h2 : MS δ2 (w + as.length) bs σ1 α1 σ2 α2) : MS δ w (as ++ bs) σ α σ2 α2 := by
  obtain ⟨a1, a2, a3, a4, a5⟩ := h1
  obtain ⟨b1, b2, b3, b4, b5⟩ := h2
  refine ⟨fun k h1 h2 h3 h4 => (b1 k h1 h2 h3 h4).trans (a1 k h1 h2 h3 h4), fun a h1 h2 => (b2 a h1 h2).trans (a2 a h1 h2), ?_, ?_, fun a j h1 h2 => (b5 a j h1 (by omega)).trans (a5 a j h1 h2)⟩
  · rw [b3, a3, apL_app]
  · rw [b4, List.length_append, Nat.add_assoc]
theorem MS.fb {iw : Int32} {δ w : Nat} {bs : List Int32} {σ σ' : Nat → Int32} {α α' : Nat → Nat → Int32} (h : MS δ w (wl iw bs) σ α σ' α') (h16 : σ 16 = nI w) : FB iw σ α σ' α' := by
  obtain ⟨a1, a2, a3, a4, a5⟩ := h
  refine ⟨a1, a2, fun e => ?_⟩
  simp only [wl, if_pos e, apL_nil, List.length_nil, Nat.add_zero] at a3 a4
  exact ⟨by rw [a4, h16], a3⟩
theorem FB.trans {iw : Int32} {σ σ1 σ2 : Nat → Int32} {α α1 α2 : Nat → Nat → Int32} (h1 : FB iw σ α σ1 α1) (h2 : FB iw σ1 α1 σ2 α2) : FB iw σ α σ2 α2 :=
  ⟨fun k e1 e2 e3 e4 => (h2.1 k e1 e2 e3 e4).trans (h1.1 k e1 e2 e3 e4), fun a e1 e2 => (h2.2.1 a e1 e2).trans (h1.2.1 a e1 e2), fun e => ⟨(h2.2.2 e).1.trans (h1.2.2 e).1, (h2.2.2 e).2.trans (h1.2.2 e).2⟩⟩
theorem wl_nil (iw : Int32) : wl iw [] = [] := by unfold wl; split <;> rfl
theorem wl_le (iw : Int32) (bs : List Int32) : (wl iw bs).length ≤ bs.length := by unfold wl; split <;> simp
theorem wl_0 {iw : Int32} (h : iw ≠ 1) (hiw : iw = 0 ∨ iw = 1) (bs : List Int32) : wl iw bs = [] := by
  rcases hiw with e | e
  · simp [wl, e]
  · exact absurd e h
section MR
variable {post : Int32 → (Nat → Int32) → (Nat → Nat → Int32) → Prop} {iw : Int32}
end MR
section MG
variable {post : Int32 → (Nat → Int32) → (Nat → Nat → Int32) → Prop} {N : NT} {nt : Nat} {iw : Int32} {t δ tn : Nat} {T : Nat → Int32}
end MG
/-! THE REFERENCE over a tale: the induction -/
theorem MS.mono {δ δ2 w : Nat} {bs : List Int32} {σ σ1 : Nat → Int32} {α α1 : Nat → Nat → Int32} (hδ : δ ≤ δ2) (h : MS δ2 w bs σ α σ1 α1) : MS δ w bs σ α σ1 α1 := ⟨h.1, h.2.1, h.2.2.1, h.2.2.2.1, fun a j h1 h2 => h.2.2.2.2 a j h1 (by omega)⟩
section MV
variable {post : Int32 → (Nat → Int32) → (Nat → Nat → Int32) → Prop} {N : NT} {nt : Nat} {iw : Int32} {tn : Nat} {T : Nat → Int32}
end MV
/-! THE REFERENCE over a tale: all of it -/
theorem MS.refl {δ w : Nat} {σ : Nat → Int32} {α : Nat → Nat → Int32} (h : σ 16 = nI w) : MS δ w [] σ α σ α := ⟨fun _ _ _ _ _ => rfl, fun _ _ _ => rfl, apL_nil.symm, h, fun _ _ _ _ => rfl⟩
section MY
variable {post : Int32 → (Nat → Int32) → (Nat → Nat → Int32) → Prop} {N : NT} {nt : Nat} {iw : Int32} {tn : Nat} {T : Nat → Int32}
end MY
