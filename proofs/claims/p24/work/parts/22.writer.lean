/-! THE CLASS'S WRITER over a tale -/
def TyC (kd ty : Nat → Nat) (N : NT) (μ : Mm) (t : Nat) : Prop := ∃ pr pi pn pf om ar ai an af fb mb mn, μ (ty t) = some (eO 2 [.ref (kd (nK N t)), .int (nlo N t), .int (nhi N t), .int (nI (nW N t)), .ref pr, .int om, .ref ar, .int fb, .int mb, .int mn]) ∧
  μ pr = some (eO 3 [.ref pi, .int (nI (nC N t))]) ∧ μ pi = some (eT pn pf) ∧ nC N t ≤ pn ∧ pn ≤ 6 ∧ (∀ k, k < nC N t → pf k = some (ty (nP N t k))) ∧ (nK N t = 2 → ∀ k, k < nC N t → msk om k = nI (nO N t k)) ∧
  μ ar = some (eO 3 [.ref ai, .int (nI (nA N t))]) ∧ μ ai = some (eT an af) ∧ nA N t ≤ an ∧ an ≤ 3 ∧ (∀ k, k < nA N t → af k = some (ty (nD N t k)))
theorem q_kd {kd : Nat → Nat} (h : ∀ i j, i < 4 → j < 4 → kd i = kd j → i = j) {a b : Nat} (ha : a < 4) (hb : b < 4) : (some (kd a) = some (kd b)) = (a = b) :=
  propext ⟨fun e => h a b ha hb (Option.some.inj e), fun e => by rw [e]⟩
def wS (μ0 : Mm) (o r it p : Nat) (w : Int32) (n : Nat) (f : Nat → Int32) : Mm := ups (ups (ups μ0 it (eI 240 f)) r (eO 1 [.ref it, .int (nI n)])) o (eO 4 [.ref r, .int (nI p), .int w])
def WB (μ0 : Mm) (o r it ta ti tn : Nat) (T : Nat → Int32) : Prop := (∃ v, μ0 o = some (eO 4 v)) ∧ (∃ v, μ0 r = some (eO 1 v)) ∧ (∃ n f, μ0 it = some (eI n f)) ∧ μ0 ta = some (eO 1 [.ref ti, .int (nI tn)]) ∧ μ0 ti = some (eI 300 T) ∧ tn ≤ 300 ∧ ta ≠ r ∧ ti ≠ it
section WR
variable {μ0 : Mm} {o r it ta ti tn : Nat} {T : Nat → Int32}
theorem WB.rit (h : WB μ0 o r it ta ti tn T) : r ≠ it := by
  obtain ⟨⟨vo, ho⟩, ⟨vr, hr⟩, ⟨n, f, hi⟩, _⟩ := h
  exact q_ne hr hi (by simp)
theorem WB.oit (h : WB μ0 o r it ta ti tn T) : o ≠ it := by
  obtain ⟨⟨vo, ho⟩, ⟨vr, hr⟩, ⟨n, f, hi⟩, _⟩ := h
  exact q_ne ho hi (by simp)
theorem WB.or (h : WB μ0 o r it ta ti tn T) : o ≠ r := by
  obtain ⟨⟨vo, ho⟩, ⟨vr, hr⟩, ⟨n, f, hi⟩, _⟩ := h
  exact q_ne ho hr (by simp)
theorem wS_o {p n : Nat} {w : Int32} {f : Nat → Int32} : wS μ0 o r it p w n f o = some (eO 4 [.ref r, .int (nI p), .int w]) := ups_s
theorem wS_r (h : WB μ0 o r it ta ti tn T) {p n : Nat} {w : Int32} {f : Nat → Int32} : wS μ0 o r it p w n f r = some (eO 1 [.ref it, .int (nI n)]) := by
  rw [wS, ups_n h.or.symm]; exact ups_s
theorem wS_i (h : WB μ0 o r it ta ti tn T) {p n : Nat} {w : Int32} {f : Nat → Int32} : wS μ0 o r it p w n f it = some (eI 240 f) := by
  rw [wS, ups_n h.oit.symm, ups_n h.rit.symm]; exact ups_s
theorem wS_n {a p n : Nat} {w : Int32} {f : Nat → Int32} (h1 : a ≠ o) (h2 : a ≠ r) (h3 : a ≠ it) : wS μ0 o r it p w n f a = μ0 a := by
  rw [wS, ups_n h1, ups_n h2, ups_n h3]
theorem wS_T (h : WB μ0 o r it ta ti tn T) {a p n : Nat} {w : Int32} {f : Nat → Int32} {v : List Value} (ha : μ0 a = some (eO 2 v)) : wS μ0 o r it p w n f a = some (eO 2 v) := by
  obtain ⟨⟨vo, ho⟩, ⟨vr, hr⟩, ⟨n, f, hi⟩, _⟩ := h
  rw [wS_n (q_ne ha ho (by simp)) (q_ne ha hr (by simp)) (q_ne ha hi (by simp)), ha]
theorem wS_R (h : WB μ0 o r it ta ti tn T) {a p n : Nat} {w : Int32} {f : Nat → Int32} {v : List Value} (ha : μ0 a = some (eO 3 v)) : wS μ0 o r it p w n f a = some (eO 3 v) := by
  obtain ⟨⟨vo, ho⟩, ⟨vr, hr⟩, ⟨n, f, hi⟩, _⟩ := h
  rw [wS_n (q_ne ha ho (by simp)) (q_ne ha hr (by simp)) (q_ne ha hi (by simp)), ha]
theorem wS_A (h : WB μ0 o r it ta ti tn T) {a p n c : Nat} {w : Int32} {f : Nat → Int32} {v : Nat → Option Nat} (ha : μ0 a = some (eT c v)) : wS μ0 o r it p w n f a = some (eT c v) := by
  obtain ⟨⟨vo, ho⟩, ⟨vr, hr⟩, ⟨n, f, hi⟩, _⟩ := h
  rw [wS_n (q_ne ha ho (by simp)) (q_ne ha hr (by simp)) (q_ne ha hi (by simp)), ha]
theorem wS_ta (h : WB μ0 o r it ta ti tn T) {p n : Nat} {w : Int32} {f : Nat → Int32} : wS μ0 o r it p w n f ta = some (eO 1 [.ref ti, .int (nI tn)]) := by
  obtain ⟨⟨vo, ho⟩, ⟨vr, hr⟩, ⟨n, f, hi⟩, h1, h2, _, h3, h4⟩ := h
  rw [wS_n (q_ne h1 ho (by simp)) h3 (q_ne h1 hi (by simp)), h1]
theorem wS_ti (h : WB μ0 o r it ta ti tn T) {p n : Nat} {w : Int32} {f : Nat → Int32} : wS μ0 o r it p w n f ti = some (eI 300 T) := by
  obtain ⟨⟨vo, ho⟩, ⟨vr, hr⟩, ⟨n, f, hi⟩, h1, h2, _, h3, h4⟩ := h
  rw [wS_n (q_ne h2 ho (by simp)) (q_ne h2 hr (by simp)) h4, h2]
theorem wS_Ty (h : WB μ0 o r it ta ti tn T) {kd ty : Nat → Nat} {N : NT} {t p n : Nat} {w : Int32} {f : Nat → Int32} (ht : TyC kd ty N μ0 t) : TyC kd ty N (wS μ0 o r it p w n f) t := by
  obtain ⟨pr, pi, pn, pf, om, ar, ai, an, af, fb, mb, mn, h1, h2, h3, h4, h5, h6, h7, h8, h9, h10⟩ := ht
  exact ⟨pr, pi, pn, pf, om, ar, ai, an, af, fb, mb, mn, wS_T h h1, wS_R h h2, wS_A h h3, h4, h5, h6, h7, wS_R h h8, wS_A h h9, h10⟩
theorem wS_pw {p n : Nat} {w w' : Int32} {f : Nat → Int32} : ups (wS μ0 o r it p w n f) o (eO 4 [.ref r, .int (nI p), .int w']) = wS μ0 o r it p w' n f := q_ups_ss
theorem wS_pp {p p' n : Nat} {w : Int32} {f : Nat → Int32} : ups (wS μ0 o r it p w n f) o (eO 4 [.ref r, .int (nI p'), .int w]) = wS μ0 o r it p' w n f := q_ups_ss
theorem wS_pr (h : WB μ0 o r it ta ti tn T) {p n n' : Nat} {w : Int32} {f f' : Nat → Int32} : ups (ups (wS μ0 o r it p w n f) it (eI 240 f')) r (eO 1 [.ref it, .int (nI n')]) = wS μ0 o r it p w n' f' := by
  have h1 := h.rit
  have h2 := h.oit
  have h3 := h.or
  unfold wS
  rw [q_ups_sw (a := o) (b := it) h2, q_ups_sw (a := o) (b := r) h3, q_ups_sw (a := r) (b := it) h1, q_ups_ss, q_ups_ss]
theorem wS_pi (h : WB μ0 o r it ta ti tn T) {p n : Nat} {w : Int32} {f f' : Nat → Int32} : ups (wS μ0 o r it p w n f) it (eI 240 f') = wS μ0 o r it p w n f' := by
  have h1 := h.rit
  have h2 := h.oit
  unfold wS
  rw [q_ups_sw (a := o) (b := it) h2, q_ups_sw (a := r) (b := it) h1, q_ups_ss]
theorem wS_pn (h : WB μ0 o r it ta ti tn T) {p n n' : Nat} {w : Int32} {f : Nat → Int32} : ups (wS μ0 o r it p w n f) r (eO 1 [.ref it, .int (nI n')]) = wS μ0 o r it p w n' f := by
  have h3 := h.or
  unfold wS
  rw [q_ups_sw (a := o) (b := r) h3, q_ups_ss]
theorem w_bad {μ0 : Mm} {o r it p n : Nat} {lo v : Int32} {f : Nat → Int32} {post : Int32 → Mm → Prop} (hp2 : p < 2 ^ 31) (hp : post lo (wS μ0 o r it p (nI p) n f)) : wb_X5_next_39 o post lo v (wS μ0 o r it p (-1) n f) := by
  refine ⟨_, _, wS_o, rfl, _, wS_o, by simp, fun μ e => ?_⟩
  subst e
  show wb_X5_next_47 o post lo v (ups (wS μ0 o r it p (-1) n f) o (eO 4 [.ref r, .int (nI p), .int (nI p)]))
  rw [wS_pw]
  refine ⟨_, _, wS_o, rfl, fun h => ?_, fun _ => hp⟩
  exact absurd h (by rw [q_l1, q_em1 hp2]; exact id)
theorem w_good {μ0 : Mm} {o r it p n : Nat} {lo v : Int32} {f : Nat → Int32} {post : Int32 → Mm → Prop} (hp : post v (wS μ0 o r it (p + 1) (-1) n f)) : wb_X5_next_47 o post lo v (wS μ0 o r it p (-1) n f) := by
  refine ⟨_, _, wS_o, rfl, fun _ => ⟨_, _, wS_o, rfl, _, wS_o, by simp, fun μ e => ?_⟩, fun h => absurd rfl h⟩
  subst e
  show post v (ups (wS μ0 o r it p (-1) n f) o (eO 4 [.ref r, .int (nI p + 1), .int (-1)]))
  rw [← nI_succ, wS_pp]; exact hp
theorem w_next_good (hW : WB μ0 o r it ta ti tn T) {p n : Nat} {lo hi : Int32} {f : Nat → Int32} {post : Int32 → Mm → Prop} (hx : nxt T tn p lo hi) (hp : post (T p) (wS μ0 o r it (p + 1) (-1) n f)) : wp_X5_next o ta lo hi (wS μ0 o r it p (-1) n f) post := by
  have htn : tn ≤ 300 := hW.2.2.2.2.2.1
  refine ⟨_, _, wS_o, rfl, ⟨_, wS_ta hW⟩, k_at (wS_ta hW) (wS_ti hW) htn (by omega) hx.1 ⟨_, _, wS_o, rfl, fun h => absurd rfl h, fun _ => ⟨_, _, wS_o, rfl, ⟨_, wS_ta hW⟩, k_has (wS_ta hW) (wS_ti hW) htn (by omega) (fun v hv0 hv1 => ⟨fun h => absurd ⟨p, hx.1, rfl⟩ (hv0 h), fun _ => ⟨fun h => ?_, fun _ => ⟨fun _ => ⟨fun _ => w_good hp, fun h => absurd rfl h⟩, fun h => ?_⟩⟩⟩)⟩⟩⟩
  · exact absurd hx.2.1 (Int32.not_le.mpr h)
  · exact absurd hx.2.2 h
theorem w_next_bad (hW : WB μ0 o r it ta ti tn T) {p n : Nat} {lo hi : Int32} {f : Nat → Int32} {post : Int32 → Mm → Prop} (hp2 : p ≤ 300) (hx : ¬ nxt T tn p lo hi) (hp : post lo (wS μ0 o r it p (nI p) n f)) : wp_X5_next o ta lo hi (wS μ0 o r it p (-1) n f) post := by
  have htn : tn ≤ 300 := hW.2.2.2.2.2.1
  refine ⟨_, _, wS_o, rfl, ⟨_, wS_ta hW⟩, k_any (wS_ta hW) (wS_ti hW) htn (by omega) (fun x hx1 => ⟨_, _, wS_o, rfl, fun h => absurd rfl h, fun _ => ⟨_, _, wS_o, rfl, ⟨_, wS_ta hW⟩, k_has (wS_ta hW) (wS_ti hW) htn (by omega) (fun v hv0 hv1 => ⟨fun h => w_bad (by omega) hp, fun h => ?_⟩)⟩⟩)⟩
  obtain ⟨j, hj, e⟩ := hv1 h
  have hxj := hx1 j hj e
  rw [q_eq (by omega) (by omega)] at e
  subst e
  refine ⟨fun h1 => ⟨fun h2 => absurd h2 (by decide), fun _ => w_bad (by omega) hp⟩, fun h1 => ⟨fun h2 => absurd ⟨hj, ?_, ?_⟩ hx, fun h2 => ⟨fun h3 => absurd h3 (by decide), fun _ => w_bad (by omega) hp⟩⟩⟩
  · rw [← hxj]; exact Int32.not_lt.mp h1
  · rw [← hxj]; exact h2
theorem w_next_wr (hW : WB μ0 o r it ta ti tn T) {p n : Nat} {w lo hi : Int32} {f : Nat → Int32} {post : Int32 → Mm → Prop} (hw : w ≠ -1) (hp : post lo (wS μ0 o r it p w n f)) : wp_X5_next o ta lo hi (wS μ0 o r it p w n f) post := by
  have htn : tn ≤ 300 := hW.2.2.2.2.2.1
  exact ⟨_, _, wS_o, rfl, ⟨_, wS_ta hW⟩, k_any (wS_ta hW) (wS_ti hW) htn (by omega) (fun x _ => ⟨_, _, wS_o, rfl, fun _ => ⟨_, _, wS_o, rfl, fun h => absurd h hw, fun _ => hp⟩, fun h => absurd h hw⟩)⟩
/-- what is put behind, if there is room -/
def Ex (n : Nat) (f : Nat → Int32) (bs : List Int32) (n' : Nat) (f' : Nat → Int32) : Prop := n' ≤ 240 ∧ (n + bs.length ≤ 240 → n' = n + bs.length ∧ f' = apL f n bs)
theorem Ex.nil {n : Nat} {f : Nat → Int32} (h : n ≤ 240) : Ex n f [] n f := ⟨h, fun _ => ⟨rfl, apL_nil.symm⟩⟩
theorem Ex.app {n n1 n2 : Nat} {f f1 f2 : Nat → Int32} {as bs : List Int32} (h1 : Ex n f as n1 f1) (h2 : Ex n1 f1 bs n2 f2) : Ex n f (as ++ bs) n2 f2 := by
  refine ⟨h2.1, fun h => ?_⟩
  rw [List.length_append] at h
  obtain ⟨e1, e2⟩ := h1.2 (by omega)
  subst e1; subst e2
  obtain ⟨e1, e2⟩ := h2.2 (by omega)
  subst e1; subst e2
  exact ⟨by rw [List.length_append]; omega, apL_app⟩
theorem w_put (hW : WB μ0 o r it ta ti tn T) {p : Nat} {w v : Int32} {post : Mm → Prop} : ∀ (wd n : Nat) (f : Nat → Int32), n ≤ 240 → wd ≤ 1000 → (∀ n' f', Ex n f (bin wd v) n' f' → post (wS μ0 o r it p w n' f')) → wp_X5_put o v (nI wd) (wS μ0 o r it p w n f) post := by
  have go : ∀ (wd n : Nat) (f : Nat → Int32), n ≤ 240 → wd ≤ 1000 → (∀ n' f', Ex n f (bin wd v) n' f' → post (wS μ0 o r it p w n' f')) → wb_X5_put_4 o post (wd + 1) v (nI wd - 1) (wS μ0 o r it p w n f) := by
    intro wd
    induction wd with
    | zero =>
      intro n f hn _ hp
      exact ⟨fun _ => hp n f (Ex.nil hn), fun h => absurd (by decide) h⟩
    | succ wd ih =>
      intro n f hn hwd hp
      rw [nI_pred]
      refine ⟨fun h => absurd h (nI_pos (by omega)), fun _ => ⟨_, _, wS_o, rfl, ⟨_, wS_r hW⟩, ?_⟩⟩
      by_cases h2 : n < 240
      · refine k_append (wS_r hW) (wS_i hW) (by omega) h2 ?_
        rw [wS_pr hW, show (nI wd + (-1) : Int32) = nI wd - 1 from (Int32.sub_eq_add_neg _ _).symm]
        refine ih (n + 1) _ (by omega) (by omega) (fun n' f' hx => hp n' f' ?_)
        refine ⟨hx.1, fun h => ?_⟩
        rw [bin_len] at h
        obtain ⟨e1, e2⟩ := hx.2 (by rw [bin_len]; omega)
        refine ⟨?_, ?_⟩
        · rw [e1, bin_len, bin_len]; omega
        · rw [e2, apL_cons]; rfl
      · refine k_appendF (wS_r hW) (wS_i hW) (by omega) (by omega) (by omega) ?_
        rw [show (nI wd + (-1) : Int32) = nI wd - 1 from (Int32.sub_eq_add_neg _ _).symm]
        refine ih n _ (by omega) (by omega) (fun n' f' hx => hp n' f' ⟨hx.1, fun h => ?_⟩)
        rw [bin_len] at h; omega
  intro wd n f hn hwd hp
  exact ⟨wd + 1, go wd n f hn hwd hp⟩
theorem w_puts (hW : WB μ0 o r it ta ti tn T) {p : Nat} {w v x : Int32} {post : Mm → Prop} (wd n : Nat) (f : Nat → Int32) (hx : x = nI wd) (hn : n ≤ 240) (hwd : wd ≤ 1000) (hp : ∀ n' f', Ex n f (bin wd v) n' f' → post (wS μ0 o r it p w n' f')) : wp_X5_put o v x (wS μ0 o r it p w n f) post := by
  subst hx; exact w_put hW wd n f hn hwd hp
/-- eight bits laid into their place -/
def pat (f : Nat → Int32) (n0 : Nat) (v : Int32) (k : Nat) : Nat → Int32 := fun i => if n0 + k ≤ i ∧ i < n0 + 8 then msk v (7 - (i - n0)) else f i
theorem pat_8 {f : Nat → Int32} {n0 : Nat} {v : Int32} : pat f n0 v 8 = f := by
  funext i; unfold pat; rw [if_neg (by omega)]
theorem pat_s {f : Nat → Int32} {n0 k : Nat} {v : Int32} (hk : k < 8) : pat (upd f (n0 + k) (msk v (7 - k))) n0 v (k + 1) = pat f n0 v k := by
  funext i
  unfold pat
  by_cases h : i = n0 + k
  · subst h
    rw [if_neg (by omega), if_pos (by omega), pk_us]; congr 1; omega
  · by_cases h2 : n0 + k ≤ i ∧ i < n0 + 8
    · rw [if_pos (by omega), if_pos h2]
    · rw [if_neg (by omega), if_neg h2, pk_un h]
theorem bin_at (v : Int32) : ∀ (w i : Nat), i < w → (bin w v)[i]? = some (msk v (w - 1 - i))
  | 0, i, h => by omega
  | w + 1, 0, _ => by simp [bin, msk]
  | w + 1, i + 1, h => by
    rw [bin, List.getElem?_cons_succ, bin_at v w i (by omega)]; congr 2; omega
theorem pat_0 {f : Nat → Int32} {n : Nat} {v : Int32} {b : List Int32} : pat (apL (apL f n (bin 8 0)) (n + 8) b) n v 0 = apL f n (bin 8 v ++ b) := by
  funext i
  unfold pat
  by_cases h : n + 0 ≤ i ∧ i < n + 8
  · rw [if_pos h]
    unfold apL
    rw [if_neg (by omega), List.getElem?_append_left (by rw [bin_len]; omega), bin_at v 8 (i - n) (by omega)]
  · rw [if_neg h]
    by_cases h2 : i < n
    · unfold apL; simp [h2, show i < n + 8 by omega]
    · unfold apL
      rw [if_neg (by omega), if_neg h2, List.getElem?_append_right (by rw [bin_len]; omega), bin_len]
      have : i - n - 8 = i - (n + 8) := by omega
      rw [this]
      cases b[i - (n + 8)]? with
      | some x => simp [h2]
      | none => simp [h2, bin_len, show 8 ≤ i - n by omega]
end WR
/-! THE CLASS'S WRITER: a value -/
theorem w_opt {o : Nat} {om : Int32} {k x : Nat} {a b c d e : Value} {r : List Value} {μ : Mm} {post : Int32 → Mm → Prop} (h : μ o = some (eO 2 (a :: b :: c :: d :: e :: .int om :: r))) (hm : msk om k = nI x) (hx : x ≤ 1) (h1 : x = 1 → post 1 μ) (h0 : x = 0 → post 0 μ) : wp_X3_isOptional o (nI k) μ post := by
  refine k_isOpt (f := .null) h ?_
  by_cases e : x = 1
  · subst e
    have : (om >>> (nI k &&& 31)) &&& (1 : Int32) = 1 := hm
    rw [if_pos this]; exact h1 rfl
  · have e0 : x = 0 := by omega
    subst e0
    have : (om >>> (nI k &&& 31)) &&& (1 : Int32) = nI 0 := hm
    rw [if_neg (by rw [this]; decide)]; exact h0 rfl
section WV
variable {μ0 : Mm} {o r it ta ti tn : Nat} {T : Nat → Int32} {kd ty : Nat → Nat} {N : NT} {nt : Nat}
theorem w_flags (hW : WB μ0 o r it ta ti tn T) (hN : NWf N nt) {t : Nat} (ht : t < nt) (hk2 : nK N t = 2) (hT : TyC kd ty N μ0 t) {post : Int32 → Mm → Prop} {n : Nat} {f : Nat → Int32} : ∀ (j k : Nat) (m : Int32) (p : Nat), k + j = nC N t → p ≤ 300 → (∀ p' m', flT N T tn t j k m p = .inr (p', m') → p' ≤ 300 → post m' (wS μ0 o r it p' (-1) n f)) →
    (∀ q m', flT N T tn t j k m p = .inl q → q ≤ 300 → post m' (wS μ0 o r it q (nI q) n f)) → wb_X5_nextParts_5 o post (j + 1) (ty t) ta m (nI k) (wS μ0 o r it p (-1) n f) := by
  obtain ⟨pr, pi, pn, pf, om, ar, ai, an, af, fb, mb, mn, h1, h2, h3, h4, h5, h6, h7, h8, h9, h10⟩ := hT
  have hwf := hN t ht
  have htn : tn ≤ 300 := hW.2.2.2.2.2.1
  /- once wrong, the rest goes through -/
  have wr : ∀ (j k : Nat) (m : Int32) (q : Nat), q ≤ 300 → k + j = nC N t → (∀ m', post m' (wS μ0 o r it q (nI q) n f)) → wb_X5_nextParts_5 o post (j + 1) (ty t) ta m (nI k) (wS μ0 o r it q (nI q) n f) := by
    intro j
    induction j with
    | zero =>
      intro k m q hq hk hp
      refine ⟨_, _, wS_T hW h1, rfl, ⟨_, wS_R hW h2⟩, t_size (wS_R hW h2) ⟨fun _ => hp _, fun h => ?_⟩⟩
      rw [q_le (by omega) (by omega)] at h; omega
    | succ j ih =>
      intro k m q hq hk hp
      refine ⟨_, _, wS_T hW h1, rfl, ⟨_, wS_R hW h2⟩, t_size (wS_R hW h2) ⟨fun h => ?_, fun _ => ⟨⟨_, wS_T hW h1⟩, w_opt (wS_T hW h1) (h7 hk2 k (by omega)) (hwf.2.2.2.1 k (by omega)).2 (fun e => ?_) (fun e => ?_)⟩⟩⟩
      · rw [q_le (by omega) (by omega)] at h; omega
      · refine ⟨fun h => absurd h (by decide), fun _ => ⟨⟨_, wS_o⟩, w_next_wr hW (by rw [q_l1]; intro h; rw [q_em1 (by omega)] at h; exact h) ?_⟩⟩
        show wb_X5_nextParts_5 o post (j + 1) (ty t) ta _ (nI k + 1) _
        rw [← nI_succ]
        exact ih (k + 1) _ q hq (by omega) hp
      · refine ⟨fun _ => ?_, fun h => absurd rfl h⟩
        show wb_X5_nextParts_5 o post (j + 1) (ty t) ta _ (nI k + 1) _
        rw [← nI_succ]
        exact ih (k + 1) _ q hq (by omega) hp
  intro j
  induction j with
  | zero =>
    intro k m p hk hp2 hg hb
    refine ⟨_, _, wS_T hW h1, rfl, ⟨_, wS_R hW h2⟩, t_size (wS_R hW h2) ⟨fun _ => hg _ _ rfl hp2, fun h => ?_⟩⟩
    rw [q_le (by omega) (by omega)] at h; omega
  | succ j ih =>
    intro k m p hk hp2 hg hb
    refine ⟨_, _, wS_T hW h1, rfl, ⟨_, wS_R hW h2⟩, t_size (wS_R hW h2) ⟨fun h => ?_, fun _ => ⟨⟨_, wS_T hW h1⟩, w_opt (wS_T hW h1) (h7 hk2 k (by omega)) (hwf.2.2.2.1 k (by omega)).2 (fun e => ?_) (fun e => ?_)⟩⟩⟩
    · rw [q_le (by omega) (by omega)] at h; omega
    · refine ⟨fun h => absurd h (by decide), fun _ => ⟨⟨_, wS_o⟩, ?_⟩⟩
      unfold flT at hg hb
      rw [if_pos e] at hg hb
      by_cases hx : nxt T tn p 0 1
      · rw [if_pos hx] at hg hb
        refine w_next_good hW hx ?_
        show wb_X5_nextParts_5 o post (j + 1) (ty t) ta _ (nI k + 1) _
        rw [← nI_succ]
        exact ih (k + 1) _ (p + 1) (by omega) (by have := hx.1; omega) hg hb
      · rw [if_neg hx] at hg hb
        refine w_next_bad hW hp2 hx ?_
        show wb_X5_nextParts_5 o post (j + 1) (ty t) ta _ (nI k + 1) _
        rw [← nI_succ]
        exact wr j (k + 1) _ p hp2 (by omega) (fun m' => hb p m' rfl hp2)
    · refine ⟨fun _ => ?_, fun h => absurd rfl h⟩
      unfold flT at hg hb
      rw [if_neg (by omega)] at hg hb
      show wb_X5_nextParts_5 o post (j + 1) (ty t) ta _ (nI k + 1) _
      rw [← nI_succ]
      exact ih (k + 1) _ p (by omega) hp2 hg hb
theorem w_flB (hW : WB μ0 o r it ta ti tn T) (hN : NWf N nt) {t : Nat} (ht : t < nt) (hk2 : nK N t = 2) (hT : TyC kd ty N μ0 t) {GV : Nat → Option Nat → Nat → Int32 → Mm → (Mm → Prop) → Prop} {post : Mm → Prop} {x3 m a : Int32} {p : Nat} {w : Int32} : ∀ (j k n : Nat) (f : Nat → Int32), k + j = nC N t → n ≤ 240 →
    (∀ n' f', Ex n f (flB N t m j k) n' f' → ∃ n2, wb_X5_putSequence_83 o kd GV post n2 (ty t) ta x3 m a (0 : Int32) (wS μ0 o r it p w n' f')) → wb_X5_putSequence_41 o kd GV post (j + 1) (ty t) ta x3 m a (nI k) (wS μ0 o r it p w n f) := by
  obtain ⟨pr, pi, pn, pf, om, ar, ai, an, af, fb, mb, mn, h1, h2, h3, h4, h5, h6, h7, h8, h9, h10⟩ := hT
  have hwf := hN t ht
  intro j
  induction j with
  | zero =>
    intro k n f hk hn hp
    refine ⟨_, _, wS_T hW h1, rfl, ⟨_, wS_R hW h2⟩, t_size (wS_R hW h2) ⟨fun _ => hp n f (Ex.nil hn), fun h => ?_⟩⟩
    rw [q_le (by omega) (by omega)] at h; omega
  | succ j ih =>
    intro k n f hk hn hp
    refine ⟨_, _, wS_T hW h1, rfl, ⟨_, wS_R hW h2⟩, t_size (wS_R hW h2) ⟨fun h => ?_, fun _ => ⟨⟨_, wS_T hW h1⟩, w_opt (wS_T hW h1) (h7 hk2 k (by omega)) (hwf.2.2.2.1 k (by omega)).2 (fun e => ?_) (fun e => ?_)⟩⟩⟩
    · rw [q_le (by omega) (by omega)] at h; omega
    · refine ⟨fun h => absurd h (by decide), fun _ => ⟨⟨_, wS_o⟩, w_puts hW 1 n f rfl hn (by omega) (fun n1 f1 hx => ?_)⟩⟩
      rw [← nI_succ]
      refine ih (k + 1) n1 f1 (by omega) hx.1 (fun n' f' hx2 => hp n' f' ?_)
      unfold flB
      rw [if_pos e]
      exact hx.app hx2
    · refine ⟨fun _ => ?_, fun h => absurd rfl h⟩
      rw [← nI_succ]
      refine ih (k + 1) n f (by omega) hn (fun n' f' hx2 => hp n' f' ?_)
      unfold flB
      rw [if_neg (by omega)]
      exact hx2
theorem w_patch (hW : WB μ0 o r it ta ti tn T) {GV : Nat → Option Nat → Nat → Int32 → Mm → (Mm → Prop) → Prop} {post : Mm → Prop} {v : Int32} {p n n0 : Nat} {w : Int32} (hn : n ≤ 240) (hn0 : n0 ≤ 240) : ∀ (j k : Nat) (f : Nat → Int32), k + j = 8 →
    (∀ f', (n0 + 8 ≤ n → f' = pat f n0 v k) → post (wS μ0 o r it p w n f')) → wb_X5_putAddition_49 o kd GV post (j + 1) (nI n0) v (nI k) (wS μ0 o r it p w n f) := by
  intro j
  induction j with
  | zero =>
    intro k f hk hp
    have : k = 8 := by omega
    subst this
    refine ⟨fun _ => hp f (fun _ => pat_8.symm), fun h => ?_⟩
    rw [q_l8] at h; exact absurd (by rw [q_le (by omega) (by omega)]; omega) h
  | succ j ih =>
    intro k f hk hp
    refine ⟨fun h => ?_, fun _ => ⟨_, _, wS_o, rfl, ⟨_, wS_r hW⟩, k_replaceA (wS_r hW) (wS_i hW) hn (by omega) (fun f1 hf1 => ?_)⟩⟩
    · rw [q_l8, q_le (by omega) (by omega)] at h; omega
    · rw [wS_pi hW, ← nI_succ]
      refine ih (k + 1) f1 (by omega) (fun f' hf' => hp f' (fun h8 => ?_))
      rw [hf' h8, hf1 (n0 + k) (by omega) (nI_add n0 k), q_l7, q_sub (by omega)]
      exact pat_s (by omega)
/-- once wrong, a value is passed by -/
theorem w_wr {d : Nat} {x : Option Nat} {x3 : Int32} {p n : Nat} {w : Int32} {f : Nat → Int32} {post : Mm → Prop} (hd : 0 < d) (hw : w ≠ -1) (hp : post (wS μ0 o r it p w n f)) : wr_X5_putValue kd d o x ta x3 (wS μ0 o r it p w n f) post := by
  obtain ⟨d, rfl⟩ : ∃ e, d = e + 1 := ⟨d - 1, by omega⟩
  exact ⟨_, _, wS_o, rfl, fun h => absurd h hw, fun _ => hp⟩
theorem w_add_wr (hW : WB μ0 o r it ta ti tn T) {d : Nat} {x : Option Nat} {x3 : Int32} {p n : Nat} {w : Int32} {f : Nat → Int32} {post : Mm → Prop} (hd : 0 < d) (hw : w ≠ -1) (hn : n ≤ 240) (hp : ∀ n' f', n' ≤ 240 → post (wS μ0 o r it p w n' f')) : wp_X5_putAddition o kd (wr_X5_putValue kd d) x ta x3 (wS μ0 o r it p w n f) post := by
  refine ⟨_, _, wS_o, rfl, ⟨_, wS_r hW⟩, k_size (wS_r hW) ⟨⟨_, wS_o⟩, w_puts hW 8 n f rfl hn (by omega) (fun n1 f1 hx => ⟨_, _, wS_o, rfl, ⟨_, wS_r hW⟩, k_size (wS_r hW) ⟨⟨_, wS_o⟩, w_wr hd hw ⟨_, _, wS_o, rfl, ⟨_, wS_r hW⟩, k_size (wS_r hW) ⟨9, ?_⟩⟩⟩⟩)⟩⟩
  exact w_patch hW hx.1 hn 8 0 f1 rfl (fun f' _ => hp n1 f' hx.1)
theorem w_adds_wr (hW : WB μ0 o r it ta ti tn T) (hN : NWf N nt) {t : Nat} (ht : t < nt) (hT : TyC kd ty N μ0 t) {d : Nat} {x3 : Int32} {p a : Nat} {w : Int32} {post : Mm → Prop} (hd : 0 < d) (hw : w ≠ -1) (ha : a ≤ nA N t) (hp : ∀ n' f', n' ≤ 240 → post (wS μ0 o r it p w n' f')) : ∀ (j k n : Nat) (f : Nat → Int32), k + j = a → n ≤ 240 → wb_X5_putSequence_146 o kd (wr_X5_putValue kd d) post (j + 1) (ty t) ta x3 (nI a) (nI k) (wS μ0 o r it p w n f) := by
  obtain ⟨pr, pi, pn, pf, om, ar, ai, an, af, fb, mb, mn, h1, h2, h3, h4, h5, h6, h7, h8, h9, h10, h11, h12⟩ := hT
  have hwf := hN t ht
  intro j
  induction j with
  | zero =>
    intro k n f hk hn
    refine ⟨fun _ => hp n f hn, fun h => ?_⟩
    rw [q_le (by omega) (by omega)] at h; omega
  | succ j ih =>
    intro k n f hk hn
    refine ⟨fun h => ?_, fun _ => ⟨_, _, wS_T hW h1, rfl, ⟨_, wS_R hW h8⟩, t_at (wS_R hW h8) (wS_A hW h9) h10 (by omega) (by omega) ⟨⟨_, wS_o⟩, w_add_wr hW hd hw hn (fun n' f' hn' => ?_)⟩⟩⟩
    · rw [q_le (by omega) (by omega)] at h; omega
    · rw [← nI_succ]; exact ih (k + 1) n' f' (by omega) hn'
theorem w_parts_wr (hW : WB μ0 o r it ta ti tn T) (hN : NWf N nt) {t : Nat} (ht : t < nt) (hT : TyC kd ty N μ0 t) {d : Nat} {x3 m : Int32} {p a : Nat} {w : Int32} {post : Mm → Prop} (hd : 0 < d) (hw : w ≠ -1) (ha : a ≤ nA N t) (hp : ∀ n' f', n' ≤ 240 → post (wS μ0 o r it p w n' f')) : ∀ (j k n : Nat) (f : Nat → Int32), k + j = nC N t → n ≤ 240 → wb_X5_putSequence_83 o kd (wr_X5_putValue kd d) post (j + 1) (ty t) ta x3 m (nI a) (nI k) (wS μ0 o r it p w n f) := by
  have hT0 := hT
  obtain ⟨pr, pi, pn, pf, om, ar, ai, an, af, fb, mb, mn, h1, h2, h3, h4, h5, h6, h7, h8, h9, h10, h11, h12⟩ := hT
  have hwf := hN t ht
  intro j
  induction j with
  | zero =>
    intro k n f hk hn
    refine ⟨_, _, wS_T hW h1, rfl, ⟨_, wS_R hW h2⟩, t_size (wS_R hW h2) ⟨fun _ => ⟨fun _ => ⟨a + 1, w_adds_wr hW hN ht hT0 hd hw ha hp a 0 n f (by omega) hn⟩, fun _ => ⟨⟨_, wS_o⟩, w_puts hW 2 n f rfl hn (by omega) (fun n1 f1 hx => ⟨a + 1, w_adds_wr hW hN ht hT0 hd hw ha hp a 0 n1 f1 (by omega) hx.1⟩)⟩⟩, fun h => ?_⟩⟩
    rw [q_le (by omega) (by omega)] at h; omega
  | succ j ih =>
    intro k n f hk hn
    have hk1 := ih (k + 1) n f (by omega) hn
    rw [nI_succ] at hk1
    refine ⟨_, _, wS_T hW h1, rfl, ⟨_, wS_R hW h2⟩, t_size (wS_R hW h2) ⟨fun h => ?_, fun _ => ⟨fun _ => hk1, fun _ => ⟨_, _, wS_T hW h1, rfl, ⟨_, wS_R hW h2⟩, t_at (wS_R hW h2) (wS_A hW h3) h4 (by omega) (by omega) ⟨⟨_, wS_o⟩, w_wr hd hw hk1⟩⟩⟩⟩⟩
    rw [q_le (by omega) (by omega)] at h; omega
end WV
/-! THE CLASS'S WRITER: the recursion -/
theorem bnd_assoc (r : RT) (k1 k2 : Nat → RT) : bnd (bnd r k1) k2 = bnd r (fun p => bnd (k1 p) k2) := by
  cases r with
  | inl q => rfl
  | inr pb =>
    obtain ⟨p, b⟩ := pb
    simp only [bnd]
    cases h1 : k1 p with
    | inl q => rfl
    | inr c =>
      obtain ⟨p2, b2⟩ := c
      simp only []
      cases h2 : k2 p2 with
      | inl q => rfl
      | inr c2 => simp only [List.append_assoc]
theorem q_num {x : Int32} {a b : Nat} (h1 : nI a ≤ x) (h2 : x ≤ nI b) (ha : a ≤ b) (hb : b ≤ 1000) : ∃ j, a ≤ j ∧ j ≤ b ∧ x = nI j := by
  have e1 := nI_toInt (n := a) (by omega)
  have e2 := nI_toInt (n := b) (by omega)
  rw [Int32.le_iff_toInt_le] at h1 h2
  have e0 : (0 : Int32).toInt = 0 := by decide
  have h0 : ¬ x < 0 := by rw [Int32.lt_iff_toInt_lt, e0]; omega
  obtain ⟨j, hj, e⟩ := nI_of2 (x := x) (M := nI b) (n := b) e2 h0 (by rw [Int32.le_iff_toInt_le]; exact h2)
  subst e
  rw [nI_toInt (n := j) (by omega), e1] at h1
  exact ⟨j, by omega, hj, rfl⟩
section WX
variable {μ0 : Mm} {o r it ta ti tn : Nat} {T : Nat → Int32} {kd ty : Nat → Nat} {N : NT} {nt : Nat}
def WQ (μ0 : Mm) (o r it : Nat) (res : RT) (n : Nat) (f : Nat → Int32) (post : Mm → Prop) : Prop := (∀ p' bs, res = .inr (p', bs) → p' ≤ 300 → ∀ n' f', Ex n f bs n' f' → post (wS μ0 o r it p' (-1) n' f')) ∧ (∀ q, res = .inl q → q ≤ 300 → ∀ n' f', n' ≤ 240 → post (wS μ0 o r it q (nI q) n' f'))
theorem WQ.go {res : RT} {k : Nat → RT} {n n1 p1 : Nat} {f f1 : Nat → Int32} {b1 : List Int32} {post : Mm → Prop} (h : WQ μ0 o r it (bnd res k) n f post) (e : res = .inr (p1, b1)) (hx : Ex n f b1 n1 f1) : WQ μ0 o r it (k p1) n1 f1 post := by
  subst e
  refine ⟨fun p' bs hk hp n' f' hx2 => ?_, fun q hk hq n' f' hn' => ?_⟩
  · exact h.1 p' (b1 ++ bs) (by simp only [bnd, hk]) hp n' f' (hx.app hx2)
  · exact h.2 q (by simp only [bnd, hk]) hq n' f' hn'
theorem WQ.no {res : RT} {k : Nat → RT} {n q : Nat} {f : Nat → Int32} {post : Mm → Prop} (h : WQ μ0 o r it (bnd res k) n f post) (e : res = .inl q) (hq : q ≤ 300) : ∀ n' f', n' ≤ 240 → post (wS μ0 o r it q (nI q) n' f') := by
  subst e
  exact h.2 q rfl hq
def WV (μ0 : Mm) (o r it ta tn : Nat) (T : Nat → Int32) (kd ty : Nat → Nat) (N : NT) (nt d : Nat) : Prop := ∀ (t δ p n : Nat) (f : Nat → Int32) (post : Mm → Prop), t < nt → t < d → δ + t < 16 → p ≤ 300 → n ≤ 240 → WQ μ0 o r it (vT N T tn d t p) n f post → wr_X5_putValue kd d o (some (ty t)) ta (nI δ) (wS μ0 o r it p (-1) n f) post
theorem q_nw {q : Nat} (h : q ≤ 300) : nI q ≠ -1 := by
  rw [q_l1]; intro e; rw [q_em1 (by omega)] at e; exact e
theorem w_list (hW : WB μ0 o r it ta ti tn T) (hN : NWf N nt) {t δ d h : Nat} (ht : t < nt) (hC : 0 < nC N t) (hT : TyC kd ty N μ0 t) (hd : t < d + 1) (hδ : δ + t < 16) (hh : h ≤ 1000) (ih : WV μ0 o r it ta tn T kd ty N nt d) {post : Mm → Prop} : ∀ (j i p n : Nat) (f : Nat → Int32), i + j = h → p ≤ 300 → n ≤ 240 →
    WQ μ0 o r it (rptT (vT N T tn d (nP N t 0)) j p) n f post → wb_X5_putValue_89 o kd (wr_X5_putValue kd d) post (j + 1) (ty t) ta (nI δ) (nI h) (nI i) (wS μ0 o r it p (-1) n f) := by
  obtain ⟨pr, pi, pn, pf, om, ar, ai, an, af, fb, mb, mn, h1, h2, h3, h4, h5, h6, h7, h8, h9, h10⟩ := hT
  have hP := (hN t ht).2.2.2.1 0 hC
  intro j
  induction j with
  | zero =>
    intro i p n f hi hp hn hq
    refine ⟨fun _ => hq.1 p [] rfl hp n f (Ex.nil hn), fun h => ?_⟩
    rw [q_le (by omega) (by omega)] at h; omega
  | succ j ihj =>
    intro i p n f hi hp hn hq
    refine ⟨fun h => ?_, fun _ => ⟨_, _, wS_o, rfl, fun h => absurd rfl h, fun _ => ⟨_, _, wS_T hW h1, rfl, ⟨_, wS_R hW h2⟩, t_at (wS_R hW h2) (wS_A hW h3) h4 (by omega) hC ⟨⟨_, wS_o⟩, ?_⟩⟩⟩⟩
    · rw [q_le (by omega) (by omega)] at h; omega
    · rw [h6 0 hC, ← nI_succ]
      refine ih (nP N t 0) (δ + 1) p n f _ (by omega) (by omega) (by omega) hp hn ⟨fun p' bs hv hp' n' f' hx => ?_, fun q hv hq' n' f' hn' => ?_⟩
      · rw [← nI_succ]
        exact ihj (i + 1) p' n' f' (by omega) hp' hx.1 (hq.go hv hx)
      · have hpost := hq.no hv hq' n' f' hn'
        exact ⟨fun _ => hpost, fun _ => ⟨_, _, wS_o, rfl, fun _ => hpost, fun h => absurd h (q_nw hq')⟩⟩
theorem w_add (hW : WB μ0 o r it ta ti tn T) {c δ d p n : Nat} (hc : c < nt) (hd : c < d) (hδ : δ + 1 + c < 16) (ih : WV μ0 o r it ta tn T kd ty N nt d) {f : Nat → Int32} {post : Mm → Prop} (hp : p ≤ 300) (hn : n ≤ 240) (hq : WQ μ0 o r it (lnT (vT N T tn d c p)) n f post) :
    wp_X5_putAddition o kd (wr_X5_putValue kd d) (some (ty c)) ta (nI δ) (wS μ0 o r it p (-1) n f) post := by
  refine ⟨_, _, wS_o, rfl, ⟨_, wS_r hW⟩, k_size (wS_r hW) ⟨⟨_, wS_o⟩, w_puts hW 8 n f rfl hn (by omega) (fun n1 f1 hx1 => ⟨_, _, wS_o, rfl, ⟨_, wS_r hW⟩, k_size (wS_r hW) ⟨⟨_, wS_o⟩, ?_⟩⟩)⟩⟩
  rw [← nI_succ]
  refine ih c (δ + 1) p n1 f1 _ hc hd hδ hp hx1.1 ⟨fun p' bs hv hp' n2 f2 hx2 => ⟨_, _, wS_o, rfl, ⟨_, wS_r hW⟩, k_size (wS_r hW) ⟨9, ?_⟩⟩, fun q hv hq' n2 f2 hn2 => ⟨_, _, wS_o, rfl, ⟨_, wS_r hW⟩, k_size (wS_r hW) ⟨9, ?_⟩⟩⟩
  · refine w_patch hW hx2.1 hn 8 0 f2 rfl (fun f' hf' => hq.1 p' (bin 8 (nI bs.length) ++ bs) (by rw [hv]; rfl) hp' n2 f' ⟨hx2.1, fun hroom => ?_⟩)
    rw [List.length_append, bin_len] at hroom
    obtain ⟨e1, e2⟩ := hx1.2 (by rw [bin_len]; omega)
    rw [bin_len] at e1
    obtain ⟨e3, e4⟩ := hx2.2 (by omega)
    refine ⟨by rw [List.length_append, bin_len]; omega, ?_⟩
    rw [hf' (by omega), e4, e2, e1, q_sub (by omega)]
    have : n2 - (n + 8) = bs.length := by omega
    rw [this]
    exact pat_0
  · exact w_patch hW hn2 hn 8 0 f2 rfl (fun f' _ => hq.2 q (by rw [hv]; rfl) hq' n2 f' hn2)
theorem w_adds (hW : WB μ0 o r it ta ti tn T) (hN : NWf N nt) {t δ d a : Nat} (ht : t < nt) (hT : TyC kd ty N μ0 t) (hd : t < d + 1) (hδ : δ + t < 16) (ha : a ≤ nA N t) (ih : WV μ0 o r it ta tn T kd ty N nt d) {post : Mm → Prop} : ∀ (j k p n : Nat) (f : Nat → Int32), k + j = a → p ≤ 300 → n ≤ 240 →
    WQ μ0 o r it (adT (vT N T tn d) N t j k p) n f post → wb_X5_putSequence_146 o kd (wr_X5_putValue kd d) post (j + 1) (ty t) ta (nI δ) (nI a) (nI k) (wS μ0 o r it p (-1) n f) := by
  have hT0 := hT
  obtain ⟨pr, pi, pn, pf, om, ar, ai, an, af, fb, mb, mn, h1, h2, h3, h4, h5, h6, h7, h8, h9, h10, h11, h12⟩ := hT
  have hwf := hN t ht
  intro j
  induction j with
  | zero =>
    intro k p n f hk hp hn hq
    refine ⟨fun _ => hq.1 p [] rfl hp n f (Ex.nil hn), fun h => ?_⟩
    rw [q_le (by omega) (by omega)] at h; omega
  | succ j ihj =>
    intro k p n f hk hp hn hq
    have hD := hwf.2.2.2.2.1 k (by omega)
    refine ⟨fun h => ?_, fun _ => ⟨_, _, wS_T hW h1, rfl, ⟨_, wS_R hW h8⟩, t_at (wS_R hW h8) (wS_A hW h9) h10 (by omega) (by omega) ⟨⟨_, wS_o⟩, ?_⟩⟩⟩
    · rw [q_le (by omega) (by omega)] at h; omega
    · rw [h12 k (by omega)]
      refine w_add hW (c := nD N t k) (by omega) (by omega) (by omega) ih hp hn ⟨fun p' bs hv hp' n' f' hx => ?_, fun q hv hq' n' f' hn' => ?_⟩
      · rw [← nI_succ]
        exact ihj (k + 1) p' n' f' (by omega) hp' hx.1 (hq.go hv hx)
      · rw [← nI_succ]
        exact w_adds_wr hW hN ht hT0 (by omega) (q_nw hq') ha (hq.no hv hq') j (k + 1) n' f' (by omega) hn'
theorem w_parts (hW : WB μ0 o r it ta ti tn T) (hN : NWf N nt) {t δ d a : Nat} {m : Int32} (ht : t < nt) (hT : TyC kd ty N μ0 t) (hC : 0 < nC N t) (hd : t < d + 1) (hδ : δ + t < 16) (ha : a ≤ nA N t) (ih : WV μ0 o r it ta tn T kd ty N nt d) {post : Mm → Prop} : ∀ (j k p n : Nat) (f : Nat → Int32), k + j = nC N t → p ≤ 300 → n ≤ 240 →
    WQ μ0 o r it (bnd (ptT (vT N T tn d) N t m j k p) fun p3 => bnd (.inr (p3, if nI a ≤ 0 then [] else bin 2 (nI a - 1))) fun p4 => adT (vT N T tn d) N t a 0 p4) n f post → wb_X5_putSequence_83 o kd (wr_X5_putValue kd d) post (j + 1) (ty t) ta (nI δ) m (nI a) (nI k) (wS μ0 o r it p (-1) n f) := by
  have hT0 := hT
  obtain ⟨pr, pi, pn, pf, om, ar, ai, an, af, fb, mb, mn, h1, h2, h3, h4, h5, h6, h7, h8, h9, h10, h11, h12⟩ := hT
  have hwf := hN t ht
  have hP0 := hwf.2.2.2.1 0 hC
  intro j
  induction j with
  | zero =>
    intro k p n f hk hp hn hq
    have hq1 := hq.go (p1 := p) (b1 := []) (n1 := n) (f1 := f) rfl (Ex.nil hn)
    refine ⟨_, _, wS_T hW h1, rfl, ⟨_, wS_R hW h2⟩, t_size (wS_R hW h2) ⟨fun _ => ⟨fun h0 => ⟨a + 1, ?_⟩, fun h0 => ⟨⟨_, wS_o⟩, w_puts hW 2 n f rfl hn (by omega) (fun n1 f1 hx => ⟨a + 1, ?_⟩)⟩⟩, fun h => ?_⟩⟩
    · rw [if_pos h0] at hq1
      exact w_adds hW hN ht hT0 hd hδ ha ih a 0 p n f (by omega) hp hn (hq1.go rfl (Ex.nil hn))
    · rw [if_neg h0] at hq1
      exact w_adds hW hN ht hT0 hd hδ ha ih a 0 p n1 f1 (by omega) hp hx.1 (hq1.go rfl hx)
    · rw [q_le (by omega) (by omega)] at h; omega
  | succ j ihj =>
    intro k p n f hk hp hn hq
    have hP := hwf.2.2.2.1 k (by omega)
    refine ⟨_, _, wS_T hW h1, rfl, ⟨_, wS_R hW h2⟩, t_size (wS_R hW h2) ⟨fun h => ?_, fun _ => ⟨fun h0 => ?_, fun h0 => ⟨_, _, wS_T hW h1, rfl, ⟨_, wS_R hW h2⟩, t_at (wS_R hW h2) (wS_A hW h3) h4 (by omega) (by omega) ⟨⟨_, wS_o⟩, ?_⟩⟩⟩⟩⟩
    · rw [q_le (by omega) (by omega)] at h; omega
    · have hm : ¬ msk m k = 1 := h0
      unfold ptT at hq
      rw [if_neg hm] at hq
      rw [← nI_succ]
      exact ihj (k + 1) p n f (by omega) hp hn hq
    · have hm : msk m k = 1 := h0
      unfold ptT at hq
      rw [if_pos hm, bnd_assoc] at hq
      rw [h6 k (by omega), ← nI_succ]
      refine ih (nP N t k) (δ + 1) p n f _ (by omega) (by omega) (by omega) hp hn ⟨fun p' bs hv hp' n' f' hx => ?_, fun q hv hq' n' f' hn' => ?_⟩
      · rw [← nI_succ]
        exact ihj (k + 1) p' n' f' (by omega) hp' hx.1 (hq.go hv hx)
      · rw [← nI_succ]
        exact w_parts_wr hW hN ht hT0 (by omega) (q_nw hq') ha (hq.no hv hq') j (k + 1) n' f' (by omega) hn'
theorem w_34_wr (hW : WB μ0 o r it ta ti tn T) (hN : NWf N nt) {t : Nat} (ht : t < nt) (hk2 : nK N t = 2) (hT : TyC kd ty N μ0 t) {d a p n : Nat} {w m x3 s0 : Int32} {f : Nat → Int32} {post : Mm → Prop} (hd : 0 < d) (hw : w ≠ -1) (ha : a ≤ nA N t) (hn : n ≤ 240) (hp : ∀ n' f', n' ≤ 240 → post (wS μ0 o r it p w n' f')) :
    wb_X5_putSequence_34 o kd (wr_X5_putValue kd d) post (ty t) ta x3 m (nI a) s0 (wS μ0 o r it p w n f) :=
  ⟨⟨_, wS_o⟩, w_puts hW 1 n f rfl hn (by omega) (fun n1 f1 hx => ⟨nC N t + 1, w_flB hW hN ht hk2 hT (nC N t) 0 n1 f1 (by omega) hx.1 (fun n2 f2 hx2 => ⟨nC N t + 1, w_parts_wr hW hN ht hT hd hw ha hp (nC N t) 0 n2 f2 (by omega) hx2.1⟩)⟩)⟩
theorem w_seq (hW : WB μ0 o r it ta ti tn T) (hN : NWf N nt) {t δ d p n : Nat} (ht : t < nt) (hk2 : nK N t = 2) (hT : TyC kd ty N μ0 t) (hd : t < d + 1) (hδ : δ + t < 16) (ih : WV μ0 o r it ta tn T kd ty N nt d) {f : Nat → Int32} {post : Mm → Prop} (hp : p ≤ 300) (hn : n ≤ 240)
    (hq : WQ μ0 o r it (sqT (vT N T tn d) N T tn t p) n f post) : wp_X5_putSequence o kd (wr_X5_putValue kd d) (ty t) ta (nI δ) (wS μ0 o r it p (-1) n f) post := by
  have hT0 := hT
  obtain ⟨pr, pi, pn, pf, om, ar, ai, an, af, fb, mb, mn, h1, h2, h3, h4, h5, h6, h7, h8, h9, h10, h11, h12⟩ := hT
  have hwf := hN t ht
  have hC : 0 < nC N t := (hwf.2.2.2.2.2.2.2.1 hk2).2.2
  have hP0 := hwf.2.2.2.1 0 hC
  refine ⟨⟨_, wS_o⟩, nC N t + 1, w_flags hW hN ht hk2 hT0 (nC N t) 0 0 p (by omega) hp (fun p1 m hv hp1 => ?_) (fun q m hv hq' => ?_)⟩
  · refine ⟨_, _, wS_T hW h1, rfl, ⟨_, wS_R hW h8⟩, t_size (wS_R hW h8) ⟨⟨_, wS_o⟩, ?_⟩⟩
    unfold sqT at hq
    rw [hv] at hq
    simp only [] at hq
    by_cases hx : nxt T tn p1 0 (nI (nA N t))
    · rw [if_pos hx] at hq
      refine w_next_good hW hx ?_
      have hp2 : p1 + 1 ≤ 300 := by have := hx.1; have : tn ≤ 300 := hW.2.2.2.2.2.1; omega
      obtain ⟨a, _, ha, e⟩ := q_num (x := T p1) (a := 0) hx.2.1 hx.2.2 (by omega) (by omega)
      rw [e] at hq ⊢
      rw [nI_clamp (by omega)] at hq
      refine ⟨fun h0 => ⟨⟨_, wS_o⟩, w_puts hW 1 n f rfl hn (by omega) (fun n1 f1 hx1 => ⟨nC N t + 1, w_flB hW hN ht hk2 hT0 (nC N t) 0 n1 f1 (by omega) hx1.1 (fun n2 f2 hx2 => ⟨nC N t + 1, ?_⟩)⟩)⟩, fun h0 => ⟨⟨_, wS_o⟩, w_puts hW 1 n f rfl hn (by omega) (fun n1 f1 hx1 => ⟨nC N t + 1, w_flB hW hN ht hk2 hT0 (nC N t) 0 n1 f1 (by omega) hx1.1 (fun n2 f2 hx2 => ⟨nC N t + 1, ?_⟩)⟩)⟩⟩
      · rw [if_pos h0] at hq
        exact w_parts hW hN ht hT0 hC hd hδ ha ih (nC N t) 0 (p1 + 1) n2 f2 (by omega) hp2 hx2.1 (hq.go rfl (hx1.app hx2))
      · rw [if_neg h0] at hq
        exact w_parts hW hN ht hT0 hC hd hδ ha ih (nC N t) 0 (p1 + 1) n2 f2 (by omega) hp2 hx2.1 (hq.go rfl (hx1.app hx2))
    · rw [if_neg hx] at hq
      refine w_next_bad hW hp1 hx ?_
      exact ⟨fun _ => w_34_wr hW hN ht hk2 hT0 (a := 0) (by omega) (q_nw hp1) (by omega) hn (hq.2 p1 rfl hp1), fun h => absurd (by decide) h⟩
  · refine ⟨_, _, wS_T hW h1, rfl, ⟨_, wS_R hW h8⟩, t_size (wS_R hW h8) ⟨⟨_, wS_o⟩, w_next_wr hW (q_nw hq') ⟨fun _ => w_34_wr hW hN ht hk2 hT0 (a := 0) (by omega) (q_nw hq') (by omega) hn (hq.2 q (by unfold sqT; rw [hv]) hq'), fun h => absurd (by decide) h⟩⟩⟩
theorem w_val (hW : WB μ0 o r it ta ti tn T) (hN : NWf N nt) (hkd : ∀ i j, i < 4 → j < 4 → kd i = kd j → i = j) (hTs : ∀ t, t < nt → TyC kd ty N μ0 t) : ∀ d, WV μ0 o r it ta tn T kd ty N nt d := by
  intro d
  induction d with
  | zero => intro t δ p n f post _ h; omega
  | succ d ih =>
    intro t δ p n f post ht hd hδ hp hn hq
    have hT0 := hTs t ht
    obtain ⟨pr, pi, pn, pf, om, ar, ai, an, af, fb, mb, mn, h1, h2, h3, h4, h5, h6, h7, h8, h9, h10, h11, h12⟩ := hTs t ht
    have hwf := hN t ht
    have hK : nK N t < 4 := by omega
    have htn : tn ≤ 300 := hW.2.2.2.2.2.1
    refine ⟨_, _, wS_o, rfl, fun _ => ⟨fun h => (by cases h), fun a7 ha7 => ?_⟩, fun h => absurd rfl h⟩
    cases ha7
    refine ⟨fun _ => ⟨_, _, wS_T hW h1, rfl, fun hk => ?_, fun hk => ?_⟩, fun h => absurd (by rw [q_l16, q_lt (by omega) (by omega)]; omega) h⟩
    · rw [q_kd hkd hK (by omega)] at hk
      unfold vT at hq
      rw [if_neg hk] at hq
      refine ⟨_, _, wS_T hW h1, rfl, _, _, wS_T hW h1, rfl, ⟨_, wS_o⟩, ?_⟩
      by_cases hx : nxt T tn p (nlo N t) (nhi N t)
      · rw [if_pos hx] at hq
        refine w_next_good hW hx ⟨_, _, wS_T hW h1, rfl, _, _, wS_T hW h1, rfl, ⟨_, wS_o⟩, w_put hW _ n f hn (by have := wdN_le (nV N t); unfold nW; omega) (fun n1 f1 hx1 => ⟨_, _, wS_T hW h1, rfl, fun hk1 => ⟨_, _, wS_T hW h1, rfl, fun hk3 => ?_, fun hk3 => ?_⟩, fun hk1 => ?_⟩)⟩
        · rw [q_kd hkd hK (by omega)] at hk1 hk3
          have hq1 := hq.go rfl hx1
          rw [if_neg hk1, if_neg hk3] at hq1
          exact hq1.1 (p + 1) [] rfl (by have := hx.1; omega) n1 f1 (Ex.nil hx1.1)
        · rw [q_kd hkd hK (by omega)] at hk1 hk3
          have hq1 := hq.go rfl hx1
          rw [if_neg hk1, if_pos hk3] at hq1
          obtain ⟨e1, e2, e3⟩ := hwf.2.2.2.2.2.2.2.2 hk3
          obtain ⟨j, _, hj, e⟩ := q_num (x := T p) (a := 0) (b := nC N t - 1) (by rw [← e1]; exact hx.2.1) (by rw [← e2]; exact hx.2.2) (by omega) (by omega)
          rw [e] at hq1 ⊢
          rw [nI_clamp (by omega)] at hq1
          refine ⟨_, _, wS_T hW h1, rfl, ⟨_, wS_R hW h2⟩, t_at (wS_R hW h2) (wS_A hW h3) h4 (by omega) (by omega) ⟨⟨_, wS_o⟩, ?_⟩⟩
          have hP := hwf.2.2.2.1 j (by omega)
          rw [h6 j (by omega), ← nI_succ]
          exact ih (nP N t j) (δ + 1) (p + 1) n1 f1 post (by omega) (by omega) (by omega) (by have := hx.1; omega) hx1.1 hq1
        · rw [q_kd hkd hK (by omega)] at hk1
          have hq1 := hq.go rfl hx1
          rw [if_pos hk1] at hq1
          obtain ⟨e0, a, b, ea, eb, hab, hb⟩ := hwf.2.2.2.2.2.2.1 hk1
          obtain ⟨j, _, hj, e⟩ := q_num (x := T p) (a := a) (b := b) (by rw [← ea]; exact hx.2.1) (by rw [← eb]; exact hx.2.2) hab (by omega)
          rw [e] at hq1 ⊢
          rw [nI_clamp (by omega)] at hq1
          exact ⟨j + 1, w_list hW hN ht (by omega) hT0 hd hδ (by omega) ih j 0 (p + 1) n1 f1 (by omega) (by have := hx.1; omega) hx1.1 hq1⟩
      · rw [if_neg hx] at hq
        refine w_next_bad hW hp hx ⟨_, _, wS_T hW h1, rfl, _, _, wS_T hW h1, rfl, ⟨_, wS_o⟩, w_put hW _ n f hn (by have := wdN_le (nV N t); unfold nW; omega) (fun n1 f1 hx1 => ?_)⟩
        have hpost := hq.2 p rfl hp n1 f1 hx1.1
        refine ⟨_, _, wS_T hW h1, rfl, fun hk1 => ⟨_, _, wS_T hW h1, rfl, fun hk3 => hpost, fun hk3 => ?_⟩, fun hk1 => ⟨1, fun _ => hpost, fun _ => ⟨_, _, wS_o, rfl, fun _ => hpost, fun h => absurd h (q_nw hp)⟩⟩⟩
        rw [q_kd hkd hK (by omega)] at hk3
        obtain ⟨e1, e2, e3⟩ := hwf.2.2.2.2.2.2.2.2 hk3
        have hP := hwf.2.2.2.1 0 (by omega)
        refine ⟨_, _, wS_T hW h1, rfl, ⟨_, wS_R hW h2⟩, ?_⟩
        rw [e1]
        exact t_at (wS_R hW h2) (wS_A hW h3) h4 (by omega) (by omega) ⟨⟨_, wS_o⟩, w_wr (by omega) (q_nw hp) hpost⟩
    · rw [q_kd hkd hK (by omega)] at hk
      unfold vT at hq
      rw [if_pos hk] at hq
      exact ⟨⟨_, wS_o⟩, w_seq hW hN ht hk hT0 hd hδ ih hp hn hq⟩
end WX
