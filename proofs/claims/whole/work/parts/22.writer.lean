/-! THE CLASS'S WRITER over a tale -/
def TyC (kd ty : Nat → Nat) (N : NT) (μ : Mm) (t : Nat) : Prop := ∃ pr pi pn pf om ar ai an af fb mb mn, μ (ty t) = some (eO 2 [.ref (kd (nK N t)), .int (nlo N t), .int (nhi N t), .int (nI (nW N t)), .ref pr, .int om, .ref ar, .int fb, .int mb, .int mn]) ∧
  μ pr = some (eO 3 [.ref pi, .int (nI (nC N t))]) ∧ μ pi = some (eT pn pf) ∧ nC N t ≤ pn ∧ pn ≤ 6 ∧ (∀ k, k < nC N t → pf k = some (ty (nP N t k))) ∧ (nK N t = 2 → ∀ k, k < nC N t → msk om k = nI (nO N t k)) ∧
  μ ar = some (eO 3 [.ref ai, .int (nI (nA N t))]) ∧ μ ai = some (eT an af) ∧ nA N t ≤ an ∧ an ≤ 3 ∧ (∀ k, k < nA N t → af k = some (ty (nD N t k)))
theorem q_kd {kd : Nat → Nat} (h : ∀ i j, i < 4 → j < 4 → kd i = kd j → i = j) {a b : Nat} (ha : a < 4) (hb : b < 4) : (some (kd a) = some (kd b)) = (a = b) :=
  propext ⟨fun e => h a b ha hb (Option.some.inj e), fun e => by rw [e]⟩
def wS (μ0 : Mm) (o r it p : Nat) (w : Int32) (n : Nat) (f : Nat → Int32) : Mm := ups (ups (ups μ0 it (eI 240 f)) r (eO 1 [.ref it, .int (nI n)])) o (eO 4 [.ref r, .int (nI p), .int w])
def WB (μ0 : Mm) (o r it ta ti tn : Nat) (T : Nat → Int32) : Prop := (∃ v, μ0 o = some (eO 4 v)) ∧ (∃ v, μ0 r = some (eO 1 v)) ∧ (∃ n f, μ0 it = some (eI n f)) ∧ μ0 ta = some (eO 1 [.ref ti, .int (nI tn)]) ∧ μ0 ti = some (eI 300 T) ∧ tn ≤ 300 ∧ ta ≠ r ∧ ti ≠ it
section WR
variable {μ0 : Mm} {o r it ta ti tn : Nat} {T : Nat → Int32}
theorem WB.rit (h : WB μ0 o r it ta ti tn T) : r ≠ it := by
  obtain ⟨⟨vo, ho⟩, ⟨vr, hr⟩, ⟨n, f, hi⟩, _⟩ := h
  exact q_ne hr hi (by simp)
theorem WB.oit (h : WB μ0 o r it ta ti tn T) : o ≠ it := by
  obtain ⟨⟨vo, ho⟩, ⟨vr, hr⟩, ⟨n, f, hi⟩, _⟩ := h
  exact q_ne ho hi (by simp)
theorem WB.or (h : WB μ0 o r it ta ti tn T) : o ≠ r := by
  obtain ⟨⟨vo, ho⟩, ⟨vr, hr⟩, ⟨n, f, hi⟩, _⟩ := h
  exact q_ne ho hr (by simp)
theorem wS_o {p n : Nat} {w : Int32} {f : Nat → Int32} : wS μ0 o r it p w n f o = some (eO 4 [.ref r, .int (nI p), .int w]) := ups_s
theorem wS_r (h : WB μ0 o r it ta ti tn T) {p n : Nat} {w : Int32} {f : Nat → Int32} : wS μ0 o r it p w n f r = some (eO 1 [.ref it, .int (nI n)]) := by
  rw [wS, ups_n h.or.symm]; exact ups_s
theorem wS_i (h : WB μ0 o r it ta ti tn T) {p n : Nat} {w : Int32} {f : Nat → Int32} : wS μ0 o r it p w n f it = some (eI 240 f) := by
  rw [wS, ups_n h.oit.symm, ups_n h.rit.symm]; exact ups_s
theorem wS_n {a p n : Nat} {w : Int32} {f : Nat → Int32} (h1 : a ≠ o) (h2 : a ≠ r) (h3 : a ≠ it) : wS μ0 o r it p w n f a = μ0 a := by
  rw [wS, ups_n h1, ups_n h2, ups_n h3]
theorem wS_T (h : WB μ0 o r it ta ti tn T) {a p n : Nat} {w : Int32} {f : Nat → Int32} {v : List Value} (ha : μ0 a = some (eO 2 v)) : wS μ0 o r it p w n f a = some (eO 2 v) := by
  obtain ⟨⟨vo, ho⟩, ⟨vr, hr⟩, ⟨n, f, hi⟩, _⟩ := h
  rw [wS_n (q_ne ha ho (by simp)) (q_ne ha hr (by simp)) (q_ne ha hi (by simp)), ha]
theorem wS_R (h : WB μ0 o r it ta ti tn T) {a p n : Nat} {w : Int32} {f : Nat → Int32} {v : List Value} (ha : μ0 a = some (eO 3 v)) : wS μ0 o r it p w n f a = some (eO 3 v) := by
  obtain ⟨⟨vo, ho⟩, ⟨vr, hr⟩, ⟨n, f, hi⟩, _⟩ := h
  rw [wS_n (q_ne ha ho (by simp)) (q_ne ha hr (by simp)) (q_ne ha hi (by simp)), ha]
theorem wS_A (h : WB μ0 o r it ta ti tn T) {a p n c : Nat} {w : Int32} {f : Nat → Int32} {v : Nat → Option Nat} (ha : μ0 a = some (eT c v)) : wS μ0 o r it p w n f a = some (eT c v) := by
  obtain ⟨⟨vo, ho⟩, ⟨vr, hr⟩, ⟨n, f, hi⟩, _⟩ := h
  rw [wS_n (q_ne ha ho (by simp)) (q_ne ha hr (by simp)) (q_ne ha hi (by simp)), ha]
theorem wS_ta (h : WB μ0 o r it ta ti tn T) {p n : Nat} {w : Int32} {f : Nat → Int32} : wS μ0 o r it p w n f ta = some (eO 1 [.ref ti, .int (nI tn)]) := by
  obtain ⟨⟨vo, ho⟩, ⟨vr, hr⟩, ⟨n, f, hi⟩, h1, h2, _, h3, h4⟩ := h
  rw [wS_n (q_ne h1 ho (by simp)) h3 (q_ne h1 hi (by simp)), h1]
theorem wS_ti (h : WB μ0 o r it ta ti tn T) {p n : Nat} {w : Int32} {f : Nat → Int32} : wS μ0 o r it p w n f ti = some (eI 300 T) := by
  obtain ⟨⟨vo, ho⟩, ⟨vr, hr⟩, ⟨n, f, hi⟩, h1, h2, _, h3, h4⟩ := h
  rw [wS_n (q_ne h2 ho (by simp)) (q_ne h2 hr (by simp)) h4, h2]
theorem wS_Ty (h : WB μ0 o r it ta ti tn T) {kd ty : Nat → Nat} {N : NT} {t p n : Nat} {w : Int32} {f : Nat → Int32} (ht : TyC kd ty N μ0 t) : TyC kd ty N (wS μ0 o r it p w n f) t := by
  obtain ⟨pr, pi, pn, pf, om, ar, ai, an, af, fb, mb, mn, h1, h2, h3, h4, h5, h6, h7, h8, h9, h10⟩ := ht
  exact ⟨pr, pi, pn, pf, om, ar, ai, an, af, fb, mb, mn, wS_T h h1, wS_R h h2, wS_A h h3, h4, h5, h6, h7, wS_R h h8, wS_A h h9, h10⟩
theorem wS_pw {p n : Nat} {w w' : Int32} {f : Nat → Int32} : ups (wS μ0 o r it p w n f) o (eO 4 [.ref r, .int (nI p), .int w']) = wS μ0 o r it p w' n f := q_ups_ss
theorem wS_pp {p p' n : Nat} {w : Int32} {f : Nat → Int32} : ups (wS μ0 o r it p w n f) o (eO 4 [.ref r, .int (nI p'), .int w]) = wS μ0 o r it p' w n f := q_ups_ss
theorem wS_pr (h : WB μ0 o r it ta ti tn T) {p n n' : Nat} {w : Int32} {f f' : Nat → Int32} : ups (ups (wS μ0 o r it p w n f) it (eI 240 f')) r (eO 1 [.ref it, .int (nI n')]) = wS μ0 o r it p w n' f' := by
  have h1 := h.rit
  have h2 := h.oit
  have h3 := h.or
  unfold wS
  rw [q_ups_sw (a := o) (b := it) h2, q_ups_sw (a := o) (b := r) h3, q_ups_sw (a := r) (b := it) h1, q_ups_ss, q_ups_ss]
theorem wS_pi (h : WB μ0 o r it ta ti tn T) {p n : Nat} {w : Int32} {f f' : Nat → Int32} : ups (wS μ0 o r it p w n f) it (eI 240 f') = wS μ0 o r it p w n f' := by
  have h1 := h.rit
  have h2 := h.oit
  unfold wS
  rw [q_ups_sw (a := o) (b := it) h2, q_ups_sw (a := r) (b := it) h1, q_ups_ss]
theorem wS_pn (h : WB μ0 o r it ta ti tn T) {p n n' : Nat} {w : Int32} {f : Nat → Int32} : ups (wS μ0 o r it p w n f) r (eO 1 [.ref it, .int (nI n')]) = wS μ0 o r it p w n' f := by
  have h3 := h.or
  unfold wS
  rw [q_ups_sw (a := o) (b := r) h3, q_ups_ss]
theorem w_bad {μ0 : Mm} {o r it p n : Nat} {lo v : Int32} {f : Nat → Int32} {post : Int32 → Mm → Prop} (hp2 : p < 2 ^ 31) (hp : post lo (wS μ0 o r it p (nI p) n f)) : wb_X5_next_39 o post lo v (wS μ0 o r it p (-1) n f) := by
  refine ⟨_, _, wS_o, rfl, _, wS_o, by simp, fun μ e => ?_⟩
  subst e
  show wb_X5_next_47 o post lo v (ups (wS μ0 o r it p (-1) n f) o (eO 4 [.ref r, .int (nI p), .int (nI p)]))
  rw [wS_pw]
  refine ⟨_, _, wS_o, rfl, fun h => ?_, fun _ => hp⟩
  exact absurd h (by rw [q_l1, q_em1 hp2]; exact id)
theorem w_good {μ0 : Mm} {o r it p n : Nat} {lo v : Int32} {f : Nat → Int32} {post : Int32 → Mm → Prop} (hp : post v (wS μ0 o r it (p + 1) (-1) n f)) : wb_X5_next_47 o post lo v (wS μ0 o r it p (-1) n f) := by
  refine ⟨_, _, wS_o, rfl, fun _ => ⟨_, _, wS_o, rfl, _, wS_o, by simp, fun μ e => ?_⟩, fun h => absurd rfl h⟩
  subst e
  show post v (ups (wS μ0 o r it p (-1) n f) o (eO 4 [.ref r, .int (nI p + 1), .int (-1)]))
  rw [← nI_succ, wS_pp]; exact hp
theorem w_next_good (hW : WB μ0 o r it ta ti tn T) {p n : Nat} {lo hi : Int32} {f : Nat → Int32} {post : Int32 → Mm → Prop} (hx : nxt T tn p lo hi) (hp : post (T p) (wS μ0 o r it (p + 1) (-1) n f)) : wp_X5_next o ta lo hi (wS μ0 o r it p (-1) n f) post := by
  have htn : tn ≤ 300 := hW.2.2.2.2.2.1
  refine ⟨_, _, wS_o, rfl, ⟨_, wS_ta hW⟩, k_at (wS_ta hW) (wS_ti hW) htn (by omega) hx.1 ⟨_, _, wS_o, rfl, fun h => absurd rfl h, fun _ => ⟨_, _, wS_o, rfl, ⟨_, wS_ta hW⟩, k_has (wS_ta hW) (wS_ti hW) htn (by omega) (fun v hv0 hv1 => ⟨fun h => absurd ⟨p, hx.1, rfl⟩ (hv0 h), fun _ => ⟨fun h => ?_, fun _ => ⟨fun _ => ⟨fun _ => w_good hp, fun h => absurd rfl h⟩, fun h => ?_⟩⟩⟩)⟩⟩⟩
  · exact absurd hx.2.1 (Int32.not_le.mpr h)
  · exact absurd hx.2.2 h
theorem w_next_bad (hW : WB μ0 o r it ta ti tn T) {p n : Nat} {lo hi : Int32} {f : Nat → Int32} {post : Int32 → Mm → Prop} (hp2 : p ≤ 300) (hx : ¬ nxt T tn p lo hi) (hp : post lo (wS μ0 o r it p (nI p) n f)) : wp_X5_next o ta lo hi (wS μ0 o r it p (-1) n f) post := by
  have htn : tn ≤ 300 := hW.2.2.2.2.2.1
  refine ⟨_, _, wS_o, rfl, ⟨_, wS_ta hW⟩, k_any (wS_ta hW) (wS_ti hW) htn (by omega) (fun x hx1 => ⟨_, _, wS_o, rfl, fun h => absurd rfl h, fun _ => ⟨_, _, wS_o, rfl, ⟨_, wS_ta hW⟩, k_has (wS_ta hW) (wS_ti hW) htn (by omega) (fun v hv0 hv1 => ⟨fun h => w_bad (by omega) hp, fun h => ?_⟩)⟩⟩)⟩
  obtain ⟨j, hj, e⟩ := hv1 h
  have hxj := hx1 j hj e
  rw [q_eq (by omega) (by omega)] at e
  subst e
  refine ⟨fun h1 => ⟨fun h2 => absurd h2 (by decide), fun _ => w_bad (by omega) hp⟩, fun h1 => ⟨fun h2 => absurd ⟨hj, ?_, ?_⟩ hx, fun h2 => ⟨fun h3 => absurd h3 (by decide), fun _ => w_bad (by omega) hp⟩⟩⟩
  · rw [← hxj]; exact Int32.not_lt.mp h1
  · rw [← hxj]; exact h2
theorem w_next_wr (hW : WB μ0 o r it ta ti tn T) {p n : Nat} {w lo hi : Int32} {f : Nat → Int32} {post : Int32 → Mm → Prop} (hw : w ≠ -1) (hp : post lo (wS μ0 o r it p w n f)) : wp_X5_next o ta lo hi (wS μ0 o r it p w n f) post := by
  have htn : tn ≤ 300 := hW.2.2.2.2.2.1
  exact ⟨_, _, wS_o, rfl, ⟨_, wS_ta hW⟩, k_any (wS_ta hW) (wS_ti hW) htn (by omega) (fun x _ => ⟨_, _, wS_o, rfl, fun _ => ⟨_, _, wS_o, rfl, fun h => absurd h hw, fun _ => hp⟩, fun h => absurd h hw⟩)⟩
/-- what is put behind, if there is room -/
def Ex (n : Nat) (f : Nat → Int32) (bs : List Int32) (n' : Nat) (f' : Nat → Int32) : Prop := n' ≤ 240 ∧ (n + bs.length ≤ 240 → n' = n + bs.length ∧ f' = apL f n bs)
theorem Ex.nil {n : Nat} {f : Nat → Int32} (h : n ≤ 240) : Ex n f [] n f := ⟨h, fun _ => ⟨rfl, apL_nil.symm⟩⟩
theorem Ex.app {n n1 n2 : Nat} {f f1 f2 : Nat → Int32} {as bs : List Int32} (h1 : Ex n f as n1 f1) (h2 : Ex n1 f1 bs n2 f2) : Ex n f (as ++ bs) n2 f2 := by
  refine ⟨h2.1, fun h => ?_⟩
  rw [List.length_append] at h
  obtain ⟨e1, e2⟩ := h1.2 (by omega)
  subst e1; subst e2
  obtain ⟨e1, e2⟩ := h2.2 (by omega)
  subst e1; subst e2
  exact ⟨by rw [List.length_append]; omega, apL_app⟩
theorem w_put (hW : WB μ0 o r it ta ti tn T) {p : Nat} {w v : Int32} {post : Mm → Prop} : ∀ (wd n : Nat) (f : Nat → Int32), n ≤ 240 → wd ≤ 1000 → (∀ n' f', Ex n f (bin wd v) n' f' → post (wS μ0 o r it p w n' f')) → wp_X5_put o v (nI wd) (wS μ0 o r it p w n f) post := by
  have go : ∀ (wd n : Nat) (f : Nat → Int32), n ≤ 240 → wd ≤ 1000 → (∀ n' f', Ex n f (bin wd v) n' f' → post (wS μ0 o r it p w n' f')) → wb_X5_put_4 o post (wd + 1) v (nI wd - 1) (wS μ0 o r it p w n f) := by
    intro wd
    induction wd with
    | zero =>
      intro n f hn _ hp
      exact ⟨fun _ => hp n f (Ex.nil hn), fun h => absurd (by decide) h⟩
    | succ wd ih =>
      intro n f hn hwd hp
      rw [nI_pred]
      refine ⟨fun h => absurd h (nI_pos (by omega)), fun _ => ⟨_, _, wS_o, rfl, ⟨_, wS_r hW⟩, ?_⟩⟩
      by_cases h2 : n < 240
      · refine k_append (wS_r hW) (wS_i hW) (by omega) h2 ?_
        rw [wS_pr hW, show (nI wd + (-1) : Int32) = nI wd - 1 from (Int32.sub_eq_add_neg _ _).symm]
        refine ih (n + 1) _ (by omega) (by omega) (fun n' f' hx => hp n' f' ?_)
        refine ⟨hx.1, fun h => ?_⟩
        rw [bin_len] at h
        obtain ⟨e1, e2⟩ := hx.2 (by rw [bin_len]; omega)
        refine ⟨?_, ?_⟩
        · rw [e1, bin_len, bin_len]; omega
        · rw [e2, apL_cons]; rfl
      · refine k_appendF (wS_r hW) (wS_i hW) (by omega) (by omega) (by omega) ?_
        rw [show (nI wd + (-1) : Int32) = nI wd - 1 from (Int32.sub_eq_add_neg _ _).symm]
        refine ih n _ (by omega) (by omega) (fun n' f' hx => hp n' f' ⟨hx.1, fun h => ?_⟩)
        rw [bin_len] at h; omega
  intro wd n f hn hwd hp
  exact ⟨wd + 1, go wd n f hn hwd hp⟩
theorem w_puts (hW : WB μ0 o r it ta ti tn T) {p : Nat} {w v x : Int32} {post : Mm → Prop} (wd n : Nat) (f : Nat → Int32) (hx : x = nI wd) (hn : n ≤ 240) (hwd : wd ≤ 1000) (hp : ∀ n' f', Ex n f (bin wd v) n' f' → post (wS μ0 o r it p w n' f')) : wp_X5_put o v x (wS μ0 o r it p w n f) post := by
  subst hx; exact w_put hW wd n f hn hwd hp
/-- eight bits laid into their place -/
def pat (f : Nat → Int32) (n0 : Nat) (v : Int32) (k : Nat) : Nat → Int32 := fun i => if n0 + k ≤ i ∧ i < n0 + 8 then msk v (7 - (i - n0)) else f i
theorem pat_8 {f : Nat → Int32} {n0 : Nat} {v : Int32} : pat f n0 v 8 = f := by
  funext i; unfold pat; rw [if_neg (by omega)]
theorem pat_s {f : Nat → Int32} {n0 k : Nat} {v : Int32} (hk : k < 8) : pat (upd f (n0 + k) (msk v (7 - k))) n0 v (k + 1) = pat f n0 v k := by
  funext i
  unfold pat
  by_cases h : i = n0 + k
  · subst h
    rw [if_neg (by omega), if_pos (by omega), pk_us]; congr 1; omega
  · by_cases h2 : n0 + k ≤ i ∧ i < n0 + 8
    · rw [if_pos (by omega), if_pos h2]
    · rw [if_neg (by omega), if_neg h2, pk_un h]
theorem bin_at (v : Int32) : ∀ (w i : Nat), i < w → (bin w v)[i]? = some (msk v (w - 1 - i))
  | 0, i, h => by omega
  | w + 1, 0, _ => by simp [bin, msk]
  | w + 1, i + 1, h => by
    rw [bin, List.getElem?_cons_succ, bin_at v w i (by omega)]; congr 2; omega
theorem pat_0 {f : Nat → Int32} {n : Nat} {v : Int32} {b : List Int32} : pat (apL (apL f n (bin 8 0)) (n + 8) b) n v 0 = apL f n (bin 8 v ++ b) := by
  funext i
  unfold pat
  by_cases h : n + 0 ≤ i ∧ i < n + 8
  · rw [if_pos h]
    unfold apL
    rw [if_neg (by omega), List.getElem?_append_left (by rw [bin_len]; omega), bin_at v 8 (i - n) (by omega)]
  · rw [if_neg h]
    by_cases h2 : i < n
    · unfold apL; simp [h2, show i < n + 8 by omega]
    · unfold apL
      rw [if_neg (by omega), if_neg h2, List.getElem?_append_right (by rw [bin_len]; omega), bin_len]
      have : i - n - 8 = i - (n + 8) := by omega
      rw [this]
      cases b[i - (n + 8)]? with
      | some x => simp [h2]
      | none => simp [h2, bin_len, show 8 ≤ i - n by omega]
end WR
