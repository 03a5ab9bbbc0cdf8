/-! THE CLASS'S OPERATIONS: answers that are known beforehand -/
theorem t_m1 {k : Nat} (hk : k < 2 ^ 20) : ((-1 : Int32) - nI k).toInt = -1 - (k : Int) := by
  have e : (-1 : Int32).toInt = -1 := by decide
  rw [Int32.toInt_sub, e, nI_toInt (by omega), Int.bmod_def]; omega
theorem t_m1001 {k : Nat} (hk : k < 2 ^ 20) : ((-1001 : Int32) - nI k).toInt = -1001 - (k : Int) := by
  have e : (-1001 : Int32).toInt = -1001 := by decide
  rw [Int32.toInt_sub, e, nI_toInt (by omega), Int.bmod_def]; omega
theorem no_neg {n k : Nat} (hk : k < 2 ^ 20) (hn : n < 2 ^ 20) : ¬ ∃ t, t < n ∧ (-1 : Int32) - nI k = nI t := fun ⟨t, ht, e⟩ => by
  have := t_m1 hk
  rw [e, nI_toInt (by omega)] at this; omega
theorem no_big {n k : Nat} (hk : k < 2 ^ 20) (hn : n < 2 ^ 20) : ¬ ∃ t, t < n ∧ nI n + nI k = nI t := fun ⟨t, ht, e⟩ => by
  rw [nI_add, nI_eq (by omega) (by omega)] at e; omega
theorem le_t {a b : Int32} : a ≤ b ↔ a.toInt ≤ b.toInt := Int32.le_iff_toInt_le
theorem t_ad {c : Int32} {n k : Nat} (hc : c = nI n) (hn : n < 2 ^ 20) (hk : k < 2 ^ 20) : (c + nI k).toInt = n + k := by
  rw [hc, nI_add, nI_toInt (by omega)]; omega
section XQ
variable {kd : Nat → Nat} {x : Nat} {S : SS} {μ : Mm}
theorem VS.v1 (h : VS S) : snt S ≤ 16 := h.1
theorem VS.v6 (h : VS S) : stn S ≤ 300 := h.2.2.2.2.2.1
theorem VS.v7 (h : VS S) : sbn S ≤ 240 := h.2.2.2.2.2.2.1
theorem VS.v8 (h : VS S) : ∀ i, sb S i ≤ 1 := h.2.2.2.2.2.2.2.1
theorem ty_inj (hV : VS S) {t t' : Nat} (ht : t < snt S) (ht' : t' < snt S) (e : nI t = nI t') : t' = t := by
  have := hV.v1
  exact ((nI_eq (by omega) (by omega)).mp e).symm
theorem x_num (hkd : ∀ i j, i < 4 → j < 4 → kd i = kd j → i = j) (hV : VS S) (hK : KS kd x S μ) {p1 p2 : Int32} (hbad : ¬ (((-1000 : Int32) ≤ p1 ∧ p1 ≤ 1000) ∧ p1 ≤ p2 ∧ p2 ≤ 1000)) {post : Int32 → Mm → Prop} (h : ∀ μ', KS kd x S μ' → post (-2000000002) μ') : wp_L_numbers kd x p1 p2 μ post :=
  y_numbers hkd hV hK (fun _ => h) (fun c => absurd c hbad) (fun c => absurd c hbad)
theorem x_numF (hkd : ∀ i j, i < 4 → j < 4 → kd i = kd j → i = j) (hV : VS S) (hK : KS kd x S μ) {p1 p2 : Int32} (hg : (((-1000 : Int32) ≤ p1 ∧ p1 ≤ 1000) ∧ p1 ≤ p2 ∧ p2 ≤ 1000)) (hf : snt S = 16) {post : Int32 → Mm → Prop} (h : ∀ μ', KS kd x S μ' → post (-2000000003) μ') : wp_L_numbers kd x p1 p2 μ post :=
  y_numbers hkd hV hK (fun c => absurd hg c) (fun _ _ => h) (fun _ c => absurd hf (by omega))
theorem x_lists0 (hkd : ∀ i j, i < 4 → j < 4 → kd i = kd j → i = j) (hV : VS S) (hK : KS kd x S μ) {p1 p2 p3 : Int32} (hn : ¬ ∃ t, t < snt S ∧ p1 = nI t) {post : Int32 → Mm → Prop} (h : ∀ μ', KS kd x S μ' → post (-2000000001) μ') : wp_L_lists kd x p1 p2 p3 μ post :=
  y_lists hkd hV hK (fun _ => h) (fun ⟨t, ht, e⟩ => absurd ⟨t, ht, e⟩ hn) (fun t _ _ ht e => absurd ⟨t, ht, e⟩ hn) (fun t _ _ ht e => absurd ⟨t, ht, e⟩ hn)
theorem x_lists1 (hkd : ∀ i j, i < 4 → j < 4 → kd i = kd j → i = j) (hV : VS S) (hK : KS kd x S μ) {t : Nat} {p2 p3 : Int32} (ht : t < snt S) (hbad : ¬ (((0 : Int32) ≤ p2 ∧ p2 ≤ 8) ∧ p2 ≤ p3 ∧ p3 ≤ 8)) {post : Int32 → Mm → Prop} (h : ∀ μ', KS kd x S μ' → post (-2000000002) μ') : wp_L_lists kd x (nI t) p2 p3 μ post :=
  y_lists hkd hV hK (fun hn => absurd ⟨t, ht, rfl⟩ hn) (fun _ _ => h) (fun t a c _ _ e2 e3 h1 h2 => absurd (by rw [e2, e3]; exact ⟨⟨nI_pos' (by omega), nI_le (b := 8) (by omega) (by omega)⟩, nI_le h1 (by omega), nI_le (b := 8) h2 (by omega)⟩) hbad) (fun t a c _ _ e2 e3 h1 h2 => absurd (by rw [e2, e3]; exact ⟨⟨nI_pos' (by omega), nI_le (b := 8) (by omega) (by omega)⟩, nI_le h1 (by omega), nI_le (b := 8) h2 (by omega)⟩) hbad)
theorem x_parts0 (hV : VS S) (hK : KS kd x S μ) {p1 p2 : Int32} (hn : ¬ ∃ t, t < snt S ∧ p1 = nI t) {post : Int32 → Mm → Prop} (h : ∀ μ', KS kd x S μ' → post (-2000000001) μ') : wp_L_parts x p1 p2 μ post :=
  y_parts hV hK (fun _ => h) (fun ⟨t, ht, e⟩ => absurd ⟨t, ht, e⟩ hn) (fun t ht e => absurd ⟨t, ht, e⟩ hn)
theorem x_ext0 (hkd : ∀ i j, i < 4 → j < 4 → kd i = kd j → i = j) (hV : VS S) (hK : KS kd x S μ) {p1 p2 : Int32} (hn : (¬ ∃ t, t < snt S ∧ p1 = nI t) ∨ (¬ ∃ t, t < snt S ∧ p2 = nI t)) {post : Int32 → Mm → Prop} (h : ∀ μ', KS kd x S μ' → post (-2000000001) μ') : wp_L_extend kd x p1 p2 μ post :=
  y_extend hkd hV hK (fun _ => h) (fun s o hs ho e1 e2 => absurd hn (fun z => z.elim (fun z => z ⟨s, hs, e1⟩) (fun z => z ⟨o, ho, e2⟩))) (fun s o hs ho e1 e2 => absurd hn (fun z => z.elim (fun z => z ⟨s, hs, e1⟩) (fun z => z ⟨o, ho, e2⟩))) (fun s o hs ho e1 e2 => absurd hn (fun z => z.elim (fun z => z ⟨s, hs, e1⟩) (fun z => z ⟨o, ho, e2⟩)))
theorem x_ext1 (hkd : ∀ i j, i < 4 → j < 4 → kd i = kd j → i = j) (hV : VS S) (hK : KS kd x S μ) {t : Nat} (ht : t < snt S) {post : Int32 → Mm → Prop} (h : ∀ μ', KS kd x S μ' → post (-2000000002) μ') : wp_L_extend kd x (nI t) (nI t) μ post :=
  y_extend hkd hV hK (fun z => z.elim (fun z => absurd ⟨t, ht, rfl⟩ z) (fun z => absurd ⟨t, ht, rfl⟩ z)) (fun _ _ _ _ _ _ _ => h) (fun s o hs ho e1 e2 _ hos => absurd hos (by have a := ty_inj hV ht hs e1; have b := ty_inj hV ht ho e2; omega)) (fun s o hs ho e1 e2 _ hos => absurd hos (by have a := ty_inj hV ht hs e1; have b := ty_inj hV ht ho e2; omega))
theorem x_least0 (hV : VS S) (hK : KS kd x S μ) {p1 : Int32} (hn : ¬ ∃ t, t < snt S ∧ p1 = nI t) {post : Int32 → Mm → Prop} (h : ∀ μ', KS kd x S μ' → post (-2000000001) μ') : wp_L_least x p1 μ post :=
  y_least hV hK (fun _ => h) (fun t ht e => absurd ⟨t, ht, e⟩ hn)
theorem x_least (hV : VS S) (hK : KS kd x S μ) {t : Nat} (ht : t < snt S) {post : Int32 → Mm → Prop} (h : ∀ μ', KS kd x S μ' → post (nI (nF (sN S) t)) μ') : wp_L_least x (nI t) μ post :=
  y_least hV hK (fun hn => absurd ⟨t, ht, rfl⟩ hn) (fun t' ht' e => by rw [ty_inj hV ht ht' e]; exact h)
theorem x_most0 (hV : VS S) (hK : KS kd x S μ) {p1 : Int32} (hn : ¬ ∃ t, t < snt S ∧ p1 = nI t) {post : Int32 → Mm → Prop} (h : ∀ μ', KS kd x S μ' → post (-2000000001) μ') : wp_L_most x p1 μ post :=
  y_most hV hK (fun _ => h) (fun t ht e => absurd ⟨t, ht, e⟩ hn)
theorem x_most (hV : VS S) (hK : KS kd x S μ) {t : Nat} (ht : t < snt S) {post : Int32 → Mm → Prop} (h : ∀ μ', KS kd x S μ' → post (nI (nM (sN S) t)) μ') : wp_L_most x (nI t) μ post :=
  y_most hV hK (fun hn => absurd ⟨t, ht, rfl⟩ hn) (fun t' ht' e => by rw [ty_inj hV ht ht' e]; exact h)
theorem x_tells0 (hV : VS S) (hK : KS kd x S μ) {p1 : Int32} (hbad : ¬ ((-1000 : Int32) ≤ p1 ∧ p1 ≤ 1000)) {post : Int32 → Mm → Prop} (h : ∀ μ', KS kd x S μ' → post (-2000000002) μ') : wp_L_tells x p1 μ post :=
  y_tells hV hK (fun _ => h) (fun c => absurd c hbad) (fun c => absurd c hbad)
theorem x_tellsF (hV : VS S) (hK : KS kd x S μ) {p1 : Int32} (hg : ((-1000 : Int32) ≤ p1 ∧ p1 ≤ 1000)) (hf : stn S = 300) {post : Int32 → Mm → Prop} (h : ∀ μ', KS kd x S μ' → post (-2000000003) μ') : wp_L_tells x p1 μ post :=
  y_tells hV hK (fun c => absurd hg c) (fun _ _ => h) (fun _ c => absurd hf (by omega))
theorem x_tells (hV : VS S) (hK : KS kd x S μ) {p1 : Int32} (hg : ((-1000 : Int32) ≤ p1 ∧ p1 ≤ 1000)) (hf : stn S < 300) {post : Int32 → Mm → Prop} (h : ∀ μ', KS kd x (s_tale S (stn S + 1) (upd (sT S) (stn S) p1)) μ' → post (nI (stn S + 1)) μ') : wp_L_tells x p1 μ post :=
  y_tells hV hK (fun c => absurd hg c) (fun _ c => absurd c (by omega)) (fun _ _ => h)
theorem x_told0 (hV : VS S) (hK : KS kd x S μ) {p1 : Int32} (hn : ¬ ∃ j, j < stn S ∧ p1 = nI j) {post : Int32 → Mm → Prop} (h : ∀ μ', KS kd x S μ' → post (-2000000001) μ') : wp_L_told x p1 μ post :=
  y_told hV hK (fun _ => h) (fun j hj e => absurd ⟨j, hj, e⟩ hn)
theorem x_told (hV : VS S) (hK : KS kd x S μ) {j : Nat} (hj : j < stn S) {post : Int32 → Mm → Prop} (h : ∀ μ', KS kd x S μ' → post (sT S j) μ') : wp_L_told x (nI j) μ post :=
  y_told hV hK (fun hn => absurd ⟨j, hj, rfl⟩ hn) (fun j' hj' e => by have := hV.v6; rw [(nI_eq (by omega) (by omega)).mp e] at h; exact h)
theorem x_bit0 (hV : VS S) (hK : KS kd x S μ) {p1 : Int32} (hn : ¬ ∃ j, j < sbn S ∧ p1 = nI j) {post : Int32 → Mm → Prop} (h : ∀ μ', KS kd x S μ' → post (-2000000001) μ') : wp_L_bit x p1 μ post :=
  y_bit hV hK (fun _ => h) (fun j hj e => absurd ⟨j, hj, e⟩ hn)
theorem x_bit (hV : VS S) (hK : KS kd x S μ) {j : Nat} (hj : j < sbn S) {post : Int32 → Mm → Prop} (h : ∀ μ', KS kd x S μ' → post (nI (sb S j)) μ') : wp_L_bit x (nI j) μ post :=
  y_bit hV hK (fun hn => absurd ⟨j, hj, rfl⟩ hn) (fun j' hj' e => by have := hV.v7; rw [(nI_eq (by omega) (by omega)).mp e] at h; exact h)
theorem x_flips0 (hV : VS S) (hK : KS kd x S μ) {p1 : Int32} (hn : ¬ ∃ j, j < sbn S ∧ p1 = nI j) {post : Int32 → Mm → Prop} (h : ∀ μ', KS kd x S μ' → post (-2000000001) μ') : wp_L_flips x p1 μ post :=
  y_flips hV hK (fun _ => h) (fun j hj e => absurd ⟨j, hj, e⟩ hn)
theorem x_flips (hV : VS S) (hK : KS kd x S μ) {j : Nat} (hj : j < sbn S) {post : Int32 → Mm → Prop} (h : ∀ μ', KS kd x (s_msg S (sbn S) (fun i => if i = j then 1 - sb S j else sb S i)) μ' → post (nI (1 - sb S j)) μ') : wp_L_flips x (nI j) μ post :=
  y_flips hV hK (fun hn => absurd ⟨j, hj, rfl⟩ hn) (fun j' hj' e => by have := hV.v7; rw [(nI_eq (by omega) (by omega)).mp e] at h; exact h)
theorem x_cuts0 (hV : VS S) (hK : KS kd x S μ) {p1 : Int32} (hbad : ¬ ((0 : Int32) ≤ p1 ∧ p1 ≤ nI (sbn S))) {post : Int32 → Mm → Prop} (h : ∀ μ', KS kd x S μ' → post (-2000000002) μ') : wp_L_cuts x p1 μ post :=
  y_cuts hV hK (fun _ => h) (fun j hj e => absurd (by have := hV.v7; rw [e]; exact ⟨nI_pos' (by omega), nI_le hj (by omega)⟩) hbad)
theorem x_cuts (hV : VS S) (hK : KS kd x S μ) {j : Nat} (hj : j ≤ sbn S) {post : Int32 → Mm → Prop} (h : ∀ μ', KS kd x (s_msg S j (sb S)) μ' → post (nI (sbn S - j)) μ') : wp_L_cuts x (nI j) μ post :=
  y_cuts hV hK (fun hn => absurd (by have := hV.v7; exact ⟨nI_pos' (by omega), nI_le hj (by omega)⟩) hn) (fun j' hj' e => by have := hV.v7; rw [(nI_eq (by omega) (by omega)).mp e] at h; exact h)
theorem x_wrong0 (hkd : ∀ i j, i < 4 → j < 4 → kd i = kd j → i = j) (hV : VS S) (hK : KS kd x S μ) {p1 : Int32} (hn : ¬ ∃ t, t < snt S ∧ p1 = nI t) {post : Int32 → Mm → Prop} (h : ∀ μ', KS kd x S μ' → post (-2000000001) μ') : wp_L_wrong kd x p1 μ post :=
  y_wrong hkd hV hK (fun _ => h) (fun t ht e => absurd ⟨t, ht, e⟩ hn)
theorem x_wrong (hkd : ∀ i j, i < 4 → j < 4 → kd i = kd j → i = j) (hV : VS S) (hK : KS kd x S μ) {t : Nat} (ht : t < snt S) {post : Int32 → Mm → Prop} (h : ∀ μ', KS kd x S μ' → post (wvN (sN S) (sT S) (stn S) t) μ') : wp_L_wrong kd x (nI t) μ post :=
  y_wrong hkd hV hK (fun hn => absurd ⟨t, ht, rfl⟩ hn) (fun t' ht' e => by rw [ty_inj hV ht ht' e]; exact h)
theorem x_writes0 (hkd : ∀ i j, i < 4 → j < 4 → kd i = kd j → i = j) (hV : VS S) (hK : KS kd x S μ) {p1 : Int32} (hn : ¬ ∃ t, t < snt S ∧ p1 = nI t) {post : Int32 → Mm → Prop} (h : ∀ μ', KS kd x S μ' → post (-2000000001) μ') : wp_L_writes kd x p1 μ post :=
  y_writes hkd hV hK (fun _ => h) (fun t ht e => absurd ⟨t, ht, e⟩ hn) (fun t ht e => absurd ⟨t, ht, e⟩ hn)
theorem x_writesB (hkd : ∀ i j, i < 4 → j < 4 → kd i = kd j → i = j) (hV : VS S) (hK : KS kd x S μ) {t : Nat} (ht : t < snt S) (hw : wvN (sN S) (sT S) (stn S) t ≠ -1) {post : Int32 → Mm → Prop} (h : ∀ μ', KS kd x S μ' → post (-2000000003) μ') : wp_L_writes kd x (nI t) μ post :=
  y_writes hkd hV hK (fun hn => absurd ⟨t, ht, rfl⟩ hn) (fun _ _ _ _ => h) (fun t' ht' e p' bs hv hle _ => absurd (by rw [ty_inj hV ht ht' e] at hv; rw [wvN_r hv, if_pos hle]) hw)
theorem x_writesG (hkd : ∀ i j, i < 4 → j < 4 → kd i = kd j → i = j) (hV : VS S) (hK : KS kd x S μ) {t p1 : Nat} {bs1 : List Int32} (ht : t < snt S) (hv1 : vT (sN S) (sT S) (stn S) 17 t 0 = .inr (p1, bs1)) (hle1 : stn S ≤ p1) {post : Int32 → Mm → Prop} (h : bs1.length ≤ 240 → ∀ μ', KS kd x (s_msg S bs1.length (btL bs1)) μ' → post (nI bs1.length) μ') : wp_L_writes kd x (nI t) μ post :=
  y_writes hkd hV hK (fun hn => absurd ⟨t, ht, rfl⟩ hn) (fun t' ht' e hw => absurd (by rw [ty_inj hV ht ht' e, wvN_r hv1, if_pos hle1]) hw) (fun t' ht' e p' bs hv hle hl => by rw [ty_inj hV ht ht' e, hv1] at hv; cases hv; exact h hl)
theorem x_fault0 (hkd : ∀ i j, i < 4 → j < 4 → kd i = kd j → i = j) (hV : VS S) (hK : KS kd x S μ) {p1 p2 : Int32} (hn : ¬ ∃ t, t < snt S ∧ p1 = nI t) {post : Int32 → Mm → Prop} (h : ∀ μ', KS kd x S μ' → post (-2000000001) μ') : wp_L_fault kd x p1 p2 μ post :=
  y_fault hkd hV hK (fun _ => h) (fun ⟨t, ht, e⟩ => absurd ⟨t, ht, e⟩ hn) (fun t _ ht e => absurd ⟨t, ht, e⟩ hn)
theorem x_fault1 (hkd : ∀ i j, i < 4 → j < 4 → kd i = kd j → i = j) (hV : VS S) (hK : KS kd x S μ) {t : Nat} {p2 : Int32} (ht : t < snt S) (hbad : ¬ ((0 : Int32) ≤ p2 ∧ p2 ≤ 3)) {post : Int32 → Mm → Prop} (h : ∀ μ', KS kd x S μ' → post (-2000000002) μ') : wp_L_fault kd x (nI t) p2 μ post :=
  y_fault hkd hV hK (fun hn => absurd ⟨t, ht, rfl⟩ hn) (fun _ _ => h) (fun t kn _ _ hk e2 => (absurd (by rw [e2]; exact ⟨nI_pos' (by omega), nI_le (b := 3) hk (by omega)⟩) hbad))
theorem x_fault (hkd : ∀ i j, i < 4 → j < 4 → kd i = kd j → i = j) (hV : VS S) (hK : KS kd x S μ) {t kn : Nat} (ht : t < snt S) (hkn : kn ≤ 3) {post : Int32 → Mm → Prop} (h : ∀ μ', KS kd x S μ' → post (fvN (sN S) (sb S) (sbn S) kn t) μ') : wp_L_fault kd x (nI t) (nI kn) μ post :=
  y_fault hkd hV hK (fun hn => absurd ⟨t, ht, rfl⟩ hn) (fun _ hbad => absurd ⟨nI_pos' (by omega), nI_le (b := 3) hkn (by omega)⟩ hbad) (fun t' kn' ht' e hk e2 => by rw [ty_inj hV ht ht' e, show kn' = kn from ((nI_eq (by omega) (by omega)).mp e2).symm]; exact h)
theorem x_reads0 (hkd : ∀ i j, i < 4 → j < 4 → kd i = kd j → i = j) (hV : VS S) (hK : KS kd x S μ) {p1 p2 : Int32} (hn : ¬ ∃ t, t < snt S ∧ p1 = nI t) {post : Int32 → Mm → Prop} (h : ∀ μ', KS kd x S μ' → post (-2000000001) μ') : wp_L_reads kd x p1 p2 μ post :=
  y_reads hkd hV hK (fun _ => h) (fun ⟨t, ht, e⟩ => absurd ⟨t, ht, e⟩ hn) (fun t _ ht e => absurd ⟨t, ht, e⟩ hn) (fun t _ ht e => absurd ⟨t, ht, e⟩ hn)
theorem x_reads1 (hkd : ∀ i j, i < 4 → j < 4 → kd i = kd j → i = j) (hV : VS S) (hK : KS kd x S μ) {t : Nat} {p2 : Int32} (ht : t < snt S) (hbad : ¬ ((0 : Int32) ≤ p2 ∧ p2 ≤ 3)) {post : Int32 → Mm → Prop} (h : ∀ μ', KS kd x S μ' → post (-2000000002) μ') : wp_L_reads kd x (nI t) p2 μ post :=
  y_reads hkd hV hK (fun hn => absurd ⟨t, ht, rfl⟩ hn) (fun _ _ => h) (fun t kn _ _ hk e2 => (absurd (by rw [e2]; exact ⟨nI_pos' (by omega), nI_le (b := 3) hk (by omega)⟩) hbad)) (fun t kn _ _ hk e2 => (absurd (by rw [e2]; exact ⟨nI_pos' (by omega), nI_le (b := 3) hk (by omega)⟩) hbad))
theorem x_readsB (hkd : ∀ i j, i < 4 → j < 4 → kd i = kd j → i = j) (hV : VS S) (hK : KS kd x S μ) {t kn : Nat} (ht : t < snt S) (hkn : kn ≤ 3) (hf : fvN (sN S) (sb S) (sbn S) kn t ≠ -1) {post : Int32 → Mm → Prop} (h : ∀ μ', KS kd x S μ' → post (-2000000003) μ') : wp_L_reads kd x (nI t) (nI kn) μ post :=
  y_reads hkd hV hK (fun hn => absurd ⟨t, ht, rfl⟩ hn) (fun _ hbad => absurd ⟨nI_pos' (by omega), nI_le (b := 3) hkn (by omega)⟩ hbad) (fun _ _ _ _ _ _ _ => h) (fun t' kn' ht' e hk e2 p' l hv hle _ => absurd (by rw [ty_inj hV ht ht' e, show kn' = kn from ((nI_eq (by omega) (by omega)).mp e2).symm] at hv; rw [fvN_r hv, if_pos hle]) hf)
theorem x_readsG (hkd : ∀ i j, i < 4 → j < 4 → kd i = kd j → i = j) (hV : VS S) (hK : KS kd x S μ) {t kn p1 : Nat} {l1 : List Int32} (ht : t < snt S) (hkn : kn ≤ 3) (hv1 : rV (sN S) (sb S) (sbn S) kn 17 t 0 = .inr (p1, l1)) (hle1 : sbn S ≤ p1) {post : Int32 → Mm → Prop} (h : l1.length ≤ 240 → ∀ μ', KS kd x (s_tale S l1.length (cpF (sT S) (fun i => l1.getD i 0) l1.length)) μ' → post (nI l1.length) μ') : wp_L_reads kd x (nI t) (nI kn) μ post :=
  y_reads hkd hV hK (fun hn => absurd ⟨t, ht, rfl⟩ hn) (fun _ hbad => absurd ⟨nI_pos' (by omega), nI_le (b := 3) hkn (by omega)⟩ hbad) (fun t' kn' ht' e hk e2 hf => absurd (by rw [ty_inj hV ht ht' e, show kn' = kn from ((nI_eq (by omega) (by omega)).mp e2).symm, fvN_r hv1, if_pos hle1]) hf) (fun t' kn' ht' e hk e2 p' l hv hle hl => by rw [ty_inj hV ht ht' e, show kn' = kn from ((nI_eq (by omega) (by omega)).mp e2).symm, hv1] at hv; cases hv; exact h hl)
end XQ
