/-! the class builds the tree of its table, whatever lay in its arrays before -/
section
variable {tc sc rc : Int32} {ss ws fs fd : Nat → Int32}
theorem pp_si {post : SX → Prop} {ec : Int32} {ft lb rb dw : Nat → Int32} {e : Nat} {l r : Int32} (he : e < 9)
    (K : post (tc, sc, rc, ec, ss, ws, upd ft e (-1), upd lb e l, upd rb e r, dw, fs, fd)) :
    wpX_setInner post (tc, sc, rc, ec, ss, ws, ft, lb, rb, dw, fs, fd) (nI e) l r := by
  have hin : vp_in (nI e) 9 := vp_in_nI he (by omega)
  have hc : (nI e).toNatClampNeg = e := nI_clamp (by omega)
  refine And.intro hin (nm_r (by rw [hc]) (And.intro hin (nm_r (by rw [hc]) (And.intro hin (nm_r (by rw [hc]) K)))))
theorem pp_sl {post : SX → Prop} {ec : Int32} {ft lb rb dw : Nat → Int32} {e : Nat} {t : Int32} (he : e < 9)
    (K : post (tc, sc, rc, ec, ss, ws, upd ft e t, upd lb e (-1), upd rb e (-1), dw, fs, fd)) :
    wpX_setLeaf post (tc, sc, rc, ec, ss, ws, ft, lb, rb, dw, fs, fd) (nI e) t := by
  have hin : vp_in (nI e) 9 := vp_in_nI he (by omega)
  have hc : (nI e).toNatClampNeg = e := nI_clamp (by omega)
  refine And.intro hin (nm_r (by rw [hc]) (And.intro hin (nm_r (by rw [hc]) (And.intro hin (nm_r (by rw [hc]) K)))))
theorem pp_rbl {post : SX → Prop} {old new m : Nat} {L R : Nat → Nat} (ho : old < 9) (hn : new < 9) (hm : m ≤ 9) (hL : ∀ j, j < m → L j < 16) (hR : ∀ j, j < m → R j < 16) {ft dw : Nat → Int32}
    (K : ∀ lb rb, pp_A lb (fun j => if L j = old then new else L j) m → pp_A rb (fun j => if R j = old then new else R j) m → post (tc, sc, rc, nI m, ss, ws, ft, lb, rb, dw, fs, fd)) :
    ∀ d i k lb rb, i + d = m → d < k → pp_A lb (fun j => if j < i ∧ L j = old then new else L j) m → pp_A rb (fun j => if j < i ∧ R j = old then new else R j) m →
      wX_replaceBelow_2 post (nI old) (nI new) tc sc rc (nI m) k (nI i) ss ws ft lb rb dw fs fd := by
  intro d
  induction d with
  | zero =>
    intro i k lb rb hi hk hl hr
    obtain ⟨k, rfl⟩ : ∃ q, k = q + 1 := ⟨k - 1, by omega⟩
    refine br_t (nI_le (by omega) (by omega)) (K lb rb (pp_A_c hl ?_) (pp_A_c hr ?_))
    · intro j hj
      have : j < i := by omega
      simp [this]
    · intro j hj
      have : j < i := by omega
      simp [this]
  | succ d ih =>
    intro i k lb rb hi hk hl hr
    obtain ⟨k, rfl⟩ : ∃ q, k = q + 1 := ⟨k - 1, by omega⟩
    have hlt : i < m := by omega
    have hnle : ¬ nI m ≤ nI i := nI_ge (by omega) (by omega)
    have hin : vp_in (nI i) 9 := vp_in_nI (by omega) (by omega)
    have hc : (nI i).toNatClampNeg = i := nI_clamp (by omega)
    have li : lb i = pp_e (L i) := by rw [hl i hlt]; simp
    have ri : rb i = pp_e (R i) := by rw [hr i hlt]; simp
    have nn : nI new = pp_e new := (pp_e_n (by omega)).symm
    have U : ∀ (a : Nat → Int32) (G : Nat → Nat), pp_A a (fun j => if j < i ∧ G j = old then new else G j) m → G i = old → pp_A (upd a i (nI new)) (fun j => if j < i + 1 ∧ G j = old then new else G j) m := by
      intro a G h z
      refine pp_A_u (f := G) (fun j hj hne => ?_) (fun _ => ?_)
      · rw [h j hj]
        by_cases hji : j < i
        · have : j < i + 1 := by omega
          simp [hji, this]
        · have : ¬ j < i + 1 := by omega
          simp [hji, this]
      · simp [z, nn]
    have N : ∀ (a : Nat → Int32) (G : Nat → Nat), pp_A a (fun j => if j < i ∧ G j = old then new else G j) m → ¬ G i = old → pp_A a (fun j => if j < i + 1 ∧ G j = old then new else G j) m := by
      intro a G h z
      refine pp_A_c h (fun j hj => ?_)
      by_cases hji : j = i
      · subst hji; simp [z]
      · have : j < i + 1 ↔ j < i := by omega
        simp [this]
    have J : ∀ lb' rb', pp_A lb' (fun j => if j < i + 1 ∧ L j = old then new else L j) m → pp_A rb' (fun j => if j < i + 1 ∧ R j = old then new else R j) m →
        wX_replaceBelow_2 post (nI old) (nI new) tc sc rc (nI m) k (nI i + 1) ss ws ft lb' rb' dw fs fd := by
      intro lb' rb' h1 h2
      rw [nI_1]
      exact ih (i + 1) k lb' rb' (by omega) (by omega) h1 h2
    have F27 : ∀ lb', pp_A lb' (fun j => if j < i + 1 ∧ L j = old then new else L j) m →
        wX_replaceBelow_27 post (wX_replaceBelow_2 post (nI old) (nI new) tc sc rc (nI m) k) (nI old) (nI new) (nI i) tc sc rc (nI m) ss ws ft lb' rb dw fs fd := by
      intro lb' h'
      refine And.intro hin ?_
      by_cases z : R i = old
      · refine br_t (by rw [hc, ri]; exact (pp_e_eq (hR i hlt) (by omega)).mpr z) (And.intro hin (nm_r (by rw [hc]) (nm_e ?_)))
        exact J _ _ h' (U rb R hr z)
      · refine br_f (by rw [hc, ri]; exact fun y => z ((pp_e_eq (hR i hlt) (by omega)).mp y)) (nm_e ?_)
        exact J _ _ h' (N rb R hr z)
    refine br_f hnle (And.intro hin ?_)
    by_cases z : L i = old
    · refine br_t (by rw [hc, li]; exact (pp_e_eq (hL i hlt) (by omega)).mpr z) (And.intro hin (nm_r (by rw [hc]) ?_))
      exact F27 _ (U lb L hl z)
    · refine br_f (by rw [hc, li]; exact fun y => z ((pp_e_eq (hL i hlt) (by omega)).mp y)) ?_
      exact F27 _ (N lb L hl z)
theorem pp_rb {post : SX → Prop} {old new m : Nat} {L R : Nat → Nat} (ho : old < 9) (hn : new < 9) (hm : m ≤ 9) (hL : ∀ j, j < m → L j < 16) (hR : ∀ j, j < m → R j < 16) {ft lb rb dw : Nat → Int32} (hl : pp_A lb L m) (hr : pp_A rb R m)
    (K : ∀ lb rb, pp_A lb (fun j => if L j = old then new else L j) m → pp_A rb (fun j => if R j = old then new else R j) m → post (tc, sc, rc, nI m, ss, ws, ft, lb, rb, dw, fs, fd)) :
    wpX_replaceBelow post (tc, sc, rc, nI m, ss, ws, ft, lb, rb, dw, fs, fd) (nI old) (nI new) := by
  refine Exists.intro (m + 1) ?_
  refine pp_rbl ho hn hm hL hR K m 0 (m + 1) lb rb (by omega) (by omega) (pp_A_c hl ?_) (pp_A_c hr ?_)
  · intro j hj; simp
  · intro j hj; simp
theorem pp_ish {post : SX → Prop} {m p ins : Nat} {G : Nat → Nat} (hm : m < 9) (hp : p < m) {ft lb rb : Nat → Int32}
    (K : ∀ dw : Nat → Int32, (∀ j, j < p → dw j = pp_e (G j)) → dw p = nI ins → (∀ j, p ≤ j → j < m → dw (j + 1) = pp_e (G j)) → post (tc, sc, rc, nI m, ss, ws, ft, lb, rb, dw, fs, fd)) :
    ∀ d i k dw, p + d = i → i ≤ m → d < k → (∀ j, j < i → dw j = pp_e (G j)) → (∀ j, i ≤ j → j < m → dw (j + 1) = pp_e (G j)) →
      wX_insertAhead_32 post (nI ins) (nI p) tc sc rc (nI m) k (nI i) ss ws ft lb rb dw fs fd := by
  intro d
  induction d with
  | zero =>
    intro i k dw hi hm' hk h1 h2
    obtain ⟨k, rfl⟩ : ∃ q, k = q + 1 := ⟨k - 1, by omega⟩
    have e : i = p := by omega
    subst e
    refine br_t (nI_le (by omega) (by omega)) (And.intro (vp_in_nI (by omega) (by omega)) (nm_r (by rw [nI_clamp (by omega)]) ?_))
    refine K _ (fun j hj => ?_) pk_us (fun j hj hjm => ?_)
    · rw [pk_un (by omega)]; exact h1 j hj
    · rw [pk_un (by omega)]; exact h2 j hj hjm
  | succ d ih =>
    intro i k dw hi hm' hk h1 h2
    obtain ⟨k, rfl⟩ : ∃ q, k = q + 1 := ⟨k - 1, by omega⟩
    obtain ⟨i, rfl⟩ : ∃ q, i = q + 1 := ⟨i - 1, by omega⟩
    have hs : nI (i + 1) - 1 = nI i := nI_pred i
    refine br_f (nI_ge (by omega) (by omega)) (And.intro (by rw [hs]; exact vp_in_nI (by omega) (by omega)) (And.intro (vp_in_nI (by omega) (by omega)) (nm_r (e' := upd dw (i + 1) (dw i)) (by rw [hs, nI_clamp (by omega), nI_clamp (by omega)]) (nm_r (pk_m1 i) ?_))))
    refine ih i k _ (by omega) (by omega) (by omega) (fun j hj => ?_) (fun j hj hjm => ?_)
    · rw [pk_un (by omega)]; exact h1 j (by omega)
    · by_cases e : j = i
      · subst e; rw [pk_us]; exact h1 j (by omega)
      · rw [pk_un (by omega)]; exact h2 j (by omega) hjm
theorem pp_ia {post : SX → Prop} {m p ins edge : Nat} {G : Nat → Nat} (hm : m < 9) (hp : p < m) (hG : ∀ j, j < m → G j < 9) (he : edge < 9) (hpe : G p = edge) (hpn : ∀ j, j < p → G j ≠ edge) {ft lb rb dw : Nat → Int32} (hd : pp_A dw G m)
    (K : ∀ dw : Nat → Int32, (∀ j, j < p → dw j = pp_e (G j)) → dw p = nI ins → (∀ j, p ≤ j → j < m → dw (j + 1) = pp_e (G j)) → post (tc, sc, rc, nI m, ss, ws, ft, lb, rb, dw, fs, fd)) :
    wpX_insertAhead post (tc, sc, rc, nI m, ss, ws, ft, lb, rb, dw, fs, fd) (nI edge) (nI ins) := by
  have H : ∀ d i k, i + d = p → d < k → wX_insertAhead_2 post (nI edge) (nI ins) tc sc rc (nI m) ss ws ft lb rb dw fs fd k (nI i) := by
    intro d
    induction d with
    | zero =>
      intro i k hi hk
      obtain ⟨k, rfl⟩ : ∃ q, k = q + 1 := ⟨k - 1, by omega⟩
      have e : i = p := by omega
      subst e
      refine br_f (nI_ge (by omega) (by omega)) (And.intro (vp_in_nI (by omega) (by omega)) (br_t ?_ (Exists.intro (m + 1) ?_)))
      · rw [nI_clamp (by omega), hd i hp]
        exact (pp_e_eq (by have := hG i hp; omega) (by omega)).mpr hpe
      · refine pp_ish hm hp K (m - i) m (m + 1) dw (by omega) (by omega) (by omega) (fun j hj => hd j hj) (fun j hj hj' => by omega)
    | succ d ih =>
      intro i k hi hk
      obtain ⟨k, rfl⟩ : ∃ q, k = q + 1 := ⟨k - 1, by omega⟩
      refine br_f (nI_ge (by omega) (by omega)) (And.intro (vp_in_nI (by omega) (by omega)) (br_f ?_ (nm_r (nI_1 i) ?_)))
      · rw [nI_clamp (by omega), hd i (by omega)]
        exact fun z => hpn i (by omega) ((pp_e_eq (by have := hG i (by omega); omega) (by omega)).mp z)
      · exact ih (i + 1) k (by omega) (by omega)
  exact Exists.intro (p + 1) (H p 0 (p + 1) (by omega) (by omega))
def pp_XT (n c : Nat) (ft lb rb dw : Nat → Int32) : Prop := pp_A ft (pp_FT n c) (2 * n - 3) ∧ pp_A lb (pp_LB n c) (2 * n - 3) ∧ pp_A rb (pp_RB n c) (2 * n - 3) ∧ pp_A dw (pp_DW n c) (2 * n - 3)
theorem pp_at {post : SX → Prop} {t c e : Nat} (h3 : 3 ≤ t) (h5 : t ≤ 5) (hc : c < pp_P t) (he : e < 2 * t - 3) {ft lb rb dw : Nat → Int32} (H : pp_XT t c ft lb rb dw)
    (K : ∀ ft lb rb dw, pp_XT (t + 1) (c + pp_P t * e) ft lb rb dw → post (tc, sc, rc, nI (2 * (t + 1) - 3), ss, ws, ft, lb, rb, dw, fs, fd)) :
    wpX_addTaxon post (tc, sc, rc, nI (2 * t - 3), ss, ws, ft, lb, rb, dw, fs, fd) (nI t) (nI e) := by
  obtain ⟨m, hm⟩ : ∃ m, m = 2 * t - 3 := ⟨_, rfl⟩
  obtain ⟨d, hd⟩ : ∃ d, d = c + pp_P t * e := ⟨_, rfl⟩
  have cLB := of_decide_eq_true (pp_steps_s pp_cLB h3 h5 hc he)
  have cRB := of_decide_eq_true (pp_steps_s pp_cRB h3 h5 hc he)
  have cFT := of_decide_eq_true (pp_steps_s pp_cFT h3 h5 hc he)
  have cN1 := of_decide_eq_true (pp_steps_s pp_cN1 h3 h5 hc he)
  have cN2 := of_decide_eq_true (pp_steps_s pp_cN2 h3 h5 hc he)
  have cD1 := of_decide_eq_true (pp_steps_s pp_cD1 h3 h5 hc he)
  have cD2 := of_decide_eq_true (pp_steps_s pp_cD2 h3 h5 hc he)
  have cB := of_decide_eq_true (pp_every_s pp_cB1 h3 (show t ≤ 6 by omega) hc)
  unfold pp_XT at H
  rw [← hm, show 2 * t - 2 = m + 1 by omega, ← hd] at cN1 cD2
  rw [show 2 * t - 2 = m + 1 by omega, ← hd] at cN2
  rw [← hm, ← hd] at cLB cRB cFT cD1
  rw [← hm] at cB H he ⊢
  rw [← hd, show 2 * (t + 1) - 3 = m + 2 by omega] at K
  have hm3 : 3 ≤ m := by omega
  have hm7 : m ≤ 7 := by omega
  obtain ⟨Hf, Hl, Hr, Hd⟩ := H
  unfold wpX_addTaxon
  refine nm_r (nI_1 m) ?_
  refine pp_rb (L := pp_LB t c) (R := pp_RB t c) (by omega) (by omega) (by omega) (fun j hj => by have := (cB j hj).2.1; omega) (fun j hj => by have := (cB j hj).2.2.1; omega) Hl Hr ?_
  intro lb' rb' hl' hr'
  refine pp_si (e := m) (by omega) ?_
  refine pp_sl (e := m + 1) (by omega) ?_
  refine pp_ia (p := pp_pl t c e) (G := pp_DW t c) (by omega) cD1.1 (fun j hj => by have := (cB j hj).2.2.2; omega) (by omega) cD1.2.1 (fun j hj => (cD1.2.2 j hj).1) Hd ?_
  intro dw' q1 q2 q3
  refine And.intro (by rw [nI_1]; exact vp_in_nI (by omega) (by omega)) (nm_r (e' := upd dw' (m + 1) (nI (m + 1))) (by rw [nI_1, nI_clamp (by omega)]) (nm_r (nI_add m 2) ?_))
  refine K _ _ _ _ ⟨?_, ?_, ?_, ?_⟩
  · rw [show 2 * (t + 1) - 3 = m + 2 by omega]
    refine pp_A_u (f := pp_FT t c) (fun j hj hne => ?_) (fun _ => ?_)
    · by_cases ej : j = m
      · subst ej; rw [pk_us, pp_e_m1 cN1.2.2]
      · rw [pk_un ej, Hf j (by omega), cFT j (by omega)]
    · rw [cN2.2.2, pp_e_n (by omega)]
  · rw [show 2 * (t + 1) - 3 = m + 2 by omega]
    refine pp_A_u (f := pp_LB t c) (fun j hj hne => ?_) (fun _ => ?_)
    · by_cases ej : j = m
      · subst ej; rw [pk_us, cN1.1, pp_e_n (by omega)]
      · rw [pk_un ej, hl' j (by omega), cLB j (by omega)]
    · rw [pp_e_m1 cN2.1]
  · rw [show 2 * (t + 1) - 3 = m + 2 by omega]
    refine pp_A_u (f := pp_RB t c) (fun j hj hne => ?_) (fun _ => ?_)
    · by_cases ej : j = m
      · subst ej; rw [pk_us, cN1.2.1, pp_e_n (by omega)]
      · rw [pk_un ej, hr' j (by omega), cRB j (by omega)]
    · rw [pp_e_m1 cN2.2.1]
  · rw [show 2 * (t + 1) - 3 = m + 2 by omega]
    refine pp_A_u (f := pp_DW t c) (fun j hj hne => ?_) (fun _ => ?_)
    · by_cases h1 : j < pp_pl t c e
      · rw [q1 j h1, (cD1.2.2 j h1).2]
      · by_cases h2 : j = pp_pl t c e
        · rw [h2, q2, cD2.1, pp_e_n (by omega)]
        · obtain ⟨i, rfl⟩ : ∃ i, j = i + 1 := ⟨j - 1, by omega⟩
          rw [q3 i (by omega) (by omega), cD2.2.2 i (by omega) (by omega)]
    · rw [cD2.2.1, pp_e_n (by omega)]
theorem pp_eb {post : Int32 → Prop} {t : Nat} (h3 : 3 ≤ t) (K : post (nI (2 * t - 3))) : wpX_edgesBefore post (nI t) := by
  have e : (2 : Int32) * nI t - 3 = nI (2 * t - 3) := by
    rw [show (2 : Int32) = nI 2 from rfl, show (3 : Int32) = nI 3 from rfl, pk_mul, pk_sub (by omega)]
  unfold wpX_edgesBefore
  rw [e]
  exact K
theorem pp_P_s {t : Nat} (h3 : 3 ≤ t) (h5 : t ≤ 5) : pp_P (t + 1) = pp_P t * (2 * t - 3) := by
  have hn : t = 3 ∨ t = 4 ∨ t = 5 := by omega
  rcases hn with rfl | rfl | rfl <;> decide
theorem pp_P_0 (t : Nat) : 0 < pp_P t ∧ pp_P t ≤ 105 := by
  unfold pp_P
  split
  · omega
  · split
    · omega
    · split <;> omega
theorem pp_st {post : SX → Prop} {ec : Int32} {ft lb rb dw : Nat → Int32}
    (K : ∀ ft lb rb dw, pp_XT 3 0 ft lb rb dw → post (tc, sc, rc, nI (2 * 3 - 3), ss, ws, ft, lb, rb, dw, fs, fd)) :
    wpX_startTree post (tc, sc, rc, ec, ss, ws, ft, lb, rb, dw, fs, fd) := by
  unfold wpX_startTree
  refine pp_si (e := 0) (by omega) ?_
  refine pp_sl (e := 1) (by omega) ?_
  refine pp_sl (e := 2) (by omega) ?_
  refine nm_e (nm_e (nm_e ?_))
  obtain ⟨⟨f0, f1, f2⟩, ⟨l0, l1, l2⟩, ⟨r0, r1, r2⟩, ⟨d0, d1, d2⟩⟩ := pp_c3
  refine K _ _ _ _ ⟨?_, ?_, ?_, ?_⟩
  all_goals
    intro j hj
    have hj3 : j = 0 ∨ j = 1 ∨ j = 2 := by omega
    rcases hj3 with rfl | rfl | rfl
  · rw [f0]; rfl
  · rw [f1]; rfl
  · rw [f2]; rfl
  · rw [l0]; rfl
  · rw [l1]; rfl
  · rw [l2]; rfl
  · rw [r0]; rfl
  · rw [r1]; rfl
  · rw [r2]; rfl
  · rw [d0]; rfl
  · rw [d1]; rfl
  · rw [d2]; rfl
theorem pp_bl {post : SX → Prop} {n code : Nat} (h6 : n ≤ 6) (hcode : code < 2 ^ 31)
    (K : ∀ ft lb rb dw, pp_XT n (code % pp_P n) ft lb rb dw → post (nI n, sc, rc, nI (2 * n - 3), ss, ws, ft, lb, rb, dw, fs, fd)) :
    ∀ d t k ft lb rb dw, t + d = n → 3 ≤ t → d < k → pp_XT t (code % pp_P t) ft lb rb dw →
      wX_buildTree_8 post k (nI (code / pp_P t)) (nI t) (nI n) sc rc (nI (2 * t - 3)) ss ws ft lb rb dw fs fd := by
  intro d
  induction d with
  | zero =>
    intro t k ft lb rb dw ht h3 hk H
    obtain ⟨k, rfl⟩ : ∃ q, k = q + 1 := ⟨k - 1, by omega⟩
    have e : t = n := by omega
    subst e
    exact br_t (nI_le (by omega) (by omega)) (K _ _ _ _ H)
  | succ d ih =>
    intro t k ft lb rb dw ht h3 hk H
    obtain ⟨k, rfl⟩ : ∃ q, k = q + 1 := ⟨k - 1, by omega⟩
    have hx : code / pp_P t < 2 ^ 31 := Nat.lt_of_le_of_lt (Nat.div_le_self _ _) hcode
    have hm : 0 < 2 * t - 3 := by omega
    have ne : ¬ nI (2 * t - 3) = 0 := nI_ne0 hm (by omega)
    refine br_f (nI_ge (by omega) (by omega)) (pp_eb h3 (And.intro ne ?_))
    rw [pk_rem hx hm (by omega)]
    refine pp_at h3 (by omega) (Nat.mod_lt _ (pp_P_0 t).1) (Nat.mod_lt _ hm) H ?_
    intro ft' lb' rb' dw' H'
    refine And.intro ne (nm_r (pk_div hx hm (by omega)) (nm_r (nI_1 t) ?_))
    have e1 : code / pp_P t / (2 * t - 3) = code / pp_P (t + 1) := by rw [pp_P_s h3 (by omega), Nat.div_div_eq_div_mul]
    have e2 : code % pp_P t + pp_P t * (code / pp_P t % (2 * t - 3)) = code % pp_P (t + 1) := by rw [pp_P_s h3 (by omega), Nat.mod_mul]
    rw [e2] at H'
    rw [e1]
    exact ih (t + 1) k ft' lb' rb' dw' (by omega) (by omega) (by omega) H'
theorem pp_bt {post : SX → Prop} {n c : Nat} (h3 : 3 ≤ n) (h6 : n ≤ 6) (hc : c < pp_P n) {ec : Int32} {ft lb rb dw : Nat → Int32}
    (K : ∀ ft lb rb dw, pp_XT n c ft lb rb dw → post (nI n, sc, rc, nI (2 * n - 3), ss, ws, ft, lb, rb, dw, fs, fd)) :
    wpX_buildTree post (nI n, sc, rc, ec, ss, ws, ft, lb, rb, dw, fs, fd) (nI c) := by
  unfold wpX_buildTree
  refine pp_st ?_
  intro ft' lb' rb' dw' H
  have hb := (pp_P_0 n).2
  have e0 : c / pp_P 3 = c := Nat.div_one c
  have e1 : c % pp_P 3 = 0 := Nat.mod_one c
  have e2 : c % pp_P n = c := Nat.mod_eq_of_lt hc
  have := pp_bl (sc := sc) (rc := rc) (ss := ss) (ws := ws) (fs := fs) (fd := fd) (post := post) (n := n) (code := c) h6 (by omega) (by rw [e2]; exact K) (n - 3) 3 (n - 3 + 1) ft' lb' rb' dw' (by omega) (by omega) (by omega) (by rw [e1]; exact H)
  rw [e0] at this
  exact Exists.intro _ this
end
