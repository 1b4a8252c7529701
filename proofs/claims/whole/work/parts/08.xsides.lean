/-! the class's sides, support, changes -/
theorem pp_shl : ∀ t, t < 7 → (1 : Int32) <<< (nI t &&& 31) = nI (2 ^ t) := by decide +kernel
theorem pp_nar (b : Bool) : narrow .boolean (.int (if b = true then 1 else 0)) = .int (if b = true then 1 else 0) := by
  cases b
  · exact (show lw_bz 0 = 0 by decide) ▸ lw_bz_n 0
  · exact (show lw_bz 1 = 1 by decide) ▸ lw_bz_n 1
def pp_Fn (n c x q : Nat) (b : Bool) : Prop := b = true ↔ ∃ p, q ≤ p ∧ p < 2 * n - 3 ∧ pp_SI n c (pp_DW n c p) = x
section
variable {sc rc : Int32} {ss ws fs : Nat → Int32}
theorem pp_bsl {post : Int32 → SX → Prop} {n c x : Nat} (h3 : 3 ≤ n) (h6 : n ≤ 6) (hc : c < pp_P n) (hx64 : x < 64) {ft lb rb dw : Nat → Int32} (H : pp_XT n c ft lb rb dw)
    (K : ∀ (b : Bool) fd, (b = true ↔ ∃ p, p < 2 * n - 3 ∧ pp_SI n c (pp_DW n c p) = x) → post (if b = true then 1 else 0) (nI n, sc, rc, nI (2 * n - 3), ss, ws, ft, lb, rb, dw, fs, fd)) :
    ∀ q k fo fd (b : Bool), q ≤ 2 * n - 3 → q < k → pp_rx n c q fo = some [(pp_DW n c 0, pp_tr n c)] → (∀ y, y ∈ fo → fd y.1 = nI (pp_sd y.2)) → pp_Fn n c x q b →
      wX_builtSeparates_9 post (nI x) (nI n) sc rc (nI (2 * n - 3)) k (if b = true then 1 else 0) (nI q + (-1)) ss ws ft lb rb dw fs fd := by
  have cB := of_decide_eq_true (pp_every_s pp_cB1 h3 h6 hc)
  have cB3 := of_decide_eq_true (pp_every_s pp_cB3 h3 h6 hc)
  have cB4 := of_decide_eq_true (pp_every_s pp_cB4 h3 h6 hc)
  have h64 : 2 ^ n ≤ 64 := by
    have : 2 ^ n ≤ 2 ^ 6 := Nat.pow_le_pow_right (by omega) h6
    omega
  obtain ⟨Hf, Hl, Hr, Hd⟩ := H
  intro q
  induction q with
  | zero =>
    intro k fo fd b hq hk hx hfo hb
    obtain ⟨k, rfl⟩ : ∃ q, k = q + 1 := ⟨k - 1, by omega⟩
    refine br_t (by decide) (And.intro (pp_nar b) (K b fd (Iff.trans hb ?_)))
    exact ⟨fun ⟨p, _, h⟩ => ⟨p, h⟩, fun ⟨p, h⟩ => ⟨p, Nat.zero_le p, h⟩⟩
  | succ q ih =>
    intro k fo fd b hq hk hx hfo hb
    obtain ⟨k, rfl⟩ : ∃ q, k = q + 1 := ⟨k - 1, by omega⟩
    obtain ⟨f, hs, hr⟩ := pp_rx_s hx
    rw [pk_m1]
    obtain ⟨e, he⟩ : ∃ e, e = pp_DW n c q := ⟨_, rfl⟩
    rw [← he] at hs
    have hbq := (cB q (by omega)).2.2.2
    rw [← he] at hbq
    have hbe := cB e hbq
    have hsi := (cB3 e hbq).1
    have hdq : dw q = nI e := by rw [Hd q (by omega), ← he, pp_e_n (by omega)]
    have hin : vp_in (nI e) 9 := vp_in_nI (by omega) (by omega)
    have hcl : (nI e).toNatClampNeg = e := nI_clamp (by omega)
    have F83 : (∀ y, y ∈ f → upd fd e (nI (pp_SI n c e)) y.1 = nI (pp_sd y.2)) → wX_builtSeparates_83 post (wX_builtSeparates_9 post (nI x) (nI n) sc rc (nI (2 * n - 3)) k) (nI x) (if b = true then 1 else 0) (nI q) (nI e) (nI n) sc rc (nI (2 * n - 3)) ss ws ft lb rb dw fs (upd fd e (nI (pp_SI n c e))) := by
      intro inv
      have IH := ih k f (upd fd e (nI (pp_SI n c e)))
      cases b with
      | true =>
        refine br_f (by decide) (nm_e (IH true (by omega) (by omega) hr inv ?_))
        obtain ⟨p, h1, h2⟩ := Iff.mp hb rfl
        exact ⟨fun _ => ⟨p, by omega, h2⟩, fun _ => rfl⟩
      | false =>
        refine br_t rfl (And.intro hin ?_)
        rw [hcl, pk_us]
        by_cases z : pp_SI n c e = x
        · refine br_t (by rw [z]) (nm_e (IH true (by omega) (by omega) hr inv ?_))
          exact ⟨fun _ => ⟨q, Nat.le_refl _, by omega, by rw [← he]; exact z⟩, fun _ => rfl⟩
        · refine br_f (fun w => z ((nI_eq (by omega) (by omega)).mp w)) (nm_e (IH false (by omega) (by omega) hr inv ?_))
          refine ⟨fun w => absurd w Bool.false_ne_true, fun ⟨p, h1, h2, h4⟩ => ?_⟩
          by_cases ep : p = q
          · rw [ep, ← he] at h4; exact absurd h4 z
          · exact Iff.mpr hb ⟨p, by omega, h2, h4⟩
    refine br_f (nI_pos (by omega)) (And.intro (vp_in_nI (by omega) (by omega)) (nm_r (e' := nI e) (by rw [nI_clamp (by omega), hdq]) (And.intro hin ?_)))
    rcases pp_sx_s (W := fun _ => 1) hs with ⟨hF, a, b2, rest, ha, hb2, rfl, hrest, _, hsd⟩ | ⟨hF, rfl, hrest, hsd⟩
    · obtain ⟨l9, r9⟩ := cB4 e hbq hF
      have hlb : lb e = nI (pp_LB n c e) := by rw [Hl e hbq, pp_e_n (by omega)]
      have hrb : rb e = nI (pp_RB n c e) := by rw [Hr e hbq, pp_e_n (by omega)]
      refine br_t (by rw [hcl, Hf e hbq, pp_e_m1 hF]) (And.intro hin (And.intro (by rw [hcl, hlb]; exact vp_in_nI (by omega) (by omega)) (And.intro hin (And.intro (by rw [hcl, hrb]; exact vp_in_nI (by omega) (by omega)) (And.intro hin (nm_r (e' := upd fd e (nI (pp_SI n c e))) ?_ (F83 ?_)))))))
      · rw [hcl, hlb, hrb, nI_clamp (by omega), nI_clamp (by omega), hfo _ ha, hfo _ hb2, nx_or, hsd]
      · intro y hy
        rcases List.mem_cons.mp hy with rfl | hy
        · rw [pk_us, ← hsd]; rfl
        · rw [pk_un (hrest y hy).2]; exact hfo y (hrest y hy).1
    · have ht : pp_FT n c e < 6 := by have := hbe.1; omega
      have hft : ft e = nI (pp_FT n c e) := by rw [Hf e hbq, pp_e_n hF]
      refine br_f (by rw [hcl, hft]; exact pp_nI_m1 (by omega)) (And.intro hin (And.intro hin (nm_r (e' := upd fd e (nI (pp_SI n c e))) ?_ (F83 ?_))))
      · rw [hcl, hft, pp_shl _ (by omega), hsd]
      · intro y hy
        rcases List.mem_cons.mp hy with rfl | hy
        · rw [pk_us, ← hsd]; rfl
        · rw [pk_un (hrest y hy)]; exact hfo y hy
theorem pp_bse {post : Int32 → SX → Prop} {n c x : Nat} (h3 : 3 ≤ n) (h6 : n ≤ 6) (hc : c < pp_P n) (hx64 : x < 64) {ft lb rb dw fd : Nat → Int32} (H : pp_XT n c ft lb rb dw)
    (K : ∀ fd, post (if pp_sep n c x = true then 1 else 0) (nI n, sc, rc, nI (2 * n - 3), ss, ws, ft, lb, rb, dw, fs, fd)) :
    wpX_builtSeparates post (nI n, sc, rc, nI (2 * n - 3), ss, ws, ft, lb, rb, dw, fs, fd) (nI x) := by
  have e : nI (2 * n - 3) - 1 = nI (2 * n - 3) + (-1) := by
    obtain ⟨m, hm⟩ : ∃ m, 2 * n - 3 = m + 1 := ⟨2 * n - 4, by omega⟩
    rw [hm, nI_pred, pk_m1]
  have cB := of_decide_eq_true (pp_every_s pp_cB1 h3 h6 hc)
  have cB3 := of_decide_eq_true (pp_every_s pp_cB3 h3 h6 hc)
  unfold wpX_builtSeparates
  refine nm_r e (Exists.intro (2 * n - 3 + 1) ?_)
  refine pp_bsl h3 h6 hc hx64 H ?_ (2 * n - 3) (2 * n - 3 + 1) [] fd false (by omega) (by omega) (pp_tree h3 h6 hc).1 (fun y hy => by cases hy) ⟨fun w => absurd w Bool.false_ne_true, fun ⟨p, h1, h2, _⟩ => by omega⟩
  intro b fd' hb
  have eb : b = pp_sep n c x := by
    rw [Bool.eq_iff_iff, hb]
    unfold pp_sep
    rw [pp_any_s]
    refine ⟨fun ⟨p, h1, h2⟩ => ⟨pp_DW n c p, (cB p h1).2.2.2, decide_eq_true h2⟩, fun ⟨j, h1, h2⟩ => ?_⟩
    have h2 := of_decide_eq_true h2
    have h4 := cB3 j h1
    exact ⟨_, h4.2.2.1, by rw [h4.2.2.2]; exact h2⟩
  rw [eb]
  exact K fd'
end
section
variable {n s : Nat} {ss ws : Nat → Int32}
theorem pp_xu {post : Int32 → SX → Prop} (h3 : 3 ≤ n) (h6 : n ≤ 6) (hs : s ≤ 8) (hS : pp_S ss) (hV : pp_V ws) {x : Nat} (hx64 : x < 64) {ec : Int32} {ft lb rb dw fs fd : Nat → Int32}
    (K : ∀ ec ft lb rb dw fs fd, post (nI (pp_cs (fun c => pp_su n ss ws c s) (fun c => pp_sep n c x) (pp_su n ss ws (pp_bk (fun c => pp_su n ss ws c s) (pp_P n)) s) (pp_P n))) (nI n, nI s, nI (pp_P n), ec, ss, ws, ft, lb, rb, dw, fs, fd)) :
    wX_support_35 post (nI x) (nI n) (nI s) (nI (pp_P n)) ec ss ws ft lb rb dw fs fd := by
  have hP := pp_P_0 n
  unfold wX_support_35
  refine pp_fb h3 h6 hs hS hV ?_
  intro ec ft lb rb dw fs
  have hbl := pp_su_le (ss := ss) h3 h6 hV (pp_bk_in (f := fun c => pp_su n ss ws c s) hP.1) hs
  refine pp_xs h3 h6 hs hS hV (pp_bk_in hP.1) ?_
  intro ec ft lb rb dw fs
  refine Exists.intro (pp_P n + 1) ?_
  revert K hbl
  generalize pp_su n ss ws (pp_bk (fun c => pp_su n ss ws c s) (pp_P n)) s = l
  intro K hbl
  have L : ∀ d y k ec ft lb rb dw fs fd, y + d = pp_P n → d < k → wX_support_55 post (nI x) (nI l) k (nI (pp_cs (fun c => pp_su n ss ws c s) (fun c => pp_sep n c x) l y)) (nI y) (nI n) (nI s) (nI (pp_P n)) ec ss ws ft lb rb dw fs fd := by
    intro d
    induction d with
    | zero =>
      intro y k ec ft lb rb dw fs fd hy hk
      obtain ⟨k, rfl⟩ : ∃ q, k = q + 1 := ⟨k - 1, by omega⟩
      have e : y = pp_P n := by omega
      rw [e]
      exact br_t (nI_le (by omega) (by omega)) (K _ _ _ _ _ _ _)
    | succ d ih =>
      intro y k ec ft lb rb dw fs fd hy hk
      obtain ⟨k, rfl⟩ : ∃ q, k = q + 1 := ⟨k - 1, by omega⟩
      refine br_f (nI_ge (by omega) (by omega)) (pp_bt h3 h6 (by omega) ?_)
      intro ft' lb' rb' dw' H
      refine pp_sb h3 h6 hs hS hV (by omega) H ?_
      intro fs'
      have b2 := pp_su_le (ss := ss) h3 h6 hV (show y < pp_P n by omega) hs
      have IH := fun ec ft lb rb dw fs fd => ih (y + 1) k ec ft lb rb dw fs fd (by omega) (by omega)
      have eq : pp_cs (fun c => pp_su n ss ws c s) (fun c => pp_sep n c x) l (y + 1) = if pp_su n ss ws y s = l ∧ pp_sep n y x = true then pp_cs (fun c => pp_su n ss ws c s) (fun c => pp_sep n c x) l y + 1 else pp_cs (fun c => pp_su n ss ws c s) (fun c => pp_sep n c x) l y := rfl
      by_cases z : pp_su n ss ws y s = l
      · refine br_t (by rw [z]) ?_
        refine pp_bse h3 h6 (by omega) hx64 H ?_
        intro fd'
        by_cases w : pp_sep n y x = true
        · rw [if_pos ⟨z, w⟩] at eq
          rw [eq] at IH
          rw [if_pos w]
          exact br_f (by decide) (nm_r (nI_1 _) (nm_r (nI_1 y) (IH _ _ _ _ _ _ _)))
        · rw [if_neg (fun h => w h.2)] at eq
          rw [eq] at IH
          rw [if_neg w]
          exact br_t rfl (nm_r (nI_1 y) (IH _ _ _ _ _ _ _))
      · rw [if_neg (fun h => z h.1)] at eq
        rw [eq] at IH
        exact br_f (fun w => z ((nI_eq (by omega) (by omega)).mp w)) (nm_r (nI_1 y) (IH _ _ _ _ _ _ _))
  exact L (pp_P n) 0 (pp_P n + 1) ec ft lb rb dw fs fd (by omega) (by omega)
theorem pp_xc {post : Int32 → SX → Prop} (h3 : 3 ≤ n) (h6 : n ≤ 6) (hs : s ≤ 8) (hS : pp_S ss) (hV : pp_V ws) {i : Nat} (hi : i < s) {ec : Int32} {ft lb rb dw fs fd : Nat → Int32}
    (K : ∀ ec ft lb rb dw fs, post (nI (pp_D (pp_W ss i) (pp_tr n (pp_bk (fun c => pp_su n ss ws c s) (pp_P n))))) (nI n, nI s, nI (pp_P n), ec, ss, ws, ft, lb, rb, dw, fs, fd)) :
    wpX_changes post (nI n, nI s, nI (pp_P n), ec, ss, ws, ft, lb, rb, dw, fs, fd) (nI i) := by
  have hP := pp_P_0 n
  have hbk := pp_bk_in (f := fun c => pp_su n ss ws c s) hP.1
  unfold wpX_changes
  refine br_f (nI_pos (by omega)) (br_f (nI_ge (by omega) (by omega)) (br_f (by decide) ?_))
  refine pp_fb h3 h6 hs hS hV ?_
  intro ec ft lb rb dw fs
  refine pp_bt h3 h6 hbk ?_
  intro ft' lb' rb' dw' H
  refine pp_ch h3 h6 hbk (by omega) hS H ?_
  intro fs'
  exact K _ _ _ _ _ _
end
