/-! the class's walk from the back of its list is the run on trees -/
theorem pp_sx_s {W : Nat → Nat} {n c e : Nat} {fo f : List (Nat × pp_T)} (h : pp_sx n c e fo = some f) :
    (pp_FT n c e = 15 ∧ ∃ a b rest, (pp_LB n c e, a) ∈ fo ∧ (pp_RB n c e, b) ∈ fo ∧ f = (e, .op a b) :: rest ∧ (∀ y, y ∈ rest → y ∈ fo ∧ y.1 ≠ e) ∧ pp_sm W fo = pp_fc W a + pp_fc W b + pp_sm W rest ∧ pp_sd a ||| pp_sd b = pp_SI n c e) ∨
    (pp_FT n c e ≠ 15 ∧ f = (e, .var (pp_FT n c e)) :: fo ∧ (∀ y, y ∈ fo → y.1 ≠ e) ∧ 2 ^ pp_FT n c e = pp_SI n c e) := by
  unfold pp_sx pp_new at h
  by_cases hf : pp_FT n c e = 15
  · rw [if_pos hf] at h
    refine Or.inl ⟨hf, ?_⟩
    cases h1 : pp_pick (pp_LB n c e) fo with
    | none => rw [h1] at h; cases h
    | some y =>
      rw [h1] at h
      dsimp only at h
      cases h2 : pp_pick (pp_RB n c e) y.2 with
      | none => rw [h2] at h; cases h
      | some z =>
        rw [h2] at h
        dsimp only at h
        by_cases hh : pp_has e z.2 = false ∧ pp_sd (.op y.1 z.1) = pp_SI n c e
        · rw [if_pos hh] at h
          cases h
          obtain ⟨p1, p2, p3⟩ := pp_pick_s (W := W) h1
          obtain ⟨q1, q2, q3⟩ := pp_pick_s (W := W) h2
          exact ⟨y.1, z.1, z.2, p1, p2 _ q1, rfl, fun w hw => ⟨p2 _ (q2 w hw), pp_has_s hh.1 w hw⟩, by omega, hh.2⟩
        · rw [if_neg hh] at h; cases h
  · rw [if_neg hf] at h
    dsimp only at h
    refine Or.inr ⟨hf, ?_⟩
    by_cases hh : pp_has e fo = false ∧ pp_sd (.var (pp_FT n c e)) = pp_SI n c e
    · rw [if_pos hh] at h
      cases h
      exact ⟨rfl, pp_has_s hh.1, hh.2⟩
    · rw [if_neg hh] at h; cases h
theorem pp_rx_s {n c q : Nat} {fo g : List (Nat × pp_T)} (h : pp_rx n c (q + 1) fo = some g) : ∃ f, pp_sx n c (pp_DW n c q) fo = some f ∧ pp_rx n c q f = some g := by
  unfold pp_rx at h
  cases hs : pp_sx n c (pp_DW n c q) fo with
  | none => rw [hs] at h; cases h
  | some f => rw [hs] at h; exact ⟨f, rfl, h⟩
theorem pp_z {a b : Nat} (ha : a < 16) : nI a &&& nI b = 0 ↔ a &&& b = 0 := by
  rw [nx_and, show (0 : Int32) = nI 0 from rfl, nI_eq (Nat.lt_of_le_of_lt Nat.and_le_left (by omega)) (by omega)]
section
variable {sc rc : Int32} {ss ws fd : Nat → Int32}
theorem pp_co {post : Int32 → SX → Prop} {n c i : Nat} (h3 : 3 ≤ n) (h6 : n ≤ 6) (hc : c < pp_P n) (hi : i < 8) (hS : pp_S ss) {ft lb rb dw : Nat → Int32} (H : pp_XT n c ft lb rb dw)
    (K : ∀ fs, post (nI (pp_D (pp_W ss i) (pp_tr n c))) (nI n, sc, rc, nI (2 * n - 3), ss, ws, ft, lb, rb, dw, fs, fd)) :
    ∀ q k fo fs, q ≤ 2 * n - 3 → q < k → pp_rx n c q fo = some [(pp_DW n c 0, pp_tr n c)] → (∀ y, y ∈ fo → fs y.1 = nI (pp_fs (pp_W ss i) y.2)) →
      wX_changesOfBuilt_9 post (nI i) (nI n) sc rc (nI (2 * n - 3)) k (nI (pp_sm (pp_W ss i) fo)) (nI q + (-1)) ss ws ft lb rb dw fs fd := by
  have hW := pp_W_in hS hi
  have cB := of_decide_eq_true (pp_every_s pp_cB1 h3 h6 hc)
  have cB4 := of_decide_eq_true (pp_every_s pp_cB4 h3 h6 hc)
  obtain ⟨Hf, Hl, Hr, Hd⟩ := H
  intro q
  induction q with
  | zero =>
    intro k fo fs hq hk hx hfo
    obtain ⟨k, rfl⟩ : ∃ q, k = q + 1 := ⟨k - 1, by omega⟩
    have hx : fo = [(pp_DW n c 0, pp_tr n c)] := Option.some.inj hx
    subst hx
    have hd0 : dw 0 = nI (pp_DW n c 0) := by rw [Hd 0 (by omega), pp_e_n (by have := (cB 0 (by omega)).2.2.2; omega)]
    have hb0 := (cB 0 (by omega)).2.2.2
    have hf0 : fs (pp_DW n c 0) = nI (pp_fs (pp_W ss i) (pp_tr n c)) := hfo _ List.mem_cons_self
    have hs0 : ss i = nI (pp_W ss i 0) := by have := pp_W_s hS (i := i) (t := 0) (by omega) hi; rw [Nat.zero_mul, Nat.zero_add] at this; exact this
    refine br_t (by decide) (And.intro (vp_in_nI (by omega) (by omega)) (nm_r (e' := nI (pp_W ss i 0)) (by rw [nI_clamp (by omega), hs0]) (And.intro (by rw [hd0]; exact vp_in_nI (by omega) (by omega)) ?_)))
    rw [hd0, nI_clamp (by omega), hf0]
    have hz := pp_z (a := pp_fs (pp_W ss i) (pp_tr n c)) (b := pp_W ss i 0) (pp_fs_in hW _).2
    by_cases z : pp_fs (pp_W ss i) (pp_tr n c) &&& pp_W ss i 0 = 0
    · refine br_t (hz.mpr z) (br_f (by decide) ?_)
      rw [nI_1]
      have e : pp_sm (pp_W ss i) [(pp_DW n c 0, pp_tr n c)] + 1 = pp_D (pp_W ss i) (pp_tr n c) := by
        unfold pp_D pp_ap; rw [if_pos z]; rfl
      rw [e]
      exact K fs
    · refine br_f (fun w => z (hz.mp w)) (br_t rfl ?_)
      have e : pp_sm (pp_W ss i) [(pp_DW n c 0, pp_tr n c)] = pp_D (pp_W ss i) (pp_tr n c) := by
        unfold pp_D pp_ap; rw [if_neg z]; rfl
      rw [e]
      exact K fs
  | succ q ih =>
    intro k fo fs hq hk hx hfo
    obtain ⟨k, rfl⟩ : ∃ q, k = q + 1 := ⟨k - 1, by omega⟩
    obtain ⟨f, hs, hr⟩ := pp_rx_s hx
    rw [pk_m1]
    obtain ⟨e, he⟩ : ∃ e, e = pp_DW n c q := ⟨_, rfl⟩
    rw [← he] at hs
    have hb := (cB q (by omega)).2.2.2
    rw [← he] at hb
    have hbe := cB e hb
    have hdq : dw q = nI e := by rw [Hd q (by omega), ← he, pp_e_n (by omega)]
    have hin : vp_in (nI e) 9 := vp_in_nI (by omega) (by omega)
    have hcl : (nI e).toNatClampNeg = e := nI_clamp (by omega)
    refine br_f (nI_pos (by omega)) (And.intro (vp_in_nI (by omega) (by omega)) (nm_r (e' := nI e) (by rw [nI_clamp (by omega), hdq]) (And.intro hin ?_)))
    rcases pp_sx_s (W := pp_W ss i) hs with ⟨hF, a, b, rest, ha, hb2, rfl, hrest, hsum, _⟩ | ⟨hF, rfl, hrest, _⟩
    · obtain ⟨l9, r9⟩ := cB4 e hb hF
      have hlb : lb e = nI (pp_LB n c e) := by rw [Hl e hb, pp_e_n (by omega)]
      have hrb : rb e = nI (pp_RB n c e) := by rw [Hr e hb, pp_e_n (by omega)]
      have hfa := hfo _ ha
      have hfb := hfo _ hb2
      refine br_t (by rw [hcl, Hf e hb, pp_e_m1 hF]) (And.intro hin (And.intro (by rw [hcl, hlb]; exact vp_in_nI (by omega) (by omega)) (nm_r (e' := nI (pp_fs (pp_W ss i) a)) (by rw [hcl, hlb, nI_clamp (by omega), hfa]) (And.intro hin (And.intro (by rw [hcl, hrb]; exact vp_in_nI (by omega) (by omega)) (nm_r (e' := nI (pp_fs (pp_W ss i) b)) (by rw [hcl, hrb, nI_clamp (by omega), hfb]) ?_))))))
      have hz := pp_z (a := pp_fs (pp_W ss i) a) (b := pp_fs (pp_W ss i) b) (pp_fs_in hW _).2
      have inv : ∀ y, y ∈ (e, Lean.Data.AC.Expr.op a b) :: rest → upd fs e (nI (pp_fz (pp_fs (pp_W ss i) a) (pp_fs (pp_W ss i) b))) y.1 = nI (pp_fs (pp_W ss i) y.2) := by
        intro y hy
        rcases List.mem_cons.mp hy with rfl | hy
        · exact pk_us
        · rw [pk_un (hrest y hy).2]; exact hfo y (hrest y hy).1
      have IH := ih k _ _ (by omega) (by omega) hr inv
      by_cases z : pp_fs (pp_W ss i) a &&& pp_fs (pp_W ss i) b = 0
      · refine br_t (hz.mpr z) (br_f (by decide) (And.intro hin (nm_r (e' := upd fs e (nI (pp_fz (pp_fs (pp_W ss i) a) (pp_fs (pp_W ss i) b)))) (by rw [hcl, nx_or]; unfold pp_fz; rw [if_pos z]) (br_f (by decide) (nm_r (e' := nI (pp_sm (pp_W ss i) ((e, Lean.Data.AC.Expr.op a b) :: rest))) ?_ (nm_e IH))))))
        rw [nI_1, hsum]
        refine congrArg nI ?_
        show _ = pp_fc (pp_W ss i) a + pp_fc (pp_W ss i) b + pp_ap (pp_fs (pp_W ss i) a) (pp_fs (pp_W ss i) b) + pp_sm (pp_W ss i) rest
        unfold pp_ap
        rw [if_pos z]
        omega
      · refine br_f (fun w => z (hz.mp w)) (br_t rfl (And.intro hin (nm_r (e' := upd fs e (nI (pp_fz (pp_fs (pp_W ss i) a) (pp_fs (pp_W ss i) b)))) (by rw [hcl, nx_and]; unfold pp_fz; rw [if_neg z]) (br_t rfl (nm_r (e' := nI (pp_sm (pp_W ss i) ((e, Lean.Data.AC.Expr.op a b) :: rest))) ?_ (nm_e IH))))))
        rw [show (0 : Int32) = nI 0 from rfl, nI_add, hsum]
        refine congrArg nI ?_
        show _ = pp_fc (pp_W ss i) a + pp_fc (pp_W ss i) b + pp_ap (pp_fs (pp_W ss i) a) (pp_fs (pp_W ss i) b) + pp_sm (pp_W ss i) rest
        unfold pp_ap
        rw [if_neg z]
        omega
    · have ht : pp_FT n c e < 6 := by have := hbe.1; omega
      have hft : ft e = nI (pp_FT n c e) := by rw [Hf e hb, pp_e_n hF]
      have hix : ft e * 8 + nI i = nI (pp_FT n c e * 8 + i) := by rw [hft, show (8 : Int32) = nI 8 from rfl, pk_mul, nI_add]
      have inv : ∀ y, y ∈ (e, Lean.Data.AC.Expr.var (pp_FT n c e)) :: fo → upd fs e (nI (pp_W ss i (pp_FT n c e))) y.1 = nI (pp_fs (pp_W ss i) y.2) := by
        intro y hy
        rcases List.mem_cons.mp hy with rfl | hy
        · exact pk_us
        · rw [pk_un (hrest y hy)]; exact hfo y hy
      have IH := ih k _ _ (by omega) (by omega) hr inv
      have es : pp_sm (pp_W ss i) ((e, Lean.Data.AC.Expr.var (pp_FT n c e)) :: fo) = pp_sm (pp_W ss i) fo := by
        show 0 + pp_sm (pp_W ss i) fo = _
        omega
      rw [es] at IH
      refine br_f (by rw [hcl, hft]; exact pp_nI_m1 (by omega)) (And.intro hin (And.intro (by rw [hcl, hix]; exact vp_in_nI (by omega) (by omega)) (And.intro hin (nm_r (e' := upd fs e (nI (pp_W ss i (pp_FT n c e)))) ?_ (nm_e IH)))))
      rw [hcl, hix, nI_clamp (by omega), pp_W_s hS ht hi]
theorem pp_ch {post : Int32 → SX → Prop} {n c i : Nat} (h3 : 3 ≤ n) (h6 : n ≤ 6) (hc : c < pp_P n) (hi : i < 8) (hS : pp_S ss) {ft lb rb dw fs : Nat → Int32} (H : pp_XT n c ft lb rb dw)
    (K : ∀ fs, post (nI (pp_D (pp_W ss i) (pp_tr n c))) (nI n, sc, rc, nI (2 * n - 3), ss, ws, ft, lb, rb, dw, fs, fd)) :
    wpX_changesOfBuilt post (nI n, sc, rc, nI (2 * n - 3), ss, ws, ft, lb, rb, dw, fs, fd) (nI i) := by
  have e : nI (2 * n - 3) - 1 = nI (2 * n - 3) + (-1) := by
    obtain ⟨m, hm⟩ : ∃ m, 2 * n - 3 = m + 1 := ⟨2 * n - 4, by omega⟩
    rw [hm, nI_pred, pk_m1]
  unfold wpX_changesOfBuilt
  refine nm_r e (Exists.intro (2 * n - 3 + 1) ?_)
  exact pp_co h3 h6 hc hi hS H K (2 * n - 3) (2 * n - 3 + 1) [] fs (by omega) (by omega) (pp_tree h3 h6 hc).1 (fun y hy => by cases hy)
end
