/-! the relation, and what is owed -/
def i_Rel (_ : Nat) (u : SX) (v : SY) : Prop := ∃ (n s : Nat) (ss ws : Nat → Int32) (ec : Int32) (ft lb rb dw fs fd : Nat → Int32) (kn : Int32) (ne fa co de nd : Nat → Int32),
  3 ≤ n ∧ n ≤ 6 ∧ 1 ≤ s ∧ s ≤ 8 ∧ pp_S ss ∧ pp_V ws ∧ pp_Yk False n s ss kn nd ∧
  u = (nI n, nI s, nI (pp_P n), ec, ss, ws, ft, lb, rb, dw, fs, fd) ∧ v = (nI n, nI s, kn, ss, ws, ne, fa, co, de, nd)
theorem i_up {k : Nat} {u : SX} {v : SY} (h : i_Rel k u v) : i_Rel (k + 4) u v := h
theorem pp_rel {k n s : Nat} {ss ws : Nat → Int32} (h3 : 3 ≤ n) (h6 : n ≤ 6) (h1 : 1 ≤ s) (h8 : s ≤ 8) (hS : pp_S ss) (hV : pp_V ws) {ec : Int32} {ft lb rb dw fs fd : Nat → Int32} {kn : Int32} {ne fa co de nd : Nat → Int32} (hk : pp_Yk False n s ss kn nd) :
    i_Rel k (nI n, nI s, nI (pp_P n), ec, ss, ws, ft, lb, rb, dw, fs, fd) (nI n, nI s, kn, ss, ws, ne, fa, co, de, nd) :=
  ⟨n, s, ss, ws, ec, ft, lb, rb, dw, fs, fd, kn, ne, fa, co, de, nd, h3, h6, h1, h8, hS, hV, hk, rfl, rfl⟩
theorem pp_ct {post : Int32 → Prop} {n : Nat} (h3 : 3 ≤ n) (h6 : n ≤ 6) (K : post (nI (pp_P n))) : wpX_countTrees post (nI n) := by
  have L : ∀ d t k, t + d = n → 3 ≤ t → d < k → wX_countTrees_4 post (nI n) k (nI (pp_P t)) (nI t) := by
    intro d
    induction d with
    | zero =>
      intro t k ht h3 hk
      obtain ⟨k, rfl⟩ : ∃ q, k = q + 1 := ⟨k - 1, by omega⟩
      have e : t = n := by omega
      subst e
      exact br_t (nI_le (by omega) (by omega)) K
    | succ d ih =>
      intro t k ht h3 hk
      obtain ⟨k, rfl⟩ : ∃ q, k = q + 1 := ⟨k - 1, by omega⟩
      refine br_f (nI_ge (by omega) (by omega)) (pp_eb h3 (nm_r (e' := nI (pp_P (t + 1))) (by rw [pk_mul, pp_P_s h3 (by omega)]) (nm_r (nI_1 t) (ih (t + 1) k (by omega) (by omega) (by omega)))))
  exact Exists.intro 4 (L (n - 3) 3 4 (by omega) (by omega) (by omega))
def pp_fl (x : Int32) (i : Nat) : Nat → Int32 := fun j => if j < i then x else 0
theorem pp_fl_0 (x : Int32) : pp_fl x 0 = fun _ => 0 := by
  funext j
  exact if_neg (Nat.not_lt_zero j)
theorem pp_fl_s (x : Int32) (i : Nat) : upd (pp_fl x i) i x = pp_fl x (i + 1) := by
  funext j
  by_cases e : j = i
  · subst e; rw [pk_us]; exact (if_pos (Nat.lt_succ_self j)).symm
  · rw [pk_un e]
    unfold pp_fl
    have : j < i ↔ j < i + 1 := by omega
    simp only [this]
theorem pp_xi {post : SX → Prop} {tc sc rc ec : Int32} {ft lb rb dw fs fd : Nat → Int32} (K : post (tc, sc, rc, ec, pp_fl 15 48, pp_fl 1 8, ft, lb, rb, dw, fs, fd)) :
    ∃ k, wX_init_103 post tc sc rc ec k 0 (fun _ => 0) (fun _ => 0) ft lb rb dw fs fd := by
  have L2 : ∀ d i k, i + d = 8 → d < k → wX_init_125 post tc sc rc ec k (nI i) (pp_fl 15 48) (pp_fl 1 i) ft lb rb dw fs fd := by
    intro d
    induction d with
    | zero =>
      intro i k hi hk
      obtain ⟨k, rfl⟩ : ∃ q, k = q + 1 := ⟨k - 1, by omega⟩
      have e : i = 8 := by omega
      subst e
      exact br_t (nI_le (a := 8) (b := 8) (by omega) (by omega)) K
    | succ d ih =>
      intro i k hi hk
      obtain ⟨k, rfl⟩ : ∃ q, k = q + 1 := ⟨k - 1, by omega⟩
      exact br_f (nI_ge (b := 8) (by omega) (by omega)) (And.intro (vp_in_nI (by omega) (by omega)) (nm_r (e' := pp_fl 1 (i + 1)) (by rw [nI_clamp (by omega), pp_fl_s]) (nm_r (nI_1 i) (ih (i + 1) k (by omega) (by omega)))))
  have L1 : ∀ d i k, i + d = 48 → d < k → wX_init_103 post tc sc rc ec k (nI i) (pp_fl 15 i) (fun _ => 0) ft lb rb dw fs fd := by
    intro d
    induction d with
    | zero =>
      intro i k hi hk
      obtain ⟨k, rfl⟩ : ∃ q, k = q + 1 := ⟨k - 1, by omega⟩
      have e : i = 48 := by omega
      subst e
      have := L2 8 0 9 (by omega) (by omega)
      rw [pp_fl_0] at this
      exact br_t (nI_le (a := 48) (b := 48) (by omega) (by omega)) (Exists.intro _ this)
    | succ d ih =>
      intro i k hi hk
      obtain ⟨k, rfl⟩ : ∃ q, k = q + 1 := ⟨k - 1, by omega⟩
      exact br_f (nI_ge (b := 48) (by omega) (by omega)) (And.intro (vp_in_nI (by omega) (by omega)) (nm_r (e' := pp_fl 15 (i + 1)) (by rw [nI_clamp (by omega), pp_fl_s]) (nm_r (nI_1 i) (ih (i + 1) k (by omega) (by omega)))))
  have := L1 48 0 49 (by omega) (by omega)
  rw [pp_fl_0] at this
  exact Exists.intro _ this
theorem pp_yi {post : SY → Prop} {fn si kn : Int32} {ne fa co de nd : Nat → Int32} (K : post (fn, si, kn, pp_fl 15 48, pp_fl 1 8, ne, fa, co, de, nd)) :
    ∃ k, wY_init_116 post fn si kn k 0 (fun _ => 0) (fun _ => 0) ne fa co de nd := by
  have L2 : ∀ d i k, i + d = 8 → d < k → wY_init_141 post fn si kn k (nI i) (pp_fl 15 48) (pp_fl 1 i) ne fa co de nd := by
    intro d
    induction d with
    | zero =>
      intro i k hi hk
      obtain ⟨k, rfl⟩ : ∃ q, k = q + 1 := ⟨k - 1, by omega⟩
      have e : i = 8 := by omega
      subst e
      exact br_t (nI_le (a := 8) (b := 8) (by omega) (by omega)) K
    | succ d ih =>
      intro i k hi hk
      obtain ⟨k, rfl⟩ : ∃ q, k = q + 1 := ⟨k - 1, by omega⟩
      exact br_f (nI_ge (b := 8) (by omega) (by omega)) (And.intro (vp_in_nI (by omega) (by omega)) (nm_r (e' := pp_fl 1 (i + 1)) (by rw [nI_clamp (by omega), pp_fl_s]) (nm_r (nI_1 i) (ih (i + 1) k (by omega) (by omega)))))
  have L1 : ∀ d i k, i + d = 48 → d < k → wY_init_116 post fn si kn k (nI i) (pp_fl 15 i) (fun _ => 0) ne fa co de nd := by
    intro d
    induction d with
    | zero =>
      intro i k hi hk
      obtain ⟨k, rfl⟩ : ∃ q, k = q + 1 := ⟨k - 1, by omega⟩
      have e : i = 48 := by omega
      subst e
      have := L2 8 0 9 (by omega) (by omega)
      rw [pp_fl_0] at this
      exact br_t (nI_le (a := 48) (b := 48) (by omega) (by omega)) (Exists.intro _ this)
    | succ d ih =>
      intro i k hi hk
      obtain ⟨k, rfl⟩ : ∃ q, k = q + 1 := ⟨k - 1, by omega⟩
      exact br_f (nI_ge (b := 48) (by omega) (by omega)) (And.intro (vp_in_nI (by omega) (by omega)) (nm_r (e' := pp_fl 15 (i + 1)) (by rw [nI_clamp (by omega), pp_fl_s]) (nm_r (nI_1 i) (ih (i + 1) k (by omega) (by omega)))))
  have := L1 48 0 49 (by omega) (by omega)
  rw [pp_fl_0] at this
  exact Exists.intro _ this
theorem pp_i1 (k0 : Int32) : ∃ n, 3 ≤ n ∧ n ≤ 6 ∧ (∀ post : Int32 → Prop, post (nI n) → wpX_clamp post k0 3 6) ∧ (∀ (post : SY → Prop) (k1 : Int32), wY_init_79 post k1 (nI n) 0 0 0 (fun _ => 0) (fun _ => 0) (fun _ => 0) (fun _ => 0) (fun _ => 0) (fun _ => 0) (fun _ => 0) → wpY_init post k0 k1) := by
  by_cases a : (3 : Int32) ≤ k0
  · by_cases b : k0 ≤ 6
    · have h0 : ¬ k0 < 0 := fun z => absurd (Int32.lt_of_le_of_lt a z) (by decide)
      obtain ⟨n, hn, rfl⟩ := nI_of2 (M := 6) (n := 6) (by decide) h0 b
      have h3 : 3 ≤ n := (nI_leI (a := 3) (by omega) (by omega)).mp a
      exact ⟨n, h3, hn, fun post h => br_t a (br_t b h), fun post k1 h => br_t a (br_t b h)⟩
    · exact ⟨6, by omega, by omega, fun post h => br_t a (br_f b h), fun post k1 h => br_t a (br_f b h)⟩
  · exact ⟨3, by omega, by omega, fun post h => br_f a h, fun post k1 h => br_f a (br_t (by decide) h)⟩
theorem pp_i2 (k1 : Int32) : ∃ s, 1 ≤ s ∧ s ≤ 8 ∧ (∀ post : Int32 → Prop, post (nI s) → wpX_clamp post k1 1 8) ∧ (∀ (post : SY → Prop) (x f g h : Int32) (ss ws ne fa co de nd : Nat → Int32), wY_init_102 post x (nI s) f g h ss ws ne fa co de nd → wY_init_79 post k1 x f g h ss ws ne fa co de nd) := by
  by_cases a : (1 : Int32) ≤ k1
  · by_cases b : k1 ≤ 8
    · have h0 : ¬ k1 < 0 := fun z => absurd (Int32.lt_of_le_of_lt a z) (by decide)
      obtain ⟨n, hn, rfl⟩ := nI_of2 (M := 8) (n := 8) (by decide) h0 b
      have h3 : 1 ≤ n := (nI_leI (a := 1) (by omega) (by omega)).mp a
      exact ⟨n, h3, hn, fun post h => br_t a (br_t b h), fun post x f g h ss ws ne fa co de nd q => br_t a (br_t b q)⟩
    · exact ⟨8, by omega, by omega, fun post h => br_t a (br_f b h), fun post x f g h ss ws ne fa co de nd q => br_t a (br_f b q)⟩
  · exact ⟨1, by omega, by omega, fun post h => br_f a h, fun post x f g h ss ws ne fa co de nd q => br_f a (br_t (by decide) q)⟩
theorem i_vc0 (k0 : Int32) (k1 : Int32) : wpX_init (fun u => wpY_init (fun v => i_Rel 2 u v) k0 k1) k0 k1 := by
  obtain ⟨n, h3, h6, X1, Y1⟩ := pp_i1 k0
  obtain ⟨s, h1, h8, X2, Y2⟩ := pp_i2 k1
  unfold wpX_init
  refine X1 _ (X2 _ (pp_ct h3 h6 (pp_xi (Y1 _ _ (Y2 _ _ _ _ _ _ _ _ _ _ _ _ (pp_yi (pp_rel h3 h6 h1 h8 ?_ ?_ ⟨fun z => z.elim, fun z => absurd rfl z⟩)))))))
  · intro j hj
    exact ⟨15, by omega, by omega, if_pos hj⟩
  · intro j hj
    exact ⟨1, by omega, if_pos hj⟩
theorem i_vc_states {k : Nat} {u : SX} {v : SY} (I : i_Rel k u v) (hk : k + 4 ≤ 2050) (v1 : Int32) (v2 : Int32) (v3 : Int32) : wpX_states (fun r u' => wpY_states (fun r' v' => r' = r ∧ i_Rel (k + 4) u' v') v v1 v2 v3) u v1 v2 v3 := by
  obtain ⟨n, s, ss, ws, ec, ft, lb, rb, dw, fs, fd, kn, ne, fa, co, de, nd, h3, h6, h1, h8, hS, hV, hK, rfl, rfl⟩ := I
  have R : i_Rel (k + 4) (nI n, nI s, nI (pp_P n), ec, ss, ws, ft, lb, rb, dw, fs, fd) (nI n, nI s, kn, ss, ws, ne, fa, co, de, nd) := pp_rel h3 h6 h1 h8 hS hV hK
  by_cases a1 : v1 < 0
  · exact br_t a1 (br_t a1 ⟨rfl, R⟩)
  refine br_f a1 ?_
  by_cases a2 : v1 < nI n
  · refine br_t a2 ?_
    by_cases b1 : v2 < 0
    · exact br_t b1 (br_t rfl (br_f a1 (br_t a2 (br_t b1 (br_f (by decide) ⟨rfl, R⟩)))))
    by_cases b2 : nI s ≤ v2
    · exact br_f b1 (br_t b2 (br_t rfl (br_f a1 (br_t a2 (br_f b1 (br_f (Int32.not_lt.mpr b2) (br_f (by decide) ⟨rfl, R⟩)))))))
    have b3 : v2 < nI s := Int32.not_le.mp b2
    refine br_f b1 (br_f b2 (br_f (by decide) ?_))
    by_cases c1 : v3 < 1
    · exact br_t c1 (br_f a1 (br_t a2 (br_f b1 (br_t b3 (br_t rfl (br_t c1 ⟨rfl, R⟩))))))
    by_cases c2 : v3 ≤ 15
    · obtain ⟨t, ht, rfl⟩ := nI_of a1
      obtain ⟨i, hi, rfl⟩ := nI_of b1
      have ht2 := (nI_ltI ht (by omega)).mp a2
      have hi2 := (nI_ltI hi (by omega)).mp b3
      have hix : nI t * 8 + nI i = nI (t * 8 + i) := by rw [show (8 : Int32) = nI 8 from rfl, pk_mul, nI_add]
      have hin : vp_in (nI (t * 8 + i)) 48 := vp_in_nI (by omega) (by omega)
      have hin2 : vp_in (nI t * 8 + nI i) 48 := by rw [hix]; exact hin
      have hcl : (nI (t * 8 + i)).toNatClampNeg = t * 8 + i := nI_clamp (by omega)
      have hv3 : ∃ w, 1 ≤ w ∧ w < 16 ∧ v3 = nI w := by
        have h0 : ¬ v3 < 0 := fun z => c1 (Int32.lt_trans z (by decide))
        obtain ⟨w, hw, rfl⟩ := nI_of2 (M := 15) (n := 15) (by decide) h0 c2
        refine ⟨w, ?_, by omega, rfl⟩
        by_cases z : w = 0
        · subst z; exact absurd (show nI 0 < 1 by decide) c1
        · omega
      refine br_f c1 (br_t c2 (nm_r hix (And.intro hin (nm_e (And.intro hin (nm_r (e' := upd ss (t * 8 + i) v3) (by rw [hcl]) ?_))))))
      refine br_f a1 (br_t a2 (br_f b1 (br_t b3 (br_t rfl (br_f c1 (br_t c2 (And.intro hin2 (nm_r (e' := ss (t * 8 + i)) (by rw [hix, hcl]) (And.intro hin2 (nm_r (e' := upd ss (t * 8 + i) v3) (by rw [hix, hcl]) ⟨by rw [hcl], pp_rel h3 h6 h1 h8 ?_ hV ⟨fun z => z.elim, fun z => absurd rfl z⟩⟩))))))))))
      intro j hj
      by_cases e : j = t * 8 + i
      · subst e; rw [pk_us]; exact hv3
      · rw [pk_un e]; exact hS j hj
    · exact br_f c1 (br_f c2 (br_f a1 (br_t a2 (br_f b1 (br_t b3 (br_t rfl (br_f c1 (br_f c2 ⟨rfl, R⟩))))))))
  · exact br_f a2 (br_f a1 (br_f a2 ⟨rfl, R⟩))
theorem i_vc_weight {k : Nat} {u : SX} {v : SY} (I : i_Rel k u v) (hk : k + 4 ≤ 2050) (v1 : Int32) (v2 : Int32) : wpX_weight (fun r u' => wpY_weight (fun r' v' => r' = r ∧ i_Rel (k + 4) u' v') v v1 v2) u v1 v2 := by
  obtain ⟨n, s, ss, ws, ec, ft, lb, rb, dw, fs, fd, kn, ne, fa, co, de, nd, h3, h6, h1, h8, hS, hV, hK, rfl, rfl⟩ := I
  have R : i_Rel (k + 4) (nI n, nI s, nI (pp_P n), ec, ss, ws, ft, lb, rb, dw, fs, fd) (nI n, nI s, kn, ss, ws, ne, fa, co, de, nd) := pp_rel h3 h6 h1 h8 hS hV hK
  unfold wpX_weight wpY_weight
  dsimp only
  by_cases b1 : v1 < 0
  · exact br_t b1 (br_t rfl (br_t b1 (br_f (by decide) ⟨rfl, R⟩)))
  by_cases b2 : nI s ≤ v1
  · exact br_f b1 (br_t b2 (br_t rfl (br_f b1 (br_f (Int32.not_lt.mpr b2) (br_f (by decide) ⟨rfl, R⟩)))))
  have b3 : v1 < nI s := Int32.not_le.mp b2
  refine br_f b1 (br_f b2 (br_f (by decide) ?_))
  by_cases c1 : v2 < 0
  · exact br_t c1 (br_f b1 (br_t b3 (br_t rfl (br_t c1 ⟨rfl, R⟩))))
  by_cases c2 : v2 ≤ 9
  · obtain ⟨i, hi, rfl⟩ := nI_of b1
    have hi2 := (nI_ltI hi (by omega)).mp b3
    have hin : vp_in (nI i) 8 := vp_in_nI (by omega) (by omega)
    have hcl : (nI i).toNatClampNeg = i := nI_clamp (by omega)
    obtain ⟨w, hw, rfl⟩ := nI_of2 (M := 9) (n := 9) (by decide) c1 c2
    refine br_f c1 (br_t c2 (And.intro hin (nm_e (And.intro hin (nm_r (e' := upd ws i (nI w)) (by rw [hcl]) ?_)))))
    refine br_f b1 (br_t b3 (br_t rfl (br_f c1 (br_t c2 (And.intro hin (nm_e (And.intro hin (nm_r (e' := upd ws i (nI w)) (by rw [hcl]) ⟨rfl, pp_rel h3 h6 h1 h8 hS ?_ hK⟩))))))))
    intro j hj
    by_cases e : j = i
    · subst e; exact ⟨w, by omega, pk_us⟩
    · rw [pk_un e]; exact hV j hj
  · exact br_f c1 (br_f c2 (br_f b1 (br_t b3 (br_t rfl (br_f c1 (br_f c2 ⟨rfl, R⟩))))))
theorem i_vc_trees {k : Nat} {u : SX} {v : SY} (I : i_Rel k u v) (hk : k + 4 ≤ 2050) : wpX_trees (fun r => wpY_trees (fun r' => r' = r ∧ i_Rel (k + 4) u v) v) u := by
  obtain ⟨n, s, ss, ws, ec, ft, lb, rb, dw, fs, fd, kn, ne, fa, co, de, nd, h3, h6, h1, h8, hS, hV, hK, rfl, rfl⟩ := I
  unfold wpX_trees
  exact pp_yt h3 h6 ⟨rfl, pp_rel h3 h6 h1 h8 hS hV hK⟩
theorem pp_kF {n s : Nat} {ss nd : Nat → Int32} {kn : Int32} (h : pp_Yk True n s ss kn nd) : pp_Yk False n s ss kn nd := ⟨fun z => z.elim, h.2⟩
theorem i_vc_score {k : Nat} {u : SX} {v : SY} (I : i_Rel k u v) (hk : k + 4 ≤ 2050) (v1 : Int32) : wpX_score (fun r u' => wpY_score (fun r' v' => r' = r ∧ i_Rel (k + 4) u' v') v v1) u v1 := by
  obtain ⟨n, s, ss, ws, ec, ft, lb, rb, dw, fs, fd, kn, ne, fa, co, de, nd, h3, h6, h1, h8, hS, hV, hK, rfl, rfl⟩ := I
  have R : i_Rel (k + 4) (nI n, nI s, nI (pp_P n), ec, ss, ws, ft, lb, rb, dw, fs, fd) (nI n, nI s, kn, ss, ws, ne, fa, co, de, nd) := pp_rel h3 h6 h1 h8 hS hV hK
  have hP := pp_P_0 n
  by_cases a1 : v1 < 0
  · exact br_t a1 (br_t a1 ⟨rfl, R⟩)
  by_cases a2 : v1 < nI (pp_P n)
  · obtain ⟨c, hc, rfl⟩ := nI_of a1
    have hc2 := (nI_ltI hc (by omega)).mp a2
    refine pp_xs h3 h6 h8 hS hV hc2 ?_
    intro ec ft lb rb dw fs
    refine pp_ys h3 h6 h8 hS hV hc2 hK ?_
    intro kn ne fa co de nd hK
    exact ⟨rfl, pp_rel h3 h6 h1 h8 hS hV (pp_kF hK)⟩
  · refine br_f a1 (br_f a2 ?_)
    unfold wpY_score
    exact br_f a1 (pp_yt h3 h6 (br_f a2 ⟨rfl, R⟩))
theorem i_vc_least {k : Nat} {u : SX} {v : SY} (I : i_Rel k u v) (hk : k + 4 ≤ 2050) : wpX_least (fun r u' => wpY_least (fun r' v' => r' = r ∧ i_Rel (k + 4) u' v') v) u := by
  obtain ⟨n, s, ss, ws, ec, ft, lb, rb, dw, fs, fd, kn, ne, fa, co, de, nd, h3, h6, h1, h8, hS, hV, hK, rfl, rfl⟩ := I
  have hP := pp_P_0 n
  unfold wpX_least
  refine pp_fb h3 h6 h8 hS hV ?_
  intro ec ft lb rb dw fs
  refine pp_xs h3 h6 h8 hS hV (pp_bk_in hP.1) ?_
  intro ec ft lb rb dw fs
  refine pp_yle h3 h6 h8 hS hV hK ?_
  intro kn ne fa co de nd hK
  exact ⟨rfl, pp_rel h3 h6 h1 h8 hS hV (pp_kF hK)⟩
theorem i_vc_bestTree {k : Nat} {u : SX} {v : SY} (I : i_Rel k u v) (hk : k + 4 ≤ 2050) : wpX_bestTree (fun r u' => wpY_bestTree (fun r' v' => r' = r ∧ i_Rel (k + 4) u' v') v) u := by
  obtain ⟨n, s, ss, ws, ec, ft, lb, rb, dw, fs, fd, kn, ne, fa, co, de, nd, h3, h6, h1, h8, hS, hV, hK, rfl, rfl⟩ := I
  unfold wpX_bestTree
  refine pp_fb h3 h6 h8 hS hV ?_
  intro ec ft lb rb dw fs
  refine pp_yk h3 h6 h8 hS hV hK ?_
  intro kn ne fa co de nd hK
  exact ⟨rfl, pp_rel h3 h6 h1 h8 hS hV hK⟩
theorem i_vc_within {k : Nat} {u : SX} {v : SY} (I : i_Rel k u v) (hk : k + 4 ≤ 2050) (v1 : Int32) : wpX_within (fun r u' => wpY_within (fun r' v' => r' = r ∧ i_Rel (k + 4) u' v') v v1) u v1 := by
  obtain ⟨n, s, ss, ws, ec, ft, lb, rb, dw, fs, fd, kn, ne, fa, co, de, nd, h3, h6, h1, h8, hS, hV, hK, rfl, rfl⟩ := I
  by_cases a1 : v1 < 0
  · refine br_f (Int32.not_le.mpr a1) ?_
    refine pp_ywi h3 h6 h8 hS hV hK ?_
    intro kn ne fa co de nd hK
    rw [if_pos a1]
    exact ⟨rfl, pp_rel h3 h6 h1 h8 hS hV (pp_kF hK)⟩
  · refine pp_xl h3 h6 h8 hS hV (Int32.not_lt.mp a1) ?_
    intro ec ft lb rb dw fs
    refine pp_ywi h3 h6 h8 hS hV hK ?_
    intro kn ne fa co de nd hK
    rw [if_neg a1]
    exact ⟨rfl, pp_rel h3 h6 h1 h8 hS hV (pp_kF hK)⟩
theorem pp_xor : ∀ n, n < 7 → 3 ≤ n → ∀ x, x < 2 ^ n → (2 ^ n - 1) ^^^ x = 2 ^ n - 1 - x := by decide +kernel
theorem i_vc_support {k : Nat} {u : SX} {v : SY} (I : i_Rel k u v) (hk : k + 4 ≤ 2050) (v1 : Int32) : wpX_support (fun r u' => wpY_support (fun r' v' => r' = r ∧ i_Rel (k + 4) u' v') v v1) u v1 := by
  obtain ⟨n, s, ss, ws, ec, ft, lb, rb, dw, fs, fd, kn, ne, fa, co, de, nd, h3, h6, h1, h8, hS, hV, hK, rfl, rfl⟩ := I
  have R : i_Rel (k + 4) (nI n, nI s, nI (pp_P n), ec, ss, ws, ft, lb, rb, dw, fs, fd) (nI n, nI s, kn, ss, ws, ne, fa, co, de, nd) := pp_rel h3 h6 h1 h8 hS hV hK
  have hP := pp_P_0 n
  have h64 : 2 ^ n ≤ 64 := by
    have : 2 ^ n ≤ 2 ^ 6 := Nat.pow_le_pow_right (by omega) h6
    omega
  have h2n : 0 < 2 ^ n := Nat.two_pow_pos n
  have e1 : ((1 : Int32) <<< (nI n &&& 31)) - 1 = nI (2 ^ n - 1) := by rw [pp_shl n (by omega), show (1 : Int32) = nI 1 from rfl, pk_sub (by omega)]
  obtain ⟨x, hx, e2⟩ := pk_andE v1 (m := nI (2 ^ n - 1)) n (pk_tn (by omega))
  unfold wpX_support
  refine nm_r e1 (nm_r e2 ?_)
  have Y : ∀ (r : Int32) (u : SX), (x = 0 → r = 0 ∧ i_Rel (k + 4) u (nI n, nI s, kn, ss, ws, ne, fa, co, de, nd)) → (x = 2 ^ n - 1 → r = 0 ∧ i_Rel (k + 4) u (nI n, nI s, kn, ss, ws, ne, fa, co, de, nd)) → (x ≠ 0 → x ≠ 2 ^ n - 1 → ∀ kn ne fa co de nd, pp_Yk True n s ss kn nd → nI (pp_cs (fun c => pp_su n ss ws c s) (fun c => pp_sp n c x) (pp_su n ss ws (pp_bk (fun c => pp_su n ss ws c s) (pp_P n)) s) (pp_P n)) = r ∧ i_Rel (k + 4) u (nI n, nI s, kn, ss, ws, ne, fa, co, de, nd)) →
      wpY_support (fun r' v' => r' = r ∧ i_Rel (k + 4) u v') (nI n, nI s, kn, ss, ws, ne, fa, co, de, nd) v1 := by
    intro r u q1 q2 q3
    unfold wpY_support
    refine nm_r e1 (nm_r e2 ?_)
    by_cases z1 : x = 0
    · exact br_t (by rw [z1]; rfl) ⟨(q1 z1).1.symm, (q1 z1).2⟩
    refine br_f (nI_ne0 (by omega) (by omega)) ?_
    by_cases z2 : x = 2 ^ n - 1
    · exact br_t (by rw [z2]) ⟨(q2 z2).1.symm, (q2 z2).2⟩
    refine br_f (fun w => z2 ((nI_eq (by omega) (by omega)).mp w)) ?_
    refine pp_yle h3 h6 h8 hS hV hK ?_
    intro kn ne fa co de nd hK
    have hb := pp_su_le (ss := ss) h3 h6 hV (pp_bk_in (f := fun c => pp_su n ss ws c s) hP.1) h8
    refine pp_yu h3 h6 h8 hS hV hx (by omega) hK ?_
    intro kn ne fa co de nd hK
    exact q3 z1 z2 _ _ _ _ _ _ hK
  by_cases z1 : x = 0
  · exact br_t (by rw [z1]; rfl) (Y _ _ (fun _ => ⟨rfl, R⟩) (fun _ => ⟨rfl, R⟩) (fun w => absurd z1 w))
  refine br_f (nI_ne0 (by omega) (by omega)) ?_
  by_cases z2 : x = 2 ^ n - 1
  · exact br_t (by rw [z2]) (Y _ _ (fun _ => ⟨rfl, R⟩) (fun _ => ⟨rfl, R⟩) (fun _ w => absurd z2 w))
  refine br_f (fun w => z2 ((nI_eq (by omega) (by omega)).mp w)) ?_
  have F : ∀ y, y = (if x % 2 = 1 then 2 ^ n - 1 - x else x) → wX_support_35 (fun r u' => wpY_support (fun r' v' => r' = r ∧ i_Rel (k + 4) u' v') (nI n, nI s, kn, ss, ws, ne, fa, co, de, nd) v1) (nI y) (nI n) (nI s) (nI (pp_P n)) ec ss ws ft lb rb dw fs fd := by
    intro y hy
    refine pp_xu h3 h6 h8 hS hV (by rw [hy]; split <;> omega) ?_
    intro ec ft lb rb dw fs fd
    refine Y _ _ (fun w => absurd w z1) (fun w => absurd w z2) ?_
    intro _ _ kn ne fa co de nd hK
    refine ⟨?_, pp_rel h3 h6 h1 h8 hS hV (pp_kF hK)⟩
    rw [hy, pp_cs_c (fun c hc => pp_sp_eq h3 h6 hc hx)]
  have ea : nI x &&& 1 = nI (x % 2) := pk_andN (by omega) 1 (by decide)
  rw [ea]
  by_cases z : x % 2 = 1
  · rw [if_pos z] at F
    refine br_t (by rw [z]; rfl) (nm_r (e' := nI (2 ^ n - 1 - x)) (by rw [nx_xor, pp_xor n (by omega) h3 x hx]) (F _ rfl))
  · rw [if_neg z] at F
    refine br_f (fun w => z ((nI_eq (b := 1) (by omega) (by omega)).mp w)) (F _ rfl)
theorem i_vc_siteLeast {k : Nat} {u : SX} {v : SY} (I : i_Rel k u v) (hk : k + 4 ≤ 2050) (v1 : Int32) : wpX_siteLeast (fun r u' => wpY_siteLeast (fun r' v' => r' = r ∧ i_Rel (k + 4) u' v') v v1) u v1 := by
  obtain ⟨n, s, ss, ws, ec, ft, lb, rb, dw, fs, fd, kn, ne, fa, co, de, nd, h3, h6, h1, h8, hS, hV, hK, rfl, rfl⟩ := I
  have R : i_Rel (k + 4) (nI n, nI s, nI (pp_P n), ec, ss, ws, ft, lb, rb, dw, fs, fd) (nI n, nI s, kn, ss, ws, ne, fa, co, de, nd) := pp_rel h3 h6 h1 h8 hS hV hK
  have hP := pp_P_0 n
  by_cases b1 : v1 < 0
  · unfold wpX_siteLeast wpY_siteLeast
    exact br_t b1 (br_t rfl (br_t b1 (br_f (by decide) ⟨rfl, R⟩)))
  by_cases b2 : nI s ≤ v1
  · unfold wpX_siteLeast wpY_siteLeast
    exact br_f b1 (br_t b2 (br_t rfl (br_f b1 (br_f (Int32.not_lt.mpr b2) (br_f (by decide) ⟨rfl, R⟩)))))
  obtain ⟨i, hi, rfl⟩ := nI_of b1
  have hi2 : i < s := (nI_ltI hi (by omega)).mp (Int32.not_le.mp b2)
  refine pp_xm h3 h6 h8 hS hi2 ?_
  intro ec ft lb rb dw fs
  refine pp_ysl h3 h6 h8 hS hV hi2 hK ?_
  intro kn ne fa co de nd hK
  refine ⟨?_, pp_rel h3 h6 h1 h8 hS hV (pp_kF hK)⟩
  have hw := pp_w_s hV (show i < 8 by omega)
  obtain ⟨p, hp⟩ : ∃ p, pp_P n = p + 1 := ⟨pp_P n - 1, by omega⟩
  rw [hw.1, pk_mul, hp, pp_bm_ml (g := fun c => pp_D (pp_W ss i) (pp_tr n c))]
  intro c hc
  have : pp_D (pp_W ss i) (pp_tr n c) * pp_w ws i ≤ 5 * 9 := Nat.mul_le_mul (pp_D_le (pp_tree h3 h6 (by omega)).2) (by omega)
  omega
theorem i_vc_changes {k : Nat} {u : SX} {v : SY} (I : i_Rel k u v) (hk : k + 4 ≤ 2050) (v1 : Int32) : wpX_changes (fun r u' => wpY_changes (fun r' v' => r' = r ∧ i_Rel (k + 4) u' v') v v1) u v1 := by
  obtain ⟨n, s, ss, ws, ec, ft, lb, rb, dw, fs, fd, kn, ne, fa, co, de, nd, h3, h6, h1, h8, hS, hV, hK, rfl, rfl⟩ := I
  have R : i_Rel (k + 4) (nI n, nI s, nI (pp_P n), ec, ss, ws, ft, lb, rb, dw, fs, fd) (nI n, nI s, kn, ss, ws, ne, fa, co, de, nd) := pp_rel h3 h6 h1 h8 hS hV hK
  by_cases b1 : v1 < 0
  · unfold wpX_changes wpY_changes
    exact br_t b1 (br_t rfl (br_t b1 (br_f (by decide) ⟨rfl, R⟩)))
  by_cases b2 : nI s ≤ v1
  · unfold wpX_changes wpY_changes
    exact br_f b1 (br_t b2 (br_t rfl (br_f b1 (br_f (Int32.not_lt.mpr b2) (br_f (by decide) ⟨rfl, R⟩)))))
  obtain ⟨i, hi, rfl⟩ := nI_of b1
  have hi2 : i < s := (nI_ltI hi (by omega)).mp (Int32.not_le.mp b2)
  refine pp_xc h3 h6 h8 hS hV hi2 ?_
  intro ec ft lb rb dw fs
  refine pp_yc h3 h6 h8 hS hV hi2 hK ?_
  intro kn ne fa co de nd hK
  exact ⟨rfl, pp_rel h3 h6 h1 h8 hS hV (pp_kF hK)⟩
