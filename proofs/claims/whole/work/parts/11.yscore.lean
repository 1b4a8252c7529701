/-! the reference: workOut, score, bestTree, least, within, siteLeast -/
def pp_Tb (n s : Nat) (ss nd : Nat → Int32) (C : Nat) : Prop := ∀ c, c < C → ∀ i, i < s → nd (c * 8 + i) = nI (pp_D (pp_W ss i) (pp_tr n c))
def pp_Yk (Q : Prop) (n s : Nat) (ss : Nat → Int32) (kn : Int32) (nd : Nat → Int32) : Prop := (Q → ¬ kn = 0) ∧ (¬ kn = 0 → pp_Tb n s ss nd (pp_P n))
theorem pp_yt {post : Int32 → Prop} {n : Nat} {si kn : Int32} {ss ws ne fa co de nd : Nat → Int32} (h3 : 3 ≤ n) (h6 : n ≤ 6) (K : post (nI (pp_P n))) : wpY_trees post (nI n, si, kn, ss, ws, ne, fa, co, de, nd) := by
  have hn : n = 3 ∨ n = 4 ∨ n = 5 ∨ n = 6 := by omega
  rcases hn with rfl | rfl | rfl | rfl
  · exact br_t rfl K
  · exact br_f (by decide) (br_t rfl K)
  · exact br_f (by decide) (br_f (by decide) (br_t rfl K))
  · exact br_f (by decide) (br_f (by decide) (br_f (by decide) K))
section
variable {n s : Nat} {kn : Int32} {ss ws : Nat → Int32}
theorem pp_w61 {post : SY → Prop} {J10 : Int32 → Int32 → Int32 → Int32 → (Nat → Int32) → (Nat → Int32) → (Nat → Int32) → (Nat → Int32) → (Nat → Int32) → (Nat → Int32) → (Nat → Int32) → Prop} {c : Nat} {ne fa de : Nat → Int32} (h3 : 3 ≤ n) (h6 : n ≤ 6) (hs : s ≤ 8) (hS : pp_S ss) (hc : c < pp_P n) (H : pp_YT n c ne fa) (hD : pp_B de (pp_DE n c) (2 * n - 3))
    (K : ∀ co nd, pp_Tb n s ss nd (c + 1) → J10 (nI (c + 1)) (nI n) (nI s) kn ss ws ne fa co de nd) :
    ∀ d i k co nd, i + d = s → d < k → pp_Tb n s ss nd c → (∀ j, j < i → nd (c * 8 + j) = nI (pp_D (pp_W ss j) (pp_tr n c))) →
      wY_workOut_61 post J10 (nI c) k (nI i) (nI n) (nI s) kn ss ws ne fa co de nd := by
  have hP := (pp_P_0 n).2
  intro d
  induction d with
  | zero =>
    intro i k co nd hi hk hT hN
    obtain ⟨k, rfl⟩ : ∃ q, k = q + 1 := ⟨k - 1, by omega⟩
    refine br_t (nI_le (by omega) (by omega)) (nm_r (nI_1 c) (K co nd ?_))
    intro c' hc' j hj
    by_cases e : c' = c
    · subst e; exact hN j (by omega)
    · exact hT c' (by omega) j hj
  | succ d ih =>
    intro i k co nd hi hk hT hN
    obtain ⟨k, rfl⟩ : ∃ q, k = q + 1 := ⟨k - 1, by omega⟩
    have hix : nI c * 8 + nI i = nI (c * 8 + i) := by rw [show (8 : Int32) = nI 8 from rfl, pk_mul, nI_add]
    refine br_f (nI_ge (by omega) (by omega)) (pp_ca h3 h6 hc (by omega) hS H hD ?_)
    intro co'
    refine And.intro (by rw [hix]; exact vp_in_nI (by omega) (by omega)) (nm_r (e' := upd nd (c * 8 + i) (nI (pp_D (pp_W ss i) (pp_tr n c)))) (by rw [hix, nI_clamp (by omega)]) (nm_r (nI_1 i) ?_))
    refine ih (i + 1) k co' _ (by omega) (by omega) ?_ ?_
    · intro c' hc' j hj
      rw [pk_un (by omega)]
      exact hT c' hc' j hj
    · intro j hj
      by_cases e : j = i
      · subst e; exact pk_us
      · rw [pk_un (by omega)]; exact hN j (by omega)
theorem pp_w25 {post : SY → Prop} {J10 : Int32 → Int32 → Int32 → Int32 → (Nat → Int32) → (Nat → Int32) → (Nat → Int32) → (Nat → Int32) → (Nat → Int32) → (Nat → Int32) → (Nat → Int32) → Prop} {c : Nat} {ne fa co nd : Nat → Int32} (h3 : 3 ≤ n) (h6 : n ≤ 6) (hs : s ≤ 8) (hS : pp_S ss) (hc : c < pp_P n) (H : pp_YT n c ne fa) (hT : pp_Tb n s ss nd c)
    (K : ∀ co de nd, pp_Tb n s ss nd (c + 1) → J10 (nI (c + 1)) (nI n) (nI s) kn ss ws ne fa co de nd) :
    ∀ d e k de, e + d = 2 * n - 3 → d < k → pp_B de (pp_DE n c) e →
      wY_workOut_25 post J10 (nI c) (nI n) (nI s) kn k (nI e) ss ws ne fa co de nd := by
  have cB := of_decide_eq_true (pp_every_s pp_cB2 h3 h6 hc)
  have cD := of_decide_eq_true (pp_every_s pp_cDE h3 h6 hc)
  intro d
  induction d with
  | zero =>
    intro e k de he hk hD
    obtain ⟨k, rfl⟩ : ∃ q, k = q + 1 := ⟨k - 1, by omega⟩
    have e' : e = 2 * n - 3 := by omega
    subst e'
    refine br_t ?_ (Exists.intro (s + 1) ?_)
    · rw [pp_m3 h3]
      exact nI_le (by omega) (by omega)
    · exact pp_w61 h3 h6 hs hS hc H hD (fun co nd h => K co de nd h) s 0 (s + 1) co nd (by omega) (by omega) hT (fun j hj => by omega)
  | succ d ih =>
    intro e k de he hk hD
    obtain ⟨k, rfl⟩ : ∃ q, k = q + 1 := ⟨k - 1, by omega⟩
    have hin : vp_in (nI e) 9 := vp_in_nI (by omega) (by omega)
    have hcl : (nI e).toNatClampNeg = e := nI_clamp (by omega)
    refine br_f ?_ (And.intro hin ?_)
    · rw [pp_m3 h3]
      exact nI_ge (by omega) (by omega)
    · rw [hcl, H.2 e (by omega)]
      refine pp_de h3 h6 hc (cB e (by omega)).2.1 H ?_
      rw [cD e (by omega)]
      refine And.intro hin (nm_e (nm_r (nI_1 e) (ih (e + 1) k _ (by omega) (by omega) ?_)))
      intro j hj
      by_cases z : j = e
      · subst z; exact pk_us
      · rw [pk_un z]; exact hD j (by omega)
theorem pp_wo {post : SY → Prop} {Q : Prop} (h3 : 3 ≤ n) (h6 : n ≤ 6) (hs : s ≤ 8) (hS : pp_S ss) {ne fa co de nd : Nat → Int32} (hk : pp_Yk Q n s ss kn nd)
    (K : ∀ kn ne fa co de nd, pp_Yk True n s ss kn nd → post (nI n, nI s, kn, ss, ws, ne, fa, co, de, nd)) :
    wpY_workOut post (nI n, nI s, kn, ss, ws, ne, fa, co, de, nd) := by
  have hP := pp_P_0 n
  have L : ∀ d c k ne fa co de nd, c + d = pp_P n → d < k → pp_Tb n s ss nd c → wY_workOut_10 post k (nI c) (nI n) (nI s) kn ss ws ne fa co de nd := by
    intro d
    induction d with
    | zero =>
      intro c k ne fa co de nd hc hk hT
      obtain ⟨k, rfl⟩ : ∃ q, k = q + 1 := ⟨k - 1, by omega⟩
      have e : c = pp_P n := by omega
      unfold wY_workOut_10
      refine pp_yt h3 h6 (br_t (by rw [e]; exact nI_le (by omega) (by omega)) (K _ _ _ _ _ _ ⟨fun _ => by decide, fun _ => ?_⟩))
      rw [← e]
      exact hT
    | succ d ih =>
      intro c k ne fa co de nd hc hk hT
      obtain ⟨k, rfl⟩ : ∃ q, k = q + 1 := ⟨k - 1, by omega⟩
      unfold wY_workOut_10
      refine pp_yt h3 h6 (br_f (nI_ge (by omega) (by omega)) (pp_yb h3 h6 (by omega) ?_))
      intro ne' fa' H
      refine Exists.intro (2 * n - 3 + 1) ?_
      refine pp_w25 h3 h6 hs hS (by omega) H hT ?_ (2 * n - 3) 0 (2 * n - 3 + 1) de (by omega) (by omega) (fun j hj => by omega)
      intro co' de' nd' hT'
      exact ih (c + 1) k ne' fa' co' de' nd' (by omega) (by omega) hT'
  by_cases z : kn = 0
  · exact br_t z (Exists.intro (pp_P n + 1) (L (pp_P n) 0 (pp_P n + 1) ne fa co de nd (by omega) (by omega) (fun c hc => by omega)))
  · exact br_f z (K _ _ _ _ _ _ ⟨fun _ => z, hk.2⟩)
theorem pp_ys {post : Int32 → SY → Prop} {Q : Prop} {c : Nat} (h3 : 3 ≤ n) (h6 : n ≤ 6) (hs : s ≤ 8) (hS : pp_S ss) (hV : pp_V ws) (hc : c < pp_P n) {ne fa co de nd : Nat → Int32} (hk : pp_Yk Q n s ss kn nd)
    (K : ∀ kn ne fa co de nd, pp_Yk True n s ss kn nd → post (nI (pp_su n ss ws c s)) (nI n, nI s, kn, ss, ws, ne, fa, co, de, nd)) :
    wpY_score post (nI n, nI s, kn, ss, ws, ne, fa, co, de, nd) (nI c) := by
  have hP := pp_P_0 n
  unfold wpY_score
  refine br_f (nI_pos (by omega)) (pp_yt h3 h6 (br_t (nI_lt hc (by omega)) (pp_wo h3 h6 hs hS hk ?_)))
  intro kn' ne' fa' co' de' nd' hk'
  refine Exists.intro (s + 1) ?_
  have hT := hk'.2 (hk'.1 True.intro)
  have L : ∀ d i k, i + d = s → d < k → wY_score_23 post (nI c) (nI n) (nI s) kn' ss ws ne' fa' co' de' nd' k (nI (pp_su n ss ws c i)) (nI i) := by
    intro d
    induction d with
    | zero =>
      intro i k hi hk
      obtain ⟨k, rfl⟩ : ∃ q, k = q + 1 := ⟨k - 1, by omega⟩
      have e : i = s := by omega
      subst e
      exact br_t (nI_le (by omega) (by omega)) (K _ _ _ _ _ _ hk')
    | succ d ih =>
      intro i k hi hk
      obtain ⟨k, rfl⟩ : ∃ q, k = q + 1 := ⟨k - 1, by omega⟩
      have hix : nI c * 8 + nI i = nI (c * 8 + i) := by rw [show (8 : Int32) = nI 8 from rfl, pk_mul, nI_add]
      refine br_f (nI_ge (by omega) (by omega)) (And.intro (by rw [hix]; exact vp_in_nI (by omega) (by omega)) (And.intro (vp_in_nI (by omega) (by omega)) (nm_r (e' := nI (pp_su n ss ws c (i + 1))) ?_ (nm_r (nI_1 i) (ih (i + 1) k (by omega) (by omega))))))
      rw [hix, nI_clamp (by omega), nI_clamp (by omega), hT c hc i (by omega), (pp_w_s hV (show i < 8 by omega)).1, pk_mul, nI_add]
      rfl
  exact L s 0 (s + 1) (by omega) (by omega)
theorem pp_Yk_w {Q : Prop} {nd : Nat → Int32} (h : pp_Yk True n s ss kn nd) : pp_Yk Q n s ss kn nd := ⟨fun _ => h.1 True.intro, h.2⟩
theorem pp_yk {post : Int32 → SY → Prop} {Q : Prop} (h3 : 3 ≤ n) (h6 : n ≤ 6) (hs : s ≤ 8) (hS : pp_S ss) (hV : pp_V ws) {ne fa co de nd : Nat → Int32} (hk : pp_Yk Q n s ss kn nd)
    (K : ∀ kn ne fa co de nd, pp_Yk Q n s ss kn nd → post (nI (pp_bk (fun c => pp_su n ss ws c s) (pp_P n))) (nI n, nI s, kn, ss, ws, ne, fa, co, de, nd)) :
    wpY_bestTree post (nI n, nI s, kn, ss, ws, ne, fa, co, de, nd) := by
  have hP := pp_P_0 n
  have L : ∀ d x k kn ne fa co de nd, x + d = pp_P n → 1 ≤ x → d < k → pp_Yk Q n s ss kn nd → wY_bestTree_4 post k (nI (pp_bk (fun c => pp_su n ss ws c s) x)) (nI x) (nI n) (nI s) kn ss ws ne fa co de nd := by
    intro d
    induction d with
    | zero =>
      intro x k kn ne fa co de nd hx h1 hk hK
      obtain ⟨k, rfl⟩ : ∃ q, k = q + 1 := ⟨k - 1, by omega⟩
      have e : x = pp_P n := by omega
      rw [e]
      unfold wY_bestTree_4
      exact pp_yt h3 h6 (br_t (nI_le (by omega) (by omega)) (K _ _ _ _ _ _ hK))
    | succ d ih =>
      intro x k kn ne fa co de nd hx h1 hk hK
      obtain ⟨k, rfl⟩ : ∃ q, k = q + 1 := ⟨k - 1, by omega⟩
      have hbx := pp_bk_in (f := fun c => pp_su n ss ws c s) h1
      have b1 := pp_su_le (ss := ss) h3 h6 hV (show pp_bk (fun c => pp_su n ss ws c s) x < pp_P n by omega) hs
      have b2 := pp_su_le (ss := ss) h3 h6 hV (show x < pp_P n by omega) hs
      unfold wY_bestTree_4
      refine pp_yt h3 h6 (br_f (nI_ge (by omega) (by omega)) ?_)
      refine pp_ys h3 h6 hs hS hV (by omega) hK ?_
      intro kn' ne' fa' co' de' nd' hk'
      refine pp_ys h3 h6 hs hS hV (by omega) hk' ?_
      intro kn' ne' fa' co' de' nd' hk'
      have IH := fun kn ne fa co de nd h => ih (x + 1) k kn ne fa co de nd (by omega) (by omega) (by omega) h
      have eq : pp_bk (fun c => pp_su n ss ws c s) (x + 1) = if pp_su n ss ws (pp_bk (fun c => pp_su n ss ws c s) x) s ≤ pp_su n ss ws x s then pp_bk (fun c => pp_su n ss ws c s) x else x := rfl
      by_cases z : pp_su n ss ws (pp_bk (fun c => pp_su n ss ws c s) x) s ≤ pp_su n ss ws x s
      · rw [if_pos z] at eq
        rw [eq] at IH
        exact br_t ((nI_leI (by omega) (by omega)).mpr z) (nm_r (nI_1 x) (IH _ _ _ _ _ _ (pp_Yk_w hk')))
      · rw [if_neg z] at eq
        rw [eq] at IH
        exact br_f (fun w => z ((nI_leI (by omega) (by omega)).mp w)) (nm_r (nI_1 x) (IH _ _ _ _ _ _ (pp_Yk_w hk')))
  have := L (pp_P n - 1) 1 (pp_P n) kn ne fa co de nd (by omega) (by omega) (by omega) hk
  rw [pp_bk_1] at this
  exact Exists.intro _ this
theorem pp_yle {post : Int32 → SY → Prop} {Q : Prop} (h3 : 3 ≤ n) (h6 : n ≤ 6) (hs : s ≤ 8) (hS : pp_S ss) (hV : pp_V ws) {ne fa co de nd : Nat → Int32} (hk : pp_Yk Q n s ss kn nd)
    (K : ∀ kn ne fa co de nd, pp_Yk True n s ss kn nd → post (nI (pp_su n ss ws (pp_bk (fun c => pp_su n ss ws c s) (pp_P n)) s)) (nI n, nI s, kn, ss, ws, ne, fa, co, de, nd)) :
    wpY_least post (nI n, nI s, kn, ss, ws, ne, fa, co, de, nd) := by
  have hP := pp_P_0 n
  unfold wpY_least
  refine pp_yk h3 h6 hs hS hV hk ?_
  intro kn' ne' fa' co' de' nd' hk'
  refine pp_ys h3 h6 hs hS hV (pp_bk_in hP.1) hk' ?_
  intro kn' ne' fa' co' de' nd' hk'
  exact K _ _ _ _ _ _ hk'
theorem pp_ywi {post : Int32 → SY → Prop} {Q : Prop} (h3 : 3 ≤ n) (h6 : n ≤ 6) (hs : s ≤ 8) (hS : pp_S ss) (hV : pp_V ws) {x : Int32} {ne fa co de nd : Nat → Int32} (hk : pp_Yk Q n s ss kn nd)
    (K : ∀ kn ne fa co de nd, pp_Yk True n s ss kn nd → post (nI (if x < 0 then 0 else pp_cw (fun c => pp_su n ss ws c s) x (nI (pp_su n ss ws (pp_bk (fun c => pp_su n ss ws c s) (pp_P n)) s)) (pp_P n))) (nI n, nI s, kn, ss, ws, ne, fa, co, de, nd)) :
    wpY_within post (nI n, nI s, kn, ss, ws, ne, fa, co, de, nd) x := by
  have hP := pp_P_0 n
  unfold wpY_within
  refine pp_yle h3 h6 hs hS hV hk ?_
  intro kn' ne' fa' co' de' nd' hk'
  refine Exists.intro (pp_P n + 1) ?_
  revert K
  generalize nI (pp_su n ss ws (pp_bk (fun c => pp_su n ss ws c s) (pp_P n)) s) = l
  intro K
  have L : ∀ d y k kn ne fa co de nd, y + d = pp_P n → d < k → pp_Yk True n s ss kn nd → wY_within_10 post x l k (nI (if x < 0 then 0 else pp_cw (fun c => pp_su n ss ws c s) x l y)) (nI y) (nI n) (nI s) kn ss ws ne fa co de nd := by
    intro d
    induction d with
    | zero =>
      intro y k kn ne fa co de nd hy hk hK
      obtain ⟨k, rfl⟩ : ∃ q, k = q + 1 := ⟨k - 1, by omega⟩
      have e : y = pp_P n := by omega
      rw [e]
      unfold wY_within_10
      exact pp_yt h3 h6 (br_t (nI_le (by omega) (by omega)) (K _ _ _ _ _ _ hK))
    | succ d ih =>
      intro y k kn ne fa co de nd hy hk hK
      obtain ⟨k, rfl⟩ : ∃ q, k = q + 1 := ⟨k - 1, by omega⟩
      have IH := fun kn ne fa co de nd h => ih (y + 1) k kn ne fa co de nd (by omega) (by omega) h
      unfold wY_within_10
      refine pp_yt h3 h6 (br_f (nI_ge (by omega) (by omega)) ?_)
      by_cases zx : x < 0
      · simp only [if_pos zx] at IH ⊢
        exact br_t zx (nm_r (nI_1 y) (IH _ _ _ _ _ _ hK))
      · simp only [if_neg zx] at IH ⊢
        refine br_f zx ?_
        refine pp_ys h3 h6 hs hS hV (by omega) hK ?_
        intro kn' ne' fa' co' de' nd' hk'
        have eq : pp_cw (fun c => pp_su n ss ws c s) x l (y + 1) = if x < nI (pp_su n ss ws y s) - l then pp_cw (fun c => pp_su n ss ws c s) x l y else pp_cw (fun c => pp_su n ss ws c s) x l y + 1 := rfl
        by_cases z : x < nI (pp_su n ss ws y s) - l
        · rw [if_pos z] at eq
          rw [eq] at IH
          exact br_t z (nm_r (nI_1 y) (IH _ _ _ _ _ _ hk'))
        · rw [if_neg z] at eq
          rw [eq] at IH
          exact br_f z (nm_r (nI_1 _) (nm_r (nI_1 y) (IH _ _ _ _ _ _ hk')))
  have := L (pp_P n) 0 (pp_P n + 1) kn' ne' fa' co' de' nd' (by omega) (by omega) hk'
  rw [show (if x < 0 then 0 else pp_cw (fun c => pp_su n ss ws c s) x l 0) = 0 by split <;> rfl] at this
  exact this
theorem pp_ysl {post : Int32 → SY → Prop} {Q : Prop} (h3 : 3 ≤ n) (h6 : n ≤ 6) (hs : s ≤ 8) (hS : pp_S ss) (hV : pp_V ws) {i : Nat} (hi : i < s) {ne fa co de nd : Nat → Int32} (hk : pp_Yk Q n s ss kn nd)
    (K : ∀ kn ne fa co de nd, pp_Yk True n s ss kn nd → post (nI (pp_bm (fun c => pp_D (pp_W ss i) (pp_tr n c) * pp_w ws i) (pp_P n))) (nI n, nI s, kn, ss, ws, ne, fa, co, de, nd)) :
    wpY_siteLeast post (nI n, nI s, kn, ss, ws, ne, fa, co, de, nd) (nI i) := by
  have hP := pp_P_0 n
  have hw := pp_w_s hV (show i < 8 by omega)
  unfold wpY_siteLeast
  refine br_f (nI_pos (by omega)) (br_t (nI_lt hi (by omega)) (br_t rfl ?_))
  refine pp_wo h3 h6 hs hS hk ?_
  intro kn' ne' fa' co' de' nd' hk'
  have hT := hk'.2 (hk'.1 True.intro)
  refine Exists.intro (pp_P n + 1) ?_
  have L : ∀ d y k, y + d = pp_P n → d < k → wY_siteLeast_21 post (nI i) (nI n) (nI s) kn' ss ws ne' fa' co' de' nd' k (nI (pp_bm (fun c => pp_D (pp_W ss i) (pp_tr n c) * pp_w ws i) y)) (nI y) := by
    intro d
    induction d with
    | zero =>
      intro y k hy hk
      obtain ⟨k, rfl⟩ : ∃ q, k = q + 1 := ⟨k - 1, by omega⟩
      have e : y = pp_P n := by omega
      rw [e]
      unfold wY_siteLeast_21
      exact pp_yt h3 h6 (br_t (nI_le (by omega) (by omega)) (K _ _ _ _ _ _ hk'))
    | succ d ih =>
      intro y k hy hk
      obtain ⟨k, rfl⟩ : ∃ q, k = q + 1 := ⟨k - 1, by omega⟩
      have IH := ih (y + 1) k (by omega) (by omega)
      have hix : nI y * 8 + nI i = nI (y * 8 + i) := by rw [show (8 : Int32) = nI 8 from rfl, pk_mul, nI_add]
      have hv : nd' (nI y * 8 + nI i).toNatClampNeg * ws (nI i).toNatClampNeg = nI (pp_D (pp_W ss i) (pp_tr n y) * pp_w ws i) := by
        rw [hix, nI_clamp (by omega), nI_clamp (by omega), hT y (by omega) i hi, hw.1, pk_mul]
      have i1 : vp_in (nI y * 8 + nI i) 840 := by rw [hix]; exact vp_in_nI (by omega) (by omega)
      have i2 : vp_in (nI i) 8 := vp_in_nI (by omega) (by omega)
      have b1 := pp_bm_k (g := fun c => pp_D (pp_W ss i) (pp_tr n c) * pp_w ws i) (k := y)
      have b2 : pp_D (pp_W ss i) (pp_tr n y) * pp_w ws i ≤ 5 * 9 := Nat.mul_le_mul (pp_D_le (pp_tree h3 h6 (by omega)).2) (by omega)
      have eq : pp_bm (fun c => pp_D (pp_W ss i) (pp_tr n c) * pp_w ws i) (y + 1) = if pp_bm (fun c => pp_D (pp_W ss i) (pp_tr n c) * pp_w ws i) y ≤ pp_D (pp_W ss i) (pp_tr n y) * pp_w ws i then pp_bm (fun c => pp_D (pp_W ss i) (pp_tr n c) * pp_w ws i) y else pp_D (pp_W ss i) (pp_tr n y) * pp_w ws i := rfl
      unfold wY_siteLeast_21
      refine pp_yt h3 h6 (br_f (nI_ge (by omega) (by omega)) (And.intro i1 (And.intro i2 ?_)))
      rw [hv]
      by_cases z : pp_bm (fun c => pp_D (pp_W ss i) (pp_tr n c) * pp_w ws i) y ≤ pp_D (pp_W ss i) (pp_tr n y) * pp_w ws i
      · rw [if_pos z] at eq
        rw [eq] at IH
        exact br_t ((nI_leI (by omega) (by omega)).mpr z) (nm_r (nI_1 y) IH)
      · rw [if_neg z] at eq
        rw [eq] at IH
        exact br_f (fun w => z ((nI_leI (by omega) (by omega)).mp w)) (And.intro i1 (And.intro i2 (nm_e (nm_r (nI_1 y) IH))))
  exact L (pp_P n) 0 (pp_P n + 1) (by omega) (by omega)
theorem pp_yc {post : Int32 → SY → Prop} {Q : Prop} (h3 : 3 ≤ n) (h6 : n ≤ 6) (hs : s ≤ 8) (hS : pp_S ss) (hV : pp_V ws) {i : Nat} (hi : i < s) {ne fa co de nd : Nat → Int32} (hk : pp_Yk Q n s ss kn nd)
    (K : ∀ kn ne fa co de nd, pp_Yk True n s ss kn nd → post (nI (pp_D (pp_W ss i) (pp_tr n (pp_bk (fun c => pp_su n ss ws c s) (pp_P n))))) (nI n, nI s, kn, ss, ws, ne, fa, co, de, nd)) :
    wpY_changes post (nI n, nI s, kn, ss, ws, ne, fa, co, de, nd) (nI i) := by
  have hP := pp_P_0 n
  have hbk := pp_bk_in (f := fun c => pp_su n ss ws c s) hP.1
  unfold wpY_changes
  refine br_f (nI_pos (by omega)) (br_t (nI_lt hi (by omega)) (br_t rfl ?_))
  refine pp_wo h3 h6 hs hS hk ?_
  intro kn' ne' fa' co' de' nd' hk'
  refine pp_yk h3 h6 hs hS hV hk' ?_
  intro kn' ne' fa' co' de' nd' hk'
  have hT := hk'.2 (hk'.1 True.intro)
  have hix : nI (pp_bk (fun c => pp_su n ss ws c s) (pp_P n)) * 8 + nI i = nI (pp_bk (fun c => pp_su n ss ws c s) (pp_P n) * 8 + i) := by rw [show (8 : Int32) = nI 8 from rfl, pk_mul, nI_add]
  refine And.intro (by rw [hix]; exact vp_in_nI (by omega) (by omega)) ?_
  rw [hix, nI_clamp (by omega), hT _ hbk i hi]
  exact K _ _ _ _ _ _ hk'
end
theorem pp_bm_ml {g : Nat → Nat} {w : Nat} : ∀ {k : Nat}, (∀ c, c < k + 1 → g c * w ≤ 1000) → pp_bm (fun c => g c * w) (k + 1) = pp_ml g (k + 1) * w
  | 0, h => by
    show (if 1000 ≤ g 0 * w then 1000 else g 0 * w) = (if g 0 ≤ g 0 then g 0 else g 0) * w
    rw [if_pos (Nat.le_refl (g 0))]
    have := h 0 (by omega)
    split <;> omega
  | k + 1, h => by
    have ih := pp_bm_ml (g := g) (w := w) (k := k) (fun c hc => h c (by omega))
    show (if pp_bm (fun c => g c * w) (k + 1) ≤ g (k + 1) * w then pp_bm (fun c => g c * w) (k + 1) else g (k + 1) * w) = (if pp_ml g (k + 1) ≤ g (k + 1) then pp_ml g (k + 1) else g (k + 1)) * w
    rw [ih]
    by_cases z : pp_ml g (k + 1) ≤ g (k + 1)
    · rw [if_pos z, if_pos (Nat.mul_le_mul_right w z)]
    · rw [if_neg z]
      have h2 : g (k + 1) * w ≤ pp_ml g (k + 1) * w := Nat.mul_le_mul_right w (by omega)
      split <;> omega
