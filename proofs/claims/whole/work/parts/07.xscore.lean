/-! scores, the first best code, counts: pure, and the class's loops over them -/
def pp_su (n : Nat) (ss ws : Nat → Int32) (c : Nat) : Nat → Nat
  | 0 => 0
  | i + 1 => pp_su n ss ws c i + pp_D (pp_W ss i) (pp_tr n c) * pp_w ws i
theorem pp_su_le {n : Nat} {ss ws : Nat → Int32} (h3 : 3 ≤ n) (h6 : n ≤ 6) (hV : pp_V ws) {c : Nat} (hc : c < pp_P n) : ∀ {i : Nat}, i ≤ 8 → pp_su n ss ws c i ≤ 45 * i
  | 0, _ => Nat.le_refl _
  | i + 1, h => by
    have h1 := pp_su_le (ss := ss) h3 h6 hV hc (show i ≤ 8 by omega)
    have h2 := pp_D_le (W := pp_W ss i) (pp_tree h3 h6 hc).2
    have h4 := (pp_w_s hV (show i < 8 by omega)).2
    have h5 : pp_D (pp_W ss i) (pp_tr n c) * pp_w ws i ≤ 5 * 9 := Nat.mul_le_mul h2 (by omega)
    show pp_su n ss ws c i + pp_D (pp_W ss i) (pp_tr n c) * pp_w ws i ≤ _
    omega
def pp_bk (f : Nat → Nat) : Nat → Nat
  | 0 => 0
  | k + 1 => if f (pp_bk f k) ≤ f k then pp_bk f k else k
theorem pp_bk_1 (f : Nat → Nat) : pp_bk f 1 = 0 := if_pos (Nat.le_refl _)
theorem pp_bk_lt {f : Nat → Nat} : ∀ {k : Nat}, pp_bk f (k + 1) < k + 1
  | 0 => by rw [pp_bk_1]; omega
  | k + 1 => by
    have := pp_bk_lt (f := f) (k := k)
    show (if f (pp_bk f (k + 1)) ≤ f (k + 1) then pp_bk f (k + 1) else k + 1) < k + 1 + 1
    split <;> omega
theorem pp_bk_in {f : Nat → Nat} {k : Nat} (h : 1 ≤ k) : pp_bk f k < k := by
  obtain ⟨q, rfl⟩ : ∃ q, k = q + 1 := ⟨k - 1, by omega⟩
  exact pp_bk_lt
def pp_cw (f : Nat → Nat) (p L : Int32) : Nat → Nat
  | 0 => 0
  | k + 1 => if p < nI (f k) - L then pp_cw f p L k else pp_cw f p L k + 1
def pp_any : Nat → (Nat → Bool) → Bool
  | 0, _ => false
  | k + 1, f => pp_any k f || f k
theorem pp_any_s {f : Nat → Bool} : ∀ {k : Nat}, pp_any k f = true ↔ ∃ j, j < k ∧ f j = true
  | 0 => ⟨fun h => absurd h Bool.false_ne_true, fun ⟨j, h, _⟩ => absurd h (Nat.not_lt_zero j)⟩
  | k + 1 => by
    show (pp_any k f || f k) = true ↔ _
    rw [Bool.or_eq_true, pp_any_s]
    refine ⟨fun h => ?_, fun ⟨j, hj, h⟩ => ?_⟩
    · rcases h with ⟨j, hj, h⟩ | h
      · exact ⟨j, by omega, h⟩
      · exact ⟨k, by omega, h⟩
    · by_cases e : j = k
      · subst e; exact Or.inr h
      · exact Or.inl ⟨j, by omega, h⟩
def pp_sep (n c x : Nat) : Bool := pp_any (2 * n - 3) (fun e => decide (pp_SI n c e = x))
def pp_cs (f : Nat → Nat) (b : Nat → Bool) (L : Nat) : Nat → Nat
  | 0 => 0
  | k + 1 => if f k = L ∧ b k = true then pp_cs f b L k + 1 else pp_cs f b L k
def pp_ml (g : Nat → Nat) : Nat → Nat
  | 0 => g 0
  | k + 1 => if pp_ml g k ≤ g k then pp_ml g k else g k
section
variable {n s : Nat} {ss ws fd : Nat → Int32}
theorem pp_sb {post : Int32 → SX → Prop} {rc : Int32} {c : Nat} (h3 : 3 ≤ n) (h6 : n ≤ 6) (hs : s ≤ 8) (hS : pp_S ss) (hV : pp_V ws) (hc : c < pp_P n) {ft lb rb dw fs : Nat → Int32} (H : pp_XT n c ft lb rb dw)
    (K : ∀ fs, post (nI (pp_su n ss ws c s)) (nI n, nI s, rc, nI (2 * n - 3), ss, ws, ft, lb, rb, dw, fs, fd)) :
    wpX_scoreOfBuilt post (nI n, nI s, rc, nI (2 * n - 3), ss, ws, ft, lb, rb, dw, fs, fd) := by
  have L : ∀ d i k fs, i + d = s → d < k → wX_scoreOfBuilt_4 post k (nI (pp_su n ss ws c i)) (nI i) (nI n) (nI s) rc (nI (2 * n - 3)) ss ws ft lb rb dw fs fd := by
    intro d
    induction d with
    | zero =>
      intro i k fs hi hk
      obtain ⟨k, rfl⟩ : ∃ q, k = q + 1 := ⟨k - 1, by omega⟩
      have e : i = s := by omega
      subst e
      exact br_t (nI_le (by omega) (by omega)) (K fs)
    | succ d ih =>
      intro i k fs hi hk
      obtain ⟨k, rfl⟩ : ∃ q, k = q + 1 := ⟨k - 1, by omega⟩
      refine br_f (nI_ge (by omega) (by omega)) (pp_ch h3 h6 hc (by omega) hS H ?_)
      intro fs'
      refine And.intro (vp_in_nI (by omega) (by omega)) (nm_r (e' := nI (pp_su n ss ws c (i + 1))) ?_ (nm_r (nI_1 i) (ih (i + 1) k fs' (by omega) (by omega))))
      rw [nI_clamp (by omega), (pp_w_s hV (show i < 8 by omega)).1, pk_mul, nI_add]
      rfl
  exact Exists.intro (s + 1) (L s 0 (s + 1) fs (by omega) (by omega))
theorem pp_xs {post : Int32 → SX → Prop} {c : Nat} (h3 : 3 ≤ n) (h6 : n ≤ 6) (hs : s ≤ 8) (hS : pp_S ss) (hV : pp_V ws) (hc : c < pp_P n) {ec : Int32} {ft lb rb dw fs : Nat → Int32}
    (K : ∀ ec ft lb rb dw fs, post (nI (pp_su n ss ws c s)) (nI n, nI s, nI (pp_P n), ec, ss, ws, ft, lb, rb, dw, fs, fd)) :
    wpX_score post (nI n, nI s, nI (pp_P n), ec, ss, ws, ft, lb, rb, dw, fs, fd) (nI c) := by
  have hP := (pp_P_0 n).2
  refine br_f (nI_pos (by omega)) (br_t (nI_lt hc (by omega)) ?_)
  refine pp_bt h3 h6 hc ?_
  intro ft' lb' rb' dw' H
  refine pp_sb h3 h6 hs hS hV hc H ?_
  intro fs'
  exact K _ _ _ _ _ _
theorem pp_fb {post : Int32 → SX → Prop} (h3 : 3 ≤ n) (h6 : n ≤ 6) (hs : s ≤ 8) (hS : pp_S ss) (hV : pp_V ws) {ec : Int32} {ft lb rb dw fs : Nat → Int32}
    (K : ∀ ec ft lb rb dw fs, post (nI (pp_bk (fun c => pp_su n ss ws c s) (pp_P n))) (nI n, nI s, nI (pp_P n), ec, ss, ws, ft, lb, rb, dw, fs, fd)) :
    wpX_firstBestCode post (nI n, nI s, nI (pp_P n), ec, ss, ws, ft, lb, rb, dw, fs, fd) := by
  have hP := pp_P_0 n
  have L : ∀ d x k ec ft lb rb dw fs, x + d = pp_P n → 1 ≤ x → d < k → wX_firstBestCode_14 post k (nI (pp_bk (fun c => pp_su n ss ws c s) x)) (nI (pp_su n ss ws (pp_bk (fun c => pp_su n ss ws c s) x) s)) (nI x) (nI n) (nI s) (nI (pp_P n)) ec ss ws ft lb rb dw fs fd := by
    intro d
    induction d with
    | zero =>
      intro x k ec ft lb rb dw fs hx h1 hk
      obtain ⟨k, rfl⟩ : ∃ q, k = q + 1 := ⟨k - 1, by omega⟩
      have e : x = pp_P n := by omega
      rw [e]
      exact br_t (nI_le (by omega) (by omega)) (K _ _ _ _ _ _)
    | succ d ih =>
      intro x k ec ft lb rb dw fs hx h1 hk
      obtain ⟨k, rfl⟩ : ∃ q, k = q + 1 := ⟨k - 1, by omega⟩
      have hbx := pp_bk_in (f := fun c => pp_su n ss ws c s) h1
      have b1 := pp_su_le (ss := ss) h3 h6 hV (show pp_bk (fun c => pp_su n ss ws c s) x < pp_P n by omega) hs
      have b2 := pp_su_le (ss := ss) h3 h6 hV (show x < pp_P n by omega) hs
      refine br_f (nI_ge (by omega) (by omega)) (pp_bt h3 h6 (by omega) ?_)
      intro ft' lb' rb' dw' H
      refine pp_sb h3 h6 hs hS hV (by omega) H ?_
      intro fs'
      have IH := fun ec ft lb rb dw fs => ih (x + 1) k ec ft lb rb dw fs (by omega) (by omega) (by omega)
      have eq : pp_bk (fun c => pp_su n ss ws c s) (x + 1) = if pp_su n ss ws (pp_bk (fun c => pp_su n ss ws c s) x) s ≤ pp_su n ss ws x s then pp_bk (fun c => pp_su n ss ws c s) x else x := rfl
      by_cases z : pp_su n ss ws (pp_bk (fun c => pp_su n ss ws c s) x) s ≤ pp_su n ss ws x s
      · rw [if_pos z] at eq
        rw [eq] at IH
        exact br_t ((nI_leI (by omega) (by omega)).mpr z) (nm_r (nI_1 x) (IH _ _ _ _ _ _))
      · rw [if_neg z] at eq
        rw [eq] at IH
        exact br_f (fun w => z ((nI_leI (by omega) (by omega)).mp w)) (nm_r (nI_1 x) (IH _ _ _ _ _ _))
  unfold wpX_firstBestCode
  refine pp_bt (c := 0) h3 h6 hP.1 ?_
  intro ft' lb' rb' dw' H
  refine pp_sb h3 h6 hs hS hV hP.1 H ?_
  intro fs'
  refine Exists.intro (pp_P n) ?_
  have := L (pp_P n - 1) 1 (pp_P n) (nI (2 * n - 3)) ft' lb' rb' dw' fs' (by omega) (by omega) (by omega)
  rw [pp_bk_1] at this
  exact this
theorem pp_xl {post : Int32 → SX → Prop} (h3 : 3 ≤ n) (h6 : n ≤ 6) (hs : s ≤ 8) (hS : pp_S ss) (hV : pp_V ws) {x : Int32} {ec : Int32} {ft lb rb dw fs : Nat → Int32} (hx : 0 ≤ x)
    (K : ∀ ec ft lb rb dw fs, post (nI (pp_cw (fun c => pp_su n ss ws c s) x (nI (pp_su n ss ws (pp_bk (fun c => pp_su n ss ws c s) (pp_P n)) s)) (pp_P n))) (nI n, nI s, nI (pp_P n), ec, ss, ws, ft, lb, rb, dw, fs, fd)) :
    wpX_within post (nI n, nI s, nI (pp_P n), ec, ss, ws, ft, lb, rb, dw, fs, fd) x := by
  have hP := pp_P_0 n
  refine br_t hx ?_
  refine pp_fb h3 h6 hs hS hV ?_
  intro ec ft lb rb dw fs
  refine pp_xs h3 h6 hs hS hV (pp_bk_in hP.1) ?_
  intro ec ft lb rb dw fs
  refine Exists.intro (pp_P n + 1) ?_
  revert K
  generalize nI (pp_su n ss ws (pp_bk (fun c => pp_su n ss ws c s) (pp_P n)) s) = l
  intro K
  have L : ∀ d y k ec ft lb rb dw fs, y + d = pp_P n → d < k → wX_within_23 post x l k (nI (pp_cw (fun c => pp_su n ss ws c s) x l y)) (nI y) (nI n) (nI s) (nI (pp_P n)) ec ss ws ft lb rb dw fs fd := by
    intro d
    induction d with
    | zero =>
      intro y k ec ft lb rb dw fs hy hk
      obtain ⟨k, rfl⟩ : ∃ q, k = q + 1 := ⟨k - 1, by omega⟩
      have e : y = pp_P n := by omega
      rw [e]
      exact br_t (nI_le (by omega) (by omega)) (K _ _ _ _ _ _)
    | succ d ih =>
      intro y k ec ft lb rb dw fs hy hk
      obtain ⟨k, rfl⟩ : ∃ q, k = q + 1 := ⟨k - 1, by omega⟩
      refine br_f (nI_ge (by omega) (by omega)) (pp_bt h3 h6 (by omega) ?_)
      intro ft' lb' rb' dw' H
      refine pp_sb h3 h6 hs hS hV (by omega) H ?_
      intro fs'
      have IH := fun ec ft lb rb dw fs => ih (y + 1) k ec ft lb rb dw fs (by omega) (by omega)
      have eq : pp_cw (fun c => pp_su n ss ws c s) x l (y + 1) = if x < nI (pp_su n ss ws y s) - l then pp_cw (fun c => pp_su n ss ws c s) x l y else pp_cw (fun c => pp_su n ss ws c s) x l y + 1 := rfl
      refine nm_e ?_
      by_cases z : x < nI (pp_su n ss ws y s) - l
      · rw [if_pos z] at eq
        rw [eq] at IH
        exact br_t z (nm_r (nI_1 y) (IH _ _ _ _ _ _))
      · rw [if_neg z] at eq
        rw [eq] at IH
        exact br_f z (nm_r (nI_1 _) (nm_r (nI_1 y) (IH _ _ _ _ _ _)))
  exact L (pp_P n) 0 (pp_P n + 1) ec ft lb rb dw fs (by omega) (by omega)
theorem pp_xm {post : Int32 → SX → Prop} (h3 : 3 ≤ n) (h6 : n ≤ 6) (hs : s ≤ 8) (hS : pp_S ss) {i : Nat} (hi : i < s) {ec : Int32} {ft lb rb dw fs : Nat → Int32}
    (K : ∀ ec ft lb rb dw fs, post (nI (pp_ml (fun c => pp_D (pp_W ss i) (pp_tr n c)) (pp_P n)) * ws i) (nI n, nI s, nI (pp_P n), ec, ss, ws, ft, lb, rb, dw, fs, fd)) :
    wpX_siteLeast post (nI n, nI s, nI (pp_P n), ec, ss, ws, ft, lb, rb, dw, fs, fd) (nI i) := by
  have hP := pp_P_0 n
  have hDb : ∀ c, c < pp_P n → pp_D (pp_W ss i) (pp_tr n c) ≤ 5 := fun c hc => pp_D_le (pp_tree h3 h6 hc).2
  have hmb : ∀ k, k ≤ pp_P n → pp_ml (fun c => pp_D (pp_W ss i) (pp_tr n c)) k ≤ 5 := by
    intro k
    induction k with
    | zero => exact fun _ => hDb 0 hP.1
    | succ k ih =>
      intro hk
      show (if pp_ml (fun c => pp_D (pp_W ss i) (pp_tr n c)) k ≤ pp_D (pp_W ss i) (pp_tr n k) then pp_ml (fun c => pp_D (pp_W ss i) (pp_tr n c)) k else pp_D (pp_W ss i) (pp_tr n k)) ≤ 5
      have h1 := ih (by omega)
      have h2 := hDb k (by omega)
      split <;> omega
  have L : ∀ d y k ec ft lb rb dw fs, y + d = pp_P n → d < k → wX_siteLeast_24 post (nI i) k (nI (pp_ml (fun c => pp_D (pp_W ss i) (pp_tr n c)) y)) (nI y) (nI n) (nI s) (nI (pp_P n)) ec ss ws ft lb rb dw fs fd := by
    intro d
    induction d with
    | zero =>
      intro y k ec ft lb rb dw fs hy hk
      obtain ⟨k, rfl⟩ : ∃ q, k = q + 1 := ⟨k - 1, by omega⟩
      have e : y = pp_P n := by omega
      rw [e]
      refine br_t (nI_le (by omega) (by omega)) (And.intro (vp_in_nI (by omega) (by omega)) ?_)
      rw [nI_clamp (by omega)]
      exact K _ _ _ _ _ _
    | succ d ih =>
      intro y k ec ft lb rb dw fs hy hk
      obtain ⟨k, rfl⟩ : ∃ q, k = q + 1 := ⟨k - 1, by omega⟩
      refine br_f (nI_ge (by omega) (by omega)) (pp_bt h3 h6 (by omega) ?_)
      intro ft' lb' rb' dw' H
      refine pp_ch h3 h6 (by omega) (by omega) hS H ?_
      intro fs'
      have IH := fun ec ft lb rb dw fs => ih (y + 1) k ec ft lb rb dw fs (by omega) (by omega)
      have b1 := hmb y (by omega)
      have b2 := hDb y (by omega)
      have eq : pp_ml (fun c => pp_D (pp_W ss i) (pp_tr n c)) (y + 1) = if pp_ml (fun c => pp_D (pp_W ss i) (pp_tr n c)) y ≤ pp_D (pp_W ss i) (pp_tr n y) then pp_ml (fun c => pp_D (pp_W ss i) (pp_tr n c)) y else pp_D (pp_W ss i) (pp_tr n y) := rfl
      by_cases z : pp_ml (fun c => pp_D (pp_W ss i) (pp_tr n c)) y ≤ pp_D (pp_W ss i) (pp_tr n y)
      · rw [if_pos z] at eq
        rw [eq] at IH
        exact br_t ((nI_leI (by omega) (by omega)).mpr z) (nm_r (nI_1 y) (IH _ _ _ _ _ _))
      · rw [if_neg z] at eq
        rw [eq] at IH
        exact br_f (fun w => z ((nI_leI (by omega) (by omega)).mp w)) (nm_r (nI_1 y) (IH _ _ _ _ _ _))
  unfold wpX_siteLeast
  refine br_f (nI_pos (by omega)) (br_f (nI_ge (by omega) (by omega)) (br_f (by decide) ?_))
  refine pp_bt (c := 0) h3 h6 hP.1 ?_
  intro ft' lb' rb' dw' H
  refine pp_ch h3 h6 hP.1 (by omega) hS H ?_
  intro fs'
  refine Exists.intro (pp_P n) ?_
  have := L (pp_P n - 1) 1 (pp_P n) (nI (2 * n - 3)) ft' lb' rb' dw' fs' (by omega) (by omega)
  rw [show pp_ml (fun c => pp_D (pp_W ss i) (pp_tr n c)) 1 = pp_D (pp_W ss i) (pp_tr n 0) from if_pos (Nat.le_refl _)] at this
  exact this
end
