/-! the reference: behind, separates, support -/
section
variable {n c : Nat} {si kn : Int32} {ss ws ne fa co de nd : Nat → Int32}
theorem pp_b18 {post : Int32 → Prop} {J4 : Int32 → Int32 → Prop} {e t : Nat} (h3 : 3 ≤ n) (h6 : n ≤ 6) (hc : c < pp_P n) (H : pp_YT n c ne fa) (he : e < 2 * n - 3) (ht : t < 6) :
    ∀ d i k v m, i + d = 9 → d < k → v < 10 → J4 (nI (pp_bi n c e t d v m)) (nI (t + 1)) → wY_behind_18 post J4 (nI e) (nI t) (nI n) si kn ss ws ne fa co de nd k (nI m) (nI v) (nI i) := by
  intro d
  induction d with
  | zero =>
    intro i k v m hi hk hv h
    obtain ⟨k, rfl⟩ : ∃ q, k = q + 1 := ⟨k - 1, by omega⟩
    have e9 : i = 9 := by omega
    subst e9
    exact br_t (nI_le (a := 9) (b := 9) (by omega) (by omega)) (nm_r (nI_1 t) h)
  | succ d ih =>
    intro i k v m hi hk hv h
    obtain ⟨k, rfl⟩ : ∃ q, k = q + 1 := ⟨k - 1, by omega⟩
    unfold pp_bi at h
    have hu := pp_up_lt h3 h6 hc hv
    refine br_f (nI_ge (b := 9) (by omega) (by omega)) (pp_eo h3 h6 hc hv H ?_)
    have F : ∀ m', J4 (nI (pp_bi n c e t d (pp_up n c v) m')) (nI (t + 1)) → wY_behind_45 post J4 (wY_behind_18 post J4 (nI e) (nI t) (nI n) si kn ss ws ne fa co de nd k) (nI e) (nI m') (nI t) (nI v) (nI i) (if pp_et n c v < 2 * n - 3 then nI (pp_et n c v) else -1) (nI n) si kn ss ws ne fa co de nd := by
      intro m' h'
      by_cases z : pp_et n c v < 2 * n - 3
      · rw [if_pos z]
        have ev : pp_up n c v = pp_NE n c (pp_et n c v) := if_pos z
        rw [ev] at h' hu
        refine br_f (nI_pos (by omega)) (And.intro (vp_in_nI (by omega) (by omega)) (nm_r (e' := nI (pp_NE n c (pp_et n c v))) (by rw [nI_clamp (by omega), H.1 _ z]) (nm_r (nI_1 i) ?_)))
        exact ih (i + 1) k _ _ (by omega) (by omega) hu h'
      · rw [if_neg z]
        have ev : pp_up n c v = v := if_neg z
        rw [ev] at h'
        refine br_t (by decide) (nm_r (nI_1 i) ?_)
        exact ih (i + 1) k _ _ (by omega) (by omega) hv h'
    by_cases y : pp_et n c v = e
    · rw [if_pos y] at h
      refine br_t (by rw [if_pos (by omega), y]) (nm_r (e' := nI (m ||| 2 ^ t)) (by rw [pp_shl t (by omega), nx_or]) (F _ h))
    · rw [if_neg y] at h
      refine br_f ?_ (F _ h)
      by_cases z : pp_et n c v < 2 * n - 3
      · rw [if_pos z]
        exact fun w => y ((nI_eq (by omega) (by omega)).mp w)
      · rw [if_neg z]
        exact fun w => pp_nI_m1 (by omega) w.symm
theorem pp_be {post : Int32 → Prop} {e : Nat} (h3 : 3 ≤ n) (h6 : n ≤ 6) (hc : c < pp_P n) (H : pp_YT n c ne fa) (he : e < 2 * n - 3)
    (K : post (nI (pp_SI n c e))) : wpY_behind post (nI n, si, kn, ss, ws, ne, fa, co, de, nd) (nI e) := by
  have cS := of_decide_eq_true (pp_every_s pp_cSI h3 h6 hc) e he
  rw [← cS] at K
  have L : ∀ d k m, d ≤ n - 1 → d < k → post (nI (pp_bh n c e d m)) → wY_behind_4 post (nI e) (nI n) si kn ss ws ne fa co de nd k (nI m) (nI (n - d)) := by
    intro d
    induction d with
    | zero =>
      intro k m hd hk h
      obtain ⟨k, rfl⟩ : ∃ q, k = q + 1 := ⟨k - 1, by omega⟩
      exact br_t (nI_le (by omega) (by omega)) h
    | succ d ih =>
      intro k m hd hk h
      obtain ⟨k, rfl⟩ : ∃ q, k = q + 1 := ⟨k - 1, by omega⟩
      unfold pp_bh at h
      refine br_f (nI_ge (by omega) (by omega)) (Exists.intro 10 ?_)
      refine pp_b18 h3 h6 hc H he (by omega) 9 0 10 (n - (d + 1)) m (by omega) (by omega) (by omega) ?_
      rw [show n - (d + 1) + 1 = n - d by omega]
      exact ih k _ (by omega) (by omega) h
  have := L (n - 1) n 0 (by omega) (by omega) K
  rw [show n - (n - 1) = 1 by omega] at this
  exact Exists.intro _ this
def pp_sp (n c x : Nat) : Bool := pp_any (2 * n - 3) (fun e => decide (pp_SI n c e = x ∨ pp_SI n c e = 2 ^ n - 1 - x))
theorem pp_yse {post : Int32 → SY → Prop} {x : Nat} (h3 : 3 ≤ n) (h6 : n ≤ 6) (hc : c < pp_P n) (hx : x < 2 ^ n)
    (K : ∀ ne fa, post (if pp_sp n c x = true then 1 else 0) (nI n, si, kn, ss, ws, ne, fa, co, de, nd)) :
    wpY_separates post (nI n, si, kn, ss, ws, ne, fa, co, de, nd) (nI c) (nI x) := by
  have cB3 := of_decide_eq_true (pp_every_s pp_cB3 h3 h6 hc)
  have h64 : 2 ^ n ≤ 64 := by
    have : 2 ^ n ≤ 2 ^ 6 := Nat.pow_le_pow_right (by omega) h6
    omega
  unfold wpY_separates
  refine pp_yb h3 h6 hc ?_
  intro ne' fa' H
  have K := K ne' fa'
  refine nm_r (e' := nI (2 ^ n - 1)) (by rw [pp_shl n (by omega), show (1 : Int32) = nI 1 from rfl, pk_sub (by omega)]) (Exists.intro (2 * n - 3 + 1) ?_)
  have L : ∀ d e k, e + d = 2 * n - 3 → d < k → (∀ j, j < e → ¬ (pp_SI n c j = x ∨ pp_SI n c j = 2 ^ n - 1 - x)) → wY_separates_17 post (nI x) (nI (2 ^ n - 1)) (nI n) si kn ss ws ne' fa' co de nd k (nI e) := by
    intro d
    induction d with
    | zero =>
      intro e k he hk hN
      obtain ⟨k, rfl⟩ : ∃ q, k = q + 1 := ⟨k - 1, by omega⟩
      rw [if_neg] at K
      · refine br_t ?_ K
        rw [pp_m3 h3]
        exact nI_le (by omega) (by omega)
      · intro z
        unfold pp_sp at z
        rw [pp_any_s] at z
        obtain ⟨j, hj, hz⟩ := z
        exact hN j (by omega) (of_decide_eq_true hz)
    | succ d ih =>
      intro e k he hk hN
      obtain ⟨k, rfl⟩ : ∃ q, k = q + 1 := ⟨k - 1, by omega⟩
      have hse := (cB3 e (by omega)).1
      have F : (pp_SI n c e = x ∨ pp_SI n c e = 2 ^ n - 1 - x) → post 1 (nI n, si, kn, ss, ws, ne', fa', co, de, nd) := by
        intro z
        rw [if_pos] at K
        · exact K
        · unfold pp_sp
          rw [pp_any_s]
          exact ⟨e, by omega, decide_eq_true z⟩
      refine br_f ?_ (pp_be h3 h6 hc H (by omega) ?_)
      · rw [pp_m3 h3]
        exact nI_ge (by omega) (by omega)
      · rw [pk_sub (show x ≤ 2 ^ n - 1 by omega)]
        by_cases z1 : pp_SI n c e = x
        · exact br_t (by rw [z1]) (F (Or.inl z1))
        · refine br_f (fun w => z1 ((nI_eq (by omega) (by omega)).mp w)) ?_
          by_cases z2 : pp_SI n c e = 2 ^ n - 1 - x
          · exact br_t (by rw [z2]) (F (Or.inr z2))
          · refine br_f (fun w => z2 ((nI_eq (by omega) (by omega)).mp w)) (nm_r (nI_1 e) (ih (e + 1) k (by omega) (by omega) (fun j hj => ?_)))
            by_cases ej : j = e
            · subst ej
              exact fun z => z.elim z1 z2
            · exact hN j (by omega)
  exact L (2 * n - 3) 0 (2 * n - 3 + 1) (by omega) (by omega) (fun j hj => by omega)
end
theorem pp_sp_eq {n c x : Nat} (h3 : 3 ≤ n) (h6 : n ≤ 6) (hc : c < pp_P n) (hx : x < 2 ^ n) : pp_sp n c x = pp_sep n c (if x % 2 = 1 then 2 ^ n - 1 - x else x) := by
  have cB3 := of_decide_eq_true (pp_every_s pp_cB3 h3 h6 hc)
  have hpe : 2 ^ n % 2 = 0 := by
    obtain ⟨m, rfl⟩ : ∃ m, n = m + 1 := ⟨n - 1, by omega⟩
    rw [Nat.pow_succ]
    omega
  rw [Bool.eq_iff_iff]
  unfold pp_sp pp_sep
  rw [pp_any_s, pp_any_s]
  constructor
  · intro ⟨j, hj, h⟩
    have h := of_decide_eq_true h
    have hp := cB3 j hj
    refine ⟨j, hj, decide_eq_true ?_⟩
    by_cases z : x % 2 = 1
    · rw [if_pos z]; omega
    · rw [if_neg z]; omega
  · intro ⟨j, hj, h⟩
    have h := of_decide_eq_true h
    refine ⟨j, hj, decide_eq_true ?_⟩
    by_cases z : x % 2 = 1
    · rw [if_pos z] at h; exact Or.inr h
    · rw [if_neg z] at h; exact Or.inl h
theorem pp_cs_c {f : Nat → Nat} {b b' : Nat → Bool} {l : Nat} : ∀ {k : Nat}, (∀ c, c < k → b c = b' c) → pp_cs f b l k = pp_cs f b' l k
  | 0, _ => rfl
  | k + 1, h => by
    have ih := pp_cs_c (f := f) (l := l) (k := k) (fun c hc => h c (by omega))
    show (if f k = l ∧ b k = true then pp_cs f b l k + 1 else pp_cs f b l k) = (if f k = l ∧ b' k = true then pp_cs f b' l k + 1 else pp_cs f b' l k)
    rw [ih, h k (by omega)]
section
variable {n s : Nat} {kn : Int32} {ss ws : Nat → Int32}
theorem pp_yu {post : Int32 → SY → Prop} (h3 : 3 ≤ n) (h6 : n ≤ 6) (hs : s ≤ 8) (hS : pp_S ss) (hV : pp_V ws) {x l : Nat} (hx : x < 2 ^ n) (hl : l < 1000) {ne fa co de nd : Nat → Int32} (hk : pp_Yk True n s ss kn nd)
    (K : ∀ kn ne fa co de nd, pp_Yk True n s ss kn nd → post (nI (pp_cs (fun c => pp_su n ss ws c s) (fun c => pp_sp n c x) l (pp_P n))) (nI n, nI s, kn, ss, ws, ne, fa, co, de, nd)) :
    ∃ k, wY_support_36 post (nI x) (nI l) k 0 0 (nI n) (nI s) kn ss ws ne fa co de nd := by
  have hP := pp_P_0 n
  have L : ∀ d y k kn ne fa co de nd, y + d = pp_P n → d < k → pp_Yk True n s ss kn nd → wY_support_36 post (nI x) (nI l) k (nI (pp_cs (fun c => pp_su n ss ws c s) (fun c => pp_sp n c x) l y)) (nI y) (nI n) (nI s) kn ss ws ne fa co de nd := by
    intro d
    induction d with
    | zero =>
      intro y k kn ne fa co de nd hy hk hK
      obtain ⟨k, rfl⟩ : ∃ q, k = q + 1 := ⟨k - 1, by omega⟩
      have e : y = pp_P n := by omega
      rw [e]
      unfold wY_support_36
      exact pp_yt h3 h6 (br_t (nI_le (by omega) (by omega)) (K _ _ _ _ _ _ hK))
    | succ d ih =>
      intro y k kn ne fa co de nd hy hk hK
      obtain ⟨k, rfl⟩ : ∃ q, k = q + 1 := ⟨k - 1, by omega⟩
      have IH := fun kn ne fa co de nd h => ih (y + 1) k kn ne fa co de nd (by omega) (by omega) h
      have b2 := pp_su_le (ss := ss) h3 h6 hV (show y < pp_P n by omega) hs
      have eq : pp_cs (fun c => pp_su n ss ws c s) (fun c => pp_sp n c x) l (y + 1) = if pp_su n ss ws y s = l ∧ pp_sp n y x = true then pp_cs (fun c => pp_su n ss ws c s) (fun c => pp_sp n c x) l y + 1 else pp_cs (fun c => pp_su n ss ws c s) (fun c => pp_sp n c x) l y := rfl
      unfold wY_support_36
      refine pp_yt h3 h6 (br_f (nI_ge (by omega) (by omega)) ?_)
      refine pp_ys h3 h6 hs hS hV (by omega) hK ?_
      intro kn' ne' fa' co' de' nd' hk'
      by_cases z : pp_su n ss ws y s = l
      · refine br_t (by rw [z]) ?_
        refine pp_yse h3 h6 (by omega) hx ?_
        intro ne'' fa''
        by_cases w : pp_sp n y x = true
        · rw [if_pos ⟨z, w⟩] at eq
          rw [eq] at IH
          rw [if_pos w]
          exact br_f (by decide) (nm_r (nI_1 _) (nm_r (nI_1 y) (IH _ _ _ _ _ _ hk')))
        · rw [if_neg (fun h => w h.2)] at eq
          rw [eq] at IH
          rw [if_neg w]
          exact br_t rfl (nm_r (nI_1 y) (IH _ _ _ _ _ _ hk'))
      · rw [if_neg (fun h => z h.1)] at eq
        rw [eq] at IH
        exact br_f (fun w => z ((nI_eq (by omega) (by omega)).mp w)) (nm_r (nI_1 y) (IH _ _ _ _ _ _ hk'))
  exact Exists.intro _ (L (pp_P n) 0 (pp_P n + 1) kn ne fa co de nd (by omega) (by omega) hk)
end
