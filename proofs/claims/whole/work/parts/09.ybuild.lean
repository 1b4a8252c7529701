/-! the reference: its tree, edgeTo, depth, leaves, join -/
def pp_B (a : Nat → Int32) (f : Nat → Nat) (m : Nat) : Prop := ∀ j, j < m → a j = nI (f j)
def pp_YT (n c : Nat) (ne fa : Nat → Int32) : Prop := pp_B ne (pp_NE n c) (2 * n - 3) ∧ pp_B fa (pp_FA n c) (2 * n - 3)
theorem pp_m3 {t : Nat} (h3 : 3 ≤ t) : (2 : Int32) * nI t - 3 = nI (2 * t - 3) := by
  rw [show (2 : Int32) = nI 2 from rfl, show (3 : Int32) = nI 3 from rfl, pk_mul, pk_sub (by omega)]
theorem pp_m2 {t : Nat} (h3 : 3 ≤ t) : (2 : Int32) * nI t - 2 = nI (2 * t - 2) := by
  rw [show (2 : Int32) = nI 2 from rfl, pk_mul, pk_sub (by omega)]
section
variable {si kn : Int32} {ss ws co de nd : Nat → Int32}
theorem pp_yl {post : SY → Prop} {n code : Nat} (h6 : n ≤ 6) (hcode : code < 2 ^ 31)
    (K : ∀ ne fa, pp_YT n (code % pp_P n) ne fa → post (nI n, si, kn, ss, ws, ne, fa, co, de, nd)) :
    ∀ d t k ne fa, t + d = n → 3 ≤ t → d < k → pp_YT t (code % pp_P t) ne fa →
      wY_build_49 post (nI n) si kn k (nI (code / pp_P t)) (nI t) ss ws ne fa co de nd := by
  intro d
  induction d with
  | zero =>
    intro t k ne fa ht h3 hk H
    obtain ⟨k, rfl⟩ : ∃ q, k = q + 1 := ⟨k - 1, by omega⟩
    have e : t = n := by omega
    subst e
    exact br_t (nI_le (by omega) (by omega)) (K _ _ H)
  | succ d ih =>
    intro t k ne fa ht h3 hk H
    obtain ⟨k, rfl⟩ : ∃ q, k = q + 1 := ⟨k - 1, by omega⟩
    have hx : code / pp_P t < 2 ^ 31 := Nat.lt_of_le_of_lt (Nat.div_le_self _ _) hcode
    have hm : 0 < 2 * t - 3 := by omega
    have n0 : ¬ nI (2 * t - 3) = 0 := nI_ne0 hm (by omega)
    have hc : code % pp_P t < pp_P t := Nat.mod_lt _ (pp_P_0 t).1
    have he : code / pp_P t % (2 * t - 3) < 2 * t - 3 := Nat.mod_lt _ hm
    have cNE := of_decide_eq_true (pp_steps_s pp_cNE h3 (show t ≤ 5 by omega) hc he)
    have cFA := of_decide_eq_true (pp_steps_s pp_cFA h3 (show t ≤ 5 by omega) hc he)
    have cN3 := of_decide_eq_true (pp_steps_s pp_cN3 h3 (show t ≤ 5 by omega) hc he)
    have cN4 := of_decide_eq_true (pp_steps_s pp_cN4 h3 (show t ≤ 5 by omega) hc he)
    have e1 : code / pp_P t / (2 * t - 3) = code / pp_P (t + 1) := by rw [pp_P_s h3 (by omega), Nat.div_div_eq_div_mul]
    have e2 : code % pp_P t + pp_P t * (code / pp_P t % (2 * t - 3)) = code % pp_P (t + 1) := by rw [pp_P_s h3 (by omega), Nat.mod_mul]
    rw [e2] at cNE cFA cN3 cN4
    have hq : 2 * t - 2 = 2 * t - 3 + 1 := by omega
    have hq2 : 2 * (t + 1) - 3 = 2 * t - 3 + 2 := by omega
    rw [hq] at cN4
    have IH := fun ne fa H => ih (t + 1) k ne fa (by omega) (by omega) (by omega) H
    unfold pp_YT at H IH
    rw [hq2] at IH
    rw [← e1] at IH
    have hm7 : 2 * t - 3 ≤ 7 := by omega
    refine br_f (nI_ge (by omega) (by omega)) ?_
    rw [pp_m3 h3, pp_m2 h3, hq]
    obtain ⟨m, hM⟩ : ∃ m, m = 2 * t - 3 := ⟨_, rfl⟩
    rw [← hM] at he cNE cFA cN3 cN4 H n0 IH hm hm7 ⊢
    obtain ⟨e, hE⟩ : ∃ e, e = code / pp_P t % m := ⟨_, rfl⟩
    rw [← hE] at he cNE cN3
    obtain ⟨Hn, Hf⟩ := H
    have i1 : vp_in (nI e) 9 := vp_in_nI (by omega) (by omega)
    have i2 : vp_in (nI m) 9 := vp_in_nI (by omega) (by omega)
    have i3 : vp_in (nI (m + 1)) 9 := vp_in_nI (by omega) (by omega)
    have c1 : (nI e).toNatClampNeg = e := nI_clamp (by omega)
    have c2 : (nI m).toNatClampNeg = m := nI_clamp (by omega)
    have c3 : (nI (m + 1)).toNatClampNeg = m + 1 := nI_clamp (by omega)
    refine And.intro n0 (nm_r (e' := nI e) (by rw [pk_rem hx hm (by omega), hE]) (And.intro n0 (nm_r (pk_div hx hm (by omega)) (nm_r (e' := nI (4 + t)) (nI_add 4 t) ?_))))
    refine And.intro i1 (And.intro i2 (nm_r (e' := upd ne m (nI (pp_NE t (code % pp_P t) e))) (by rw [c1, c2, Hn e he]) ?_))
    refine And.intro i2 (nm_r (e' := upd fa m (nI (4 + t))) (by rw [c2]) ?_)
    refine And.intro i1 (nm_r (e' := upd (upd ne m (nI (pp_NE t (code % pp_P t) e))) e (nI (4 + t))) (by rw [c1]) ?_)
    refine And.intro i3 (nm_r (e' := upd (upd (upd ne m (nI (pp_NE t (code % pp_P t) e))) e (nI (4 + t))) (m + 1) (nI (4 + t))) (by rw [c3]) ?_)
    refine And.intro i3 (nm_r (e' := upd (upd fa m (nI (4 + t))) (m + 1) (nI t)) (by rw [c3]) (nm_r (nI_1 t) ?_))
    refine IH _ _ ⟨?_, ?_⟩
    · intro j hj
      by_cases j1 : j = m + 1
      · subst j1; rw [pk_us, cN4.1]
      · rw [pk_un j1]
        by_cases j2 : j = e
        · subst j2; rw [pk_us, cNE j he, if_pos rfl]
        · rw [pk_un j2]
          by_cases j3 : j = m
          · subst j3; rw [pk_us, cN3.1]
          · rw [pk_un j3, Hn j (by omega), cNE j (by omega), if_neg j2]
    · intro j hj
      by_cases j1 : j = m + 1
      · subst j1; rw [pk_us, cN4.2]
      · rw [pk_un j1]
        by_cases j3 : j = m
        · subst j3; rw [pk_us, cN3.2]
        · rw [pk_un j3, Hf j (by omega), cFA j (by omega)]
theorem pp_yb {post : SY → Prop} {n c : Nat} (h3 : 3 ≤ n) (h6 : n ≤ 6) (hc : c < pp_P n) {ne fa : Nat → Int32}
    (K : ∀ ne fa, pp_YT n c ne fa → post (nI n, si, kn, ss, ws, ne, fa, co, de, nd)) :
    wpY_build post (nI n, si, kn, ss, ws, ne, fa, co, de, nd) (nI c) := by
  have hb := (pp_P_0 n).2
  have e0 : c / pp_P 3 = c := Nat.div_one c
  have e1 : c % pp_P 3 = 0 := Nat.mod_one c
  have e2 : c % pp_P n = c := Nat.mod_eq_of_lt hc
  have L := pp_yl (si := si) (kn := kn) (ss := ss) (ws := ws) (co := co) (de := de) (nd := nd) (post := post) (n := n) (code := c) h6 (by omega) (by rw [e2]; exact K) (n - 3) 3 (n - 3 + 1)
  rw [e0, e1] at L
  unfold wpY_build
  refine nm_e (nm_e (nm_e (nm_e (nm_e (nm_e (Exists.intro _ (L _ _ (by omega) (by omega) (by omega) ?_)))))))
  obtain ⟨⟨a0, a1, a2⟩, ⟨b0, b1, b2⟩⟩ := pp_c3Y
  refine ⟨?_, ?_⟩
  all_goals
    intro j hj
    have hj3 : j = 0 ∨ j = 1 ∨ j = 2 := by omega
    rcases hj3 with rfl | rfl | rfl
  · rw [a0]; rfl
  · rw [a1]; rfl
  · rw [a2]; rfl
  · rw [b0]; rfl
  · rw [b1]; rfl
  · rw [b2]; rfl
theorem pp_eo {post : Int32 → Prop} {n c x : Nat} (h3 : 3 ≤ n) (h6 : n ≤ 6) (hc : c < pp_P n) (hx : x < 10) {ne fa : Nat → Int32} (H : pp_YT n c ne fa)
    (K : post (if pp_et n c x < 2 * n - 3 then nI (pp_et n c x) else -1)) :
    wpY_edgeTo post (nI n, si, kn, ss, ws, ne, fa, co, de, nd) (nI x) := by
  have cB := of_decide_eq_true (pp_every_s pp_cB2 h3 h6 hc)
  have L : ∀ d i k, i + d = 2 * n - 3 → d < k → post (if pp_fd (pp_FA n c) x d i < 2 * n - 3 then nI (pp_fd (pp_FA n c) x d i) else -1) → wY_edgeTo_2 post (nI x) (nI n) si kn ss ws ne fa co de nd k (nI i) := by
    intro d
    induction d with
    | zero =>
      intro i k hi hk h
      obtain ⟨k, rfl⟩ : ∃ q, k = q + 1 := ⟨k - 1, by omega⟩
      have h : post (if i < 2 * n - 3 then nI i else -1) := h
      rw [if_neg (by omega)] at h
      refine br_t ?_ h
      rw [pp_m3 h3]
      exact nI_le (by omega) (by omega)
    | succ d ih =>
      intro i k hi hk h
      obtain ⟨k, rfl⟩ : ∃ q, k = q + 1 := ⟨k - 1, by omega⟩
      have hb := (cB i (by omega)).2.1
      refine br_f ?_ (And.intro (vp_in_nI (by omega) (by omega)) ?_)
      · rw [pp_m3 h3]
        exact nI_ge (by omega) (by omega)
      · rw [nI_clamp (by omega), H.2 i (by omega)]
        unfold pp_fd at h
        by_cases z : pp_FA n c i = x
        · rw [if_pos z, if_pos (by omega)] at h
          exact br_t (by rw [z]) h
        · rw [if_neg z] at h
          exact br_f (fun w => z ((nI_eq (by omega) (by omega)).mp w)) (nm_r (nI_1 i) (ih (i + 1) k (by omega) (by omega) h))
  exact Exists.intro (2 * n - 3 + 1) (L (2 * n - 3) 0 (2 * n - 3 + 1) (by omega) (by omega) K)
theorem pp_up_lt {n c v : Nat} (h3 : 3 ≤ n) (h6 : n ≤ 6) (hc : c < pp_P n) (hv : v < 10) : pp_up n c v < 10 := by
  have cB := of_decide_eq_true (pp_every_s pp_cB2 h3 h6 hc)
  unfold pp_up
  by_cases z : pp_et n c v < 2 * n - 3
  · rw [if_pos z]; exact (cB _ z).1
  · rw [if_neg z]; exact hv
theorem pp_de {post : Int32 → Prop} {n c x : Nat} (h3 : 3 ≤ n) (h6 : n ≤ 6) (hc : c < pp_P n) (hx : x < 10) {ne fa : Nat → Int32} (H : pp_YT n c ne fa)
    (K : post (nI (pp_dp n c 9 x 0))) :
    wpY_depth post (nI n, si, kn, ss, ws, ne, fa, co, de, nd) (nI x) := by
  have L : ∀ d i k v s, i + d = 9 → d < k → v < 10 → post (nI (pp_dp n c d v s)) → wY_depth_7 post (nI n) si kn ss ws ne fa co de nd k (nI v) (nI s) (nI i) := by
    intro d
    induction d with
    | zero =>
      intro i k v s hi hk hv h
      obtain ⟨k, rfl⟩ : ∃ q, k = q + 1 := ⟨k - 1, by omega⟩
      have e : i = 9 := by omega
      subst e
      exact br_t (nI_le (a := 9) (b := 9) (by omega) (by omega)) h
    | succ d ih =>
      intro i k v s hi hk hv h
      obtain ⟨k, rfl⟩ : ∃ q, k = q + 1 := ⟨k - 1, by omega⟩
      unfold pp_dp at h
      refine br_f (nI_ge (b := 9) (by omega) (by omega)) (pp_eo h3 h6 hc hv H ?_)
      have hu := pp_up_lt h3 h6 hc hv
      by_cases z : pp_et n c v < 2 * n - 3
      · rw [if_pos z] at h ⊢
        have ev : pp_up n c v = pp_NE n c (pp_et n c v) := if_pos z
        rw [ev] at h hu
        refine br_f (nI_pos (by omega)) (And.intro (vp_in_nI (by omega) (by omega)) (nm_r (e' := nI (pp_NE n c (pp_et n c v))) (by rw [nI_clamp (by omega), H.1 _ z]) (nm_r (nI_1 s) (nm_r (nI_1 i) ?_))))
        exact ih (i + 1) k _ _ (by omega) (by omega) hu h
      · rw [if_neg z] at h ⊢
        have ev : pp_up n c v = v := if_neg z
        rw [ev] at h
        refine br_t (by decide) (nm_r (nI_1 i) ?_)
        exact ih (i + 1) k _ _ (by omega) (by omega) hv h
  exact Exists.intro 10 (L 9 0 10 x 0 (by omega) (by omega) hx K)
end
theorem pp_shr : ∀ w, w < 16 → ∀ s, s < 4 → ((nI w >>> (nI s &&& 31)) &&& 1 = 1 ↔ w.testBit s = true) := by decide +kernel
/-- the cost cells hold R -/
def pp_C (co : Nat → Int32) (R : Nat → Nat → Nat) : Prop := ∀ v, v < 10 → ∀ s, s < 4 → co (v * 4 + s) = nI (R v s)
section
variable {fn si kn : Int32} {ss ws ne fa de nd : Nat → Int32}
theorem pp_lv10 {post : SY → Prop} {J2 : Int32 → (Nat → Int32) → (Nat → Int32) → (Nat → Int32) → (Nat → Int32) → (Nat → Int32) → (Nat → Int32) → (Nat → Int32) → Prop} {i v : Nat} (hi : i < 8) (hv : v < 10) (hS : pp_S ss)
    (K : ∀ co : Nat → Int32, (∀ j, j < v * 4 + 4 → co j = nI (pp_bs (pp_W ss i) (j / 4) (j % 4))) → J2 (nI (v + 1)) ss ws ne fa co de nd) :
    ∀ d s k co, s + d = 4 → d < k → (∀ j, j < v * 4 + s → co j = nI (pp_bs (pp_W ss i) (j / 4) (j % 4))) → wY_leaves_10 post J2 (nI i) (nI v) fn si kn k (nI s) ss ws ne fa co de nd := by
  intro d
  induction d with
  | zero =>
    intro s k co hs hk h
    obtain ⟨k, rfl⟩ : ∃ q, k = q + 1 := ⟨k - 1, by omega⟩
    have e : s = 4 := by omega
    subst e
    exact br_t (nI_le (a := 4) (b := 4) (by omega) (by omega)) (nm_r (nI_1 v) (K co h))
  | succ d ih =>
    intro s k co hs hk h
    obtain ⟨k, rfl⟩ : ∃ q, k = q + 1 := ⟨k - 1, by omega⟩
    have hix : nI v * 4 + nI s = nI (v * 4 + s) := by rw [show (4 : Int32) = nI 4 from rfl, pk_mul, nI_add]
    have hin : vp_in (nI v * 4 + nI s) 40 := by rw [hix]; exact vp_in_nI (by omega) (by omega)
    have hcl : (nI v * 4 + nI s).toNatClampNeg = v * 4 + s := by rw [hix]; exact nI_clamp (by omega)
    have N : ∀ z : Int32, z = nI (pp_bs (pp_W ss i) v s) → wY_leaves_10 post J2 (nI i) (nI v) fn si kn k (nI s + 1) ss ws ne fa (upd co (v * 4 + s) z) de nd := by
      intro z hz
      rw [nI_1]
      refine ih (s + 1) k _ (by omega) (by omega) (fun j hj => ?_)
      by_cases e : j = v * 4 + s
      · rw [e, pk_us, hz, show (v * 4 + s) / 4 = v by omega, show (v * 4 + s) % 4 = s by omega]
      · rw [pk_un e]; exact h j (by omega)
    have N0 : pp_bs (pp_W ss i) v s = 0 → wY_leaves_44 post J2 (wY_leaves_10 post J2 (nI i) (nI v) fn si kn k) (nI i) (nI v) (nI s) 1 fn si kn ss ws ne fa co de nd := by
      intro z
      refine br_f (by decide) (And.intro hin (nm_r (by rw [hcl]) (nm_e (N 0 ?_))))
      rw [z]; rfl
    have N1 : pp_bs (pp_W ss i) v s = 100 → wY_leaves_44 post J2 (wY_leaves_10 post J2 (nI i) (nI v) fn si kn k) (nI i) (nI v) (nI s) 0 fn si kn ss ws ne fa co de nd := by
      intro z
      refine br_t rfl (And.intro hin (nm_r (by rw [hcl]) (nm_e (N 100 ?_))))
      rw [z]; rfl
    refine br_f (nI_ge (b := 4) (by omega) (by omega)) ?_
    by_cases hv5 : v < 6
    · have hiy : nI v * 8 + nI i = nI (v * 8 + i) := by rw [show (8 : Int32) = nI 8 from rfl, pk_mul, nI_add]
      refine br_f (nI_nlt (a := 5) (by omega) (by omega)) (And.intro (by rw [hiy]; exact vp_in_nI (by omega) (by omega)) ?_)
      rw [hiy, nI_clamp (by omega), pp_W_s hS hv5 hi]
      have hT := pp_shr _ (pp_W_in hS hi v).2 s (by omega)
      have hb : pp_bs (pp_W ss i) v s = if (pp_W ss i v).testBit s = true then 0 else 100 := if_pos hv5
      by_cases z : (pp_W ss i v).testBit s = true
      · rw [if_pos z] at hb
        exact br_t (hT.mpr z) (N0 hb)
      · rw [if_neg z] at hb
        exact br_f (fun w => z (hT.mp w)) (N1 hb)
    · have hb : pp_bs (pp_W ss i) v s = 0 := if_neg hv5
      exact br_t (nI_lt (a := 5) (by omega) (by omega)) (N0 hb)
theorem pp_lv {post : SY → Prop} {i : Nat} (hi : i < 8) (hS : pp_S ss) {co : Nat → Int32}
    (K : ∀ co, pp_C co (pp_row (pp_W ss i) (fun _ => [])) → post (fn, si, kn, ss, ws, ne, fa, co, de, nd)) :
    wpY_leaves post (fn, si, kn, ss, ws, ne, fa, co, de, nd) (nI i) := by
  have L : ∀ d v k co, v + d = 10 → d < k → (∀ j, j < v * 4 → co j = nI (pp_bs (pp_W ss i) (j / 4) (j % 4))) → wY_leaves_2 post (nI i) fn si kn k (nI v) ss ws ne fa co de nd := by
    intro d
    induction d with
    | zero =>
      intro v k co hv hk h
      obtain ⟨k, rfl⟩ : ∃ q, k = q + 1 := ⟨k - 1, by omega⟩
      have e : v = 10 := by omega
      subst e
      refine br_t (nI_le (a := 10) (b := 10) (by omega) (by omega)) (K co (fun v hv s hs => ?_))
      rw [h (v * 4 + s) (by omega), show (v * 4 + s) / 4 = v by omega, show (v * 4 + s) % 4 = s by omega]
      rfl
    | succ d ih =>
      intro v k co hv hk h
      obtain ⟨k, rfl⟩ : ∃ q, k = q + 1 := ⟨k - 1, by omega⟩
      refine br_f (nI_ge (b := 10) (by omega) (by omega)) (Exists.intro 5 ?_)
      refine pp_lv10 hi (by omega) hS ?_ 4 0 5 co (by omega) (by omega) h
      intro co' h'
      exact ih (v + 1) k co' (by omega) (by omega) (fun j hj => h' j (by omega))
  exact Exists.intro 11 (L 10 0 11 co (by omega) (by omega) (fun j hj => by omega))
end
