/-! the reference: join, changesAt, workOut -/
section
variable {fn si kn : Int32} {ss ws ne fa de nd : Nat → Int32}
theorem pp_j14 {post : SY → Prop} {J2 : Int32 → (Nat → Int32) → (Nat → Int32) → (Nat → Int32) → (Nat → Int32) → (Nat → Int32) → (Nat → Int32) → (Nat → Int32) → Prop} {e w f s : Nat} {r : Nat → Nat} {co : Nat → Int32} (he : e < 9) (hne : ne e = nI w) (hfa : fa e = nI f) (hw : w < 10) (hf : f < 10) (hs : s < 4)
    (hC : ∀ q, q < 4 → co (f * 4 + q) = nI (r q)) (hr : ∀ q, q < 4 → r q ≤ 500)
    (K : J2 (nI (s + 1)) ss ws ne fa (upd co (w * 4 + s) (co (w * 4 + s) + nI (pp_bm (fun q => r q + if s = q then 0 else 1) 4))) de nd) :
    ∀ d q k, q + d = 4 → d < k → wY_join_14 post J2 (nI e) (nI s) fn si kn ss ws ne fa co de nd k (nI (pp_bm (fun q => r q + if s = q then 0 else 1) q)) (nI q) := by
  have hin : vp_in (nI e) 9 := vp_in_nI he (by omega)
  have hcl : (nI e).toNatClampNeg = e := nI_clamp (by omega)
  intro d
  induction d with
  | zero =>
    intro q k hq hk
    obtain ⟨k, rfl⟩ : ∃ q, k = q + 1 := ⟨k - 1, by omega⟩
    have e4 : q = 4 := by omega
    subst e4
    have hix : ne e * 4 + nI s = nI (w * 4 + s) := by rw [hne, show (4 : Int32) = nI 4 from rfl, pk_mul, nI_add]
    refine br_t (nI_le (a := 4) (b := 4) (by omega) (by omega)) (And.intro hin (And.intro hin ?_))
    rw [hcl, hix, nI_clamp (by omega)]
    exact And.intro (vp_in_nI (by omega) (by omega)) (And.intro (vp_in_nI (by omega) (by omega)) (nm_e (nm_r (nI_1 s) K)))
  | succ d ih =>
    intro q k hq hk
    obtain ⟨k, rfl⟩ : ∃ q, k = q + 1 := ⟨k - 1, by omega⟩
    have hq4 : q < 4 := by omega
    have hix : fa e * 4 + nI q = nI (f * 4 + q) := by rw [hfa, show (4 : Int32) = nI 4 from rfl, pk_mul, nI_add]
    have IH := ih (q + 1) k (by omega) (by omega)
    have eq : pp_bm (fun q => r q + if s = q then 0 else 1) (q + 1) = if pp_bm (fun q => r q + if s = q then 0 else 1) q ≤ r q + (if s = q then 0 else 1) then pp_bm (fun q => r q + if s = q then 0 else 1) q else r q + (if s = q then 0 else 1) := rfl
    have hb := pp_bm_k (g := fun q => r q + if s = q then 0 else 1) (k := q)
    have hrq := hr q hq4
    have F : ∀ z0 : Int32, ∀ y : Nat, y ≤ 1 → z0 = nI y → (if s = q then 0 else 1) = y → wY_join_47 post J2 (wY_join_14 post J2 (nI e) (nI s) fn si kn ss ws ne fa co de nd k) (nI e) (nI s) (nI (pp_bm (fun q => r q + if s = q then 0 else 1) q)) (nI q) z0 (nI (r q)) fn si kn ss ws ne fa co de nd := by
      intro z0 y hy hz ey
      rw [ey] at eq
      refine nm_r (e' := nI (r q + y)) (by rw [hz, nI_add]) ?_
      by_cases z : pp_bm (fun q => r q + if s = q then 0 else 1) q ≤ r q + y
      · rw [if_pos z] at eq
        rw [eq] at IH
        exact br_t ((nI_leI (by omega) (by omega)).mpr z) (nm_r (nI_1 q) IH)
      · rw [if_neg z] at eq
        rw [eq] at IH
        exact br_f (fun w => z ((nI_leI (by omega) (by omega)).mp w)) (nm_r (nI_1 q) IH)
    refine br_f (nI_ge (b := 4) (by omega) (by omega)) (And.intro hin ?_)
    rw [hcl, hix, nI_clamp (by omega), hC q hq4]
    refine And.intro (vp_in_nI (by omega) (by omega)) ?_
    by_cases z : s = q
    · exact br_t (by rw [z]) (F 0 0 (by omega) rfl (if_pos z))
    · exact br_f (fun w => z ((nI_eq (by omega) (by omega)).mp w)) (F 1 1 (by omega) rfl (if_neg z))
theorem pp_jn {post : SY → Prop} {e w f : Nat} {R : Nat → Nat → Nat} {co : Nat → Int32} (he : e < 9) (hne : ne e = nI w) (hfa : fa e = nI f) (hw : w < 10) (hf : f < 10) (hwf : f ≠ w) (hC : pp_C co R) (hR : ∀ q, q < 4 → R f q ≤ 500)
    (K : ∀ co, pp_C co (fun v s => if v = w then R v s + pp_bm (fun q => R f q + if s = q then 0 else 1) 4 else R v s) → post (fn, si, kn, ss, ws, ne, fa, co, de, nd)) :
    wpY_join post (fn, si, kn, ss, ws, ne, fa, co, de, nd) (nI e) := by
  have L : ∀ d s k co, s + d = 4 → d < k → pp_C co (fun v s' => if v = w ∧ s' < s then R v s' + pp_bm (fun q => R f q + if s' = q then 0 else 1) 4 else R v s') → wY_join_2 post (nI e) fn si kn k (nI s) ss ws ne fa co de nd := by
    intro d
    induction d with
    | zero =>
      intro s k co hs hk h
      obtain ⟨k, rfl⟩ : ∃ q, k = q + 1 := ⟨k - 1, by omega⟩
      have e4 : s = 4 := by omega
      subst e4
      refine br_t (nI_le (a := 4) (b := 4) (by omega) (by omega)) (K co (fun v hv s hs => ?_))
      rw [h v hv s hs]
      dsimp only
      by_cases z : v = w
      · rw [if_pos (And.intro z hs), if_pos z]
      · rw [if_neg (fun y => z y.1), if_neg z]
    | succ d ih =>
      intro s k co hs hk h
      obtain ⟨k, rfl⟩ : ∃ q, k = q + 1 := ⟨k - 1, by omega⟩
      refine br_f (nI_ge (b := 4) (by omega) (by omega)) (Exists.intro 5 ?_)
      have hws : co (w * 4 + s) = nI (R w s) := by rw [h w hw s (by omega)]; dsimp only; rw [if_neg (by omega)]
      refine pp_j14 (r := R f) he hne hfa hw hf (by omega) (fun q hq => ?_) hR ?_ 4 0 5 (by omega) (by omega)
      · rw [h f hf q hq]
        dsimp only
        rw [if_neg (fun y => hwf y.1)]
      · refine ih (s + 1) k _ (by omega) (by omega) (fun v hv s' hs' => ?_)
        by_cases z : v * 4 + s' = w * 4 + s
        · have z1 : v = w := by omega
          have z2 : s' = s := by omega
          subst z1 z2
          rw [pk_us, hws, nI_add]
          dsimp only
          rw [if_pos (And.intro rfl (by omega))]
        · rw [pk_un z, h v hv s' hs']
          dsimp only
          by_cases y : v = w
          · have : s' < s ↔ s' < s + 1 := by omega
            simp only [this]
          · rw [if_neg (fun t => y t.1), if_neg (fun t => y t.1)]
  refine Exists.intro 5 (L 4 0 5 co (by omega) (by omega) (fun v hv s hs => ?_))
  dsimp only
  rw [if_neg (fun t => absurd t.2 (Nat.not_lt_zero s))]
  exact hC v hv s hs
end
theorem pp_sy_s {n c e : Nat} {nd nd' : Nat → List pp_T} (h : pp_sy n c e nd = some nd') : ∃ t, pp_of (pp_FA n c e) (nd (pp_FA n c e)) = some t ∧ pp_FA n c e ≠ pp_NE n c e ∧ pp_ops t ≤ 4 ∧ (nd (pp_NE n c e)).length ≤ 1 ∧ nd' = fun x => if x = pp_NE n c e then t :: nd x else nd x := by
  unfold pp_sy at h
  cases ho : pp_of (pp_FA n c e) (nd (pp_FA n c e)) with
  | none => rw [ho] at h; cases h
  | some t =>
    rw [ho] at h
    dsimp only at h
    by_cases hh : pp_FA n c e ≠ pp_NE n c e ∧ pp_ops t ≤ 4 ∧ (nd (pp_NE n c e)).length ≤ 1
    · rw [if_pos hh] at h
      exact ⟨t, rfl, hh.1, hh.2.1, hh.2.2, (Option.some.inj h).symm⟩
    · rw [if_neg hh] at h; cases h
def pp_In (W : Nat → Nat) (nd : Nat → List pp_T) : Prop := ∀ v s, pp_ps W (nd v) s ≤ 5 * (nd v).length ∧ (nd v).length ≤ 2
theorem pp_In_0 {W : Nat → Nat} : pp_In W (fun _ => []) := fun _ _ => ⟨Nat.le_refl 0, Nat.zero_le _⟩
theorem pp_pc_le {W : Nat → Nat} {t : pp_T} {s : Nat} (h : pp_ops t ≤ 4) : pp_pc W t s ≤ 5 := by
  have := pp_fc_le (W := W) t
  unfold pp_pc
  split <;> omega
theorem pp_In_s {W : Nat → Nat} {nd : Nat → List pp_T} {w : Nat} {t : pp_T} (h : pp_In W nd) (ho : pp_ops t ≤ 4) (hl : (nd w).length ≤ 1) : pp_In W (fun x => if x = w then t :: nd x else nd x) := by
  intro v s
  dsimp only
  by_cases z : v = w
  · subst z
    rw [if_pos rfl]
    have h1 := (h v s).1
    have h2 := pp_pc_le (W := W) (s := s) ho
    show pp_pc W t s + pp_ps W (nd v) s ≤ 5 * ((nd v).length + 1) ∧ (nd v).length + 1 ≤ 2
    omega
  · rw [if_neg z]; exact h v s
theorem pp_row_le {W : Nat → Nat} {nd : Nat → List pp_T} (h : pp_In W nd) (v s : Nat) : pp_row W nd v s ≤ 110 := by
  have h1 := h v s
  have h2 : pp_bs W v s ≤ 100 := by
    unfold pp_bs
    split
    · split <;> omega
    · omega
  unfold pp_row
  omega
section
variable {n c : Nat} {si kn : Int32} {ss ws ne fa de nd : Nat → Int32}
theorem pp_jy {post : SY → Prop} {W : Nat → Nat} {e : Nat} {N N' : Nat → List pp_T} {co : Nat → Int32} (h3 : 3 ≤ n) (h6 : n ≤ 6) (hc : c < pp_P n) (hW : ∀ t, 1 ≤ W t ∧ W t < 16) (H : pp_YT n c ne fa) (he : e < 2 * n - 3) (hN : pp_sy n c e N = some N') (hI : pp_In W N) (hC : pp_C co (pp_row W N))
    (K : ∀ co, pp_C co (pp_row W N') → pp_In W N' → post (nI n, si, kn, ss, ws, ne, fa, co, de, nd)) :
    wpY_join post (nI n, si, kn, ss, ws, ne, fa, co, de, nd) (nI e) := by
  have cB := of_decide_eq_true (pp_every_s pp_cB2 h3 h6 hc) e he
  obtain ⟨t, ho, hwf, hops, hl, rfl⟩ := pp_sy_s hN
  refine pp_jn (R := pp_row W N) (by omega) (H.1 e he) (H.2 e he) cB.1 cB.2.1 hwf hC (fun q _ => by have := pp_row_le hI (pp_FA n c e) q; omega) ?_
  intro co' h'
  refine K co' (fun v hv s hs => ?_) (pp_In_s hI hops hl)
  rw [h' v hv s hs]
  refine congrArg nI ?_
  dsimp only
  have hmin := pp_min (r := fun q => pp_row W N (pp_FA n c e) q) (F := pp_fs W t) (M := pp_fc W t) (pp_fs_in hW t).2 (pp_fs_in hW t).1 (by have := pp_fc_le (W := W) t; omega) (fun s => pp_des (W := W) ho s) hs
  by_cases z : v = pp_NE n c e
  · rw [if_pos z, hmin]
    unfold pp_row
    dsimp only
    rw [if_pos z]
    show _ = pp_bs W v s + (pp_pc W t s + pp_ps W (N v) s)
    unfold pp_pc
    omega
  · rw [if_neg z]
    unfold pp_row
    dsimp only
    rw [if_neg z]
theorem pp_c14 {post : Int32 → SY → Prop} {J8 : Int32 → Int32 → Int32 → Int32 → (Nat → Int32) → (Nat → Int32) → (Nat → Int32) → (Nat → Int32) → (Nat → Int32) → (Nat → Int32) → (Nat → Int32) → Prop} {W : Nat → Nat} {q : Nat} {N' : Nat → List pp_T} (h3 : 3 ≤ n) (h6 : n ≤ 6) (hc : c < pp_P n) (hq : q < 10) (hW : ∀ t, 1 ≤ W t ∧ W t < 16) (H : pp_YT n c ne fa) (hD : pp_B de (pp_DE n c) (2 * n - 3))
    (K : ∀ co, pp_C co (pp_row W N') → pp_In W N' → J8 (nI q + (-1)) (nI n) si kn ss ws ne fa co de nd) :
    ∀ j k N co, j ≤ 2 * n - 3 → j < k → pp_ri n c q j N = some N' → pp_In W N → pp_C co (pp_row W N) →
      wY_changesAt_14 post J8 (nI q) k (nI (2 * n - 3 - j)) (nI n) si kn ss ws ne fa co de nd := by
  have cB := of_decide_eq_true (pp_every_s pp_cB2 h3 h6 hc)
  intro j
  induction j with
  | zero =>
    intro k N co hj hk hN hI hC
    obtain ⟨k, rfl⟩ : ∃ q, k = q + 1 := ⟨k - 1, by omega⟩
    have e : N = N' := Option.some.inj hN
    subst e
    refine br_t ?_ (nm_e (K co hC hI))
    rw [pp_m3 h3]
    exact nI_le (by omega) (by omega)
  | succ j ih =>
    intro k N co hj hk hN hI hC
    obtain ⟨k, rfl⟩ : ∃ q, k = q + 1 := ⟨k - 1, by omega⟩
    obtain ⟨e, he⟩ : ∃ e, e = 2 * n - 3 - (j + 1) := ⟨_, rfl⟩
    have he2 : e + 1 = 2 * n - 3 - j := by omega
    have hbe := (cB e (by omega)).2.2
    unfold pp_ri at hN
    rw [← he] at hN ⊢
    refine br_f ?_ (And.intro (vp_in_nI (by omega) (by omega)) ?_)
    · rw [pp_m3 h3]
      exact nI_ge (by omega) (by omega)
    · rw [nI_clamp (by omega), hD e (by omega)]
      by_cases z : pp_DE n c e = q
      · rw [if_pos z] at hN
        cases hs : pp_sy n c e N with
        | none => rw [hs] at hN; cases hN
        | some M =>
          rw [hs] at hN
          dsimp only at hN
          refine br_t (by rw [z]) (pp_jy h3 h6 hc hW H (by omega) hs hI hC ?_)
          intro co' hC' hI'
          refine nm_r (nI_1 e) ?_
          rw [he2]
          exact ih k M co' (by omega) (by omega) hN hI' hC'
      · rw [if_neg z] at hN
        refine br_f (fun w => z ((nI_eq (by omega) (by omega)).mp w)) (nm_r (nI_1 e) ?_)
        rw [he2]
        exact ih k N co (by omega) (by omega) hN hI hC
theorem pp_c8 {post : Int32 → SY → Prop} {W : Nat → Nat} {N' : Nat → List pp_T} {t : pp_T} (h3 : 3 ≤ n) (h6 : n ≤ 6) (hc : c < pp_P n) (hW : ∀ t, 1 ≤ W t ∧ W t < 16) (H : pp_YT n c ne fa) (hD : pp_B de (pp_DE n c) (2 * n - 3)) (hT : N' 0 = [t]) (ho : pp_ops t ≤ 4)
    (K : ∀ co, post (nI (pp_D W t)) (nI n, si, kn, ss, ws, ne, fa, co, de, nd)) :
    ∀ q k N co, q ≤ 9 → q < k → pp_ro n c q N = some N' → pp_In W N → pp_C co (pp_row W N) →
      wY_changesAt_8 post k (nI q) (nI n) si kn ss ws ne fa co de nd := by
  intro q
  induction q with
  | zero =>
    intro k N co hq hk hN hI hC
    obtain ⟨k, rfl⟩ : ∃ q, k = q + 1 := ⟨k - 1, by omega⟩
    have e : N = N' := Option.some.inj hN
    subst e
    refine br_t (by decide) (Exists.intro 5 ?_)
    have K := K co
    rw [← pp_top hW hT ho] at K
    have L : ∀ d s k, s + d = 4 → d < k → wY_changesAt_59 post (nI n) si kn ss ws ne fa co de nd k (nI (pp_bm (fun s => pp_row W N 0 s) s)) (nI s) := by
      intro d
      induction d with
      | zero =>
        intro s k hs hk
        obtain ⟨k, rfl⟩ : ∃ q, k = q + 1 := ⟨k - 1, by omega⟩
        have e4 : s = 4 := by omega
        subst e4
        exact br_t (nI_le (a := 4) (b := 4) (by omega) (by omega)) K
      | succ d ih =>
        intro s k hs hk
        obtain ⟨k, rfl⟩ : ∃ q, k = q + 1 := ⟨k - 1, by omega⟩
        have hcs : co s = nI (pp_row W N 0 s) := by
          have := hC 0 (by omega) s (by omega)
          rw [Nat.zero_mul, Nat.zero_add] at this
          exact this
        have hb1 := pp_bm_k (g := fun s => pp_row W N 0 s) (k := s)
        have hb2 := pp_row_le hI 0 s
        have IH := ih (s + 1) k (by omega) (by omega)
        have eq : pp_bm (fun s => pp_row W N 0 s) (s + 1) = if pp_bm (fun s => pp_row W N 0 s) s ≤ pp_row W N 0 s then pp_bm (fun s => pp_row W N 0 s) s else pp_row W N 0 s := rfl
        have hin : vp_in (nI s) 40 := vp_in_nI (by omega) (by omega)
        refine br_f (nI_ge (b := 4) (by omega) (by omega)) (And.intro hin ?_)
        rw [nI_clamp (by omega), hcs]
        by_cases z : pp_bm (fun s => pp_row W N 0 s) s ≤ pp_row W N 0 s
        · rw [if_pos z] at eq
          rw [eq] at IH
          exact br_t ((nI_leI (by omega) (by omega)).mpr z) (nm_r (nI_1 s) IH)
        · rw [if_neg z] at eq
          rw [eq] at IH
          exact br_f (fun w => z ((nI_leI (by omega) (by omega)).mp w)) (And.intro hin (nm_e (nm_r (nI_1 s) IH)))
    exact L 4 0 5 (by omega) (by omega)
  | succ q ih =>
    intro k N co hq hk hN hI hC
    obtain ⟨k, rfl⟩ : ∃ q, k = q + 1 := ⟨k - 1, by omega⟩
    unfold pp_ro at hN
    cases hr : pp_ri n c (q + 1) (2 * n - 3) N with
    | none => rw [hr] at hN; cases hN
    | some M =>
      rw [hr] at hN
      dsimp only at hN
      refine br_f (nI_nle (by omega) (by omega)) (Exists.intro (2 * n - 3 + 1) ?_)
      have := pp_c14 (post := post) (J8 := wY_changesAt_8 post k) (si := si) (kn := kn) (ss := ss) (ws := ws) (nd := nd) (N' := M) (q := q + 1) h3 h6 hc (by omega) hW H hD ?_ (2 * n - 3) (2 * n - 3 + 1) N co (by omega) (by omega) hr hI hC
      · rw [Nat.sub_self] at this
        exact this
      · intro co' hC' hI'
        rw [pk_m1]
        exact ih k M co' (by omega) (by omega) hN hI' hC'
theorem pp_ca {post : Int32 → SY → Prop} {i : Nat} (h3 : 3 ≤ n) (h6 : n ≤ 6) (hc : c < pp_P n) (hi : i < 8) (hS : pp_S ss) (H : pp_YT n c ne fa) (hD : pp_B de (pp_DE n c) (2 * n - 3)) {co : Nat → Int32}
    (K : ∀ co, post (nI (pp_D (pp_W ss i) (pp_tr n c))) (nI n, si, kn, ss, ws, ne, fa, co, de, nd)) :
    wpY_changesAt post (nI n, si, kn, ss, ws, ne, fa, co, de, nd) (nI i) := by
  have hW := pp_W_in hS hi
  obtain ⟨N', t, h1, h2, h4, h5⟩ := pp_treeY h3 h6 hc
  rw [← pp_D_eq h4] at K
  unfold wpY_changesAt
  refine pp_lv hi hS ?_
  intro co' hC
  exact Exists.intro 10 (pp_c8 h3 h6 hc hW H hD h2 h5 K 9 10 _ co' (by omega) (by omega) h1 pp_In_0 hC)
end
