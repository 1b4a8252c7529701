/-! Fitch's sets and counts of a tree; the reference's cost rows are described by them -/
def pp_fz (a b : Nat) : Nat := if a &&& b = 0 then a ||| b else a &&& b
def pp_ap (a b : Nat) : Nat := if a &&& b = 0 then 1 else 0
def pp_fs (W : Nat → Nat) : pp_T → Nat
  | .var t => W t
  | .op a b => pp_fz (pp_fs W a) (pp_fs W b)
def pp_fc (W : Nat → Nat) : pp_T → Nat
  | .var _ => 0
  | .op a b => pp_fc W a + pp_fc W b + pp_ap (pp_fs W a) (pp_fs W b)
def pp_D (W : Nat → Nat) (t : pp_T) : Nat := pp_fc W t + pp_ap (pp_fs W t) (W 0)
theorem pp_fz_t : ∀ a, a < 16 → ∀ b, b < 16 → 1 ≤ a → 1 ≤ b → 1 ≤ pp_fz a b ∧ pp_fz a b < 16 := by decide +kernel
theorem pp_fs_in {W : Nat → Nat} (hW : ∀ t, 1 ≤ W t ∧ W t < 16) : ∀ t : pp_T, 1 ≤ pp_fs W t ∧ pp_fs W t < 16
  | .var t => hW t
  | .op a b => pp_fz_t _ (pp_fs_in hW a).2 _ (pp_fs_in hW b).2 (pp_fs_in hW a).1 (pp_fs_in hW b).1
theorem pp_ap_le (a b : Nat) : pp_ap a b ≤ 1 := by unfold pp_ap; split <;> omega
theorem pp_fc_le {W : Nat → Nat} : ∀ t : pp_T, pp_fc W t ≤ pp_ops t
  | .var _ => Nat.le_refl 0
  | .op a b => by
    have h1 := pp_fc_le (W := W) a
    have h2 := pp_fc_le (W := W) b
    have h3 := pp_ap_le (pp_fs W a) (pp_fs W b)
    show pp_fc W a + pp_fc W b + pp_ap (pp_fs W a) (pp_fs W b) ≤ pp_ops a + pp_ops b + 1
    omega
theorem pp_fz_c (a b : Nat) : pp_fz a b = pp_fz b a := by unfold pp_fz; rw [Nat.and_comm, Nat.or_comm]
theorem pp_ap_c (a b : Nat) : pp_ap a b = pp_ap b a := by unfold pp_ap; rw [Nat.and_comm]
theorem pp_eq_s {W : Nat → Nat} : ∀ {s t : pp_T}, pp_eq s t = true → pp_fs W s = pp_fs W t ∧ pp_fc W s = pp_fc W t
  | .var a, .var b, h => by
    have h' : a = b := Nat.eq_of_beq_eq_true h
    rw [h']; exact ⟨rfl, rfl⟩
  | .op a b, .op x y, h => by
    have h' : ((pp_eq a x && pp_eq b y) || (pp_eq a y && pp_eq b x)) = true := h
    rw [Bool.or_eq_true, Bool.and_eq_true, Bool.and_eq_true] at h'
    show pp_fz (pp_fs W a) (pp_fs W b) = pp_fz (pp_fs W x) (pp_fs W y) ∧ pp_fc W a + pp_fc W b + pp_ap (pp_fs W a) (pp_fs W b) = pp_fc W x + pp_fc W y + pp_ap (pp_fs W x) (pp_fs W y)
    rcases h' with ⟨h1, h2⟩ | ⟨h1, h2⟩
    · have k1 := pp_eq_s (W := W) h1
      have k2 := pp_eq_s (W := W) h2
      rw [k1.1, k1.2, k2.1, k2.2]
      exact ⟨rfl, rfl⟩
    · have k1 := pp_eq_s (W := W) h1
      have k2 := pp_eq_s (W := W) h2
      rw [k1.1, k1.2, k2.1, k2.2, pp_fz_c, pp_ap_c]
      exact ⟨rfl, by omega⟩
  | .var _, .op _ _, h => absurd (show false = true from h) Bool.false_ne_true
  | .op _ _, .var _, h => absurd (show false = true from h) Bool.false_ne_true
theorem pp_D_eq {W : Nat → Nat} {s t : pp_T} (h : pp_eq s t = true) : pp_D W s = pp_D W t := by
  unfold pp_D; rw [(pp_eq_s h).1, (pp_eq_s h).2]
theorem pp_D_le {W : Nat → Nat} {t : pp_T} (h : pp_ops t ≤ 4) : pp_D W t ≤ 5 := by
  have h1 := pp_fc_le (W := W) t
  have h3 := pp_ap_le (pp_fs W t) (W 0)
  unfold pp_D
  omega
def pp_sm (W : Nat → Nat) : List (Nat × pp_T) → Nat
  | [] => 0
  | x :: r => pp_fc W x.2 + pp_sm W r
theorem pp_pick_s {W : Nat → Nat} {e : Nat} : ∀ {fo : List (Nat × pp_T)} {y : pp_T × List (Nat × pp_T)}, pp_pick e fo = some y → (e, y.1) ∈ fo ∧ (∀ x, x ∈ y.2 → x ∈ fo) ∧ pp_sm W fo = pp_fc W y.1 + pp_sm W y.2
  | [], y, h => by cases h
  | x :: r, y, h => by
    unfold pp_pick at h
    by_cases hx : x.1 = e
    · rw [if_pos hx] at h
      cases h
      refine ⟨?_, fun z hz => List.mem_cons_of_mem _ hz, rfl⟩
      rw [← hx]
      exact List.mem_cons_self
    · rw [if_neg hx] at h
      cases hp : pp_pick e r with
      | none => rw [hp] at h; cases h
      | some z =>
        rw [hp] at h
        cases h
        obtain ⟨h1, h2, h3⟩ := pp_pick_s (W := W) hp
        refine ⟨List.mem_cons_of_mem _ h1, ?_, ?_⟩
        · intro w hw
          rcases List.mem_cons.mp hw with rfl | hw
          · exact List.mem_cons_self
          · exact List.mem_cons_of_mem _ (h2 w hw)
        · show pp_fc W x.2 + pp_sm W r = pp_fc W z.1 + (pp_fc W x.2 + pp_sm W z.2)
          omega
theorem pp_has_s {e : Nat} : ∀ {fo : List (Nat × pp_T)}, pp_has e fo = false → ∀ x, x ∈ fo → x.1 ≠ e
  | [], _, x, hx => by cases hx
  | y :: r, h, x, hx => by
    have h' : (Nat.beq y.1 e || pp_has e r) = false := h
    rw [Bool.or_eq_false_iff] at h'
    rcases List.mem_cons.mp hx with rfl | hx
    · intro z
      rw [z, show Nat.beq e e = true from Nat.beq_refl e] at h'
      exact absurd h'.1.symm Bool.false_ne_true
    · exact pp_has_s h'.2 x hx
/-! Sankoff's rows -/
def pp_pc (W : Nat → Nat) (t : pp_T) (s : Nat) : Nat := pp_fc W t + if (pp_fs W t).testBit s = true then 0 else 1
def pp_bs (W : Nat → Nat) (v s : Nat) : Nat := if v < 6 then (if (W v).testBit s = true then 0 else 100) else 0
def pp_ps (W : Nat → Nat) : List pp_T → Nat → Nat
  | [], _ => 0
  | t :: l, s => pp_pc W t s + pp_ps W l s
def pp_row (W : Nat → Nat) (nd : Nat → List pp_T) (v s : Nat) : Nat := pp_bs W v s + pp_ps W (nd v) s
theorem pp_bit : ∀ F, F < 16 → 1 ≤ F → (F.testBit 0 = true ∨ F.testBit 1 = true ∨ F.testBit 2 = true ∨ F.testBit 3 = true) := by decide +kernel
theorem pp_bitE {F : Nat} (h : F < 16) (h1 : 1 ≤ F) : ∃ s, s < 4 ∧ F.testBit s = true := by
  rcases pp_bit F h h1 with h | h | h | h
  · exact ⟨0, by omega, h⟩
  · exact ⟨1, by omega, h⟩
  · exact ⟨2, by omega, h⟩
  · exact ⟨3, by omega, h⟩
theorem pp_des {W : Nat → Nat} {v : Nat} {L : List pp_T} {t : pp_T} (h : pp_of v L = some t) (s : Nat) : ((pp_fs W t).testBit s = true → pp_bs W v s + pp_ps W L s = pp_fc W t) ∧ ((pp_fs W t).testBit s = false → pp_fc W t + 1 ≤ pp_bs W v s + pp_ps W L s) := by
  unfold pp_of at h
  by_cases hv : v < 6
  · rw [if_pos hv] at h
    match L, h with
    | [], h =>
      cases h
      show ((W v).testBit s = true → pp_bs W v s + 0 = 0) ∧ ((W v).testBit s = false → 0 + 1 ≤ pp_bs W v s + 0)
      unfold pp_bs
      rw [if_pos hv]
      refine ⟨fun z => ?_, fun z => ?_⟩
      · rw [if_pos z]
      · rw [if_neg (by rw [z]; exact Bool.false_ne_true)]; omega
  · rw [if_neg hv] at h
    match L, h with
    | [a, b], h =>
      cases h
      have e0 : pp_bs W v s = 0 := if_neg hv
      rw [e0]
      show ((pp_fz (pp_fs W b) (pp_fs W a)).testBit s = true → 0 + (pp_pc W a s + (pp_pc W b s + 0)) = pp_fc W b + pp_fc W a + pp_ap (pp_fs W b) (pp_fs W a)) ∧ ((pp_fz (pp_fs W b) (pp_fs W a)).testBit s = false → pp_fc W b + pp_fc W a + pp_ap (pp_fs W b) (pp_fs W a) + 1 ≤ 0 + (pp_pc W a s + (pp_pc W b s + 0)))
      unfold pp_pc pp_fz pp_ap
      by_cases hz : pp_fs W b &&& pp_fs W a = 0
      · rw [if_pos hz, if_pos hz, Nat.testBit_or]
        have hb : ((pp_fs W b).testBit s && (pp_fs W a).testBit s) = false := by rw [← Nat.testBit_and, hz, Nat.zero_testBit]
        revert hb
        generalize (pp_fs W b).testBit s = p
        generalize (pp_fs W a).testBit s = q
        cases p <;> cases q <;> simp <;> omega
      · rw [if_neg hz, if_neg hz, Nat.testBit_and]
        generalize (pp_fs W b).testBit s = p
        generalize (pp_fs W a).testBit s = q
        cases p <;> cases q <;> simp <;> omega
def pp_bm (g : Nat → Nat) : Nat → Nat
  | 0 => 1000
  | k + 1 => if pp_bm g k ≤ g k then pp_bm g k else g k
theorem pp_bm_le {g : Nat → Nat} : ∀ {k f : Nat}, f < k → pp_bm g k ≤ g f
  | 0, f, h => absurd h (Nat.not_lt_zero f)
  | k + 1, f, h => by
    show (if pp_bm g k ≤ g k then pp_bm g k else g k) ≤ g f
    by_cases e : f = k
    · subst e; split <;> omega
    · have := pp_bm_le (g := g) (show f < k by omega)
      split <;> omega
theorem pp_bm_ge {g : Nat → Nat} {B : Nat} (hB : B ≤ 1000) : ∀ {k : Nat}, (∀ f, f < k → B ≤ g f) → B ≤ pp_bm g k
  | 0, _ => hB
  | k + 1, h => by
    show B ≤ (if pp_bm g k ≤ g k then pp_bm g k else g k)
    have h1 := pp_bm_ge hB (k := k) (fun f hf => h f (by omega))
    have h2 := h k (by omega)
    split <;> omega
theorem pp_bm_k {g : Nat → Nat} : ∀ {k : Nat}, pp_bm g k ≤ 1000
  | 0 => Nat.le_refl _
  | k + 1 => by
    show (if pp_bm g k ≤ g k then pp_bm g k else g k) ≤ 1000
    have := pp_bm_k (g := g) (k := k)
    split <;> omega
theorem pp_min {r : Nat → Nat} {F M : Nat} (hF : F < 16) (hF1 : 1 ≤ F) (hM : M ≤ 500) (h : ∀ s, (F.testBit s = true → r s = M) ∧ (F.testBit s = false → M + 1 ≤ r s)) {s : Nat} (hs : s < 4) : pp_bm (fun f => r f + if s = f then 0 else 1) 4 = M + if F.testBit s = true then 0 else 1 := by
  apply Nat.le_antisymm
  · by_cases b : F.testBit s = true
    · have := pp_bm_le (g := fun f => r f + if s = f then 0 else 1) hs
      simp only [if_true] at this
      rw [(h s).1 b] at this
      rw [if_pos b]
      exact this
    · obtain ⟨f, hf, bf⟩ := pp_bitE hF hF1
      have := pp_bm_le (g := fun f => r f + if s = f then 0 else 1) hf
      rw [(h f).1 bf] at this
      rw [if_neg b]
      refine Nat.le_trans this ?_
      split <;> omega
  · apply pp_bm_ge
    · split <;> omega
    · intro f hf
      show _ ≤ r f + if s = f then 0 else 1
      have h1 := h f
      by_cases e : s = f
      · subst e
        rw [if_pos rfl]
        by_cases b : F.testBit s = true
        · rw [if_pos b, h1.1 b]; omega
        · rw [if_neg b]
          have := h1.2 (by revert b; cases F.testBit s <;> simp)
          omega
      · rw [if_neg e]
        have : M ≤ r f := by
          by_cases b : F.testBit f = true
          · rw [h1.1 b]; omega
          · have := h1.2 (by revert b; cases F.testBit f <;> simp)
            omega
        split <;> omega
theorem pp_top {W : Nat → Nat} (hW : ∀ t, 1 ≤ W t ∧ W t < 16) {nd : Nat → List pp_T} {t : pp_T} (h : nd 0 = [t]) (ho : pp_ops t ≤ 4) : pp_bm (fun s => pp_row W nd 0 s) 4 = pp_D W t := by
  have hr : ∀ s, pp_row W nd 0 s = (if (W 0).testBit s = true then 0 else 100) + (pp_fc W t + if (pp_fs W t).testBit s = true then 0 else 1) := by
    intro s
    unfold pp_row
    rw [h]
    show pp_bs W 0 s + (pp_pc W t s + 0) = _
    unfold pp_bs pp_pc
    rw [if_pos (show 0 < 6 by omega), Nat.add_zero]
  have hc := pp_fc_le (W := W) t
  have hf := pp_fs_in hW t
  have h0 := hW 0
  unfold pp_D pp_ap
  apply Nat.le_antisymm
  · by_cases hz : pp_fs W t &&& W 0 = 0
    · rw [if_pos hz]
      obtain ⟨s, hs, b⟩ := pp_bitE h0.2 h0.1
      have := pp_bm_le (g := fun s => pp_row W nd 0 s) hs
      rw [hr, if_pos b] at this
      refine Nat.le_trans this ?_
      split <;> omega
    · rw [if_neg hz]
      have hl : pp_fs W t &&& W 0 < 16 := Nat.lt_of_le_of_lt Nat.and_le_left hf.2
      obtain ⟨s, hs, b⟩ := pp_bitE hl (by omega)
      rw [Nat.testBit_and, Bool.and_eq_true] at b
      have := pp_bm_le (g := fun s => pp_row W nd 0 s) hs
      rw [hr, if_pos b.1, if_pos b.2] at this
      omega
  · apply pp_bm_ge
    · split <;> omega
    · intro s hs
      show _ ≤ pp_row W nd 0 s
      rw [hr]
      by_cases hz : pp_fs W t &&& W 0 = 0
      · rw [if_pos hz]
        have hb : ((pp_fs W t).testBit s && (W 0).testBit s) = false := by rw [← Nat.testBit_and, hz, Nat.zero_testBit]
        revert hb
        generalize (pp_fs W t).testBit s = p
        generalize (W 0).testBit s = q
        cases p <;> cases q <;> simp <;> omega
      · rw [if_neg hz]; omega
/-! the sets as both sides hold them -/
def pp_S (a : Nat → Int32) : Prop := ∀ j, j < 48 → ∃ w, 1 ≤ w ∧ w < 16 ∧ a j = nI w
def pp_W (a : Nat → Int32) (i t : Nat) : Nat := if t < 6 then (a (t * 8 + i)).toNatClampNeg else 1
theorem pp_W_s {a : Nat → Int32} (h : pp_S a) {i t : Nat} (ht : t < 6) (hi : i < 8) : a (t * 8 + i) = nI (pp_W a i t) := by
  obtain ⟨w, h1, h2, e⟩ := h (t * 8 + i) (by omega)
  unfold pp_W
  rw [if_pos ht, e, nI_clamp (by omega)]
theorem pp_W_in {a : Nat → Int32} (h : pp_S a) {i : Nat} (hi : i < 8) : ∀ t, 1 ≤ pp_W a i t ∧ pp_W a i t < 16 := by
  intro t
  unfold pp_W
  by_cases ht : t < 6
  · obtain ⟨w, h1, h2, e⟩ := h (t * 8 + i) (by omega)
    rw [if_pos ht, e, nI_clamp (by omega)]
    exact ⟨h1, h2⟩
  · rw [if_neg ht]; omega
def pp_V (a : Nat → Int32) : Prop := ∀ j, j < 8 → ∃ w, w < 10 ∧ a j = nI w
def pp_w (a : Nat → Int32) (j : Nat) : Nat := (a j).toNatClampNeg
theorem pp_w_s {a : Nat → Int32} (h : pp_V a) {j : Nat} (hj : j < 8) : a j = nI (pp_w a j) ∧ pp_w a j < 10 := by
  obtain ⟨w, h1, e⟩ := h j hj
  unfold pp_w
  rw [e, nI_clamp (by omega)]
  exact ⟨rfl, h1⟩
