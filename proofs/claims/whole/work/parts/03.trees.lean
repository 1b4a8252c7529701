/-! trees as terms: the class's walk from the back of its list, the reference's joins by depth, both run on trees -/
abbrev pp_T : Type := Lean.Data.AC.Expr
def pp_pick (e : Nat) : List (Nat × pp_T) → Option (pp_T × List (Nat × pp_T))
  | [] => none
  | x :: r => if x.1 = e then some (x.2, r) else match pp_pick e r with
    | none => none
    | some y => some (y.1, x :: y.2)
def pp_has (e : Nat) : List (Nat × pp_T) → Bool
  | [] => false
  | x :: r => Nat.beq x.1 e || pp_has e r
def pp_sd : pp_T → Nat
  | .var t => 2 ^ t
  | .op a b => pp_sd a ||| pp_sd b
def pp_ops : pp_T → Nat
  | .var _ => 0
  | .op a b => pp_ops a + pp_ops b + 1
def pp_new (n c e : Nat) (fo : List (Nat × pp_T)) : Option (pp_T × List (Nat × pp_T)) :=
  if pp_FT n c e = 15 then match pp_pick (pp_LB n c e) fo with
    | none => none
    | some y => match pp_pick (pp_RB n c e) y.2 with
      | none => none
      | some z => some (.op y.1 z.1, z.2)
  else some (.var (pp_FT n c e), fo)
def pp_sx (n c e : Nat) (fo : List (Nat × pp_T)) : Option (List (Nat × pp_T)) :=
  match pp_new n c e fo with
  | none => none
  | some y => if pp_has e y.2 = false ∧ pp_sd y.1 = pp_SI n c e then some ((e, y.1) :: y.2) else none
def pp_rx (n c : Nat) : Nat → List (Nat × pp_T) → Option (List (Nat × pp_T))
  | 0, fo => some fo
  | k + 1, fo => match pp_sx n c (pp_DW n c k) fo with
    | none => none
    | some f => pp_rx n c k f
def pp_tr (n c : Nat) : pp_T := match pp_rx n c (2 * n - 3) [] with
  | some [x] => x.2
  | _ => .var 0
theorem pp_cT : pp_every (fun n c => match pp_rx n c (2 * n - 3) [] with
  | some [x] => decide (x.1 = pp_DW n c 0 ∧ pp_ops x.2 ≤ 4)
  | _ => false) = true := by decide +kernel
theorem pp_tree {n c : Nat} (h3 : 3 ≤ n) (h6 : n ≤ 6) (hc : c < pp_P n) : pp_rx n c (2 * n - 3) [] = some [(pp_DW n c 0, pp_tr n c)] ∧ pp_ops (pp_tr n c) ≤ 4 := by
  have h := pp_every_s pp_cT h3 h6 hc
  revert h
  unfold pp_tr
  generalize pp_rx n c (2 * n - 3) [] = r
  match r with
  | none => exact fun h => absurd (show false = true from h) Bool.false_ne_true
  | some [] => exact fun h => absurd (show false = true from h) Bool.false_ne_true
  | some (x :: y :: l) => exact fun h => absurd h (by simp)
  | some [x] =>
    intro h
    have h' := of_decide_eq_true h
    refine ⟨?_, h'.2⟩
    rw [← h'.1]
def pp_of (v : Nat) (L : List pp_T) : Option pp_T :=
  if v < 6 then match L with
    | [] => some (.var v)
    | _ => none
  else match L with
    | [a, b] => some (.op b a)
    | _ => none
def pp_sy (n c e : Nat) (nd : Nat → List pp_T) : Option (Nat → List pp_T) :=
  match pp_of (pp_FA n c e) (nd (pp_FA n c e)) with
  | none => none
  | some t => if pp_FA n c e ≠ pp_NE n c e ∧ pp_ops t ≤ 4 ∧ (nd (pp_NE n c e)).length ≤ 1 then some (fun x => if x = pp_NE n c e then t :: nd x else nd x) else none
def pp_ri (n c k : Nat) : Nat → (Nat → List pp_T) → Option (Nat → List pp_T)
  | 0, nd => some nd
  | j + 1, nd => if pp_DE n c (2 * n - 3 - (j + 1)) = k then match pp_sy n c (2 * n - 3 - (j + 1)) nd with
      | none => none
      | some nd' => pp_ri n c k j nd'
    else pp_ri n c k j nd
def pp_ro (n c : Nat) : Nat → (Nat → List pp_T) → Option (Nat → List pp_T)
  | 0, nd => some nd
  | k + 1, nd => match pp_ri n c (k + 1) (2 * n - 3) nd with
    | none => none
    | some nd' => pp_ro n c k nd'
def pp_eq : pp_T → pp_T → Bool
  | .var a, .var b => Nat.beq a b
  | .op a b, .op x y => (pp_eq a x && pp_eq b y) || (pp_eq a y && pp_eq b x)
  | _, _ => false
theorem pp_cY : pp_every (fun n c => match pp_ro n c 9 (fun _ => []) with
  | some nd => (match nd 0 with
    | [t] => pp_eq t (pp_tr n c) && decide (pp_ops t ≤ 4)
    | _ => false)
  | none => false) = true := by decide +kernel
theorem pp_treeY {n c : Nat} (h3 : 3 ≤ n) (h6 : n ≤ 6) (hc : c < pp_P n) : ∃ nd t, pp_ro n c 9 (fun _ => []) = some nd ∧ nd 0 = [t] ∧ pp_eq t (pp_tr n c) = true ∧ pp_ops t ≤ 4 := by
  have h := pp_every_s pp_cY h3 h6 hc
  revert h
  generalize pp_ro n c 9 (fun _ => []) = r
  match r with
  | none => exact fun h => absurd (show false = true from h) Bool.false_ne_true
  | some nd =>
    dsimp only
    generalize e : nd 0 = l
    match l with
    | [] => exact fun h => absurd (show false = true from h) Bool.false_ne_true
    | x :: y :: l => exact fun h => absurd h (by simp)
    | [t] =>
      intro h
      have h : (pp_eq t (pp_tr n c) && decide (pp_ops t ≤ 4)) = true := h
      rw [Bool.and_eq_true] at h
      exact ⟨nd, t, rfl, e, h.1, of_decide_eq_true h.2⟩
/-! depth and side by the reference's own walks -/
def pp_et (n c v : Nat) : Nat := pp_fd (pp_FA n c) v (2 * n - 3) 0
def pp_up (n c v : Nat) : Nat := if pp_et n c v < 2 * n - 3 then pp_NE n c (pp_et n c v) else v
def pp_dp (n c : Nat) : Nat → Nat → Nat → Nat
  | 0, _, s => s
  | k + 1, v, s => pp_dp n c k (pp_up n c v) (if pp_et n c v < 2 * n - 3 then s + 1 else s)
def pp_bi (n c e t : Nat) : Nat → Nat → Nat → Nat
  | 0, _, s => s
  | k + 1, v, s => pp_bi n c e t k (pp_up n c v) (if pp_et n c v = e then s ||| 2 ^ t else s)
def pp_bh (n c e : Nat) : Nat → Nat → Nat
  | 0, s => s
  | k + 1, s => pp_bh n c e k (pp_bi n c e (n - (k + 1)) 9 (n - (k + 1)) s)
theorem pp_cDE : pp_every (fun n c => decide (∀ e, e < 2 * n - 3 → pp_dp n c 9 (pp_FA n c e) 0 = pp_DE n c e)) = true := by decide +kernel
theorem pp_cSI : pp_every (fun n c => decide (∀ e, e < 2 * n - 3 → pp_bh n c e (n - 1) 0 = pp_SI n c e)) = true := by decide +kernel
