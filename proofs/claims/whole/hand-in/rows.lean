section
theorem pk_us {f : Nat → Int32} {k : Nat} {x : Int32} : upd f k x k = x := if_pos rfl
theorem pk_un {f : Nat → Int32} {k j : Nat} {x : Int32} (h : j ≠ k) : upd f k x j = f j := if_neg h
theorem pk_sub {a b : Nat} (h : b ≤ a) : nI a - nI b = nI (a - b) := by
  obtain ⟨c, rfl⟩ : ∃ c, a = c + b := ⟨a - b, by omega⟩
  rw [← nI_add, Int32.add_sub_cancel, Nat.add_sub_cancel]
theorem pk_m1 (n : Nat) : nI (n + 1) + (-1) = nI n := by
  rw [← nI_1, Int32.add_assoc, show (1 : Int32) + (-1) = 0 from rfl, Int32.add_zero]
theorem pk_mul (a b : Nat) : nI a * nI b = nI (a * b) := (Int32.ofNat_mul a b).symm
theorem pk_div {a d : Nat} (ha : a < 2 ^ 31) (h0 : 0 < d) (hd : d < 2 ^ 31) : nI a / nI d = nI (a / d) := by
  apply Int32.toInt_inj.mp
  rw [lg_idiv_nonneg (by rw [nI_toInt ha]; omega) (by rw [nI_toInt hd]; omega), nI_toInt ha, nI_toInt hd, nI_toInt (Nat.lt_of_le_of_lt (Nat.div_le_self a d) ha)]
  first | rfl | exact (Int.natCast_ediv _ _).symm
theorem pk_rem {a d : Nat} (ha : a < 2 ^ 31) (h0 : 0 < d) (hd : d < 2 ^ 31) : nI a - nI a / nI d * nI d = nI (a % d) := by
  rw [pk_div ha h0 hd, pk_mul, pk_sub (Nat.div_mul_le_self a d)]
  exact congrArg nI (by have := Nat.div_add_mod' a d; omega)
theorem pk_sub_toInt {a b : Nat} (ha : a < 2 ^ 30) (hb : b < 2 ^ 30) : (nI a - nI b).toInt = (a : Int) - b := by
  rw [Int32.toInt_sub, nI_toInt (by omega), nI_toInt (by omega)]
  exact Int.bmod_eq_of_le (by omega) (by omega)
theorem pk_sneg {a b : Nat} (hb : b < 2 ^ 30) (h : a < b) : nI a - nI b < 0 := by
  rw [Int32.lt_iff_toInt_lt, pk_sub_toInt (by omega) hb, show (0 : Int32).toInt = 0 from by decide]
  omega
theorem pk_ix (x : Int32) {n : Nat} (hn : n < 2 ^ 31) : x < 0 ∨ nI n ≤ x ∨ ∃ j : Nat, j < n ∧ x = nI j := by
  by_cases h : x < 0
  · exact Or.inl h
  · obtain ⟨j, hj, rfl⟩ := nI_of h
    by_cases h2 : j < n
    · exact Or.inr (Or.inr ⟨j, h2, rfl⟩)
    · exact Or.inr (Or.inl (nI_le (by omega) hj))
theorem pk_le {x y : Int32} {A B : Prop} (a b : Nat) (f : a ≤ b → A) (g : b < a → B) (hx : x = nI a := by rfl) (hy : y = nI b := by rfl) (ha : a < 2 ^ 31 := by omega) (hb : b < 2 ^ 31 := by omega) : (x ≤ y → A) ∧ (¬ x ≤ y → B) := by
  subst hx hy
  rw [nI_leI ha hb]
  exact ⟨f, fun z => g (by omega)⟩
theorem pk_lt {x y : Int32} {A B : Prop} (a b : Nat) (f : a < b → A) (g : b ≤ a → B) (hx : x = nI a := by rfl) (hy : y = nI b := by rfl) (ha : a < 2 ^ 31 := by omega) (hb : b < 2 ^ 31 := by omega) : (x < y → A) ∧ (¬ x < y → B) := by
  subst hx hy
  rw [nI_ltI ha hb]
  exact ⟨f, fun z => g (by omega)⟩
theorem pk_eq {x y : Int32} {A B : Prop} (a b : Nat) (f : a = b → A) (g : a ≠ b → B) (hx : x = nI a := by rfl) (hy : y = nI b := by rfl) (ha : a < 2 ^ 31 := by omega) (hb : b < 2 ^ 31 := by omega) : (x = y → A) ∧ (¬ x = y → B) := by
  subst hx hy
  rw [nI_eq ha hb]
  exact ⟨f, g⟩
theorem pk_in {x : Int32} (n N : Nat) (h : n < N) (hx : x = nI n := by rfl) (hN : N < 2 ^ 31 := by omega) : vp_in x N := by
  subst hx
  exact vp_in_nI h hN
theorem pk_cl {x : Int32} (n : Nat) (hx : x = nI n := by rfl) (h : n < 2 ^ 31 := by omega) : x.toNatClampNeg = n := by
  subst hx
  exact nI_clamp h
theorem pk_tn {n : Nat} (h : n < 2 ^ 32) : (nI n).toBitVec.toNat = n := Nat.mod_eq_of_lt h
theorem pk_and (x : Int32) {m : Int32} (k : Nat) (hm : m.toBitVec.toNat = 2 ^ k - 1) : x &&& m = nI (x.toBitVec.toNat % 2 ^ k) := by
  apply Int32.toBitVec_inj.mp
  apply BitVec.eq_of_toNat_eq
  rw [Int32.toBitVec_and, BitVec.toNat_and, hm, Nat.and_two_pow_sub_one_eq_mod]
  show _ = (BitVec.ofNat 32 _).toNat
  rw [BitVec.toNat_ofNat]
  exact (Nat.mod_eq_of_lt (Nat.lt_of_le_of_lt (Nat.mod_le _ _) x.toBitVec.isLt)).symm
theorem pk_andN {n : Nat} (h : n < 2 ^ 32) {m : Int32} (k : Nat) (hm : m.toBitVec.toNat = 2 ^ k - 1) : nI n &&& m = nI (n % 2 ^ k) := by
  rw [pk_and _ k hm, pk_tn h]
theorem pk_andE (x : Int32) {m : Int32} (k : Nat) (hm : m.toBitVec.toNat = 2 ^ k - 1) : ∃ j : Nat, j < 2 ^ k ∧ x &&& m = nI j := ⟨_, Nat.mod_lt _ (Nat.two_pow_pos k), pk_and x k hm⟩
theorem pk_andIn (x : Int32) {m : Int32} (k : Nat) (hm : m.toBitVec.toNat = 2 ^ k - 1) (hk : k ≤ 30) : vp_in (x &&& m) (2 ^ k) := by
  obtain ⟨j, hj, e⟩ := pk_andE x k hm
  rw [e]
  exact vp_in_nI hj (Nat.lt_of_le_of_lt (Nat.pow_le_pow_right (by decide) hk) (by decide))
theorem pk_shl (a s : Int32) (k : Nat) (hs : (s.toBitVec.smod 32).toNat = k) : (a <<< s).toBitVec.toNat = a.toBitVec.toNat * 2 ^ k % 2 ^ 32 := by
  show (a.toBitVec <<< (s.toBitVec.smod 32).toNat).toNat = _
  rw [hs, BitVec.toNat_shiftLeft, Nat.shiftLeft_eq]
theorem pk_shlN {n : Nat} (s : Int32) (k : Nat) (hs : (s.toBitVec.smod 32).toNat = k) (h : n * 2 ^ k < 2 ^ 32) : nI n <<< s = nI (n * 2 ^ k) := by
  apply Int32.toBitVec_inj.mp
  apply BitVec.eq_of_toNat_eq
  have hn : n < 2 ^ 32 := Nat.lt_of_le_of_lt (Nat.le_mul_of_pos_right n (Nat.two_pow_pos k)) h
  rw [pk_shl _ _ k hs, pk_tn hn, pk_tn h, Nat.mod_eq_of_lt h]
theorem pk_shr (a s : Int32) (k : Nat) (hs : (s.toBitVec.smod 32).toNat = k) : (a >>> s).toInt = a.toInt >>> k := by
  show (a.toBitVec.sshiftRight (s.toBitVec.smod 32).toNat).toInt = _
  rw [hs, BitVec.toInt_sshiftRight]
  rfl
theorem pk_shrN {n : Nat} (h : n < 2 ^ 31) (s : Int32) (k : Nat) (hs : (s.toBitVec.smod 32).toNat = k) : nI n >>> s = nI (n / 2 ^ k) := by
  apply Int32.toInt_inj.mp
  have h2 : n / 2 ^ k ≤ n := Nat.div_le_self _ _
  rw [pk_shr _ _ k hs, nI_toInt h, nI_toInt (by omega), Int.shiftRight_eq_div_pow]
  rfl
theorem pk_loop {σ : Type} (W : Nat → Nat → σ → Prop) (I : Nat → σ → Prop) (e i0 : Nat) (s : σ) (hi : i0 ≤ e) (h0 : I i0 s) (hx : ∀ n s, I e s → W (n + 1) e s)
    (hs : ∀ n i s, i < e → I i s → (∀ s', I (i + 1) s' → W n (i + 1) s') → W (n + 1) i s) : ∃ n, W n i0 s :=
  ⟨e + 1, loop_i W I e hx hs (e + 1) i0 s hi (by omega) h0⟩
theorem pk_loopD {σ : Type} (W : Nat → Nat → σ → Prop) (I : Nat → σ → Prop) (hx : ∀ n s, I 0 s → W (n + 1) 0 s)
    (hs : ∀ n i s, I (i + 1) s → (∀ s', I i s' → W n i s') → W (n + 1) (i + 1) s) : ∀ (e : Nat) (s : σ), I e s → W (e + 1) e s := by
  intro e
  induction e with
  | zero => exact fun s h => hx 0 s h
  | succ e ih => exact fun s h => hs (e + 1) e s h (fun s' h' => ih s' h')
theorem nx_and (a b : Nat) : nI a &&& nI b = nI (a &&& b) := by
  apply Int32.toBitVec_inj.1
  show BitVec.ofNat 32 a &&& BitVec.ofNat 32 b = BitVec.ofNat 32 (a &&& b)
  apply BitVec.eq_of_getLsbD_eq
  intro i hi
  simp [hi]
theorem nx_xor (a b : Nat) : nI a ^^^ nI b = nI (a ^^^ b) := by
  apply Int32.toBitVec_inj.1
  show BitVec.ofNat 32 a ^^^ BitVec.ofNat 32 b = BitVec.ofNat 32 (a ^^^ b)
  apply BitVec.eq_of_getLsbD_eq
  intro i hi
  simp [hi]
theorem nx_or (a b : Nat) : nI a ||| nI b = nI (a ||| b) := by
  apply Int32.toBitVec_inj.1
  show BitVec.ofNat 32 a ||| BitVec.ofNat 32 b = BitVec.ofNat 32 (a ||| b)
  apply BitVec.eq_of_getLsbD_eq
  intro i hi
  simp [hi]
def pp_e (x : Nat) : Int32 := if x = 15 then -1 else nI x
theorem pp_e_n {x : Nat} (h : x ≠ 15) : pp_e x = nI x := if_neg h
theorem pp_e_m1 {x : Nat} (h : x = 15) : pp_e x = -1 := if_pos h
theorem pp_nI_m1 {x : Nat} (h : x < 2 ^ 31) : ¬ nI x = -1 := by
  intro e
  have h1 := congrArg Int32.toInt e
  rw [nI_toInt h, show (-1 : Int32).toInt = -1 from by decide] at h1
  omega
theorem pp_e_eq {x y : Nat} (hx : x < 16) (hy : y < 15) : pp_e x = nI y ↔ x = y := by
  by_cases h : x = 15
  · subst h
    refine ⟨fun z => absurd z.symm (pp_nI_m1 (by omega)), fun z => by omega⟩
  · rw [pp_e_n h, nI_eq (by omega) (by omega)]
theorem pp_e_is {x : Nat} (hx : x < 16) : pp_e x = -1 ↔ x = 15 := by
  by_cases h : x = 15
  · exact ⟨fun _ => h, fun _ => pp_e_m1 h⟩
  · rw [pp_e_n h]
    exact ⟨fun z => absurd z (pp_nI_m1 (by omega)), fun z => absurd z h⟩
/-- the array a holds the table f below m -/
def pp_A (a : Nat → Int32) (f : Nat → Nat) (m : Nat) : Prop := ∀ j, j < m → a j = pp_e (f j)
theorem pp_A_u {a : Nat → Int32} {f g : Nat → Nat} {m k : Nat} {x : Int32} (h : ∀ j, j < m → j ≠ k → a j = pp_e (g j)) (hx : k < m → x = pp_e (g k)) : pp_A (upd a k x) g m := by
  intro j hj
  by_cases e : j = k
  · subst e; rw [pk_us]; exact hx hj
  · rw [pk_un e]; exact h j hj e
theorem pp_A_c {a : Nat → Int32} {f g : Nat → Nat} {m : Nat} (h : pp_A a f m) (e : ∀ j, j < m → f j = g j) : pp_A a g m :=
  fun j hj => by rw [h j hj, e j hj]
end
section
def pp_O (n : Nat) : Nat := if n = 3 then 0 else if n = 4 then 1 else if n = 5 then 4 else 19
def pp_P (n : Nat) : Nat := if n = 3 then 1 else if n = 4 then 3 else if n = 5 then 15 else 105
def pp_tFT : List Nat := [
  0x204f, 0x33c204f, 0x33c204f, 0x33c204f, 0x43c33c204f, 0x43c33c204f, 0x43c33c204f, 0x43c33c204f, 0x43c33c204f, 0x43c33c204f, 0x43c33c204f, 
  0x43c33c204f, 0x43c33c204f, 0x43c33c204f, 0x43c33c204f, 0x43c33c204f, 0x43c33c204f, 0x43c33c204f, 0x43c33c204f, 0x53c43c33c204f, 0x53c43c33c204f, 
  0x53c43c33c204f, 0x53c43c33c204f, 0x53c43c33c204f, 0x53c43c33c204f, 0x53c43c33c204f, 0x53c43c33c204f, 0x53c43c33c204f, 0x53c43c33c204f, 
  0x53c43c33c204f, 0x53c43c33c204f, 0x53c43c33c204f, 0x53c43c33c204f, 0x53c43c33c204f, 0x53c43c33c204f, 0x53c43c33c204f, 0x53c43c33c204f, 
  0x53c43c33c204f, 0x53c43c33c204f, 0x53c43c33c204f, 0x53c43c33c204f, 0x53c43c33c204f, 0x53c43c33c204f, 0x53c43c33c204f, 0x53c43c33c204f, 
  0x53c43c33c204f, 0x53c43c33c204f, 0x53c43c33c204f, 0x53c43c33c204f, 0x53c43c33c204f, 0x53c43c33c204f, 0x53c43c33c204f, 0x53c43c33c204f, 
  0x53c43c33c204f, 0x53c43c33c204f, 0x53c43c33c204f, 0x53c43c33c204f, 0x53c43c33c204f, 0x53c43c33c204f, 0x53c43c33c204f, 0x53c43c33c204f, 
  0x53c43c33c204f, 0x53c43c33c204f, 0x53c43c33c204f, 0x53c43c33c204f, 0x53c43c33c204f, 0x53c43c33c204f, 0x53c43c33c204f, 0x53c43c33c204f, 
  0x53c43c33c204f, 0x53c43c33c204f, 0x53c43c33c204f, 0x53c43c33c204f, 0x53c43c33c204f, 0x53c43c33c204f, 0x53c43c33c204f, 0x53c43c33c204f, 
  0x53c43c33c204f, 0x53c43c33c204f, 0x53c43c33c204f, 0x53c43c33c204f, 0x53c43c33c204f, 0x53c43c33c204f, 0x53c43c33c204f, 0x53c43c33c204f, 
  0x53c43c33c204f, 0x53c43c33c204f, 0x53c43c33c204f, 0x53c43c33c204f, 0x53c43c33c204f, 0x53c43c33c204f, 0x53c43c33c204f, 0x53c43c33c204f, 
  0x53c43c33c204f, 0x53c43c33c204f, 0x53c43c33c204f, 0x53c43c33c204f, 0x53c43c33c204f, 0x53c43c33c204f, 0x53c43c33c204f, 0x53c43c33c204f, 
  0x53c43c33c204f, 0x53c43c33c204f, 0x53c43c33c204f, 0x53c43c33c204f, 0x53c43c33c204f, 0x53c43c33c204f, 0x53c43c33c204f, 0x53c43c33c204f, 
  0x53c43c33c204f, 0x53c43c33c204f, 0x53c43c33c204f, 0x53c43c33c204f, 0x53c43c33c204f, 0x53c43c33c204f, 0x53c43c33c204f, 0x53c43c33c204f, 
  0x53c43c33c204f, 0x53c43c33c204f, 0x53c43c33c204f, 0x53c43c33c204f, 0x53c43c33c204f, 0x53c43c33c204f, 0x53c43c33c204f]
def pp_tLB : List Nat := [
  0xf3c1, 0xf00f3c1, 0xf04f3c3, 0xf08f3c1, 0xf00f14f3c1, 0xf00f04f3c3, 0xf00f08f3c1, 0xf04f00f3c5, 0xf04f14f3c3, 0xf04f08f3c5, 0xf08f00f3c1, 
  0xf08f04f3c3, 0xf08f14f3c1, 0xf0cf00f3c1, 0xf0cf04f3c5, 0xf0cf08f3c1, 0xf10f00f3c1, 0xf10f04f3c3, 0xf10f08f3c1, 0xf00f1cf14f3c1, 0xf00f1cf04f3c3, 
  0xf00f1cf08f3c1, 0xf00f04f1cf3c5, 0xf00f04f14f3c3, 0xf00f04f08f3c5, 0xf00f08f1cf3c1, 0xf00f08f04f3c3, 0xf00f08f14f3c1, 0xf00f0cf1cf3c1, 
  0xf00f0cf04f3c5, 0xf00f0cf08f3c1, 0xf00f10f1cf3c1, 0xf00f10f04f3c3, 0xf00f10f08f3c1, 0xf04f00f14f3c7, 0xf04f00f1cf3c3, 0xf04f00f08f3c7, 
  0xf04f1cf00f3c5, 0xf04f1cf14f3c3, 0xf04f1cf08f3c5, 0xf04f08f00f3c7, 0xf04f08f1cf3c3, 0xf04f08f14f3c7, 0xf04f0cf00f3c7, 0xf04f0cf1cf3c5, 
  0xf04f0cf08f3c7, 0xf04f10f00f3c7, 0xf04f10f1cf3c3, 0xf04f10f08f3c7, 0xf08f00f14f3c1, 0xf08f00f04f3c3, 0xf08f00f1cf3c1, 0xf08f04f00f3c5, 
  0xf08f04f14f3c3, 0xf08f04f1cf3c5, 0xf08f1cf00f3c1, 0xf08f1cf04f3c3, 0xf08f1cf14f3c1, 0xf08f0cf00f3c1, 0xf08f0cf04f3c5, 0xf08f0cf1cf3c1, 
  0xf08f10f00f3c1, 0xf08f10f04f3c3, 0xf08f10f1cf3c1, 0xf0cf00f14f3c1, 0xf0cf00f04f3c7, 0xf0cf00f08f3c1, 0xf0cf04f00f3c5, 0xf0cf04f14f3c7, 
  0xf0cf04f08f3c5, 0xf0cf08f00f3c1, 0xf0cf08f04f3c7, 0xf0cf08f14f3c1, 0xf0cf1cf00f3c1, 0xf0cf1cf04f3c5, 0xf0cf1cf08f3c1, 0xf0cf10f00f3c1, 
  0xf0cf10f04f3c7, 0xf0cf10f08f3c1, 0xf10f00f14f3c1, 0xf10f00f04f3c3, 0xf10f00f08f3c1, 0xf10f04f00f3c5, 0xf10f04f14f3c3, 0xf10f04f08f3c5, 
  0xf10f08f00f3c1, 0xf10f08f04f3c3, 0xf10f08f14f3c1, 0xf10f0cf00f3c1, 0xf10f0cf04f3c5, 0xf10f0cf08f3c1, 0xf10f1cf00f3c1, 0xf10f1cf04f3c3, 
  0xf10f1cf08f3c1, 0xf14f00f1cf3c1, 0xf14f00f04f3c3, 0xf14f00f08f3c1, 0xf14f04f00f3c7, 0xf14f04f1cf3c3, 0xf14f04f08f3c7, 0xf14f08f00f3c1, 
  0xf14f08f04f3c3, 0xf14f08f1cf3c1, 0xf14f0cf00f3c1, 0xf14f0cf04f3c7, 0xf14f0cf08f3c1, 0xf14f10f00f3c1, 0xf14f10f04f3c3, 0xf14f10f08f3c1, 
  0xf18f00f14f3c1, 0xf18f00f04f3c3, 0xf18f00f08f3c1, 0xf18f04f00f3c5, 0xf18f04f14f3c3, 0xf18f04f08f3c5, 0xf18f08f00f3c1, 0xf18f08f04f3c3, 
  0xf18f08f14f3c1, 0xf18f0cf00f3c1, 0xf18f0cf04f3c5, 0xf18f0cf08f3c1, 0xf18f10f00f3c1, 0xf18f10f04f3c3, 0xf18f10f08f3c1]
def pp_tRB : List Nat := [
  0xf3c2, 0xf10f3c2, 0xf10f3c2, 0xf10f3c3, 0xf18f10f3c2, 0xf18f10f3c2, 0xf18f10f3c3, 0xf18f10f3c2, 0xf18f10f3c2, 0xf18f10f3c3, 0xf18f10f3c5, 
  0xf18f10f3c5, 0xf18f10f3c3, 0xf18f10f3c2, 0xf18f10f3c2, 0xf18f10f3c5, 0xf18f14f3c2, 0xf18f14f3c2, 0xf18f14f3c3, 0xf20f18f10f3c2, 0xf20f18f10f3c2, 
  0xf20f18f10f3c3, 0xf20f18f10f3c2, 0xf20f18f10f3c2, 0xf20f18f10f3c3, 0xf20f18f10f3c5, 0xf20f18f10f3c5, 0xf20f18f10f3c3, 0xf20f18f10f3c2, 
  0xf20f18f10f3c2, 0xf20f18f10f3c5, 0xf20f18f14f3c2, 0xf20f18f14f3c2, 0xf20f18f14f3c3, 0xf20f18f10f3c2, 0xf20f18f10f3c2, 0xf20f18f10f3c3, 
  0xf20f18f10f3c2, 0xf20f18f10f3c2, 0xf20f18f10f3c3, 0xf20f18f10f3c5, 0xf20f18f10f3c5, 0xf20f18f10f3c3, 0xf20f18f10f3c2, 0xf20f18f10f3c2, 
  0xf20f18f10f3c5, 0xf20f18f14f3c2, 0xf20f18f14f3c2, 0xf20f18f14f3c3, 0xf20f18f10f3c7, 0xf20f18f10f3c7, 0xf20f18f10f3c3, 0xf20f18f10f3c7, 
  0xf20f18f10f3c7, 0xf20f18f10f3c3, 0xf20f18f10f3c5, 0xf20f18f10f3c5, 0xf20f18f10f3c3, 0xf20f18f10f3c7, 0xf20f18f10f3c7, 0xf20f18f10f3c5, 
  0xf20f18f14f3c7, 0xf20f18f14f3c7, 0xf20f18f14f3c3, 0xf20f18f10f3c2, 0xf20f18f10f3c2, 0xf20f18f10f3c7, 0xf20f18f10f3c2, 0xf20f18f10f3c2, 
  0xf20f18f10f3c7, 0xf20f18f10f3c5, 0xf20f18f10f3c5, 0xf20f18f10f3c7, 0xf20f18f10f3c2, 0xf20f18f10f3c2, 0xf20f18f10f3c5, 0xf20f18f14f3c2, 
  0xf20f18f14f3c2, 0xf20f18f14f3c7, 0xf20f18f1cf3c2, 0xf20f18f1cf3c2, 0xf20f18f1cf3c3, 0xf20f18f1cf3c2, 0xf20f18f1cf3c2, 0xf20f18f1cf3c3, 
  0xf20f18f1cf3c5, 0xf20f18f1cf3c5, 0xf20f18f1cf3c3, 0xf20f18f1cf3c2, 0xf20f18f1cf3c2, 0xf20f18f1cf3c5, 0xf20f18f14f3c2, 0xf20f18f14f3c2, 
  0xf20f18f14f3c3, 0xf20f18f10f3c2, 0xf20f18f10f3c2, 0xf20f18f10f3c3, 0xf20f18f10f3c2, 0xf20f18f10f3c2, 0xf20f18f10f3c3, 0xf20f18f10f3c7, 
  0xf20f18f10f3c7, 0xf20f18f10f3c3, 0xf20f18f10f3c2, 0xf20f18f10f3c2, 0xf20f18f10f3c7, 0xf20f18f1cf3c2, 0xf20f18f1cf3c2, 0xf20f18f1cf3c3, 
  0xf20f1cf10f3c2, 0xf20f1cf10f3c2, 0xf20f1cf10f3c3, 0xf20f1cf10f3c2, 0xf20f1cf10f3c2, 0xf20f1cf10f3c3, 0xf20f1cf10f3c5, 0xf20f1cf10f3c5, 
  0xf20f1cf10f3c3, 0xf20f1cf10f3c2, 0xf20f1cf10f3c2, 0xf20f1cf10f3c5, 0xf20f1cf14f3c2, 0xf20f1cf14f3c2, 0xf20f1cf14f3c3]
def pp_tDW : List Nat := [
  0x2040, 0x4081003, 0x40810c0, 0x4083040, 0x6102040143, 0x6102043005, 0x61020c1005, 0x6102045003, 0x61020450c0, 0x61020c1140, 0x6102141003, 
  0x61021410c0, 0x6102143040, 0x61020400c5, 0x6102043140, 0x61020c5040, 0x6105081003, 0x61050810c0, 0x6105083040, 0x8184081007143, 0x81840810c01c5, 
  0x81840830401c5, 0x81840811401c3, 0x8184081143007, 0x8184083045007, 0x81840850401c3, 0x8184085043007, 0x81840850c1007, 0x81840810070c5, 
  0x81840810c5007, 0x8184083141007, 0x81841420401c3, 0x8184142043007, 0x81841420c1007, 0x81840811c0143, 0x81840811c3005, 0x8184083047005, 
  0x81840811c5003, 0x81840811c50c0, 0x8184083047140, 0x8184085047003, 0x81840850470c0, 0x81840850c11c0, 0x81840811c00c5, 0x81840811c3140, 
  0x81840831411c0, 0x8184142047003, 0x81841420470c0, 0x81841420c11c0, 0x8184087040143, 0x8184087043005, 0x81840870c1005, 0x8184087045003, 
  0x81840870450c0, 0x81840870c1140, 0x8184087141003, 0x81840871410c0, 0x8184087143040, 0x81840870400c5, 0x8184087043140, 0x81840870c5040, 
  0x81841421c1003, 0x81841421c10c0, 0x81841421c3040, 0x81840810050c7, 0x81840810c7005, 0x81840831c1005, 0x81840811400c7, 0x81840811431c0, 
  0x81840831c1140, 0x81840850400c7, 0x81840850431c0, 0x81840850c7040, 0x81840810031c5, 0x81840810c7140, 0x81840831c5040, 0x81841420400c7, 
  0x81841420431c0, 0x81841420c7040, 0x81841c2040143, 0x81841c2043005, 0x81841c20c1005, 0x81841c2045003, 0x81841c20450c0, 0x81841c20c1140, 
  0x81841c2141003, 0x81841c21410c0, 0x81841c2143040, 0x81841c20400c5, 0x81841c2043140, 0x81841c20c5040, 0x81841c5081003, 0x81841c50810c0, 
  0x81841c5083040, 0x81840810051c3, 0x81840810c0147, 0x8184083040147, 0x8184081147003, 0x81840811470c0, 0x81840830451c0, 0x81840851c1003, 
  0x81840851c10c0, 0x81840851c3040, 0x8184081003147, 0x81840810c51c0, 0x8184083147040, 0x8184147081003, 0x81841470810c0, 0x8184147083040, 
  0x8187102040143, 0x8187102043005, 0x81871020c1005, 0x8187102045003, 0x81871020450c0, 0x81871020c1140, 0x8187102141003, 0x81871021410c0, 
  0x8187102143040, 0x81871020400c5, 0x8187102043140, 0x81871020c5040, 0x8187105081003, 0x81871050810c0, 0x8187105083040]
def pp_tNE : List Nat := [
  0x6180, 0x7006187, 0x71861c0, 0x7187180, 0x81c7006188, 0x80071861c8, 0x8007187188, 0x8187006207, 0x81c7186200, 0x8187187200, 0x8187008187, 
  0x81871881c0, 0x81c7188180, 0x8007206187, 0x81872061c0, 0x8187207180, 0x81c8006187, 0x81c81861c0, 0x81c8187180, 0x92081c7006189, 0x92080071861c9, 
  0x9208007187189, 0x91c8187006209, 0x90081c7186209, 0x9008187187209, 0x91c8187008189, 0x90081871881c9, 0x90081c7188189, 0x91c8007206189, 
  0x90081872061c9, 0x9008187207189, 0x91c81c8006189, 0x90081c81861c9, 0x90081c8187189, 0x91881c7006248, 0x91c8007186248, 0x9188007187248, 
  0x9208187006247, 0x92081c7186240, 0x9208187187240, 0x9188187008247, 0x91c8187188240, 0x91881c7188240, 0x9188007206247, 0x91c8187206240, 
  0x9188187207240, 0x91881c8006247, 0x91c81c8186240, 0x91881c8187240, 0x91881c7009188, 0x91880071891c8, 0x91c8007189188, 0x9188187009207, 
  0x91881c7189200, 0x91c8187189200, 0x9208187009187, 0x92081871891c0, 0x92081c7189180, 0x9188007209187, 0x91881872091c0, 0x91c8187209180, 
  0x91881c8009187, 0x91881c81891c0, 0x91c81c8189180, 0x90081c7246188, 0x91880072461c8, 0x9188007247188, 0x9008187246207, 0x91881c7246200, 
  0x9188187247200, 0x9008187248187, 0x91881872481c0, 0x91881c7248180, 0x9208007246187, 0x92081872461c0, 0x9208187247180, 0x90081c8246187, 
  0x91881c82461c0, 0x91881c8247180, 0x91c81c9006188, 0x91c80091861c8, 0x91c8009187188, 0x91c8189006207, 0x91c81c9186200, 0x91c8189187200, 
  0x91c8189008187, 0x91c81891881c0, 0x91c81c9188180, 0x91c8009206187, 0x91c81892061c0, 0x91c8189207180, 0x92081c9006187, 0x92081c91861c0, 
  0x92081c9187180, 0x91c8247006188, 0x90082471861c8, 0x9008247187188, 0x9188247006207, 0x91c8247186200, 0x9188247187200, 0x9188247008187, 
  0x91882471881c0, 0x91c8247188180, 0x9008247206187, 0x91882472061c0, 0x9188247207180, 0x91c8248006187, 0x91c82481861c0, 0x91c8248187180, 
  0x92091c7006188, 0x92090071861c8, 0x9209007187188, 0x9209187006207, 0x92091c7186200, 0x9209187187200, 0x9209187008187, 0x92091871881c0, 
  0x92091c7188180, 0x9209007206187, 0x92091872061c0, 0x9209187207180, 0x92091c8006187, 0x92091c81861c0, 0x92091c8187180]
def pp_tFA : List Nat := [
  0x2046, 0x31c2046, 0x31c2046, 0x31c2046, 0x42031c2046, 0x42031c2046, 0x42031c2046, 0x42031c2046, 0x42031c2046, 0x42031c2046, 0x42031c2046, 
  0x42031c2046, 0x42031c2046, 0x42031c2046, 0x42031c2046, 0x42031c2046, 0x42031c2046, 0x42031c2046, 0x42031c2046, 0x52442031c2046, 0x52442031c2046, 
  0x52442031c2046, 0x52442031c2046, 0x52442031c2046, 0x52442031c2046, 0x52442031c2046, 0x52442031c2046, 0x52442031c2046, 0x52442031c2046, 
  0x52442031c2046, 0x52442031c2046, 0x52442031c2046, 0x52442031c2046, 0x52442031c2046, 0x52442031c2046, 0x52442031c2046, 0x52442031c2046, 
  0x52442031c2046, 0x52442031c2046, 0x52442031c2046, 0x52442031c2046, 0x52442031c2046, 0x52442031c2046, 0x52442031c2046, 0x52442031c2046, 
  0x52442031c2046, 0x52442031c2046, 0x52442031c2046, 0x52442031c2046, 0x52442031c2046, 0x52442031c2046, 0x52442031c2046, 0x52442031c2046, 
  0x52442031c2046, 0x52442031c2046, 0x52442031c2046, 0x52442031c2046, 0x52442031c2046, 0x52442031c2046, 0x52442031c2046, 0x52442031c2046, 
  0x52442031c2046, 0x52442031c2046, 0x52442031c2046, 0x52442031c2046, 0x52442031c2046, 0x52442031c2046, 0x52442031c2046, 0x52442031c2046, 
  0x52442031c2046, 0x52442031c2046, 0x52442031c2046, 0x52442031c2046, 0x52442031c2046, 0x52442031c2046, 0x52442031c2046, 0x52442031c2046, 
  0x52442031c2046, 0x52442031c2046, 0x52442031c2046, 0x52442031c2046, 0x52442031c2046, 0x52442031c2046, 0x52442031c2046, 0x52442031c2046, 
  0x52442031c2046, 0x52442031c2046, 0x52442031c2046, 0x52442031c2046, 0x52442031c2046, 0x52442031c2046, 0x52442031c2046, 0x52442031c2046, 
  0x52442031c2046, 0x52442031c2046, 0x52442031c2046, 0x52442031c2046, 0x52442031c2046, 0x52442031c2046, 0x52442031c2046, 0x52442031c2046, 
  0x52442031c2046, 0x52442031c2046, 0x52442031c2046, 0x52442031c2046, 0x52442031c2046, 0x52442031c2046, 0x52442031c2046, 0x52442031c2046, 
  0x52442031c2046, 0x52442031c2046, 0x52442031c2046, 0x52442031c2046, 0x52442031c2046, 0x52442031c2046, 0x52442031c2046, 0x52442031c2046, 
  0x52442031c2046, 0x52442031c2046, 0x52442031c2046, 0x52442031c2046, 0x52442031c2046, 0x52442031c2046, 0x52442031c2046]
def pp_tDE : List Nat := [
  0x2081, 0x20430c2, 0x30820c1, 0x3083081, 0x3082044103, 0x20440c3102, 0x20440c40c2, 0x40c2043102, 0x40c3082101, 0x30830830c1, 0x40c20440c2, 
  0x30830830c1, 0x40c3084081, 0x2043084103, 0x30840c2101, 0x30840c4081, 0x30830430c2, 0x40c40820c1, 0x40c4083081, 0x40c3082045144, 0x3082045104143, 
  0x3082045105103, 0x3085102044143, 0x20451040c3142, 0x20440c40c4102, 0x3085102045103, 0x20440c40c4102, 0x20451040c50c2, 0x40c2043085144, 
  0x20440c5103142, 0x20440c51050c2, 0x3083083044103, 0x20451050c3102, 0x20451050c40c2, 0x5103082044143, 0x51020440c3142, 0x40c20440c4102, 
  0x51040c2043142, 0x51040c3082141, 0x40c3083083101, 0x40c40c2044102, 0x40c3083083101, 0x30840c30840c1, 0x5102043084143, 0x51030840c2141, 
  0x30830840c40c1, 0x40c3083043102, 0x40c40c4082101, 0x30840c40830c1, 0x5103082045103, 0x40c20440c4102, 0x51020440c50c2, 0x40c40c2044102, 
  0x30840c3083101, 0x40c30830840c1, 0x51040c20450c2, 0x40c30830840c1, 0x51040c3085081, 0x5102043085103, 0x30830840c3101, 0x51030840c5081, 
  0x40c30830440c2, 0x30840c40830c1, 0x40c40c4084081, 0x20440c3085144, 0x40c2045103142, 0x40c20451050c2, 0x2045103084143, 0x30851040c2141, 
  0x30830840c40c1, 0x2045103085103, 0x30830840c3101, 0x30851040c5081, 0x30820440c5144, 0x40c3085102141, 0x40c3085105081, 0x20440c4084103, 
  0x30851050c2101, 0x30851050c4081, 0x3083083044103, 0x51020450c3102, 0x51020450c40c2, 0x30840c3043102, 0x40c40c4082101, 0x40c30840830c1, 
  0x30840c30440c2, 0x40c30840830c1, 0x40c40c4084081, 0x40c2044084103, 0x51030850c2101, 0x51030850c4081, 0x40c30840430c2, 0x51040c50820c1, 
  0x51040c5083081, 0x30840c2045144, 0x2043085104143, 0x2043085105103, 0x40c5102043142, 0x40c5103082141, 0x30840c3083101, 0x40c51020450c2, 
  0x30840c30840c1, 0x40c5103085081, 0x20430840c5144, 0x30840c5102141, 0x30840c5105081, 0x30840c40430c2, 0x40c51050820c1, 0x40c5105083081, 
  0x40c4082044103, 0x30830440c3102, 0x30830440c40c2, 0x51050c2043102, 0x51050c3082101, 0x40c40830830c1, 0x51050c20440c2, 0x40c40830830c1, 
  0x51050c3084081, 0x3083043084103, 0x40c40840c2101, 0x40c40840c4081, 0x40c40830430c2, 0x51050c40820c1, 0x51050c4083081]
def pp_tSI : List Nat := [
  0x4086, 0x8384086, 0x828408e, 0x830408e, 0x10588784086, 0x1078828408e, 0x1078830408e, 0x10488784096, 0x1048868409e, 0x1048830409e, 0x10508784096, 
  0x1050828409e, 0x1050870409e, 0x10788384086, 0x1068828409e, 0x1070830409e, 0x10608784086, 0x1060868409e, 0x1060870409e, 0x20990d88f84086, 
  0x20b90f8828408e, 0x20b90f8830408e, 0x20d90488f84096, 0x20f9048868409e, 0x20f9048830409e, 0x20d90508f84096, 0x20f9050828409e, 0x20f9050870409e, 
  0x20990f88b84086, 0x20f9068828409e, 0x20f9070830409e, 0x20990608f84086, 0x20f9060868409e, 0x20f9060870409e, 0x20890d88f840a6, 0x20890f88a840ae, 
  0x20890f883040ae, 0x20890c88f840b6, 0x20890c88e840be, 0x20890c883040be, 0x20890508f840b6, 0x20890508a840be, 0x208905087040be, 0x20890f88b840a6, 
  0x20890e88a840be, 0x208907083040be, 0x20890608f840a6, 0x20890608e840be, 0x208906087040be, 0x20910d88f840a6, 0x20910f882840ae, 0x20910f88b040ae, 
  0x20910488f840b6, 0x209104886840be, 0x20910488b040be, 0x20910d08f840b6, 0x20910d082840be, 0x20910d08f040be, 0x20910f88b840a6, 0x209106882840be, 
  0x20910f08b040be, 0x20910608f840a6, 0x209106086840be, 0x20910608f040be, 0x20f90588784086, 0x20a90f882840ae, 0x20b10f883040ae, 0x20f90488784096, 
  0x20e904886840be, 0x20b104883040be, 0x20f90508784096, 0x20a905082840be, 0x20f105087040be, 0x20b90f88384086, 0x20a90e882840be, 0x20b10f083040be, 
  0x20f90608784086, 0x20e906086840be, 0x20f106087040be, 0x20a10588f84086, 0x20a10f88a840ae, 0x20a10f88b040ae, 0x20a10488f84096, 0x20a10488e840be, 
  0x20a10488b040be, 0x20a10508f84096, 0x20a10508a840be, 0x20a10508f040be, 0x20a10f88b84086, 0x20a10e88a840be, 0x20a10f08b040be, 0x20a10e08f84086, 
  0x20a10e08e840be, 0x20a10e08f040be, 0x20d90588f84086, 0x20f9078828408e, 0x20f9078830408e, 0x20c90488f840b6, 0x20c90488e840be, 0x20c904883040be, 
  0x20d10508f840b6, 0x20d105082840be, 0x20d10508f040be, 0x20f90788384086, 0x20e906882840be, 0x20f107083040be, 0x20e10608f84086, 0x20e10608e840be, 
  0x20e10608f040be, 0x20c10d88f84086, 0x20c10f8828408e, 0x20c10f8830408e, 0x20c10c88f840b6, 0x20c10c88e840be, 0x20c10c883040be, 0x20c10d08f840b6, 
  0x20c10d082840be, 0x20c10d08f040be, 0x20c10f88384086, 0x20c10e882840be, 0x20c10f083040be, 0x20c10e08f84086, 0x20c10e08e840be, 0x20c10e08f040be]
def pp_d (l : List Nat) (n c j : Nat) : Nat := l.getD (pp_O n + c) 0 / 64 ^ j % 64
def pp_FT (n c j : Nat) : Nat := pp_d pp_tFT n c j
def pp_LB (n c j : Nat) : Nat := pp_d pp_tLB n c j
def pp_RB (n c j : Nat) : Nat := pp_d pp_tRB n c j
def pp_DW (n c j : Nat) : Nat := pp_d pp_tDW n c j
def pp_NE (n c j : Nat) : Nat := pp_d pp_tNE n c j
def pp_FA (n c j : Nat) : Nat := pp_d pp_tFA n c j
def pp_DE (n c j : Nat) : Nat := pp_d pp_tDE n c j
def pp_SI (n c j : Nat) : Nat := pp_d pp_tSI n c j
def pp_all : Nat → (Nat → Bool) → Bool
  | 0, _ => true
  | k + 1, f => f k && pp_all k f
theorem pp_all_s {f : Nat → Bool} : ∀ {k : Nat}, pp_all k f = true → ∀ j, j < k → f j = true
  | 0, _, j, hj => absurd hj (Nat.not_lt_zero j)
  | k + 1, h, j, hj => by
    have h' : (f k && pp_all k f) = true := h
    rw [Bool.and_eq_true] at h'
    by_cases e : j = k
    · rw [e]; exact h'.1
    · exact pp_all_s h'.2 j (by omega)
def pp_every (f : Nat → Nat → Bool) : Bool := pp_all 1 (f 3) && pp_all 3 (f 4) && pp_all 15 (f 5) && pp_all 105 (f 6)
theorem pp_every_s {f : Nat → Nat → Bool} (h : pp_every f = true) {n c : Nat} (h3 : 3 ≤ n) (h6 : n ≤ 6) (hc : c < pp_P n) : f n c = true := by
  have h' : (pp_all 1 (f 3) && pp_all 3 (f 4) && pp_all 15 (f 5) && pp_all 105 (f 6)) = true := h
  rw [Bool.and_eq_true, Bool.and_eq_true, Bool.and_eq_true] at h'
  have hn : n = 3 ∨ n = 4 ∨ n = 5 ∨ n = 6 := by omega
  rcases hn with rfl | rfl | rfl | rfl
  · exact pp_all_s h'.1.1.1 c hc
  · exact pp_all_s h'.1.1.2 c hc
  · exact pp_all_s h'.1.2 c hc
  · exact pp_all_s h'.2 c hc
def pp_steps (f : Nat → Nat → Nat → Bool) : Bool := pp_all 1 (fun c => pp_all 3 (f 3 c)) && pp_all 3 (fun c => pp_all 5 (f 4 c)) && pp_all 15 (fun c => pp_all 7 (f 5 c))
theorem pp_steps_s {f : Nat → Nat → Nat → Bool} (h : pp_steps f = true) {t c e : Nat} (h3 : 3 ≤ t) (h6 : t ≤ 5) (hc : c < pp_P t) (he : e < 2 * t - 3) : f t c e = true := by
  have h' : (pp_all 1 (fun c => pp_all 3 (f 3 c)) && pp_all 3 (fun c => pp_all 5 (f 4 c)) && pp_all 15 (fun c => pp_all 7 (f 5 c))) = true := h
  rw [Bool.and_eq_true, Bool.and_eq_true] at h'
  have hn : t = 3 ∨ t = 4 ∨ t = 5 := by omega
  rcases hn with rfl | rfl | rfl
  · exact pp_all_s (pp_all_s h'.1.1 c hc) e he
  · exact pp_all_s (pp_all_s h'.1.2 c hc) e he
  · exact pp_all_s (pp_all_s h'.2 c hc) e he
/-- the first place from i on, k tries, where g has e -/
def pp_fd (g : Nat → Nat) (e : Nat) : Nat → Nat → Nat
  | 0, i => i
  | k + 1, i => if g i = e then i else pp_fd g e k (i + 1)
def pp_pl (t c e : Nat) : Nat := pp_fd (pp_DW t c) e 9 0
/-! the tables grow as buildTree grows the arrays -/
theorem pp_cLB : pp_steps (fun t c e => decide (∀ j, j < 2 * t - 3 → pp_LB (t + 1) (c + pp_P t * e) j = if pp_LB t c j = e then 2 * t - 3 else pp_LB t c j)) = true := by decide +kernel
theorem pp_cRB : pp_steps (fun t c e => decide (∀ j, j < 2 * t - 3 → pp_RB (t + 1) (c + pp_P t * e) j = if pp_RB t c j = e then 2 * t - 3 else pp_RB t c j)) = true := by decide +kernel
theorem pp_cFT : pp_steps (fun t c e => decide (∀ j, j < 2 * t - 3 → pp_FT (t + 1) (c + pp_P t * e) j = pp_FT t c j)) = true := by decide +kernel
theorem pp_cN1 : pp_steps (fun t c e => decide (pp_LB (t + 1) (c + pp_P t * e) (2 * t - 3) = e ∧ pp_RB (t + 1) (c + pp_P t * e) (2 * t - 3) = 2 * t - 2 ∧ pp_FT (t + 1) (c + pp_P t * e) (2 * t - 3) = 15)) = true := by decide +kernel
theorem pp_cN2 : pp_steps (fun t c e => decide (pp_LB (t + 1) (c + pp_P t * e) (2 * t - 2) = 15 ∧ pp_RB (t + 1) (c + pp_P t * e) (2 * t - 2) = 15 ∧ pp_FT (t + 1) (c + pp_P t * e) (2 * t - 2) = t)) = true := by decide +kernel
theorem pp_cD1 : pp_steps (fun t c e => decide (pp_pl t c e < 2 * t - 3 ∧ pp_DW t c (pp_pl t c e) = e ∧ (∀ j, j < pp_pl t c e → pp_DW t c j ≠ e ∧ pp_DW (t + 1) (c + pp_P t * e) j = pp_DW t c j))) = true := by decide +kernel
theorem pp_cD2 : pp_steps (fun t c e => decide (pp_DW (t + 1) (c + pp_P t * e) (pp_pl t c e) = 2 * t - 3 ∧ pp_DW (t + 1) (c + pp_P t * e) (2 * t - 2) = 2 * t - 2 ∧ (∀ j, j < 2 * t - 3 → pp_pl t c e ≤ j → pp_DW (t + 1) (c + pp_P t * e) (j + 1) = pp_DW t c j))) = true := by decide +kernel
theorem pp_cNE : pp_steps (fun t c e => decide (∀ j, j < 2 * t - 3 → pp_NE (t + 1) (c + pp_P t * e) j = if j = e then 4 + t else pp_NE t c j)) = true := by decide +kernel
theorem pp_cFA : pp_steps (fun t c e => decide (∀ j, j < 2 * t - 3 → pp_FA (t + 1) (c + pp_P t * e) j = pp_FA t c j)) = true := by decide +kernel
theorem pp_cN3 : pp_steps (fun t c e => decide (pp_NE (t + 1) (c + pp_P t * e) (2 * t - 3) = pp_NE t c e ∧ pp_FA (t + 1) (c + pp_P t * e) (2 * t - 3) = 4 + t)) = true := by decide +kernel
theorem pp_cN4 : pp_steps (fun t c e => decide (pp_NE (t + 1) (c + pp_P t * e) (2 * t - 2) = 4 + t ∧ pp_FA (t + 1) (c + pp_P t * e) (2 * t - 2) = t)) = true := by decide +kernel
/-! bounds -/
theorem pp_cB1 : pp_every (fun n c => decide (∀ j, j < 2 * n - 3 → (pp_FT n c j = 15 ∨ pp_FT n c j < 6) ∧ (pp_LB n c j = 15 ∨ pp_LB n c j < 9) ∧ (pp_RB n c j = 15 ∨ pp_RB n c j < 9) ∧ pp_DW n c j < 2 * n - 3)) = true := by decide +kernel
theorem pp_cB2 : pp_every (fun n c => decide (∀ j, j < 2 * n - 3 → pp_NE n c j < 10 ∧ pp_FA n c j < 10 ∧ pp_DE n c j < 10 ∧ 1 ≤ pp_DE n c j)) = true := by decide +kernel
theorem pp_cB3 : pp_every (fun n c => decide (∀ j, j < 2 * n - 3 → pp_SI n c j < 2 ^ n ∧ pp_SI n c j % 2 = 0 ∧ pp_fd (pp_DW n c) j (2 * n - 3) 0 < 2 * n - 3 ∧ pp_DW n c (pp_fd (pp_DW n c) j (2 * n - 3) 0) = j)) = true := by decide +kernel
theorem pp_cB4 : pp_every (fun n c => decide (∀ j, j < 2 * n - 3 → pp_FT n c j = 15 → pp_LB n c j < 9 ∧ pp_RB n c j < 9)) = true := by decide +kernel
theorem pp_c3 : (pp_FT 3 0 0 = 15 ∧ pp_FT 3 0 1 = 1 ∧ pp_FT 3 0 2 = 2) ∧ (pp_LB 3 0 0 = 1 ∧ pp_LB 3 0 1 = 15 ∧ pp_LB 3 0 2 = 15) ∧ (pp_RB 3 0 0 = 2 ∧ pp_RB 3 0 1 = 15 ∧ pp_RB 3 0 2 = 15) ∧ (pp_DW 3 0 0 = 0 ∧ pp_DW 3 0 1 = 1 ∧ pp_DW 3 0 2 = 2) := by decide +kernel
theorem pp_c3Y : (pp_NE 3 0 0 = 0 ∧ pp_NE 3 0 1 = 6 ∧ pp_NE 3 0 2 = 6) ∧ (pp_FA 3 0 0 = 6 ∧ pp_FA 3 0 1 = 1 ∧ pp_FA 3 0 2 = 2) := by decide +kernel
end
section
/-! trees as terms: the class's walk from the back of its list, the reference's joins by depth, both run on trees -/
abbrev pp_T : Type := Lean.Data.AC.Expr
def pp_pick (e : Nat) : List (Nat × pp_T) → Option (pp_T × List (Nat × pp_T))
  | [] => none
  | x :: r => if x.1 = e then some (x.2, r) else match pp_pick e r with
    | none => none
    | some y => some (y.1, x :: y.2)
def pp_has (e : Nat) : List (Nat × pp_T) → Bool
  | [] => false
  | x :: r => Nat.beq x.1 e || pp_has e r
def pp_sd : pp_T → Nat
  | .var t => 2 ^ t
  | .op a b => pp_sd a ||| pp_sd b
def pp_ops : pp_T → Nat
  | .var _ => 0
  | .op a b => pp_ops a + pp_ops b + 1
def pp_new (n c e : Nat) (fo : List (Nat × pp_T)) : Option (pp_T × List (Nat × pp_T)) :=
  if pp_FT n c e = 15 then match pp_pick (pp_LB n c e) fo with
    | none => none
    | some y => match pp_pick (pp_RB n c e) y.2 with
      | none => none
      | some z => some (.op y.1 z.1, z.2)
  else some (.var (pp_FT n c e), fo)
def pp_sx (n c e : Nat) (fo : List (Nat × pp_T)) : Option (List (Nat × pp_T)) :=
  match pp_new n c e fo with
  | none => none
  | some y => if pp_has e y.2 = false ∧ pp_sd y.1 = pp_SI n c e then some ((e, y.1) :: y.2) else none
def pp_rx (n c : Nat) : Nat → List (Nat × pp_T) → Option (List (Nat × pp_T))
  | 0, fo => some fo
  | k + 1, fo => match pp_sx n c (pp_DW n c k) fo with
    | none => none
    | some f => pp_rx n c k f
def pp_tr (n c : Nat) : pp_T := match pp_rx n c (2 * n - 3) [] with
  | some [x] => x.2
  | _ => .var 0
theorem pp_cT : pp_every (fun n c => match pp_rx n c (2 * n - 3) [] with
  | some [x] => decide (x.1 = pp_DW n c 0 ∧ pp_ops x.2 ≤ 4)
  | _ => false) = true := by decide +kernel
theorem pp_tree {n c : Nat} (h3 : 3 ≤ n) (h6 : n ≤ 6) (hc : c < pp_P n) : pp_rx n c (2 * n - 3) [] = some [(pp_DW n c 0, pp_tr n c)] ∧ pp_ops (pp_tr n c) ≤ 4 := by
  have h := pp_every_s pp_cT h3 h6 hc
  revert h
  unfold pp_tr
  generalize pp_rx n c (2 * n - 3) [] = r
  match r with
  | none => exact fun h => absurd (show false = true from h) Bool.false_ne_true
  | some [] => exact fun h => absurd (show false = true from h) Bool.false_ne_true
  | some (x :: y :: l) => exact fun h => absurd h (by simp)
  | some [x] =>
    intro h
    have h' := of_decide_eq_true h
    refine ⟨?_, h'.2⟩
    rw [← h'.1]
def pp_of (v : Nat) (L : List pp_T) : Option pp_T :=
  if v < 6 then match L with
    | [] => some (.var v)
    | _ => none
  else match L with
    | [a, b] => some (.op b a)
    | _ => none
def pp_sy (n c e : Nat) (nd : Nat → List pp_T) : Option (Nat → List pp_T) :=
  match pp_of (pp_FA n c e) (nd (pp_FA n c e)) with
  | none => none
  | some t => if pp_FA n c e ≠ pp_NE n c e ∧ pp_ops t ≤ 4 ∧ (nd (pp_NE n c e)).length ≤ 1 then some (fun x => if x = pp_NE n c e then t :: nd x else nd x) else none
def pp_ri (n c k : Nat) : Nat → (Nat → List pp_T) → Option (Nat → List pp_T)
  | 0, nd => some nd
  | j + 1, nd => if pp_DE n c (2 * n - 3 - (j + 1)) = k then match pp_sy n c (2 * n - 3 - (j + 1)) nd with
      | none => none
      | some nd' => pp_ri n c k j nd'
    else pp_ri n c k j nd
def pp_ro (n c : Nat) : Nat → (Nat → List pp_T) → Option (Nat → List pp_T)
  | 0, nd => some nd
  | k + 1, nd => match pp_ri n c (k + 1) (2 * n - 3) nd with
    | none => none
    | some nd' => pp_ro n c k nd'
def pp_eq : pp_T → pp_T → Bool
  | .var a, .var b => Nat.beq a b
  | .op a b, .op x y => (pp_eq a x && pp_eq b y) || (pp_eq a y && pp_eq b x)
  | _, _ => false
theorem pp_cY : pp_every (fun n c => match pp_ro n c 9 (fun _ => []) with
  | some nd => (match nd 0 with
    | [t] => pp_eq t (pp_tr n c) && decide (pp_ops t ≤ 4)
    | _ => false)
  | none => false) = true := by decide +kernel
theorem pp_treeY {n c : Nat} (h3 : 3 ≤ n) (h6 : n ≤ 6) (hc : c < pp_P n) : ∃ nd t, pp_ro n c 9 (fun _ => []) = some nd ∧ nd 0 = [t] ∧ pp_eq t (pp_tr n c) = true ∧ pp_ops t ≤ 4 := by
  have h := pp_every_s pp_cY h3 h6 hc
  revert h
  generalize pp_ro n c 9 (fun _ => []) = r
  match r with
  | none => exact fun h => absurd (show false = true from h) Bool.false_ne_true
  | some nd =>
    dsimp only
    generalize e : nd 0 = l
    match l with
    | [] => exact fun h => absurd (show false = true from h) Bool.false_ne_true
    | x :: y :: l => exact fun h => absurd h (by simp)
    | [t] =>
      intro h
      have h : (pp_eq t (pp_tr n c) && decide (pp_ops t ≤ 4)) = true := h
      rw [Bool.and_eq_true] at h
      exact ⟨nd, t, rfl, e, h.1, of_decide_eq_true h.2⟩
/-! depth and side by the reference's own walks -/
def pp_et (n c v : Nat) : Nat := pp_fd (pp_FA n c) v (2 * n - 3) 0
def pp_up (n c v : Nat) : Nat := if pp_et n c v < 2 * n - 3 then pp_NE n c (pp_et n c v) else v
def pp_dp (n c : Nat) : Nat → Nat → Nat → Nat
  | 0, _, s => s
  | k + 1, v, s => pp_dp n c k (pp_up n c v) (if pp_et n c v < 2 * n - 3 then s + 1 else s)
def pp_bi (n c e t : Nat) : Nat → Nat → Nat → Nat
  | 0, _, s => s
  | k + 1, v, s => pp_bi n c e t k (pp_up n c v) (if pp_et n c v = e then s ||| 2 ^ t else s)
def pp_bh (n c e : Nat) : Nat → Nat → Nat
  | 0, s => s
  | k + 1, s => pp_bh n c e k (pp_bi n c e (n - (k + 1)) 9 (n - (k + 1)) s)
theorem pp_cDE : pp_every (fun n c => decide (∀ e, e < 2 * n - 3 → pp_dp n c 9 (pp_FA n c e) 0 = pp_DE n c e)) = true := by decide +kernel
theorem pp_cSI : pp_every (fun n c => decide (∀ e, e < 2 * n - 3 → pp_bh n c e (n - 1) 0 = pp_SI n c e)) = true := by decide +kernel
end
section
/-! Fitch's sets and counts of a tree; the reference's cost rows are described by them -/
def pp_fz (a b : Nat) : Nat := if a &&& b = 0 then a ||| b else a &&& b
def pp_ap (a b : Nat) : Nat := if a &&& b = 0 then 1 else 0
def pp_fs (W : Nat → Nat) : pp_T → Nat
  | .var t => W t
  | .op a b => pp_fz (pp_fs W a) (pp_fs W b)
def pp_fc (W : Nat → Nat) : pp_T → Nat
  | .var _ => 0
  | .op a b => pp_fc W a + pp_fc W b + pp_ap (pp_fs W a) (pp_fs W b)
def pp_D (W : Nat → Nat) (t : pp_T) : Nat := pp_fc W t + pp_ap (pp_fs W t) (W 0)
theorem pp_fz_t : ∀ a, a < 16 → ∀ b, b < 16 → 1 ≤ a → 1 ≤ b → 1 ≤ pp_fz a b ∧ pp_fz a b < 16 := by decide +kernel
theorem pp_fs_in {W : Nat → Nat} (hW : ∀ t, 1 ≤ W t ∧ W t < 16) : ∀ t : pp_T, 1 ≤ pp_fs W t ∧ pp_fs W t < 16
  | .var t => hW t
  | .op a b => pp_fz_t _ (pp_fs_in hW a).2 _ (pp_fs_in hW b).2 (pp_fs_in hW a).1 (pp_fs_in hW b).1
theorem pp_ap_le (a b : Nat) : pp_ap a b ≤ 1 := by unfold pp_ap; split <;> omega
theorem pp_fc_le {W : Nat → Nat} : ∀ t : pp_T, pp_fc W t ≤ pp_ops t
  | .var _ => Nat.le_refl 0
  | .op a b => by
    have h1 := pp_fc_le (W := W) a
    have h2 := pp_fc_le (W := W) b
    have h3 := pp_ap_le (pp_fs W a) (pp_fs W b)
    show pp_fc W a + pp_fc W b + pp_ap (pp_fs W a) (pp_fs W b) ≤ pp_ops a + pp_ops b + 1
    omega
theorem pp_fz_c (a b : Nat) : pp_fz a b = pp_fz b a := by unfold pp_fz; rw [Nat.and_comm, Nat.or_comm]
theorem pp_ap_c (a b : Nat) : pp_ap a b = pp_ap b a := by unfold pp_ap; rw [Nat.and_comm]
theorem pp_eq_s {W : Nat → Nat} : ∀ {s t : pp_T}, pp_eq s t = true → pp_fs W s = pp_fs W t ∧ pp_fc W s = pp_fc W t
  | .var a, .var b, h => by
    have h' : a = b := Nat.eq_of_beq_eq_true h
    rw [h']; exact ⟨rfl, rfl⟩
  | .op a b, .op x y, h => by
    have h' : ((pp_eq a x && pp_eq b y) || (pp_eq a y && pp_eq b x)) = true := h
    rw [Bool.or_eq_true, Bool.and_eq_true, Bool.and_eq_true] at h'
    show pp_fz (pp_fs W a) (pp_fs W b) = pp_fz (pp_fs W x) (pp_fs W y) ∧ pp_fc W a + pp_fc W b + pp_ap (pp_fs W a) (pp_fs W b) = pp_fc W x + pp_fc W y + pp_ap (pp_fs W x) (pp_fs W y)
    rcases h' with ⟨h1, h2⟩ | ⟨h1, h2⟩
    · have k1 := pp_eq_s (W := W) h1
      have k2 := pp_eq_s (W := W) h2
      rw [k1.1, k1.2, k2.1, k2.2]
      exact ⟨rfl, rfl⟩
    · have k1 := pp_eq_s (W := W) h1
      have k2 := pp_eq_s (W := W) h2
      rw [k1.1, k1.2, k2.1, k2.2, pp_fz_c, pp_ap_c]
      exact ⟨rfl, by omega⟩
  | .var _, .op _ _, h => absurd (show false = true from h) Bool.false_ne_true
  | .op _ _, .var _, h => absurd (show false = true from h) Bool.false_ne_true
theorem pp_D_eq {W : Nat → Nat} {s t : pp_T} (h : pp_eq s t = true) : pp_D W s = pp_D W t := by
  unfold pp_D; rw [(pp_eq_s h).1, (pp_eq_s h).2]
theorem pp_D_le {W : Nat → Nat} {t : pp_T} (h : pp_ops t ≤ 4) : pp_D W t ≤ 5 := by
  have h1 := pp_fc_le (W := W) t
  have h3 := pp_ap_le (pp_fs W t) (W 0)
  unfold pp_D
  omega
def pp_sm (W : Nat → Nat) : List (Nat × pp_T) → Nat
  | [] => 0
  | x :: r => pp_fc W x.2 + pp_sm W r
theorem pp_pick_s {W : Nat → Nat} {e : Nat} : ∀ {fo : List (Nat × pp_T)} {y : pp_T × List (Nat × pp_T)}, pp_pick e fo = some y → (e, y.1) ∈ fo ∧ (∀ x, x ∈ y.2 → x ∈ fo) ∧ pp_sm W fo = pp_fc W y.1 + pp_sm W y.2
  | [], y, h => by cases h
  | x :: r, y, h => by
    unfold pp_pick at h
    by_cases hx : x.1 = e
    · rw [if_pos hx] at h
      cases h
      refine ⟨?_, fun z hz => List.mem_cons_of_mem _ hz, rfl⟩
      rw [← hx]
      exact List.mem_cons_self
    · rw [if_neg hx] at h
      cases hp : pp_pick e r with
      | none => rw [hp] at h; cases h
      | some z =>
        rw [hp] at h
        cases h
        obtain ⟨h1, h2, h3⟩ := pp_pick_s (W := W) hp
        refine ⟨List.mem_cons_of_mem _ h1, ?_, ?_⟩
        · intro w hw
          rcases List.mem_cons.mp hw with rfl | hw
          · exact List.mem_cons_self
          · exact List.mem_cons_of_mem _ (h2 w hw)
        · show pp_fc W x.2 + pp_sm W r = pp_fc W z.1 + (pp_fc W x.2 + pp_sm W z.2)
          omega
theorem pp_has_s {e : Nat} : ∀ {fo : List (Nat × pp_T)}, pp_has e fo = false → ∀ x, x ∈ fo → x.1 ≠ e
  | [], _, x, hx => by cases hx
  | y :: r, h, x, hx => by
    have h' : (Nat.beq y.1 e || pp_has e r) = false := h
    rw [Bool.or_eq_false_iff] at h'
    rcases List.mem_cons.mp hx with rfl | hx
    · intro z
      rw [z, show Nat.beq e e = true from Nat.beq_refl e] at h'
      exact absurd h'.1.symm Bool.false_ne_true
    · exact pp_has_s h'.2 x hx
/-! Sankoff's rows -/
def pp_pc (W : Nat → Nat) (t : pp_T) (s : Nat) : Nat := pp_fc W t + if (pp_fs W t).testBit s = true then 0 else 1
def pp_bs (W : Nat → Nat) (v s : Nat) : Nat := if v < 6 then (if (W v).testBit s = true then 0 else 100) else 0
def pp_ps (W : Nat → Nat) : List pp_T → Nat → Nat
  | [], _ => 0
  | t :: l, s => pp_pc W t s + pp_ps W l s
def pp_row (W : Nat → Nat) (nd : Nat → List pp_T) (v s : Nat) : Nat := pp_bs W v s + pp_ps W (nd v) s
theorem pp_bit : ∀ F, F < 16 → 1 ≤ F → (F.testBit 0 = true ∨ F.testBit 1 = true ∨ F.testBit 2 = true ∨ F.testBit 3 = true) := by decide +kernel
theorem pp_bitE {F : Nat} (h : F < 16) (h1 : 1 ≤ F) : ∃ s, s < 4 ∧ F.testBit s = true := by
  rcases pp_bit F h h1 with h | h | h | h
  · exact ⟨0, by omega, h⟩
  · exact ⟨1, by omega, h⟩
  · exact ⟨2, by omega, h⟩
  · exact ⟨3, by omega, h⟩
theorem pp_des {W : Nat → Nat} {v : Nat} {L : List pp_T} {t : pp_T} (h : pp_of v L = some t) (s : Nat) : ((pp_fs W t).testBit s = true → pp_bs W v s + pp_ps W L s = pp_fc W t) ∧ ((pp_fs W t).testBit s = false → pp_fc W t + 1 ≤ pp_bs W v s + pp_ps W L s) := by
  unfold pp_of at h
  by_cases hv : v < 6
  · rw [if_pos hv] at h
    match L, h with
    | [], h =>
      cases h
      show ((W v).testBit s = true → pp_bs W v s + 0 = 0) ∧ ((W v).testBit s = false → 0 + 1 ≤ pp_bs W v s + 0)
      unfold pp_bs
      rw [if_pos hv]
      refine ⟨fun z => ?_, fun z => ?_⟩
      · rw [if_pos z]
      · rw [if_neg (by rw [z]; exact Bool.false_ne_true)]; omega
  · rw [if_neg hv] at h
    match L, h with
    | [a, b], h =>
      cases h
      have e0 : pp_bs W v s = 0 := if_neg hv
      rw [e0]
      show ((pp_fz (pp_fs W b) (pp_fs W a)).testBit s = true → 0 + (pp_pc W a s + (pp_pc W b s + 0)) = pp_fc W b + pp_fc W a + pp_ap (pp_fs W b) (pp_fs W a)) ∧ ((pp_fz (pp_fs W b) (pp_fs W a)).testBit s = false → pp_fc W b + pp_fc W a + pp_ap (pp_fs W b) (pp_fs W a) + 1 ≤ 0 + (pp_pc W a s + (pp_pc W b s + 0)))
      unfold pp_pc pp_fz pp_ap
      by_cases hz : pp_fs W b &&& pp_fs W a = 0
      · rw [if_pos hz, if_pos hz, Nat.testBit_or]
        have hb : ((pp_fs W b).testBit s && (pp_fs W a).testBit s) = false := by rw [← Nat.testBit_and, hz, Nat.zero_testBit]
        revert hb
        generalize (pp_fs W b).testBit s = p
        generalize (pp_fs W a).testBit s = q
        cases p <;> cases q <;> simp <;> omega
      · rw [if_neg hz, if_neg hz, Nat.testBit_and]
        generalize (pp_fs W b).testBit s = p
        generalize (pp_fs W a).testBit s = q
        cases p <;> cases q <;> simp <;> omega
def pp_bm (g : Nat → Nat) : Nat → Nat
  | 0 => 1000
  | k + 1 => if pp_bm g k ≤ g k then pp_bm g k else g k
theorem pp_bm_le {g : Nat → Nat} : ∀ {k f : Nat}, f < k → pp_bm g k ≤ g f
  | 0, f, h => absurd h (Nat.not_lt_zero f)
  | k + 1, f, h => by
    show (if pp_bm g k ≤ g k then pp_bm g k else g k) ≤ g f
    by_cases e : f = k
    · subst e; split <;> omega
    · have := pp_bm_le (g := g) (show f < k by omega)
      split <;> omega
theorem pp_bm_ge {g : Nat → Nat} {B : Nat} (hB : B ≤ 1000) : ∀ {k : Nat}, (∀ f, f < k → B ≤ g f) → B ≤ pp_bm g k
  | 0, _ => hB
  | k + 1, h => by
    show B ≤ (if pp_bm g k ≤ g k then pp_bm g k else g k)
    have h1 := pp_bm_ge hB (k := k) (fun f hf => h f (by omega))
    have h2 := h k (by omega)
    split <;> omega
theorem pp_bm_k {g : Nat → Nat} : ∀ {k : Nat}, pp_bm g k ≤ 1000
  | 0 => Nat.le_refl _
  | k + 1 => by
    show (if pp_bm g k ≤ g k then pp_bm g k else g k) ≤ 1000
    have := pp_bm_k (g := g) (k := k)
    split <;> omega
theorem pp_min {r : Nat → Nat} {F M : Nat} (hF : F < 16) (hF1 : 1 ≤ F) (hM : M ≤ 500) (h : ∀ s, (F.testBit s = true → r s = M) ∧ (F.testBit s = false → M + 1 ≤ r s)) {s : Nat} (hs : s < 4) : pp_bm (fun f => r f + if s = f then 0 else 1) 4 = M + if F.testBit s = true then 0 else 1 := by
  apply Nat.le_antisymm
  · by_cases b : F.testBit s = true
    · have := pp_bm_le (g := fun f => r f + if s = f then 0 else 1) hs
      simp only [if_true] at this
      rw [(h s).1 b] at this
      rw [if_pos b]
      exact this
    · obtain ⟨f, hf, bf⟩ := pp_bitE hF hF1
      have := pp_bm_le (g := fun f => r f + if s = f then 0 else 1) hf
      rw [(h f).1 bf] at this
      rw [if_neg b]
      refine Nat.le_trans this ?_
      split <;> omega
  · apply pp_bm_ge
    · split <;> omega
    · intro f hf
      show _ ≤ r f + if s = f then 0 else 1
      have h1 := h f
      by_cases e : s = f
      · subst e
        rw [if_pos rfl]
        by_cases b : F.testBit s = true
        · rw [if_pos b, h1.1 b]; omega
        · rw [if_neg b]
          have := h1.2 (by revert b; cases F.testBit s <;> simp)
          omega
      · rw [if_neg e]
        have : M ≤ r f := by
          by_cases b : F.testBit f = true
          · rw [h1.1 b]; omega
          · have := h1.2 (by revert b; cases F.testBit f <;> simp)
            omega
        split <;> omega
theorem pp_top {W : Nat → Nat} (hW : ∀ t, 1 ≤ W t ∧ W t < 16) {nd : Nat → List pp_T} {t : pp_T} (h : nd 0 = [t]) (ho : pp_ops t ≤ 4) : pp_bm (fun s => pp_row W nd 0 s) 4 = pp_D W t := by
  have hr : ∀ s, pp_row W nd 0 s = (if (W 0).testBit s = true then 0 else 100) + (pp_fc W t + if (pp_fs W t).testBit s = true then 0 else 1) := by
    intro s
    unfold pp_row
    rw [h]
    show pp_bs W 0 s + (pp_pc W t s + 0) = _
    unfold pp_bs pp_pc
    rw [if_pos (show 0 < 6 by omega), Nat.add_zero]
  have hc := pp_fc_le (W := W) t
  have hf := pp_fs_in hW t
  have h0 := hW 0
  unfold pp_D pp_ap
  apply Nat.le_antisymm
  · by_cases hz : pp_fs W t &&& W 0 = 0
    · rw [if_pos hz]
      obtain ⟨s, hs, b⟩ := pp_bitE h0.2 h0.1
      have := pp_bm_le (g := fun s => pp_row W nd 0 s) hs
      rw [hr, if_pos b] at this
      refine Nat.le_trans this ?_
      split <;> omega
    · rw [if_neg hz]
      have hl : pp_fs W t &&& W 0 < 16 := Nat.lt_of_le_of_lt Nat.and_le_left hf.2
      obtain ⟨s, hs, b⟩ := pp_bitE hl (by omega)
      rw [Nat.testBit_and, Bool.and_eq_true] at b
      have := pp_bm_le (g := fun s => pp_row W nd 0 s) hs
      rw [hr, if_pos b.1, if_pos b.2] at this
      omega
  · apply pp_bm_ge
    · split <;> omega
    · intro s hs
      show _ ≤ pp_row W nd 0 s
      rw [hr]
      by_cases hz : pp_fs W t &&& W 0 = 0
      · rw [if_pos hz]
        have hb : ((pp_fs W t).testBit s && (W 0).testBit s) = false := by rw [← Nat.testBit_and, hz, Nat.zero_testBit]
        revert hb
        generalize (pp_fs W t).testBit s = p
        generalize (W 0).testBit s = q
        cases p <;> cases q <;> simp <;> omega
      · rw [if_neg hz]; omega
/-! the sets as both sides hold them -/
def pp_S (a : Nat → Int32) : Prop := ∀ j, j < 48 → ∃ w, 1 ≤ w ∧ w < 16 ∧ a j = nI w
def pp_W (a : Nat → Int32) (i t : Nat) : Nat := if t < 6 then (a (t * 8 + i)).toNatClampNeg else 1
theorem pp_W_s {a : Nat → Int32} (h : pp_S a) {i t : Nat} (ht : t < 6) (hi : i < 8) : a (t * 8 + i) = nI (pp_W a i t) := by
  obtain ⟨w, h1, h2, e⟩ := h (t * 8 + i) (by omega)
  unfold pp_W
  rw [if_pos ht, e, nI_clamp (by omega)]
theorem pp_W_in {a : Nat → Int32} (h : pp_S a) {i : Nat} (hi : i < 8) : ∀ t, 1 ≤ pp_W a i t ∧ pp_W a i t < 16 := by
  intro t
  unfold pp_W
  by_cases ht : t < 6
  · obtain ⟨w, h1, h2, e⟩ := h (t * 8 + i) (by omega)
    rw [if_pos ht, e, nI_clamp (by omega)]
    exact ⟨h1, h2⟩
  · rw [if_neg ht]; omega
def pp_V (a : Nat → Int32) : Prop := ∀ j, j < 8 → ∃ w, w < 10 ∧ a j = nI w
def pp_w (a : Nat → Int32) (j : Nat) : Nat := (a j).toNatClampNeg
theorem pp_w_s {a : Nat → Int32} (h : pp_V a) {j : Nat} (hj : j < 8) : a j = nI (pp_w a j) ∧ pp_w a j < 10 := by
  obtain ⟨w, h1, e⟩ := h j hj
  unfold pp_w
  rw [e, nI_clamp (by omega)]
  exact ⟨rfl, h1⟩
end
section
/-! the class builds the tree of its table, whatever lay in its arrays before -/
section
variable {tc sc rc : Int32} {ss ws fs fd : Nat → Int32}
theorem pp_si {post : SX → Prop} {ec : Int32} {ft lb rb dw : Nat → Int32} {e : Nat} {l r : Int32} (he : e < 9)
    (K : post (tc, sc, rc, ec, ss, ws, upd ft e (-1), upd lb e l, upd rb e r, dw, fs, fd)) :
    wpX_setInner post (tc, sc, rc, ec, ss, ws, ft, lb, rb, dw, fs, fd) (nI e) l r := by
  have hin : vp_in (nI e) 9 := vp_in_nI he (by omega)
  have hc : (nI e).toNatClampNeg = e := nI_clamp (by omega)
  refine And.intro hin (nm_r (by rw [hc]) (And.intro hin (nm_r (by rw [hc]) (And.intro hin (nm_r (by rw [hc]) K)))))
theorem pp_sl {post : SX → Prop} {ec : Int32} {ft lb rb dw : Nat → Int32} {e : Nat} {t : Int32} (he : e < 9)
    (K : post (tc, sc, rc, ec, ss, ws, upd ft e t, upd lb e (-1), upd rb e (-1), dw, fs, fd)) :
    wpX_setLeaf post (tc, sc, rc, ec, ss, ws, ft, lb, rb, dw, fs, fd) (nI e) t := by
  have hin : vp_in (nI e) 9 := vp_in_nI he (by omega)
  have hc : (nI e).toNatClampNeg = e := nI_clamp (by omega)
  refine And.intro hin (nm_r (by rw [hc]) (And.intro hin (nm_r (by rw [hc]) (And.intro hin (nm_r (by rw [hc]) K)))))
theorem pp_rbl {post : SX → Prop} {old new m : Nat} {L R : Nat → Nat} (ho : old < 9) (hn : new < 9) (hm : m ≤ 9) (hL : ∀ j, j < m → L j < 16) (hR : ∀ j, j < m → R j < 16) {ft dw : Nat → Int32}
    (K : ∀ lb rb, pp_A lb (fun j => if L j = old then new else L j) m → pp_A rb (fun j => if R j = old then new else R j) m → post (tc, sc, rc, nI m, ss, ws, ft, lb, rb, dw, fs, fd)) :
    ∀ d i k lb rb, i + d = m → d < k → pp_A lb (fun j => if j < i ∧ L j = old then new else L j) m → pp_A rb (fun j => if j < i ∧ R j = old then new else R j) m →
      wX_replaceBelow_2 post (nI old) (nI new) tc sc rc (nI m) k (nI i) ss ws ft lb rb dw fs fd := by
  intro d
  induction d with
  | zero =>
    intro i k lb rb hi hk hl hr
    obtain ⟨k, rfl⟩ : ∃ q, k = q + 1 := ⟨k - 1, by omega⟩
    refine br_t (nI_le (by omega) (by omega)) (K lb rb (pp_A_c hl ?_) (pp_A_c hr ?_))
    · intro j hj
      have : j < i := by omega
      simp [this]
    · intro j hj
      have : j < i := by omega
      simp [this]
  | succ d ih =>
    intro i k lb rb hi hk hl hr
    obtain ⟨k, rfl⟩ : ∃ q, k = q + 1 := ⟨k - 1, by omega⟩
    have hlt : i < m := by omega
    have hnle : ¬ nI m ≤ nI i := nI_ge (by omega) (by omega)
    have hin : vp_in (nI i) 9 := vp_in_nI (by omega) (by omega)
    have hc : (nI i).toNatClampNeg = i := nI_clamp (by omega)
    have li : lb i = pp_e (L i) := by rw [hl i hlt]; simp
    have ri : rb i = pp_e (R i) := by rw [hr i hlt]; simp
    have nn : nI new = pp_e new := (pp_e_n (by omega)).symm
    have U : ∀ (a : Nat → Int32) (G : Nat → Nat), pp_A a (fun j => if j < i ∧ G j = old then new else G j) m → G i = old → pp_A (upd a i (nI new)) (fun j => if j < i + 1 ∧ G j = old then new else G j) m := by
      intro a G h z
      refine pp_A_u (f := G) (fun j hj hne => ?_) (fun _ => ?_)
      · rw [h j hj]
        by_cases hji : j < i
        · have : j < i + 1 := by omega
          simp [hji, this]
        · have : ¬ j < i + 1 := by omega
          simp [hji, this]
      · simp [z, nn]
    have N : ∀ (a : Nat → Int32) (G : Nat → Nat), pp_A a (fun j => if j < i ∧ G j = old then new else G j) m → ¬ G i = old → pp_A a (fun j => if j < i + 1 ∧ G j = old then new else G j) m := by
      intro a G h z
      refine pp_A_c h (fun j hj => ?_)
      by_cases hji : j = i
      · subst hji; simp [z]
      · have : j < i + 1 ↔ j < i := by omega
        simp [this]
    have J : ∀ lb' rb', pp_A lb' (fun j => if j < i + 1 ∧ L j = old then new else L j) m → pp_A rb' (fun j => if j < i + 1 ∧ R j = old then new else R j) m →
        wX_replaceBelow_2 post (nI old) (nI new) tc sc rc (nI m) k (nI i + 1) ss ws ft lb' rb' dw fs fd := by
      intro lb' rb' h1 h2
      rw [nI_1]
      exact ih (i + 1) k lb' rb' (by omega) (by omega) h1 h2
    have F27 : ∀ lb', pp_A lb' (fun j => if j < i + 1 ∧ L j = old then new else L j) m →
        wX_replaceBelow_27 post (wX_replaceBelow_2 post (nI old) (nI new) tc sc rc (nI m) k) (nI old) (nI new) (nI i) tc sc rc (nI m) ss ws ft lb' rb dw fs fd := by
      intro lb' h'
      refine And.intro hin ?_
      by_cases z : R i = old
      · refine br_t (by rw [hc, ri]; exact (pp_e_eq (hR i hlt) (by omega)).mpr z) (And.intro hin (nm_r (by rw [hc]) (nm_e ?_)))
        exact J _ _ h' (U rb R hr z)
      · refine br_f (by rw [hc, ri]; exact fun y => z ((pp_e_eq (hR i hlt) (by omega)).mp y)) (nm_e ?_)
        exact J _ _ h' (N rb R hr z)
    refine br_f hnle (And.intro hin ?_)
    by_cases z : L i = old
    · refine br_t (by rw [hc, li]; exact (pp_e_eq (hL i hlt) (by omega)).mpr z) (And.intro hin (nm_r (by rw [hc]) ?_))
      exact F27 _ (U lb L hl z)
    · refine br_f (by rw [hc, li]; exact fun y => z ((pp_e_eq (hL i hlt) (by omega)).mp y)) ?_
      exact F27 _ (N lb L hl z)
theorem pp_rb {post : SX → Prop} {old new m : Nat} {L R : Nat → Nat} (ho : old < 9) (hn : new < 9) (hm : m ≤ 9) (hL : ∀ j, j < m → L j < 16) (hR : ∀ j, j < m → R j < 16) {ft lb rb dw : Nat → Int32} (hl : pp_A lb L m) (hr : pp_A rb R m)
    (K : ∀ lb rb, pp_A lb (fun j => if L j = old then new else L j) m → pp_A rb (fun j => if R j = old then new else R j) m → post (tc, sc, rc, nI m, ss, ws, ft, lb, rb, dw, fs, fd)) :
    wpX_replaceBelow post (tc, sc, rc, nI m, ss, ws, ft, lb, rb, dw, fs, fd) (nI old) (nI new) := by
  refine Exists.intro (m + 1) ?_
  refine pp_rbl ho hn hm hL hR K m 0 (m + 1) lb rb (by omega) (by omega) (pp_A_c hl ?_) (pp_A_c hr ?_)
  · intro j hj; simp
  · intro j hj; simp
theorem pp_ish {post : SX → Prop} {m p ins : Nat} {G : Nat → Nat} (hm : m < 9) (hp : p < m) {ft lb rb : Nat → Int32}
    (K : ∀ dw : Nat → Int32, (∀ j, j < p → dw j = pp_e (G j)) → dw p = nI ins → (∀ j, p ≤ j → j < m → dw (j + 1) = pp_e (G j)) → post (tc, sc, rc, nI m, ss, ws, ft, lb, rb, dw, fs, fd)) :
    ∀ d i k dw, p + d = i → i ≤ m → d < k → (∀ j, j < i → dw j = pp_e (G j)) → (∀ j, i ≤ j → j < m → dw (j + 1) = pp_e (G j)) →
      wX_insertAhead_32 post (nI ins) (nI p) tc sc rc (nI m) k (nI i) ss ws ft lb rb dw fs fd := by
  intro d
  induction d with
  | zero =>
    intro i k dw hi hm' hk h1 h2
    obtain ⟨k, rfl⟩ : ∃ q, k = q + 1 := ⟨k - 1, by omega⟩
    have e : i = p := by omega
    subst e
    refine br_t (nI_le (by omega) (by omega)) (And.intro (vp_in_nI (by omega) (by omega)) (nm_r (by rw [nI_clamp (by omega)]) ?_))
    refine K _ (fun j hj => ?_) pk_us (fun j hj hjm => ?_)
    · rw [pk_un (by omega)]; exact h1 j hj
    · rw [pk_un (by omega)]; exact h2 j hj hjm
  | succ d ih =>
    intro i k dw hi hm' hk h1 h2
    obtain ⟨k, rfl⟩ : ∃ q, k = q + 1 := ⟨k - 1, by omega⟩
    obtain ⟨i, rfl⟩ : ∃ q, i = q + 1 := ⟨i - 1, by omega⟩
    have hs : nI (i + 1) - 1 = nI i := nI_pred i
    refine br_f (nI_ge (by omega) (by omega)) (And.intro (by rw [hs]; exact vp_in_nI (by omega) (by omega)) (And.intro (vp_in_nI (by omega) (by omega)) (nm_r (e' := upd dw (i + 1) (dw i)) (by rw [hs, nI_clamp (by omega), nI_clamp (by omega)]) (nm_r (pk_m1 i) ?_))))
    refine ih i k _ (by omega) (by omega) (by omega) (fun j hj => ?_) (fun j hj hjm => ?_)
    · rw [pk_un (by omega)]; exact h1 j (by omega)
    · by_cases e : j = i
      · subst e; rw [pk_us]; exact h1 j (by omega)
      · rw [pk_un (by omega)]; exact h2 j (by omega) hjm
theorem pp_ia {post : SX → Prop} {m p ins edge : Nat} {G : Nat → Nat} (hm : m < 9) (hp : p < m) (hG : ∀ j, j < m → G j < 9) (he : edge < 9) (hpe : G p = edge) (hpn : ∀ j, j < p → G j ≠ edge) {ft lb rb dw : Nat → Int32} (hd : pp_A dw G m)
    (K : ∀ dw : Nat → Int32, (∀ j, j < p → dw j = pp_e (G j)) → dw p = nI ins → (∀ j, p ≤ j → j < m → dw (j + 1) = pp_e (G j)) → post (tc, sc, rc, nI m, ss, ws, ft, lb, rb, dw, fs, fd)) :
    wpX_insertAhead post (tc, sc, rc, nI m, ss, ws, ft, lb, rb, dw, fs, fd) (nI edge) (nI ins) := by
  have H : ∀ d i k, i + d = p → d < k → wX_insertAhead_2 post (nI edge) (nI ins) tc sc rc (nI m) ss ws ft lb rb dw fs fd k (nI i) := by
    intro d
    induction d with
    | zero =>
      intro i k hi hk
      obtain ⟨k, rfl⟩ : ∃ q, k = q + 1 := ⟨k - 1, by omega⟩
      have e : i = p := by omega
      subst e
      refine br_f (nI_ge (by omega) (by omega)) (And.intro (vp_in_nI (by omega) (by omega)) (br_t ?_ (Exists.intro (m + 1) ?_)))
      · rw [nI_clamp (by omega), hd i hp]
        exact (pp_e_eq (by have := hG i hp; omega) (by omega)).mpr hpe
      · refine pp_ish hm hp K (m - i) m (m + 1) dw (by omega) (by omega) (by omega) (fun j hj => hd j hj) (fun j hj hj' => by omega)
    | succ d ih =>
      intro i k hi hk
      obtain ⟨k, rfl⟩ : ∃ q, k = q + 1 := ⟨k - 1, by omega⟩
      refine br_f (nI_ge (by omega) (by omega)) (And.intro (vp_in_nI (by omega) (by omega)) (br_f ?_ (nm_r (nI_1 i) ?_)))
      · rw [nI_clamp (by omega), hd i (by omega)]
        exact fun z => hpn i (by omega) ((pp_e_eq (by have := hG i (by omega); omega) (by omega)).mp z)
      · exact ih (i + 1) k (by omega) (by omega)
  exact Exists.intro (p + 1) (H p 0 (p + 1) (by omega) (by omega))
def pp_XT (n c : Nat) (ft lb rb dw : Nat → Int32) : Prop := pp_A ft (pp_FT n c) (2 * n - 3) ∧ pp_A lb (pp_LB n c) (2 * n - 3) ∧ pp_A rb (pp_RB n c) (2 * n - 3) ∧ pp_A dw (pp_DW n c) (2 * n - 3)
theorem pp_at {post : SX → Prop} {t c e : Nat} (h3 : 3 ≤ t) (h5 : t ≤ 5) (hc : c < pp_P t) (he : e < 2 * t - 3) {ft lb rb dw : Nat → Int32} (H : pp_XT t c ft lb rb dw)
    (K : ∀ ft lb rb dw, pp_XT (t + 1) (c + pp_P t * e) ft lb rb dw → post (tc, sc, rc, nI (2 * (t + 1) - 3), ss, ws, ft, lb, rb, dw, fs, fd)) :
    wpX_addTaxon post (tc, sc, rc, nI (2 * t - 3), ss, ws, ft, lb, rb, dw, fs, fd) (nI t) (nI e) := by
  obtain ⟨m, hm⟩ : ∃ m, m = 2 * t - 3 := ⟨_, rfl⟩
  obtain ⟨d, hd⟩ : ∃ d, d = c + pp_P t * e := ⟨_, rfl⟩
  have cLB := of_decide_eq_true (pp_steps_s pp_cLB h3 h5 hc he)
  have cRB := of_decide_eq_true (pp_steps_s pp_cRB h3 h5 hc he)
  have cFT := of_decide_eq_true (pp_steps_s pp_cFT h3 h5 hc he)
  have cN1 := of_decide_eq_true (pp_steps_s pp_cN1 h3 h5 hc he)
  have cN2 := of_decide_eq_true (pp_steps_s pp_cN2 h3 h5 hc he)
  have cD1 := of_decide_eq_true (pp_steps_s pp_cD1 h3 h5 hc he)
  have cD2 := of_decide_eq_true (pp_steps_s pp_cD2 h3 h5 hc he)
  have cB := of_decide_eq_true (pp_every_s pp_cB1 h3 (show t ≤ 6 by omega) hc)
  unfold pp_XT at H
  rw [← hm, show 2 * t - 2 = m + 1 by omega, ← hd] at cN1 cD2
  rw [show 2 * t - 2 = m + 1 by omega, ← hd] at cN2
  rw [← hm, ← hd] at cLB cRB cFT cD1
  rw [← hm] at cB H he ⊢
  rw [← hd, show 2 * (t + 1) - 3 = m + 2 by omega] at K
  have hm3 : 3 ≤ m := by omega
  have hm7 : m ≤ 7 := by omega
  obtain ⟨Hf, Hl, Hr, Hd⟩ := H
  unfold wpX_addTaxon
  refine nm_r (nI_1 m) ?_
  refine pp_rb (L := pp_LB t c) (R := pp_RB t c) (by omega) (by omega) (by omega) (fun j hj => by have := (cB j hj).2.1; omega) (fun j hj => by have := (cB j hj).2.2.1; omega) Hl Hr ?_
  intro lb' rb' hl' hr'
  refine pp_si (e := m) (by omega) ?_
  refine pp_sl (e := m + 1) (by omega) ?_
  refine pp_ia (p := pp_pl t c e) (G := pp_DW t c) (by omega) cD1.1 (fun j hj => by have := (cB j hj).2.2.2; omega) (by omega) cD1.2.1 (fun j hj => (cD1.2.2 j hj).1) Hd ?_
  intro dw' q1 q2 q3
  refine And.intro (by rw [nI_1]; exact vp_in_nI (by omega) (by omega)) (nm_r (e' := upd dw' (m + 1) (nI (m + 1))) (by rw [nI_1, nI_clamp (by omega)]) (nm_r (nI_add m 2) ?_))
  refine K _ _ _ _ ⟨?_, ?_, ?_, ?_⟩
  · rw [show 2 * (t + 1) - 3 = m + 2 by omega]
    refine pp_A_u (f := pp_FT t c) (fun j hj hne => ?_) (fun _ => ?_)
    · by_cases ej : j = m
      · subst ej; rw [pk_us, pp_e_m1 cN1.2.2]
      · rw [pk_un ej, Hf j (by omega), cFT j (by omega)]
    · rw [cN2.2.2, pp_e_n (by omega)]
  · rw [show 2 * (t + 1) - 3 = m + 2 by omega]
    refine pp_A_u (f := pp_LB t c) (fun j hj hne => ?_) (fun _ => ?_)
    · by_cases ej : j = m
      · subst ej; rw [pk_us, cN1.1, pp_e_n (by omega)]
      · rw [pk_un ej, hl' j (by omega), cLB j (by omega)]
    · rw [pp_e_m1 cN2.1]
  · rw [show 2 * (t + 1) - 3 = m + 2 by omega]
    refine pp_A_u (f := pp_RB t c) (fun j hj hne => ?_) (fun _ => ?_)
    · by_cases ej : j = m
      · subst ej; rw [pk_us, cN1.2.1, pp_e_n (by omega)]
      · rw [pk_un ej, hr' j (by omega), cRB j (by omega)]
    · rw [pp_e_m1 cN2.2.1]
  · rw [show 2 * (t + 1) - 3 = m + 2 by omega]
    refine pp_A_u (f := pp_DW t c) (fun j hj hne => ?_) (fun _ => ?_)
    · by_cases h1 : j < pp_pl t c e
      · rw [q1 j h1, (cD1.2.2 j h1).2]
      · by_cases h2 : j = pp_pl t c e
        · rw [h2, q2, cD2.1, pp_e_n (by omega)]
        · obtain ⟨i, rfl⟩ : ∃ i, j = i + 1 := ⟨j - 1, by omega⟩
          rw [q3 i (by omega) (by omega), cD2.2.2 i (by omega) (by omega)]
    · rw [cD2.2.1, pp_e_n (by omega)]
theorem pp_eb {post : Int32 → Prop} {t : Nat} (h3 : 3 ≤ t) (K : post (nI (2 * t - 3))) : wpX_edgesBefore post (nI t) := by
  have e : (2 : Int32) * nI t - 3 = nI (2 * t - 3) := by
    rw [show (2 : Int32) = nI 2 from rfl, show (3 : Int32) = nI 3 from rfl, pk_mul, pk_sub (by omega)]
  unfold wpX_edgesBefore
  rw [e]
  exact K
theorem pp_P_s {t : Nat} (h3 : 3 ≤ t) (h5 : t ≤ 5) : pp_P (t + 1) = pp_P t * (2 * t - 3) := by
  have hn : t = 3 ∨ t = 4 ∨ t = 5 := by omega
  rcases hn with rfl | rfl | rfl <;> decide
theorem pp_P_0 (t : Nat) : 0 < pp_P t ∧ pp_P t ≤ 105 := by
  unfold pp_P
  split
  · omega
  · split
    · omega
    · split <;> omega
theorem pp_st {post : SX → Prop} {ec : Int32} {ft lb rb dw : Nat → Int32}
    (K : ∀ ft lb rb dw, pp_XT 3 0 ft lb rb dw → post (tc, sc, rc, nI (2 * 3 - 3), ss, ws, ft, lb, rb, dw, fs, fd)) :
    wpX_startTree post (tc, sc, rc, ec, ss, ws, ft, lb, rb, dw, fs, fd) := by
  unfold wpX_startTree
  refine pp_si (e := 0) (by omega) ?_
  refine pp_sl (e := 1) (by omega) ?_
  refine pp_sl (e := 2) (by omega) ?_
  refine nm_e (nm_e (nm_e ?_))
  obtain ⟨⟨f0, f1, f2⟩, ⟨l0, l1, l2⟩, ⟨r0, r1, r2⟩, ⟨d0, d1, d2⟩⟩ := pp_c3
  refine K _ _ _ _ ⟨?_, ?_, ?_, ?_⟩
  all_goals
    intro j hj
    have hj3 : j = 0 ∨ j = 1 ∨ j = 2 := by omega
    rcases hj3 with rfl | rfl | rfl
  · rw [f0]; rfl
  · rw [f1]; rfl
  · rw [f2]; rfl
  · rw [l0]; rfl
  · rw [l1]; rfl
  · rw [l2]; rfl
  · rw [r0]; rfl
  · rw [r1]; rfl
  · rw [r2]; rfl
  · rw [d0]; rfl
  · rw [d1]; rfl
  · rw [d2]; rfl
theorem pp_bl {post : SX → Prop} {n code : Nat} (h6 : n ≤ 6) (hcode : code < 2 ^ 31)
    (K : ∀ ft lb rb dw, pp_XT n (code % pp_P n) ft lb rb dw → post (nI n, sc, rc, nI (2 * n - 3), ss, ws, ft, lb, rb, dw, fs, fd)) :
    ∀ d t k ft lb rb dw, t + d = n → 3 ≤ t → d < k → pp_XT t (code % pp_P t) ft lb rb dw →
      wX_buildTree_8 post k (nI (code / pp_P t)) (nI t) (nI n) sc rc (nI (2 * t - 3)) ss ws ft lb rb dw fs fd := by
  intro d
  induction d with
  | zero =>
    intro t k ft lb rb dw ht h3 hk H
    obtain ⟨k, rfl⟩ : ∃ q, k = q + 1 := ⟨k - 1, by omega⟩
    have e : t = n := by omega
    subst e
    exact br_t (nI_le (by omega) (by omega)) (K _ _ _ _ H)
  | succ d ih =>
    intro t k ft lb rb dw ht h3 hk H
    obtain ⟨k, rfl⟩ : ∃ q, k = q + 1 := ⟨k - 1, by omega⟩
    have hx : code / pp_P t < 2 ^ 31 := Nat.lt_of_le_of_lt (Nat.div_le_self _ _) hcode
    have hm : 0 < 2 * t - 3 := by omega
    have ne : ¬ nI (2 * t - 3) = 0 := nI_ne0 hm (by omega)
    refine br_f (nI_ge (by omega) (by omega)) (pp_eb h3 (And.intro ne ?_))
    rw [pk_rem hx hm (by omega)]
    refine pp_at h3 (by omega) (Nat.mod_lt _ (pp_P_0 t).1) (Nat.mod_lt _ hm) H ?_
    intro ft' lb' rb' dw' H'
    refine And.intro ne (nm_r (pk_div hx hm (by omega)) (nm_r (nI_1 t) ?_))
    have e1 : code / pp_P t / (2 * t - 3) = code / pp_P (t + 1) := by rw [pp_P_s h3 (by omega), Nat.div_div_eq_div_mul]
    have e2 : code % pp_P t + pp_P t * (code / pp_P t % (2 * t - 3)) = code % pp_P (t + 1) := by rw [pp_P_s h3 (by omega), Nat.mod_mul]
    rw [e2] at H'
    rw [e1]
    exact ih (t + 1) k ft' lb' rb' dw' (by omega) (by omega) (by omega) H'
theorem pp_bt {post : SX → Prop} {n c : Nat} (h3 : 3 ≤ n) (h6 : n ≤ 6) (hc : c < pp_P n) {ec : Int32} {ft lb rb dw : Nat → Int32}
    (K : ∀ ft lb rb dw, pp_XT n c ft lb rb dw → post (nI n, sc, rc, nI (2 * n - 3), ss, ws, ft, lb, rb, dw, fs, fd)) :
    wpX_buildTree post (nI n, sc, rc, ec, ss, ws, ft, lb, rb, dw, fs, fd) (nI c) := by
  unfold wpX_buildTree
  refine pp_st ?_
  intro ft' lb' rb' dw' H
  have hb := (pp_P_0 n).2
  have e0 : c / pp_P 3 = c := Nat.div_one c
  have e1 : c % pp_P 3 = 0 := Nat.mod_one c
  have e2 : c % pp_P n = c := Nat.mod_eq_of_lt hc
  have := pp_bl (sc := sc) (rc := rc) (ss := ss) (ws := ws) (fs := fs) (fd := fd) (post := post) (n := n) (code := c) h6 (by omega) (by rw [e2]; exact K) (n - 3) 3 (n - 3 + 1) ft' lb' rb' dw' (by omega) (by omega) (by omega) (by rw [e1]; exact H)
  rw [e0] at this
  exact Exists.intro _ this
end
end
section
/-! the class's walk from the back of its list is the run on trees -/
theorem pp_sx_s {W : Nat → Nat} {n c e : Nat} {fo f : List (Nat × pp_T)} (h : pp_sx n c e fo = some f) :
    (pp_FT n c e = 15 ∧ ∃ a b rest, (pp_LB n c e, a) ∈ fo ∧ (pp_RB n c e, b) ∈ fo ∧ f = (e, .op a b) :: rest ∧ (∀ y, y ∈ rest → y ∈ fo ∧ y.1 ≠ e) ∧ pp_sm W fo = pp_fc W a + pp_fc W b + pp_sm W rest ∧ pp_sd a ||| pp_sd b = pp_SI n c e) ∨
    (pp_FT n c e ≠ 15 ∧ f = (e, .var (pp_FT n c e)) :: fo ∧ (∀ y, y ∈ fo → y.1 ≠ e) ∧ 2 ^ pp_FT n c e = pp_SI n c e) := by
  unfold pp_sx pp_new at h
  by_cases hf : pp_FT n c e = 15
  · rw [if_pos hf] at h
    refine Or.inl ⟨hf, ?_⟩
    cases h1 : pp_pick (pp_LB n c e) fo with
    | none => rw [h1] at h; cases h
    | some y =>
      rw [h1] at h
      dsimp only at h
      cases h2 : pp_pick (pp_RB n c e) y.2 with
      | none => rw [h2] at h; cases h
      | some z =>
        rw [h2] at h
        dsimp only at h
        by_cases hh : pp_has e z.2 = false ∧ pp_sd (.op y.1 z.1) = pp_SI n c e
        · rw [if_pos hh] at h
          cases h
          obtain ⟨p1, p2, p3⟩ := pp_pick_s (W := W) h1
          obtain ⟨q1, q2, q3⟩ := pp_pick_s (W := W) h2
          exact ⟨y.1, z.1, z.2, p1, p2 _ q1, rfl, fun w hw => ⟨p2 _ (q2 w hw), pp_has_s hh.1 w hw⟩, by omega, hh.2⟩
        · rw [if_neg hh] at h; cases h
  · rw [if_neg hf] at h
    dsimp only at h
    refine Or.inr ⟨hf, ?_⟩
    by_cases hh : pp_has e fo = false ∧ pp_sd (.var (pp_FT n c e)) = pp_SI n c e
    · rw [if_pos hh] at h
      cases h
      exact ⟨rfl, pp_has_s hh.1, hh.2⟩
    · rw [if_neg hh] at h; cases h
theorem pp_rx_s {n c q : Nat} {fo g : List (Nat × pp_T)} (h : pp_rx n c (q + 1) fo = some g) : ∃ f, pp_sx n c (pp_DW n c q) fo = some f ∧ pp_rx n c q f = some g := by
  unfold pp_rx at h
  cases hs : pp_sx n c (pp_DW n c q) fo with
  | none => rw [hs] at h; cases h
  | some f => rw [hs] at h; exact ⟨f, rfl, h⟩
theorem pp_z {a b : Nat} (ha : a < 16) : nI a &&& nI b = 0 ↔ a &&& b = 0 := by
  rw [nx_and, show (0 : Int32) = nI 0 from rfl, nI_eq (Nat.lt_of_le_of_lt Nat.and_le_left (by omega)) (by omega)]
section
variable {sc rc : Int32} {ss ws fd : Nat → Int32}
theorem pp_co {post : Int32 → SX → Prop} {n c i : Nat} (h3 : 3 ≤ n) (h6 : n ≤ 6) (hc : c < pp_P n) (hi : i < 8) (hS : pp_S ss) {ft lb rb dw : Nat → Int32} (H : pp_XT n c ft lb rb dw)
    (K : ∀ fs, post (nI (pp_D (pp_W ss i) (pp_tr n c))) (nI n, sc, rc, nI (2 * n - 3), ss, ws, ft, lb, rb, dw, fs, fd)) :
    ∀ q k fo fs, q ≤ 2 * n - 3 → q < k → pp_rx n c q fo = some [(pp_DW n c 0, pp_tr n c)] → (∀ y, y ∈ fo → fs y.1 = nI (pp_fs (pp_W ss i) y.2)) →
      wX_changesOfBuilt_9 post (nI i) (nI n) sc rc (nI (2 * n - 3)) k (nI (pp_sm (pp_W ss i) fo)) (nI q + (-1)) ss ws ft lb rb dw fs fd := by
  have hW := pp_W_in hS hi
  have cB := of_decide_eq_true (pp_every_s pp_cB1 h3 h6 hc)
  have cB4 := of_decide_eq_true (pp_every_s pp_cB4 h3 h6 hc)
  obtain ⟨Hf, Hl, Hr, Hd⟩ := H
  intro q
  induction q with
  | zero =>
    intro k fo fs hq hk hx hfo
    obtain ⟨k, rfl⟩ : ∃ q, k = q + 1 := ⟨k - 1, by omega⟩
    have hx : fo = [(pp_DW n c 0, pp_tr n c)] := Option.some.inj hx
    subst hx
    have hd0 : dw 0 = nI (pp_DW n c 0) := by rw [Hd 0 (by omega), pp_e_n (by have := (cB 0 (by omega)).2.2.2; omega)]
    have hb0 := (cB 0 (by omega)).2.2.2
    have hf0 : fs (pp_DW n c 0) = nI (pp_fs (pp_W ss i) (pp_tr n c)) := hfo _ List.mem_cons_self
    have hs0 : ss i = nI (pp_W ss i 0) := by have := pp_W_s hS (i := i) (t := 0) (by omega) hi; rw [Nat.zero_mul, Nat.zero_add] at this; exact this
    refine br_t (by decide) (And.intro (vp_in_nI (by omega) (by omega)) (nm_r (e' := nI (pp_W ss i 0)) (by rw [nI_clamp (by omega), hs0]) (And.intro (by rw [hd0]; exact vp_in_nI (by omega) (by omega)) ?_)))
    rw [hd0, nI_clamp (by omega), hf0]
    have hz := pp_z (a := pp_fs (pp_W ss i) (pp_tr n c)) (b := pp_W ss i 0) (pp_fs_in hW _).2
    by_cases z : pp_fs (pp_W ss i) (pp_tr n c) &&& pp_W ss i 0 = 0
    · refine br_t (hz.mpr z) (br_f (by decide) ?_)
      rw [nI_1]
      have e : pp_sm (pp_W ss i) [(pp_DW n c 0, pp_tr n c)] + 1 = pp_D (pp_W ss i) (pp_tr n c) := by
        unfold pp_D pp_ap; rw [if_pos z]; rfl
      rw [e]
      exact K fs
    · refine br_f (fun w => z (hz.mp w)) (br_t rfl ?_)
      have e : pp_sm (pp_W ss i) [(pp_DW n c 0, pp_tr n c)] = pp_D (pp_W ss i) (pp_tr n c) := by
        unfold pp_D pp_ap; rw [if_neg z]; rfl
      rw [e]
      exact K fs
  | succ q ih =>
    intro k fo fs hq hk hx hfo
    obtain ⟨k, rfl⟩ : ∃ q, k = q + 1 := ⟨k - 1, by omega⟩
    obtain ⟨f, hs, hr⟩ := pp_rx_s hx
    rw [pk_m1]
    obtain ⟨e, he⟩ : ∃ e, e = pp_DW n c q := ⟨_, rfl⟩
    rw [← he] at hs
    have hb := (cB q (by omega)).2.2.2
    rw [← he] at hb
    have hbe := cB e hb
    have hdq : dw q = nI e := by rw [Hd q (by omega), ← he, pp_e_n (by omega)]
    have hin : vp_in (nI e) 9 := vp_in_nI (by omega) (by omega)
    have hcl : (nI e).toNatClampNeg = e := nI_clamp (by omega)
    refine br_f (nI_pos (by omega)) (And.intro (vp_in_nI (by omega) (by omega)) (nm_r (e' := nI e) (by rw [nI_clamp (by omega), hdq]) (And.intro hin ?_)))
    rcases pp_sx_s (W := pp_W ss i) hs with ⟨hF, a, b, rest, ha, hb2, rfl, hrest, hsum, _⟩ | ⟨hF, rfl, hrest, _⟩
    · obtain ⟨l9, r9⟩ := cB4 e hb hF
      have hlb : lb e = nI (pp_LB n c e) := by rw [Hl e hb, pp_e_n (by omega)]
      have hrb : rb e = nI (pp_RB n c e) := by rw [Hr e hb, pp_e_n (by omega)]
      have hfa := hfo _ ha
      have hfb := hfo _ hb2
      refine br_t (by rw [hcl, Hf e hb, pp_e_m1 hF]) (And.intro hin (And.intro (by rw [hcl, hlb]; exact vp_in_nI (by omega) (by omega)) (nm_r (e' := nI (pp_fs (pp_W ss i) a)) (by rw [hcl, hlb, nI_clamp (by omega), hfa]) (And.intro hin (And.intro (by rw [hcl, hrb]; exact vp_in_nI (by omega) (by omega)) (nm_r (e' := nI (pp_fs (pp_W ss i) b)) (by rw [hcl, hrb, nI_clamp (by omega), hfb]) ?_))))))
      have hz := pp_z (a := pp_fs (pp_W ss i) a) (b := pp_fs (pp_W ss i) b) (pp_fs_in hW _).2
      have inv : ∀ y, y ∈ (e, Lean.Data.AC.Expr.op a b) :: rest → upd fs e (nI (pp_fz (pp_fs (pp_W ss i) a) (pp_fs (pp_W ss i) b))) y.1 = nI (pp_fs (pp_W ss i) y.2) := by
        intro y hy
        rcases List.mem_cons.mp hy with rfl | hy
        · exact pk_us
        · rw [pk_un (hrest y hy).2]; exact hfo y (hrest y hy).1
      have IH := ih k _ _ (by omega) (by omega) hr inv
      by_cases z : pp_fs (pp_W ss i) a &&& pp_fs (pp_W ss i) b = 0
      · refine br_t (hz.mpr z) (br_f (by decide) (And.intro hin (nm_r (e' := upd fs e (nI (pp_fz (pp_fs (pp_W ss i) a) (pp_fs (pp_W ss i) b)))) (by rw [hcl, nx_or]; unfold pp_fz; rw [if_pos z]) (br_f (by decide) (nm_r (e' := nI (pp_sm (pp_W ss i) ((e, Lean.Data.AC.Expr.op a b) :: rest))) ?_ (nm_e IH))))))
        rw [nI_1, hsum]
        refine congrArg nI ?_
        show _ = pp_fc (pp_W ss i) a + pp_fc (pp_W ss i) b + pp_ap (pp_fs (pp_W ss i) a) (pp_fs (pp_W ss i) b) + pp_sm (pp_W ss i) rest
        unfold pp_ap
        rw [if_pos z]
        omega
      · refine br_f (fun w => z (hz.mp w)) (br_t rfl (And.intro hin (nm_r (e' := upd fs e (nI (pp_fz (pp_fs (pp_W ss i) a) (pp_fs (pp_W ss i) b)))) (by rw [hcl, nx_and]; unfold pp_fz; rw [if_neg z]) (br_t rfl (nm_r (e' := nI (pp_sm (pp_W ss i) ((e, Lean.Data.AC.Expr.op a b) :: rest))) ?_ (nm_e IH))))))
        rw [show (0 : Int32) = nI 0 from rfl, nI_add, hsum]
        refine congrArg nI ?_
        show _ = pp_fc (pp_W ss i) a + pp_fc (pp_W ss i) b + pp_ap (pp_fs (pp_W ss i) a) (pp_fs (pp_W ss i) b) + pp_sm (pp_W ss i) rest
        unfold pp_ap
        rw [if_neg z]
        omega
    · have ht : pp_FT n c e < 6 := by have := hbe.1; omega
      have hft : ft e = nI (pp_FT n c e) := by rw [Hf e hb, pp_e_n hF]
      have hix : ft e * 8 + nI i = nI (pp_FT n c e * 8 + i) := by rw [hft, show (8 : Int32) = nI 8 from rfl, pk_mul, nI_add]
      have inv : ∀ y, y ∈ (e, Lean.Data.AC.Expr.var (pp_FT n c e)) :: fo → upd fs e (nI (pp_W ss i (pp_FT n c e))) y.1 = nI (pp_fs (pp_W ss i) y.2) := by
        intro y hy
        rcases List.mem_cons.mp hy with rfl | hy
        · exact pk_us
        · rw [pk_un (hrest y hy)]; exact hfo y hy
      have IH := ih k _ _ (by omega) (by omega) hr inv
      have es : pp_sm (pp_W ss i) ((e, Lean.Data.AC.Expr.var (pp_FT n c e)) :: fo) = pp_sm (pp_W ss i) fo := by
        show 0 + pp_sm (pp_W ss i) fo = _
        omega
      rw [es] at IH
      refine br_f (by rw [hcl, hft]; exact pp_nI_m1 (by omega)) (And.intro hin (And.intro (by rw [hcl, hix]; exact vp_in_nI (by omega) (by omega)) (And.intro hin (nm_r (e' := upd fs e (nI (pp_W ss i (pp_FT n c e)))) ?_ (nm_e IH)))))
      rw [hcl, hix, nI_clamp (by omega), pp_W_s hS ht hi]
theorem pp_ch {post : Int32 → SX → Prop} {n c i : Nat} (h3 : 3 ≤ n) (h6 : n ≤ 6) (hc : c < pp_P n) (hi : i < 8) (hS : pp_S ss) {ft lb rb dw fs : Nat → Int32} (H : pp_XT n c ft lb rb dw)
    (K : ∀ fs, post (nI (pp_D (pp_W ss i) (pp_tr n c))) (nI n, sc, rc, nI (2 * n - 3), ss, ws, ft, lb, rb, dw, fs, fd)) :
    wpX_changesOfBuilt post (nI n, sc, rc, nI (2 * n - 3), ss, ws, ft, lb, rb, dw, fs, fd) (nI i) := by
  have e : nI (2 * n - 3) - 1 = nI (2 * n - 3) + (-1) := by
    obtain ⟨m, hm⟩ : ∃ m, 2 * n - 3 = m + 1 := ⟨2 * n - 4, by omega⟩
    rw [hm, nI_pred, pk_m1]
  unfold wpX_changesOfBuilt
  refine nm_r e (Exists.intro (2 * n - 3 + 1) ?_)
  exact pp_co h3 h6 hc hi hS H K (2 * n - 3) (2 * n - 3 + 1) [] fs (by omega) (by omega) (pp_tree h3 h6 hc).1 (fun y hy => by cases hy)
end
end
section
/-! scores, the first best code, counts: pure, and the class's loops over them -/
def pp_su (n : Nat) (ss ws : Nat → Int32) (c : Nat) : Nat → Nat
  | 0 => 0
  | i + 1 => pp_su n ss ws c i + pp_D (pp_W ss i) (pp_tr n c) * pp_w ws i
theorem pp_su_le {n : Nat} {ss ws : Nat → Int32} (h3 : 3 ≤ n) (h6 : n ≤ 6) (hV : pp_V ws) {c : Nat} (hc : c < pp_P n) : ∀ {i : Nat}, i ≤ 8 → pp_su n ss ws c i ≤ 45 * i
  | 0, _ => Nat.le_refl _
  | i + 1, h => by
    have h1 := pp_su_le (ss := ss) h3 h6 hV hc (show i ≤ 8 by omega)
    have h2 := pp_D_le (W := pp_W ss i) (pp_tree h3 h6 hc).2
    have h4 := (pp_w_s hV (show i < 8 by omega)).2
    have h5 : pp_D (pp_W ss i) (pp_tr n c) * pp_w ws i ≤ 5 * 9 := Nat.mul_le_mul h2 (by omega)
    show pp_su n ss ws c i + pp_D (pp_W ss i) (pp_tr n c) * pp_w ws i ≤ _
    omega
def pp_bk (f : Nat → Nat) : Nat → Nat
  | 0 => 0
  | k + 1 => if f (pp_bk f k) ≤ f k then pp_bk f k else k
theorem pp_bk_1 (f : Nat → Nat) : pp_bk f 1 = 0 := if_pos (Nat.le_refl _)
theorem pp_bk_lt {f : Nat → Nat} : ∀ {k : Nat}, pp_bk f (k + 1) < k + 1
  | 0 => by rw [pp_bk_1]; omega
  | k + 1 => by
    have := pp_bk_lt (f := f) (k := k)
    show (if f (pp_bk f (k + 1)) ≤ f (k + 1) then pp_bk f (k + 1) else k + 1) < k + 1 + 1
    split <;> omega
theorem pp_bk_in {f : Nat → Nat} {k : Nat} (h : 1 ≤ k) : pp_bk f k < k := by
  obtain ⟨q, rfl⟩ : ∃ q, k = q + 1 := ⟨k - 1, by omega⟩
  exact pp_bk_lt
def pp_cw (f : Nat → Nat) (p L : Int32) : Nat → Nat
  | 0 => 0
  | k + 1 => if p < nI (f k) - L then pp_cw f p L k else pp_cw f p L k + 1
def pp_any : Nat → (Nat → Bool) → Bool
  | 0, _ => false
  | k + 1, f => pp_any k f || f k
theorem pp_any_s {f : Nat → Bool} : ∀ {k : Nat}, pp_any k f = true ↔ ∃ j, j < k ∧ f j = true
  | 0 => ⟨fun h => absurd h Bool.false_ne_true, fun ⟨j, h, _⟩ => absurd h (Nat.not_lt_zero j)⟩
  | k + 1 => by
    show (pp_any k f || f k) = true ↔ _
    rw [Bool.or_eq_true, pp_any_s]
    refine ⟨fun h => ?_, fun ⟨j, hj, h⟩ => ?_⟩
    · rcases h with ⟨j, hj, h⟩ | h
      · exact ⟨j, by omega, h⟩
      · exact ⟨k, by omega, h⟩
    · by_cases e : j = k
      · subst e; exact Or.inr h
      · exact Or.inl ⟨j, by omega, h⟩
def pp_sep (n c x : Nat) : Bool := pp_any (2 * n - 3) (fun e => decide (pp_SI n c e = x))
def pp_cs (f : Nat → Nat) (b : Nat → Bool) (L : Nat) : Nat → Nat
  | 0 => 0
  | k + 1 => if f k = L ∧ b k = true then pp_cs f b L k + 1 else pp_cs f b L k
def pp_ml (g : Nat → Nat) : Nat → Nat
  | 0 => g 0
  | k + 1 => if pp_ml g k ≤ g k then pp_ml g k else g k
section
variable {n s : Nat} {ss ws fd : Nat → Int32}
theorem pp_sb {post : Int32 → SX → Prop} {rc : Int32} {c : Nat} (h3 : 3 ≤ n) (h6 : n ≤ 6) (hs : s ≤ 8) (hS : pp_S ss) (hV : pp_V ws) (hc : c < pp_P n) {ft lb rb dw fs : Nat → Int32} (H : pp_XT n c ft lb rb dw)
    (K : ∀ fs, post (nI (pp_su n ss ws c s)) (nI n, nI s, rc, nI (2 * n - 3), ss, ws, ft, lb, rb, dw, fs, fd)) :
    wpX_scoreOfBuilt post (nI n, nI s, rc, nI (2 * n - 3), ss, ws, ft, lb, rb, dw, fs, fd) := by
  have L : ∀ d i k fs, i + d = s → d < k → wX_scoreOfBuilt_4 post k (nI (pp_su n ss ws c i)) (nI i) (nI n) (nI s) rc (nI (2 * n - 3)) ss ws ft lb rb dw fs fd := by
    intro d
    induction d with
    | zero =>
      intro i k fs hi hk
      obtain ⟨k, rfl⟩ : ∃ q, k = q + 1 := ⟨k - 1, by omega⟩
      have e : i = s := by omega
      subst e
      exact br_t (nI_le (by omega) (by omega)) (K fs)
    | succ d ih =>
      intro i k fs hi hk
      obtain ⟨k, rfl⟩ : ∃ q, k = q + 1 := ⟨k - 1, by omega⟩
      refine br_f (nI_ge (by omega) (by omega)) (pp_ch h3 h6 hc (by omega) hS H ?_)
      intro fs'
      refine And.intro (vp_in_nI (by omega) (by omega)) (nm_r (e' := nI (pp_su n ss ws c (i + 1))) ?_ (nm_r (nI_1 i) (ih (i + 1) k fs' (by omega) (by omega))))
      rw [nI_clamp (by omega), (pp_w_s hV (show i < 8 by omega)).1, pk_mul, nI_add]
      rfl
  exact Exists.intro (s + 1) (L s 0 (s + 1) fs (by omega) (by omega))
theorem pp_xs {post : Int32 → SX → Prop} {c : Nat} (h3 : 3 ≤ n) (h6 : n ≤ 6) (hs : s ≤ 8) (hS : pp_S ss) (hV : pp_V ws) (hc : c < pp_P n) {ec : Int32} {ft lb rb dw fs : Nat → Int32}
    (K : ∀ ec ft lb rb dw fs, post (nI (pp_su n ss ws c s)) (nI n, nI s, nI (pp_P n), ec, ss, ws, ft, lb, rb, dw, fs, fd)) :
    wpX_score post (nI n, nI s, nI (pp_P n), ec, ss, ws, ft, lb, rb, dw, fs, fd) (nI c) := by
  have hP := (pp_P_0 n).2
  refine br_f (nI_pos (by omega)) (br_t (nI_lt hc (by omega)) ?_)
  refine pp_bt h3 h6 hc ?_
  intro ft' lb' rb' dw' H
  refine pp_sb h3 h6 hs hS hV hc H ?_
  intro fs'
  exact K _ _ _ _ _ _
theorem pp_fb {post : Int32 → SX → Prop} (h3 : 3 ≤ n) (h6 : n ≤ 6) (hs : s ≤ 8) (hS : pp_S ss) (hV : pp_V ws) {ec : Int32} {ft lb rb dw fs : Nat → Int32}
    (K : ∀ ec ft lb rb dw fs, post (nI (pp_bk (fun c => pp_su n ss ws c s) (pp_P n))) (nI n, nI s, nI (pp_P n), ec, ss, ws, ft, lb, rb, dw, fs, fd)) :
    wpX_firstBestCode post (nI n, nI s, nI (pp_P n), ec, ss, ws, ft, lb, rb, dw, fs, fd) := by
  have hP := pp_P_0 n
  have L : ∀ d x k ec ft lb rb dw fs, x + d = pp_P n → 1 ≤ x → d < k → wX_firstBestCode_14 post k (nI (pp_bk (fun c => pp_su n ss ws c s) x)) (nI (pp_su n ss ws (pp_bk (fun c => pp_su n ss ws c s) x) s)) (nI x) (nI n) (nI s) (nI (pp_P n)) ec ss ws ft lb rb dw fs fd := by
    intro d
    induction d with
    | zero =>
      intro x k ec ft lb rb dw fs hx h1 hk
      obtain ⟨k, rfl⟩ : ∃ q, k = q + 1 := ⟨k - 1, by omega⟩
      have e : x = pp_P n := by omega
      rw [e]
      exact br_t (nI_le (by omega) (by omega)) (K _ _ _ _ _ _)
    | succ d ih =>
      intro x k ec ft lb rb dw fs hx h1 hk
      obtain ⟨k, rfl⟩ : ∃ q, k = q + 1 := ⟨k - 1, by omega⟩
      have hbx := pp_bk_in (f := fun c => pp_su n ss ws c s) h1
      have b1 := pp_su_le (ss := ss) h3 h6 hV (show pp_bk (fun c => pp_su n ss ws c s) x < pp_P n by omega) hs
      have b2 := pp_su_le (ss := ss) h3 h6 hV (show x < pp_P n by omega) hs
      refine br_f (nI_ge (by omega) (by omega)) (pp_bt h3 h6 (by omega) ?_)
      intro ft' lb' rb' dw' H
      refine pp_sb h3 h6 hs hS hV (by omega) H ?_
      intro fs'
      have IH := fun ec ft lb rb dw fs => ih (x + 1) k ec ft lb rb dw fs (by omega) (by omega) (by omega)
      have eq : pp_bk (fun c => pp_su n ss ws c s) (x + 1) = if pp_su n ss ws (pp_bk (fun c => pp_su n ss ws c s) x) s ≤ pp_su n ss ws x s then pp_bk (fun c => pp_su n ss ws c s) x else x := rfl
      by_cases z : pp_su n ss ws (pp_bk (fun c => pp_su n ss ws c s) x) s ≤ pp_su n ss ws x s
      · rw [if_pos z] at eq
        rw [eq] at IH
        exact br_t ((nI_leI (by omega) (by omega)).mpr z) (nm_r (nI_1 x) (IH _ _ _ _ _ _))
      · rw [if_neg z] at eq
        rw [eq] at IH
        exact br_f (fun w => z ((nI_leI (by omega) (by omega)).mp w)) (nm_r (nI_1 x) (IH _ _ _ _ _ _))
  unfold wpX_firstBestCode
  refine pp_bt (c := 0) h3 h6 hP.1 ?_
  intro ft' lb' rb' dw' H
  refine pp_sb h3 h6 hs hS hV hP.1 H ?_
  intro fs'
  refine Exists.intro (pp_P n) ?_
  have := L (pp_P n - 1) 1 (pp_P n) (nI (2 * n - 3)) ft' lb' rb' dw' fs' (by omega) (by omega) (by omega)
  rw [pp_bk_1] at this
  exact this
theorem pp_xl {post : Int32 → SX → Prop} (h3 : 3 ≤ n) (h6 : n ≤ 6) (hs : s ≤ 8) (hS : pp_S ss) (hV : pp_V ws) {x : Int32} {ec : Int32} {ft lb rb dw fs : Nat → Int32} (hx : 0 ≤ x)
    (K : ∀ ec ft lb rb dw fs, post (nI (pp_cw (fun c => pp_su n ss ws c s) x (nI (pp_su n ss ws (pp_bk (fun c => pp_su n ss ws c s) (pp_P n)) s)) (pp_P n))) (nI n, nI s, nI (pp_P n), ec, ss, ws, ft, lb, rb, dw, fs, fd)) :
    wpX_within post (nI n, nI s, nI (pp_P n), ec, ss, ws, ft, lb, rb, dw, fs, fd) x := by
  have hP := pp_P_0 n
  refine br_t hx ?_
  refine pp_fb h3 h6 hs hS hV ?_
  intro ec ft lb rb dw fs
  refine pp_xs h3 h6 hs hS hV (pp_bk_in hP.1) ?_
  intro ec ft lb rb dw fs
  refine Exists.intro (pp_P n + 1) ?_
  revert K
  generalize nI (pp_su n ss ws (pp_bk (fun c => pp_su n ss ws c s) (pp_P n)) s) = l
  intro K
  have L : ∀ d y k ec ft lb rb dw fs, y + d = pp_P n → d < k → wX_within_23 post x l k (nI (pp_cw (fun c => pp_su n ss ws c s) x l y)) (nI y) (nI n) (nI s) (nI (pp_P n)) ec ss ws ft lb rb dw fs fd := by
    intro d
    induction d with
    | zero =>
      intro y k ec ft lb rb dw fs hy hk
      obtain ⟨k, rfl⟩ : ∃ q, k = q + 1 := ⟨k - 1, by omega⟩
      have e : y = pp_P n := by omega
      rw [e]
      exact br_t (nI_le (by omega) (by omega)) (K _ _ _ _ _ _)
    | succ d ih =>
      intro y k ec ft lb rb dw fs hy hk
      obtain ⟨k, rfl⟩ : ∃ q, k = q + 1 := ⟨k - 1, by omega⟩
      refine br_f (nI_ge (by omega) (by omega)) (pp_bt h3 h6 (by omega) ?_)
      intro ft' lb' rb' dw' H
      refine pp_sb h3 h6 hs hS hV (by omega) H ?_
      intro fs'
      have IH := fun ec ft lb rb dw fs => ih (y + 1) k ec ft lb rb dw fs (by omega) (by omega)
      have eq : pp_cw (fun c => pp_su n ss ws c s) x l (y + 1) = if x < nI (pp_su n ss ws y s) - l then pp_cw (fun c => pp_su n ss ws c s) x l y else pp_cw (fun c => pp_su n ss ws c s) x l y + 1 := rfl
      refine nm_e ?_
      by_cases z : x < nI (pp_su n ss ws y s) - l
      · rw [if_pos z] at eq
        rw [eq] at IH
        exact br_t z (nm_r (nI_1 y) (IH _ _ _ _ _ _))
      · rw [if_neg z] at eq
        rw [eq] at IH
        exact br_f z (nm_r (nI_1 _) (nm_r (nI_1 y) (IH _ _ _ _ _ _)))
  exact L (pp_P n) 0 (pp_P n + 1) ec ft lb rb dw fs (by omega) (by omega)
theorem pp_xm {post : Int32 → SX → Prop} (h3 : 3 ≤ n) (h6 : n ≤ 6) (hs : s ≤ 8) (hS : pp_S ss) {i : Nat} (hi : i < s) {ec : Int32} {ft lb rb dw fs : Nat → Int32}
    (K : ∀ ec ft lb rb dw fs, post (nI (pp_ml (fun c => pp_D (pp_W ss i) (pp_tr n c)) (pp_P n)) * ws i) (nI n, nI s, nI (pp_P n), ec, ss, ws, ft, lb, rb, dw, fs, fd)) :
    wpX_siteLeast post (nI n, nI s, nI (pp_P n), ec, ss, ws, ft, lb, rb, dw, fs, fd) (nI i) := by
  have hP := pp_P_0 n
  have hDb : ∀ c, c < pp_P n → pp_D (pp_W ss i) (pp_tr n c) ≤ 5 := fun c hc => pp_D_le (pp_tree h3 h6 hc).2
  have hmb : ∀ k, k ≤ pp_P n → pp_ml (fun c => pp_D (pp_W ss i) (pp_tr n c)) k ≤ 5 := by
    intro k
    induction k with
    | zero => exact fun _ => hDb 0 hP.1
    | succ k ih =>
      intro hk
      show (if pp_ml (fun c => pp_D (pp_W ss i) (pp_tr n c)) k ≤ pp_D (pp_W ss i) (pp_tr n k) then pp_ml (fun c => pp_D (pp_W ss i) (pp_tr n c)) k else pp_D (pp_W ss i) (pp_tr n k)) ≤ 5
      have h1 := ih (by omega)
      have h2 := hDb k (by omega)
      split <;> omega
  have L : ∀ d y k ec ft lb rb dw fs, y + d = pp_P n → d < k → wX_siteLeast_24 post (nI i) k (nI (pp_ml (fun c => pp_D (pp_W ss i) (pp_tr n c)) y)) (nI y) (nI n) (nI s) (nI (pp_P n)) ec ss ws ft lb rb dw fs fd := by
    intro d
    induction d with
    | zero =>
      intro y k ec ft lb rb dw fs hy hk
      obtain ⟨k, rfl⟩ : ∃ q, k = q + 1 := ⟨k - 1, by omega⟩
      have e : y = pp_P n := by omega
      rw [e]
      refine br_t (nI_le (by omega) (by omega)) (And.intro (vp_in_nI (by omega) (by omega)) ?_)
      rw [nI_clamp (by omega)]
      exact K _ _ _ _ _ _
    | succ d ih =>
      intro y k ec ft lb rb dw fs hy hk
      obtain ⟨k, rfl⟩ : ∃ q, k = q + 1 := ⟨k - 1, by omega⟩
      refine br_f (nI_ge (by omega) (by omega)) (pp_bt h3 h6 (by omega) ?_)
      intro ft' lb' rb' dw' H
      refine pp_ch h3 h6 (by omega) (by omega) hS H ?_
      intro fs'
      have IH := fun ec ft lb rb dw fs => ih (y + 1) k ec ft lb rb dw fs (by omega) (by omega)
      have b1 := hmb y (by omega)
      have b2 := hDb y (by omega)
      have eq : pp_ml (fun c => pp_D (pp_W ss i) (pp_tr n c)) (y + 1) = if pp_ml (fun c => pp_D (pp_W ss i) (pp_tr n c)) y ≤ pp_D (pp_W ss i) (pp_tr n y) then pp_ml (fun c => pp_D (pp_W ss i) (pp_tr n c)) y else pp_D (pp_W ss i) (pp_tr n y) := rfl
      by_cases z : pp_ml (fun c => pp_D (pp_W ss i) (pp_tr n c)) y ≤ pp_D (pp_W ss i) (pp_tr n y)
      · rw [if_pos z] at eq
        rw [eq] at IH
        exact br_t ((nI_leI (by omega) (by omega)).mpr z) (nm_r (nI_1 y) (IH _ _ _ _ _ _))
      · rw [if_neg z] at eq
        rw [eq] at IH
        exact br_f (fun w => z ((nI_leI (by omega) (by omega)).mp w)) (nm_r (nI_1 y) (IH _ _ _ _ _ _))
  unfold wpX_siteLeast
  refine br_f (nI_pos (by omega)) (br_f (nI_ge (by omega) (by omega)) (br_f (by decide) ?_))
  refine pp_bt (c := 0) h3 h6 hP.1 ?_
  intro ft' lb' rb' dw' H
  refine pp_ch h3 h6 hP.1 (by omega) hS H ?_
  intro fs'
  refine Exists.intro (pp_P n) ?_
  have := L (pp_P n - 1) 1 (pp_P n) (nI (2 * n - 3)) ft' lb' rb' dw' fs' (by omega) (by omega)
  rw [show pp_ml (fun c => pp_D (pp_W ss i) (pp_tr n c)) 1 = pp_D (pp_W ss i) (pp_tr n 0) from if_pos (Nat.le_refl _)] at this
  exact this
end
end
section
/-! the class's sides, support, changes -/
theorem pp_shl : ∀ t, t < 7 → (1 : Int32) <<< (nI t &&& 31) = nI (2 ^ t) := by decide +kernel
theorem pp_nar (b : Bool) : narrow .boolean (.int (if b = true then 1 else 0)) = .int (if b = true then 1 else 0) := by
  cases b
  · exact (show lw_bz 0 = 0 by decide) ▸ lw_bz_n 0
  · exact (show lw_bz 1 = 1 by decide) ▸ lw_bz_n 1
def pp_Fn (n c x q : Nat) (b : Bool) : Prop := b = true ↔ ∃ p, q ≤ p ∧ p < 2 * n - 3 ∧ pp_SI n c (pp_DW n c p) = x
section
variable {sc rc : Int32} {ss ws fs : Nat → Int32}
theorem pp_bsl {post : Int32 → SX → Prop} {n c x : Nat} (h3 : 3 ≤ n) (h6 : n ≤ 6) (hc : c < pp_P n) (hx64 : x < 64) {ft lb rb dw : Nat → Int32} (H : pp_XT n c ft lb rb dw)
    (K : ∀ (b : Bool) fd, (b = true ↔ ∃ p, p < 2 * n - 3 ∧ pp_SI n c (pp_DW n c p) = x) → post (if b = true then 1 else 0) (nI n, sc, rc, nI (2 * n - 3), ss, ws, ft, lb, rb, dw, fs, fd)) :
    ∀ q k fo fd (b : Bool), q ≤ 2 * n - 3 → q < k → pp_rx n c q fo = some [(pp_DW n c 0, pp_tr n c)] → (∀ y, y ∈ fo → fd y.1 = nI (pp_sd y.2)) → pp_Fn n c x q b →
      wX_builtSeparates_9 post (nI x) (nI n) sc rc (nI (2 * n - 3)) k (if b = true then 1 else 0) (nI q + (-1)) ss ws ft lb rb dw fs fd := by
  have cB := of_decide_eq_true (pp_every_s pp_cB1 h3 h6 hc)
  have cB3 := of_decide_eq_true (pp_every_s pp_cB3 h3 h6 hc)
  have cB4 := of_decide_eq_true (pp_every_s pp_cB4 h3 h6 hc)
  have h64 : 2 ^ n ≤ 64 := by
    have : 2 ^ n ≤ 2 ^ 6 := Nat.pow_le_pow_right (by omega) h6
    omega
  obtain ⟨Hf, Hl, Hr, Hd⟩ := H
  intro q
  induction q with
  | zero =>
    intro k fo fd b hq hk hx hfo hb
    obtain ⟨k, rfl⟩ : ∃ q, k = q + 1 := ⟨k - 1, by omega⟩
    refine br_t (by decide) (And.intro (pp_nar b) (K b fd (Iff.trans hb ?_)))
    exact ⟨fun ⟨p, _, h⟩ => ⟨p, h⟩, fun ⟨p, h⟩ => ⟨p, Nat.zero_le p, h⟩⟩
  | succ q ih =>
    intro k fo fd b hq hk hx hfo hb
    obtain ⟨k, rfl⟩ : ∃ q, k = q + 1 := ⟨k - 1, by omega⟩
    obtain ⟨f, hs, hr⟩ := pp_rx_s hx
    rw [pk_m1]
    obtain ⟨e, he⟩ : ∃ e, e = pp_DW n c q := ⟨_, rfl⟩
    rw [← he] at hs
    have hbq := (cB q (by omega)).2.2.2
    rw [← he] at hbq
    have hbe := cB e hbq
    have hsi := (cB3 e hbq).1
    have hdq : dw q = nI e := by rw [Hd q (by omega), ← he, pp_e_n (by omega)]
    have hin : vp_in (nI e) 9 := vp_in_nI (by omega) (by omega)
    have hcl : (nI e).toNatClampNeg = e := nI_clamp (by omega)
    have F83 : (∀ y, y ∈ f → upd fd e (nI (pp_SI n c e)) y.1 = nI (pp_sd y.2)) → wX_builtSeparates_83 post (wX_builtSeparates_9 post (nI x) (nI n) sc rc (nI (2 * n - 3)) k) (nI x) (if b = true then 1 else 0) (nI q) (nI e) (nI n) sc rc (nI (2 * n - 3)) ss ws ft lb rb dw fs (upd fd e (nI (pp_SI n c e))) := by
      intro inv
      have IH := ih k f (upd fd e (nI (pp_SI n c e)))
      cases b with
      | true =>
        refine br_f (by decide) (nm_e (IH true (by omega) (by omega) hr inv ?_))
        obtain ⟨p, h1, h2⟩ := Iff.mp hb rfl
        exact ⟨fun _ => ⟨p, by omega, h2⟩, fun _ => rfl⟩
      | false =>
        refine br_t rfl (And.intro hin ?_)
        rw [hcl, pk_us]
        by_cases z : pp_SI n c e = x
        · refine br_t (by rw [z]) (nm_e (IH true (by omega) (by omega) hr inv ?_))
          exact ⟨fun _ => ⟨q, Nat.le_refl _, by omega, by rw [← he]; exact z⟩, fun _ => rfl⟩
        · refine br_f (fun w => z ((nI_eq (by omega) (by omega)).mp w)) (nm_e (IH false (by omega) (by omega) hr inv ?_))
          refine ⟨fun w => absurd w Bool.false_ne_true, fun ⟨p, h1, h2, h4⟩ => ?_⟩
          by_cases ep : p = q
          · rw [ep, ← he] at h4; exact absurd h4 z
          · exact Iff.mpr hb ⟨p, by omega, h2, h4⟩
    refine br_f (nI_pos (by omega)) (And.intro (vp_in_nI (by omega) (by omega)) (nm_r (e' := nI e) (by rw [nI_clamp (by omega), hdq]) (And.intro hin ?_)))
    rcases pp_sx_s (W := fun _ => 1) hs with ⟨hF, a, b2, rest, ha, hb2, rfl, hrest, _, hsd⟩ | ⟨hF, rfl, hrest, hsd⟩
    · obtain ⟨l9, r9⟩ := cB4 e hbq hF
      have hlb : lb e = nI (pp_LB n c e) := by rw [Hl e hbq, pp_e_n (by omega)]
      have hrb : rb e = nI (pp_RB n c e) := by rw [Hr e hbq, pp_e_n (by omega)]
      refine br_t (by rw [hcl, Hf e hbq, pp_e_m1 hF]) (And.intro hin (And.intro (by rw [hcl, hlb]; exact vp_in_nI (by omega) (by omega)) (And.intro hin (And.intro (by rw [hcl, hrb]; exact vp_in_nI (by omega) (by omega)) (And.intro hin (nm_r (e' := upd fd e (nI (pp_SI n c e))) ?_ (F83 ?_)))))))
      · rw [hcl, hlb, hrb, nI_clamp (by omega), nI_clamp (by omega), hfo _ ha, hfo _ hb2, nx_or, hsd]
      · intro y hy
        rcases List.mem_cons.mp hy with rfl | hy
        · rw [pk_us, ← hsd]; rfl
        · rw [pk_un (hrest y hy).2]; exact hfo y (hrest y hy).1
    · have ht : pp_FT n c e < 6 := by have := hbe.1; omega
      have hft : ft e = nI (pp_FT n c e) := by rw [Hf e hbq, pp_e_n hF]
      refine br_f (by rw [hcl, hft]; exact pp_nI_m1 (by omega)) (And.intro hin (And.intro hin (nm_r (e' := upd fd e (nI (pp_SI n c e))) ?_ (F83 ?_))))
      · rw [hcl, hft, pp_shl _ (by omega), hsd]
      · intro y hy
        rcases List.mem_cons.mp hy with rfl | hy
        · rw [pk_us, ← hsd]; rfl
        · rw [pk_un (hrest y hy)]; exact hfo y hy
theorem pp_bse {post : Int32 → SX → Prop} {n c x : Nat} (h3 : 3 ≤ n) (h6 : n ≤ 6) (hc : c < pp_P n) (hx64 : x < 64) {ft lb rb dw fd : Nat → Int32} (H : pp_XT n c ft lb rb dw)
    (K : ∀ fd, post (if pp_sep n c x = true then 1 else 0) (nI n, sc, rc, nI (2 * n - 3), ss, ws, ft, lb, rb, dw, fs, fd)) :
    wpX_builtSeparates post (nI n, sc, rc, nI (2 * n - 3), ss, ws, ft, lb, rb, dw, fs, fd) (nI x) := by
  have e : nI (2 * n - 3) - 1 = nI (2 * n - 3) + (-1) := by
    obtain ⟨m, hm⟩ : ∃ m, 2 * n - 3 = m + 1 := ⟨2 * n - 4, by omega⟩
    rw [hm, nI_pred, pk_m1]
  have cB := of_decide_eq_true (pp_every_s pp_cB1 h3 h6 hc)
  have cB3 := of_decide_eq_true (pp_every_s pp_cB3 h3 h6 hc)
  unfold wpX_builtSeparates
  refine nm_r e (Exists.intro (2 * n - 3 + 1) ?_)
  refine pp_bsl h3 h6 hc hx64 H ?_ (2 * n - 3) (2 * n - 3 + 1) [] fd false (by omega) (by omega) (pp_tree h3 h6 hc).1 (fun y hy => by cases hy) ⟨fun w => absurd w Bool.false_ne_true, fun ⟨p, h1, h2, _⟩ => by omega⟩
  intro b fd' hb
  have eb : b = pp_sep n c x := by
    rw [Bool.eq_iff_iff, hb]
    unfold pp_sep
    rw [pp_any_s]
    refine ⟨fun ⟨p, h1, h2⟩ => ⟨pp_DW n c p, (cB p h1).2.2.2, decide_eq_true h2⟩, fun ⟨j, h1, h2⟩ => ?_⟩
    have h2 := of_decide_eq_true h2
    have h4 := cB3 j h1
    exact ⟨_, h4.2.2.1, by rw [h4.2.2.2]; exact h2⟩
  rw [eb]
  exact K fd'
end
section
variable {n s : Nat} {ss ws : Nat → Int32}
theorem pp_xu {post : Int32 → SX → Prop} (h3 : 3 ≤ n) (h6 : n ≤ 6) (hs : s ≤ 8) (hS : pp_S ss) (hV : pp_V ws) {x : Nat} (hx64 : x < 64) {ec : Int32} {ft lb rb dw fs fd : Nat → Int32}
    (K : ∀ ec ft lb rb dw fs fd, post (nI (pp_cs (fun c => pp_su n ss ws c s) (fun c => pp_sep n c x) (pp_su n ss ws (pp_bk (fun c => pp_su n ss ws c s) (pp_P n)) s) (pp_P n))) (nI n, nI s, nI (pp_P n), ec, ss, ws, ft, lb, rb, dw, fs, fd)) :
    wX_support_35 post (nI x) (nI n) (nI s) (nI (pp_P n)) ec ss ws ft lb rb dw fs fd := by
  have hP := pp_P_0 n
  unfold wX_support_35
  refine pp_fb h3 h6 hs hS hV ?_
  intro ec ft lb rb dw fs
  have hbl := pp_su_le (ss := ss) h3 h6 hV (pp_bk_in (f := fun c => pp_su n ss ws c s) hP.1) hs
  refine pp_xs h3 h6 hs hS hV (pp_bk_in hP.1) ?_
  intro ec ft lb rb dw fs
  refine Exists.intro (pp_P n + 1) ?_
  revert K hbl
  generalize pp_su n ss ws (pp_bk (fun c => pp_su n ss ws c s) (pp_P n)) s = l
  intro K hbl
  have L : ∀ d y k ec ft lb rb dw fs fd, y + d = pp_P n → d < k → wX_support_55 post (nI x) (nI l) k (nI (pp_cs (fun c => pp_su n ss ws c s) (fun c => pp_sep n c x) l y)) (nI y) (nI n) (nI s) (nI (pp_P n)) ec ss ws ft lb rb dw fs fd := by
    intro d
    induction d with
    | zero =>
      intro y k ec ft lb rb dw fs fd hy hk
      obtain ⟨k, rfl⟩ : ∃ q, k = q + 1 := ⟨k - 1, by omega⟩
      have e : y = pp_P n := by omega
      rw [e]
      exact br_t (nI_le (by omega) (by omega)) (K _ _ _ _ _ _ _)
    | succ d ih =>
      intro y k ec ft lb rb dw fs fd hy hk
      obtain ⟨k, rfl⟩ : ∃ q, k = q + 1 := ⟨k - 1, by omega⟩
      refine br_f (nI_ge (by omega) (by omega)) (pp_bt h3 h6 (by omega) ?_)
      intro ft' lb' rb' dw' H
      refine pp_sb h3 h6 hs hS hV (by omega) H ?_
      intro fs'
      have b2 := pp_su_le (ss := ss) h3 h6 hV (show y < pp_P n by omega) hs
      have IH := fun ec ft lb rb dw fs fd => ih (y + 1) k ec ft lb rb dw fs fd (by omega) (by omega)
      have eq : pp_cs (fun c => pp_su n ss ws c s) (fun c => pp_sep n c x) l (y + 1) = if pp_su n ss ws y s = l ∧ pp_sep n y x = true then pp_cs (fun c => pp_su n ss ws c s) (fun c => pp_sep n c x) l y + 1 else pp_cs (fun c => pp_su n ss ws c s) (fun c => pp_sep n c x) l y := rfl
      by_cases z : pp_su n ss ws y s = l
      · refine br_t (by rw [z]) ?_
        refine pp_bse h3 h6 (by omega) hx64 H ?_
        intro fd'
        by_cases w : pp_sep n y x = true
        · rw [if_pos ⟨z, w⟩] at eq
          rw [eq] at IH
          rw [if_pos w]
          exact br_f (by decide) (nm_r (nI_1 _) (nm_r (nI_1 y) (IH _ _ _ _ _ _ _)))
        · rw [if_neg (fun h => w h.2)] at eq
          rw [eq] at IH
          rw [if_neg w]
          exact br_t rfl (nm_r (nI_1 y) (IH _ _ _ _ _ _ _))
      · rw [if_neg (fun h => z h.1)] at eq
        rw [eq] at IH
        exact br_f (fun w => z ((nI_eq (by omega) (by omega)).mp w)) (nm_r (nI_1 y) (IH _ _ _ _ _ _ _))
  exact L (pp_P n) 0 (pp_P n + 1) ec ft lb rb dw fs fd (by omega) (by omega)
theorem pp_xc {post : Int32 → SX → Prop} (h3 : 3 ≤ n) (h6 : n ≤ 6) (hs : s ≤ 8) (hS : pp_S ss) (hV : pp_V ws) {i : Nat} (hi : i < s) {ec : Int32} {ft lb rb dw fs fd : Nat → Int32}
    (K : ∀ ec ft lb rb dw fs, post (nI (pp_D (pp_W ss i) (pp_tr n (pp_bk (fun c => pp_su n ss ws c s) (pp_P n))))) (nI n, nI s, nI (pp_P n), ec, ss, ws, ft, lb, rb, dw, fs, fd)) :
    wpX_changes post (nI n, nI s, nI (pp_P n), ec, ss, ws, ft, lb, rb, dw, fs, fd) (nI i) := by
  have hP := pp_P_0 n
  have hbk := pp_bk_in (f := fun c => pp_su n ss ws c s) hP.1
  unfold wpX_changes
  refine br_f (nI_pos (by omega)) (br_f (nI_ge (by omega) (by omega)) (br_f (by decide) ?_))
  refine pp_fb h3 h6 hs hS hV ?_
  intro ec ft lb rb dw fs
  refine pp_bt h3 h6 hbk ?_
  intro ft' lb' rb' dw' H
  refine pp_ch h3 h6 hbk (by omega) hS H ?_
  intro fs'
  exact K _ _ _ _ _ _
end
end
section
/-! the reference: its tree, edgeTo, depth, leaves, join -/
def pp_B (a : Nat → Int32) (f : Nat → Nat) (m : Nat) : Prop := ∀ j, j < m → a j = nI (f j)
def pp_YT (n c : Nat) (ne fa : Nat → Int32) : Prop := pp_B ne (pp_NE n c) (2 * n - 3) ∧ pp_B fa (pp_FA n c) (2 * n - 3)
theorem pp_m3 {t : Nat} (h3 : 3 ≤ t) : (2 : Int32) * nI t - 3 = nI (2 * t - 3) := by
  rw [show (2 : Int32) = nI 2 from rfl, show (3 : Int32) = nI 3 from rfl, pk_mul, pk_sub (by omega)]
theorem pp_m2 {t : Nat} (h3 : 3 ≤ t) : (2 : Int32) * nI t - 2 = nI (2 * t - 2) := by
  rw [show (2 : Int32) = nI 2 from rfl, pk_mul, pk_sub (by omega)]
section
variable {si kn : Int32} {ss ws co de nd : Nat → Int32}
theorem pp_yl {post : SY → Prop} {n code : Nat} (h6 : n ≤ 6) (hcode : code < 2 ^ 31)
    (K : ∀ ne fa, pp_YT n (code % pp_P n) ne fa → post (nI n, si, kn, ss, ws, ne, fa, co, de, nd)) :
    ∀ d t k ne fa, t + d = n → 3 ≤ t → d < k → pp_YT t (code % pp_P t) ne fa →
      wY_build_49 post (nI n) si kn k (nI (code / pp_P t)) (nI t) ss ws ne fa co de nd := by
  intro d
  induction d with
  | zero =>
    intro t k ne fa ht h3 hk H
    obtain ⟨k, rfl⟩ : ∃ q, k = q + 1 := ⟨k - 1, by omega⟩
    have e : t = n := by omega
    subst e
    exact br_t (nI_le (by omega) (by omega)) (K _ _ H)
  | succ d ih =>
    intro t k ne fa ht h3 hk H
    obtain ⟨k, rfl⟩ : ∃ q, k = q + 1 := ⟨k - 1, by omega⟩
    have hx : code / pp_P t < 2 ^ 31 := Nat.lt_of_le_of_lt (Nat.div_le_self _ _) hcode
    have hm : 0 < 2 * t - 3 := by omega
    have n0 : ¬ nI (2 * t - 3) = 0 := nI_ne0 hm (by omega)
    have hc : code % pp_P t < pp_P t := Nat.mod_lt _ (pp_P_0 t).1
    have he : code / pp_P t % (2 * t - 3) < 2 * t - 3 := Nat.mod_lt _ hm
    have cNE := of_decide_eq_true (pp_steps_s pp_cNE h3 (show t ≤ 5 by omega) hc he)
    have cFA := of_decide_eq_true (pp_steps_s pp_cFA h3 (show t ≤ 5 by omega) hc he)
    have cN3 := of_decide_eq_true (pp_steps_s pp_cN3 h3 (show t ≤ 5 by omega) hc he)
    have cN4 := of_decide_eq_true (pp_steps_s pp_cN4 h3 (show t ≤ 5 by omega) hc he)
    have e1 : code / pp_P t / (2 * t - 3) = code / pp_P (t + 1) := by rw [pp_P_s h3 (by omega), Nat.div_div_eq_div_mul]
    have e2 : code % pp_P t + pp_P t * (code / pp_P t % (2 * t - 3)) = code % pp_P (t + 1) := by rw [pp_P_s h3 (by omega), Nat.mod_mul]
    rw [e2] at cNE cFA cN3 cN4
    have hq : 2 * t - 2 = 2 * t - 3 + 1 := by omega
    have hq2 : 2 * (t + 1) - 3 = 2 * t - 3 + 2 := by omega
    rw [hq] at cN4
    have IH := fun ne fa H => ih (t + 1) k ne fa (by omega) (by omega) (by omega) H
    unfold pp_YT at H IH
    rw [hq2] at IH
    rw [← e1] at IH
    have hm7 : 2 * t - 3 ≤ 7 := by omega
    refine br_f (nI_ge (by omega) (by omega)) ?_
    rw [pp_m3 h3, pp_m2 h3, hq]
    obtain ⟨m, hM⟩ : ∃ m, m = 2 * t - 3 := ⟨_, rfl⟩
    rw [← hM] at he cNE cFA cN3 cN4 H n0 IH hm hm7 ⊢
    obtain ⟨e, hE⟩ : ∃ e, e = code / pp_P t % m := ⟨_, rfl⟩
    rw [← hE] at he cNE cN3
    obtain ⟨Hn, Hf⟩ := H
    have i1 : vp_in (nI e) 9 := vp_in_nI (by omega) (by omega)
    have i2 : vp_in (nI m) 9 := vp_in_nI (by omega) (by omega)
    have i3 : vp_in (nI (m + 1)) 9 := vp_in_nI (by omega) (by omega)
    have c1 : (nI e).toNatClampNeg = e := nI_clamp (by omega)
    have c2 : (nI m).toNatClampNeg = m := nI_clamp (by omega)
    have c3 : (nI (m + 1)).toNatClampNeg = m + 1 := nI_clamp (by omega)
    refine And.intro n0 (nm_r (e' := nI e) (by rw [pk_rem hx hm (by omega), hE]) (And.intro n0 (nm_r (pk_div hx hm (by omega)) (nm_r (e' := nI (4 + t)) (nI_add 4 t) ?_))))
    refine And.intro i1 (And.intro i2 (nm_r (e' := upd ne m (nI (pp_NE t (code % pp_P t) e))) (by rw [c1, c2, Hn e he]) ?_))
    refine And.intro i2 (nm_r (e' := upd fa m (nI (4 + t))) (by rw [c2]) ?_)
    refine And.intro i1 (nm_r (e' := upd (upd ne m (nI (pp_NE t (code % pp_P t) e))) e (nI (4 + t))) (by rw [c1]) ?_)
    refine And.intro i3 (nm_r (e' := upd (upd (upd ne m (nI (pp_NE t (code % pp_P t) e))) e (nI (4 + t))) (m + 1) (nI (4 + t))) (by rw [c3]) ?_)
    refine And.intro i3 (nm_r (e' := upd (upd fa m (nI (4 + t))) (m + 1) (nI t)) (by rw [c3]) (nm_r (nI_1 t) ?_))
    refine IH _ _ ⟨?_, ?_⟩
    · intro j hj
      by_cases j1 : j = m + 1
      · subst j1; rw [pk_us, cN4.1]
      · rw [pk_un j1]
        by_cases j2 : j = e
        · subst j2; rw [pk_us, cNE j he, if_pos rfl]
        · rw [pk_un j2]
          by_cases j3 : j = m
          · subst j3; rw [pk_us, cN3.1]
          · rw [pk_un j3, Hn j (by omega), cNE j (by omega), if_neg j2]
    · intro j hj
      by_cases j1 : j = m + 1
      · subst j1; rw [pk_us, cN4.2]
      · rw [pk_un j1]
        by_cases j3 : j = m
        · subst j3; rw [pk_us, cN3.2]
        · rw [pk_un j3, Hf j (by omega), cFA j (by omega)]
theorem pp_yb {post : SY → Prop} {n c : Nat} (h3 : 3 ≤ n) (h6 : n ≤ 6) (hc : c < pp_P n) {ne fa : Nat → Int32}
    (K : ∀ ne fa, pp_YT n c ne fa → post (nI n, si, kn, ss, ws, ne, fa, co, de, nd)) :
    wpY_build post (nI n, si, kn, ss, ws, ne, fa, co, de, nd) (nI c) := by
  have hb := (pp_P_0 n).2
  have e0 : c / pp_P 3 = c := Nat.div_one c
  have e1 : c % pp_P 3 = 0 := Nat.mod_one c
  have e2 : c % pp_P n = c := Nat.mod_eq_of_lt hc
  have L := pp_yl (si := si) (kn := kn) (ss := ss) (ws := ws) (co := co) (de := de) (nd := nd) (post := post) (n := n) (code := c) h6 (by omega) (by rw [e2]; exact K) (n - 3) 3 (n - 3 + 1)
  rw [e0, e1] at L
  unfold wpY_build
  refine nm_e (nm_e (nm_e (nm_e (nm_e (nm_e (Exists.intro _ (L _ _ (by omega) (by omega) (by omega) ?_)))))))
  obtain ⟨⟨a0, a1, a2⟩, ⟨b0, b1, b2⟩⟩ := pp_c3Y
  refine ⟨?_, ?_⟩
  all_goals
    intro j hj
    have hj3 : j = 0 ∨ j = 1 ∨ j = 2 := by omega
    rcases hj3 with rfl | rfl | rfl
  · rw [a0]; rfl
  · rw [a1]; rfl
  · rw [a2]; rfl
  · rw [b0]; rfl
  · rw [b1]; rfl
  · rw [b2]; rfl
theorem pp_eo {post : Int32 → Prop} {n c x : Nat} (h3 : 3 ≤ n) (h6 : n ≤ 6) (hc : c < pp_P n) (hx : x < 10) {ne fa : Nat → Int32} (H : pp_YT n c ne fa)
    (K : post (if pp_et n c x < 2 * n - 3 then nI (pp_et n c x) else -1)) :
    wpY_edgeTo post (nI n, si, kn, ss, ws, ne, fa, co, de, nd) (nI x) := by
  have cB := of_decide_eq_true (pp_every_s pp_cB2 h3 h6 hc)
  have L : ∀ d i k, i + d = 2 * n - 3 → d < k → post (if pp_fd (pp_FA n c) x d i < 2 * n - 3 then nI (pp_fd (pp_FA n c) x d i) else -1) → wY_edgeTo_2 post (nI x) (nI n) si kn ss ws ne fa co de nd k (nI i) := by
    intro d
    induction d with
    | zero =>
      intro i k hi hk h
      obtain ⟨k, rfl⟩ : ∃ q, k = q + 1 := ⟨k - 1, by omega⟩
      have h : post (if i < 2 * n - 3 then nI i else -1) := h
      rw [if_neg (by omega)] at h
      refine br_t ?_ h
      rw [pp_m3 h3]
      exact nI_le (by omega) (by omega)
    | succ d ih =>
      intro i k hi hk h
      obtain ⟨k, rfl⟩ : ∃ q, k = q + 1 := ⟨k - 1, by omega⟩
      have hb := (cB i (by omega)).2.1
      refine br_f ?_ (And.intro (vp_in_nI (by omega) (by omega)) ?_)
      · rw [pp_m3 h3]
        exact nI_ge (by omega) (by omega)
      · rw [nI_clamp (by omega), H.2 i (by omega)]
        unfold pp_fd at h
        by_cases z : pp_FA n c i = x
        · rw [if_pos z, if_pos (by omega)] at h
          exact br_t (by rw [z]) h
        · rw [if_neg z] at h
          exact br_f (fun w => z ((nI_eq (by omega) (by omega)).mp w)) (nm_r (nI_1 i) (ih (i + 1) k (by omega) (by omega) h))
  exact Exists.intro (2 * n - 3 + 1) (L (2 * n - 3) 0 (2 * n - 3 + 1) (by omega) (by omega) K)
theorem pp_up_lt {n c v : Nat} (h3 : 3 ≤ n) (h6 : n ≤ 6) (hc : c < pp_P n) (hv : v < 10) : pp_up n c v < 10 := by
  have cB := of_decide_eq_true (pp_every_s pp_cB2 h3 h6 hc)
  unfold pp_up
  by_cases z : pp_et n c v < 2 * n - 3
  · rw [if_pos z]; exact (cB _ z).1
  · rw [if_neg z]; exact hv
theorem pp_de {post : Int32 → Prop} {n c x : Nat} (h3 : 3 ≤ n) (h6 : n ≤ 6) (hc : c < pp_P n) (hx : x < 10) {ne fa : Nat → Int32} (H : pp_YT n c ne fa)
    (K : post (nI (pp_dp n c 9 x 0))) :
    wpY_depth post (nI n, si, kn, ss, ws, ne, fa, co, de, nd) (nI x) := by
  have L : ∀ d i k v s, i + d = 9 → d < k → v < 10 → post (nI (pp_dp n c d v s)) → wY_depth_7 post (nI n) si kn ss ws ne fa co de nd k (nI v) (nI s) (nI i) := by
    intro d
    induction d with
    | zero =>
      intro i k v s hi hk hv h
      obtain ⟨k, rfl⟩ : ∃ q, k = q + 1 := ⟨k - 1, by omega⟩
      have e : i = 9 := by omega
      subst e
      exact br_t (nI_le (a := 9) (b := 9) (by omega) (by omega)) h
    | succ d ih =>
      intro i k v s hi hk hv h
      obtain ⟨k, rfl⟩ : ∃ q, k = q + 1 := ⟨k - 1, by omega⟩
      unfold pp_dp at h
      refine br_f (nI_ge (b := 9) (by omega) (by omega)) (pp_eo h3 h6 hc hv H ?_)
      have hu := pp_up_lt h3 h6 hc hv
      by_cases z : pp_et n c v < 2 * n - 3
      · rw [if_pos z] at h ⊢
        have ev : pp_up n c v = pp_NE n c (pp_et n c v) := if_pos z
        rw [ev] at h hu
        refine br_f (nI_pos (by omega)) (And.intro (vp_in_nI (by omega) (by omega)) (nm_r (e' := nI (pp_NE n c (pp_et n c v))) (by rw [nI_clamp (by omega), H.1 _ z]) (nm_r (nI_1 s) (nm_r (nI_1 i) ?_))))
        exact ih (i + 1) k _ _ (by omega) (by omega) hu h
      · rw [if_neg z] at h ⊢
        have ev : pp_up n c v = v := if_neg z
        rw [ev] at h
        refine br_t (by decide) (nm_r (nI_1 i) ?_)
        exact ih (i + 1) k _ _ (by omega) (by omega) hv h
  exact Exists.intro 10 (L 9 0 10 x 0 (by omega) (by omega) hx K)
end
theorem pp_shr : ∀ w, w < 16 → ∀ s, s < 4 → ((nI w >>> (nI s &&& 31)) &&& 1 = 1 ↔ w.testBit s = true) := by decide +kernel
/-- the cost cells hold R -/
def pp_C (co : Nat → Int32) (R : Nat → Nat → Nat) : Prop := ∀ v, v < 10 → ∀ s, s < 4 → co (v * 4 + s) = nI (R v s)
section
variable {fn si kn : Int32} {ss ws ne fa de nd : Nat → Int32}
theorem pp_lv10 {post : SY → Prop} {J2 : Int32 → (Nat → Int32) → (Nat → Int32) → (Nat → Int32) → (Nat → Int32) → (Nat → Int32) → (Nat → Int32) → (Nat → Int32) → Prop} {i v : Nat} (hi : i < 8) (hv : v < 10) (hS : pp_S ss)
    (K : ∀ co : Nat → Int32, (∀ j, j < v * 4 + 4 → co j = nI (pp_bs (pp_W ss i) (j / 4) (j % 4))) → J2 (nI (v + 1)) ss ws ne fa co de nd) :
    ∀ d s k co, s + d = 4 → d < k → (∀ j, j < v * 4 + s → co j = nI (pp_bs (pp_W ss i) (j / 4) (j % 4))) → wY_leaves_10 post J2 (nI i) (nI v) fn si kn k (nI s) ss ws ne fa co de nd := by
  intro d
  induction d with
  | zero =>
    intro s k co hs hk h
    obtain ⟨k, rfl⟩ : ∃ q, k = q + 1 := ⟨k - 1, by omega⟩
    have e : s = 4 := by omega
    subst e
    exact br_t (nI_le (a := 4) (b := 4) (by omega) (by omega)) (nm_r (nI_1 v) (K co h))
  | succ d ih =>
    intro s k co hs hk h
    obtain ⟨k, rfl⟩ : ∃ q, k = q + 1 := ⟨k - 1, by omega⟩
    have hix : nI v * 4 + nI s = nI (v * 4 + s) := by rw [show (4 : Int32) = nI 4 from rfl, pk_mul, nI_add]
    have hin : vp_in (nI v * 4 + nI s) 40 := by rw [hix]; exact vp_in_nI (by omega) (by omega)
    have hcl : (nI v * 4 + nI s).toNatClampNeg = v * 4 + s := by rw [hix]; exact nI_clamp (by omega)
    have N : ∀ z : Int32, z = nI (pp_bs (pp_W ss i) v s) → wY_leaves_10 post J2 (nI i) (nI v) fn si kn k (nI s + 1) ss ws ne fa (upd co (v * 4 + s) z) de nd := by
      intro z hz
      rw [nI_1]
      refine ih (s + 1) k _ (by omega) (by omega) (fun j hj => ?_)
      by_cases e : j = v * 4 + s
      · rw [e, pk_us, hz, show (v * 4 + s) / 4 = v by omega, show (v * 4 + s) % 4 = s by omega]
      · rw [pk_un e]; exact h j (by omega)
    have N0 : pp_bs (pp_W ss i) v s = 0 → wY_leaves_44 post J2 (wY_leaves_10 post J2 (nI i) (nI v) fn si kn k) (nI i) (nI v) (nI s) 1 fn si kn ss ws ne fa co de nd := by
      intro z
      refine br_f (by decide) (And.intro hin (nm_r (by rw [hcl]) (nm_e (N 0 ?_))))
      rw [z]; rfl
    have N1 : pp_bs (pp_W ss i) v s = 100 → wY_leaves_44 post J2 (wY_leaves_10 post J2 (nI i) (nI v) fn si kn k) (nI i) (nI v) (nI s) 0 fn si kn ss ws ne fa co de nd := by
      intro z
      refine br_t rfl (And.intro hin (nm_r (by rw [hcl]) (nm_e (N 100 ?_))))
      rw [z]; rfl
    refine br_f (nI_ge (b := 4) (by omega) (by omega)) ?_
    by_cases hv5 : v < 6
    · have hiy : nI v * 8 + nI i = nI (v * 8 + i) := by rw [show (8 : Int32) = nI 8 from rfl, pk_mul, nI_add]
      refine br_f (nI_nlt (a := 5) (by omega) (by omega)) (And.intro (by rw [hiy]; exact vp_in_nI (by omega) (by omega)) ?_)
      rw [hiy, nI_clamp (by omega), pp_W_s hS hv5 hi]
      have hT := pp_shr _ (pp_W_in hS hi v).2 s (by omega)
      have hb : pp_bs (pp_W ss i) v s = if (pp_W ss i v).testBit s = true then 0 else 100 := if_pos hv5
      by_cases z : (pp_W ss i v).testBit s = true
      · rw [if_pos z] at hb
        exact br_t (hT.mpr z) (N0 hb)
      · rw [if_neg z] at hb
        exact br_f (fun w => z (hT.mp w)) (N1 hb)
    · have hb : pp_bs (pp_W ss i) v s = 0 := if_neg hv5
      exact br_t (nI_lt (a := 5) (by omega) (by omega)) (N0 hb)
theorem pp_lv {post : SY → Prop} {i : Nat} (hi : i < 8) (hS : pp_S ss) {co : Nat → Int32}
    (K : ∀ co, pp_C co (pp_row (pp_W ss i) (fun _ => [])) → post (fn, si, kn, ss, ws, ne, fa, co, de, nd)) :
    wpY_leaves post (fn, si, kn, ss, ws, ne, fa, co, de, nd) (nI i) := by
  have L : ∀ d v k co, v + d = 10 → d < k → (∀ j, j < v * 4 → co j = nI (pp_bs (pp_W ss i) (j / 4) (j % 4))) → wY_leaves_2 post (nI i) fn si kn k (nI v) ss ws ne fa co de nd := by
    intro d
    induction d with
    | zero =>
      intro v k co hv hk h
      obtain ⟨k, rfl⟩ : ∃ q, k = q + 1 := ⟨k - 1, by omega⟩
      have e : v = 10 := by omega
      subst e
      refine br_t (nI_le (a := 10) (b := 10) (by omega) (by omega)) (K co (fun v hv s hs => ?_))
      rw [h (v * 4 + s) (by omega), show (v * 4 + s) / 4 = v by omega, show (v * 4 + s) % 4 = s by omega]
      rfl
    | succ d ih =>
      intro v k co hv hk h
      obtain ⟨k, rfl⟩ : ∃ q, k = q + 1 := ⟨k - 1, by omega⟩
      refine br_f (nI_ge (b := 10) (by omega) (by omega)) (Exists.intro 5 ?_)
      refine pp_lv10 hi (by omega) hS ?_ 4 0 5 co (by omega) (by omega) h
      intro co' h'
      exact ih (v + 1) k co' (by omega) (by omega) (fun j hj => h' j (by omega))
  exact Exists.intro 11 (L 10 0 11 co (by omega) (by omega) (fun j hj => by omega))
end
end
section
/-! the reference: join, changesAt, workOut -/
section
variable {fn si kn : Int32} {ss ws ne fa de nd : Nat → Int32}
theorem pp_j14 {post : SY → Prop} {J2 : Int32 → (Nat → Int32) → (Nat → Int32) → (Nat → Int32) → (Nat → Int32) → (Nat → Int32) → (Nat → Int32) → (Nat → Int32) → Prop} {e w f s : Nat} {r : Nat → Nat} {co : Nat → Int32} (he : e < 9) (hne : ne e = nI w) (hfa : fa e = nI f) (hw : w < 10) (hf : f < 10) (hs : s < 4)
    (hC : ∀ q, q < 4 → co (f * 4 + q) = nI (r q)) (hr : ∀ q, q < 4 → r q ≤ 500)
    (K : J2 (nI (s + 1)) ss ws ne fa (upd co (w * 4 + s) (co (w * 4 + s) + nI (pp_bm (fun q => r q + if s = q then 0 else 1) 4))) de nd) :
    ∀ d q k, q + d = 4 → d < k → wY_join_14 post J2 (nI e) (nI s) fn si kn ss ws ne fa co de nd k (nI (pp_bm (fun q => r q + if s = q then 0 else 1) q)) (nI q) := by
  have hin : vp_in (nI e) 9 := vp_in_nI he (by omega)
  have hcl : (nI e).toNatClampNeg = e := nI_clamp (by omega)
  intro d
  induction d with
  | zero =>
    intro q k hq hk
    obtain ⟨k, rfl⟩ : ∃ q, k = q + 1 := ⟨k - 1, by omega⟩
    have e4 : q = 4 := by omega
    subst e4
    have hix : ne e * 4 + nI s = nI (w * 4 + s) := by rw [hne, show (4 : Int32) = nI 4 from rfl, pk_mul, nI_add]
    refine br_t (nI_le (a := 4) (b := 4) (by omega) (by omega)) (And.intro hin (And.intro hin ?_))
    rw [hcl, hix, nI_clamp (by omega)]
    exact And.intro (vp_in_nI (by omega) (by omega)) (And.intro (vp_in_nI (by omega) (by omega)) (nm_e (nm_r (nI_1 s) K)))
  | succ d ih =>
    intro q k hq hk
    obtain ⟨k, rfl⟩ : ∃ q, k = q + 1 := ⟨k - 1, by omega⟩
    have hq4 : q < 4 := by omega
    have hix : fa e * 4 + nI q = nI (f * 4 + q) := by rw [hfa, show (4 : Int32) = nI 4 from rfl, pk_mul, nI_add]
    have IH := ih (q + 1) k (by omega) (by omega)
    have eq : pp_bm (fun q => r q + if s = q then 0 else 1) (q + 1) = if pp_bm (fun q => r q + if s = q then 0 else 1) q ≤ r q + (if s = q then 0 else 1) then pp_bm (fun q => r q + if s = q then 0 else 1) q else r q + (if s = q then 0 else 1) := rfl
    have hb := pp_bm_k (g := fun q => r q + if s = q then 0 else 1) (k := q)
    have hrq := hr q hq4
    have F : ∀ z0 : Int32, ∀ y : Nat, y ≤ 1 → z0 = nI y → (if s = q then 0 else 1) = y → wY_join_47 post J2 (wY_join_14 post J2 (nI e) (nI s) fn si kn ss ws ne fa co de nd k) (nI e) (nI s) (nI (pp_bm (fun q => r q + if s = q then 0 else 1) q)) (nI q) z0 (nI (r q)) fn si kn ss ws ne fa co de nd := by
      intro z0 y hy hz ey
      rw [ey] at eq
      refine nm_r (e' := nI (r q + y)) (by rw [hz, nI_add]) ?_
      by_cases z : pp_bm (fun q => r q + if s = q then 0 else 1) q ≤ r q + y
      · rw [if_pos z] at eq
        rw [eq] at IH
        exact br_t ((nI_leI (by omega) (by omega)).mpr z) (nm_r (nI_1 q) IH)
      · rw [if_neg z] at eq
        rw [eq] at IH
        exact br_f (fun w => z ((nI_leI (by omega) (by omega)).mp w)) (nm_r (nI_1 q) IH)
    refine br_f (nI_ge (b := 4) (by omega) (by omega)) (And.intro hin ?_)
    rw [hcl, hix, nI_clamp (by omega), hC q hq4]
    refine And.intro (vp_in_nI (by omega) (by omega)) ?_
    by_cases z : s = q
    · exact br_t (by rw [z]) (F 0 0 (by omega) rfl (if_pos z))
    · exact br_f (fun w => z ((nI_eq (by omega) (by omega)).mp w)) (F 1 1 (by omega) rfl (if_neg z))
theorem pp_jn {post : SY → Prop} {e w f : Nat} {R : Nat → Nat → Nat} {co : Nat → Int32} (he : e < 9) (hne : ne e = nI w) (hfa : fa e = nI f) (hw : w < 10) (hf : f < 10) (hwf : f ≠ w) (hC : pp_C co R) (hR : ∀ q, q < 4 → R f q ≤ 500)
    (K : ∀ co, pp_C co (fun v s => if v = w then R v s + pp_bm (fun q => R f q + if s = q then 0 else 1) 4 else R v s) → post (fn, si, kn, ss, ws, ne, fa, co, de, nd)) :
    wpY_join post (fn, si, kn, ss, ws, ne, fa, co, de, nd) (nI e) := by
  have L : ∀ d s k co, s + d = 4 → d < k → pp_C co (fun v s' => if v = w ∧ s' < s then R v s' + pp_bm (fun q => R f q + if s' = q then 0 else 1) 4 else R v s') → wY_join_2 post (nI e) fn si kn k (nI s) ss ws ne fa co de nd := by
    intro d
    induction d with
    | zero =>
      intro s k co hs hk h
      obtain ⟨k, rfl⟩ : ∃ q, k = q + 1 := ⟨k - 1, by omega⟩
      have e4 : s = 4 := by omega
      subst e4
      refine br_t (nI_le (a := 4) (b := 4) (by omega) (by omega)) (K co (fun v hv s hs => ?_))
      rw [h v hv s hs]
      dsimp only
      by_cases z : v = w
      · rw [if_pos (And.intro z hs), if_pos z]
      · rw [if_neg (fun y => z y.1), if_neg z]
    | succ d ih =>
      intro s k co hs hk h
      obtain ⟨k, rfl⟩ : ∃ q, k = q + 1 := ⟨k - 1, by omega⟩
      refine br_f (nI_ge (b := 4) (by omega) (by omega)) (Exists.intro 5 ?_)
      have hws : co (w * 4 + s) = nI (R w s) := by rw [h w hw s (by omega)]; dsimp only; rw [if_neg (by omega)]
      refine pp_j14 (r := R f) he hne hfa hw hf (by omega) (fun q hq => ?_) hR ?_ 4 0 5 (by omega) (by omega)
      · rw [h f hf q hq]
        dsimp only
        rw [if_neg (fun y => hwf y.1)]
      · refine ih (s + 1) k _ (by omega) (by omega) (fun v hv s' hs' => ?_)
        by_cases z : v * 4 + s' = w * 4 + s
        · have z1 : v = w := by omega
          have z2 : s' = s := by omega
          subst z1 z2
          rw [pk_us, hws, nI_add]
          dsimp only
          rw [if_pos (And.intro rfl (by omega))]
        · rw [pk_un z, h v hv s' hs']
          dsimp only
          by_cases y : v = w
          · have : s' < s ↔ s' < s + 1 := by omega
            simp only [this]
          · rw [if_neg (fun t => y t.1), if_neg (fun t => y t.1)]
  refine Exists.intro 5 (L 4 0 5 co (by omega) (by omega) (fun v hv s hs => ?_))
  dsimp only
  rw [if_neg (fun t => absurd t.2 (Nat.not_lt_zero s))]
  exact hC v hv s hs
end
theorem pp_sy_s {n c e : Nat} {nd nd' : Nat → List pp_T} (h : pp_sy n c e nd = some nd') : ∃ t, pp_of (pp_FA n c e) (nd (pp_FA n c e)) = some t ∧ pp_FA n c e ≠ pp_NE n c e ∧ pp_ops t ≤ 4 ∧ (nd (pp_NE n c e)).length ≤ 1 ∧ nd' = fun x => if x = pp_NE n c e then t :: nd x else nd x := by
  unfold pp_sy at h
  cases ho : pp_of (pp_FA n c e) (nd (pp_FA n c e)) with
  | none => rw [ho] at h; cases h
  | some t =>
    rw [ho] at h
    dsimp only at h
    by_cases hh : pp_FA n c e ≠ pp_NE n c e ∧ pp_ops t ≤ 4 ∧ (nd (pp_NE n c e)).length ≤ 1
    · rw [if_pos hh] at h
      exact ⟨t, rfl, hh.1, hh.2.1, hh.2.2, (Option.some.inj h).symm⟩
    · rw [if_neg hh] at h; cases h
def pp_In (W : Nat → Nat) (nd : Nat → List pp_T) : Prop := ∀ v s, pp_ps W (nd v) s ≤ 5 * (nd v).length ∧ (nd v).length ≤ 2
theorem pp_In_0 {W : Nat → Nat} : pp_In W (fun _ => []) := fun _ _ => ⟨Nat.le_refl 0, Nat.zero_le _⟩
theorem pp_pc_le {W : Nat → Nat} {t : pp_T} {s : Nat} (h : pp_ops t ≤ 4) : pp_pc W t s ≤ 5 := by
  have := pp_fc_le (W := W) t
  unfold pp_pc
  split <;> omega
theorem pp_In_s {W : Nat → Nat} {nd : Nat → List pp_T} {w : Nat} {t : pp_T} (h : pp_In W nd) (ho : pp_ops t ≤ 4) (hl : (nd w).length ≤ 1) : pp_In W (fun x => if x = w then t :: nd x else nd x) := by
  intro v s
  dsimp only
  by_cases z : v = w
  · subst z
    rw [if_pos rfl]
    have h1 := (h v s).1
    have h2 := pp_pc_le (W := W) (s := s) ho
    show pp_pc W t s + pp_ps W (nd v) s ≤ 5 * ((nd v).length + 1) ∧ (nd v).length + 1 ≤ 2
    omega
  · rw [if_neg z]; exact h v s
theorem pp_row_le {W : Nat → Nat} {nd : Nat → List pp_T} (h : pp_In W nd) (v s : Nat) : pp_row W nd v s ≤ 110 := by
  have h1 := h v s
  have h2 : pp_bs W v s ≤ 100 := by
    unfold pp_bs
    split
    · split <;> omega
    · omega
  unfold pp_row
  omega
section
variable {n c : Nat} {si kn : Int32} {ss ws ne fa de nd : Nat → Int32}
theorem pp_jy {post : SY → Prop} {W : Nat → Nat} {e : Nat} {N N' : Nat → List pp_T} {co : Nat → Int32} (h3 : 3 ≤ n) (h6 : n ≤ 6) (hc : c < pp_P n) (hW : ∀ t, 1 ≤ W t ∧ W t < 16) (H : pp_YT n c ne fa) (he : e < 2 * n - 3) (hN : pp_sy n c e N = some N') (hI : pp_In W N) (hC : pp_C co (pp_row W N))
    (K : ∀ co, pp_C co (pp_row W N') → pp_In W N' → post (nI n, si, kn, ss, ws, ne, fa, co, de, nd)) :
    wpY_join post (nI n, si, kn, ss, ws, ne, fa, co, de, nd) (nI e) := by
  have cB := of_decide_eq_true (pp_every_s pp_cB2 h3 h6 hc) e he
  obtain ⟨t, ho, hwf, hops, hl, rfl⟩ := pp_sy_s hN
  refine pp_jn (R := pp_row W N) (by omega) (H.1 e he) (H.2 e he) cB.1 cB.2.1 hwf hC (fun q _ => by have := pp_row_le hI (pp_FA n c e) q; omega) ?_
  intro co' h'
  refine K co' (fun v hv s hs => ?_) (pp_In_s hI hops hl)
  rw [h' v hv s hs]
  refine congrArg nI ?_
  dsimp only
  have hmin := pp_min (r := fun q => pp_row W N (pp_FA n c e) q) (F := pp_fs W t) (M := pp_fc W t) (pp_fs_in hW t).2 (pp_fs_in hW t).1 (by have := pp_fc_le (W := W) t; omega) (fun s => pp_des (W := W) ho s) hs
  by_cases z : v = pp_NE n c e
  · rw [if_pos z, hmin]
    unfold pp_row
    dsimp only
    rw [if_pos z]
    show _ = pp_bs W v s + (pp_pc W t s + pp_ps W (N v) s)
    unfold pp_pc
    omega
  · rw [if_neg z]
    unfold pp_row
    dsimp only
    rw [if_neg z]
theorem pp_c14 {post : Int32 → SY → Prop} {J8 : Int32 → Int32 → Int32 → Int32 → (Nat → Int32) → (Nat → Int32) → (Nat → Int32) → (Nat → Int32) → (Nat → Int32) → (Nat → Int32) → (Nat → Int32) → Prop} {W : Nat → Nat} {q : Nat} {N' : Nat → List pp_T} (h3 : 3 ≤ n) (h6 : n ≤ 6) (hc : c < pp_P n) (hq : q < 10) (hW : ∀ t, 1 ≤ W t ∧ W t < 16) (H : pp_YT n c ne fa) (hD : pp_B de (pp_DE n c) (2 * n - 3))
    (K : ∀ co, pp_C co (pp_row W N') → pp_In W N' → J8 (nI q + (-1)) (nI n) si kn ss ws ne fa co de nd) :
    ∀ j k N co, j ≤ 2 * n - 3 → j < k → pp_ri n c q j N = some N' → pp_In W N → pp_C co (pp_row W N) →
      wY_changesAt_14 post J8 (nI q) k (nI (2 * n - 3 - j)) (nI n) si kn ss ws ne fa co de nd := by
  have cB := of_decide_eq_true (pp_every_s pp_cB2 h3 h6 hc)
  intro j
  induction j with
  | zero =>
    intro k N co hj hk hN hI hC
    obtain ⟨k, rfl⟩ : ∃ q, k = q + 1 := ⟨k - 1, by omega⟩
    have e : N = N' := Option.some.inj hN
    subst e
    refine br_t ?_ (nm_e (K co hC hI))
    rw [pp_m3 h3]
    exact nI_le (by omega) (by omega)
  | succ j ih =>
    intro k N co hj hk hN hI hC
    obtain ⟨k, rfl⟩ : ∃ q, k = q + 1 := ⟨k - 1, by omega⟩
    obtain ⟨e, he⟩ : ∃ e, e = 2 * n - 3 - (j + 1) := ⟨_, rfl⟩
    have he2 : e + 1 = 2 * n - 3 - j := by omega
    have hbe := (cB e (by omega)).2.2
    unfold pp_ri at hN
    rw [← he] at hN ⊢
    refine br_f ?_ (And.intro (vp_in_nI (by omega) (by omega)) ?_)
    · rw [pp_m3 h3]
      exact nI_ge (by omega) (by omega)
    · rw [nI_clamp (by omega), hD e (by omega)]
      by_cases z : pp_DE n c e = q
      · rw [if_pos z] at hN
        cases hs : pp_sy n c e N with
        | none => rw [hs] at hN; cases hN
        | some M =>
          rw [hs] at hN
          dsimp only at hN
          refine br_t (by rw [z]) (pp_jy h3 h6 hc hW H (by omega) hs hI hC ?_)
          intro co' hC' hI'
          refine nm_r (nI_1 e) ?_
          rw [he2]
          exact ih k M co' (by omega) (by omega) hN hI' hC'
      · rw [if_neg z] at hN
        refine br_f (fun w => z ((nI_eq (by omega) (by omega)).mp w)) (nm_r (nI_1 e) ?_)
        rw [he2]
        exact ih k N co (by omega) (by omega) hN hI hC
theorem pp_c8 {post : Int32 → SY → Prop} {W : Nat → Nat} {N' : Nat → List pp_T} {t : pp_T} (h3 : 3 ≤ n) (h6 : n ≤ 6) (hc : c < pp_P n) (hW : ∀ t, 1 ≤ W t ∧ W t < 16) (H : pp_YT n c ne fa) (hD : pp_B de (pp_DE n c) (2 * n - 3)) (hT : N' 0 = [t]) (ho : pp_ops t ≤ 4)
    (K : ∀ co, post (nI (pp_D W t)) (nI n, si, kn, ss, ws, ne, fa, co, de, nd)) :
    ∀ q k N co, q ≤ 9 → q < k → pp_ro n c q N = some N' → pp_In W N → pp_C co (pp_row W N) →
      wY_changesAt_8 post k (nI q) (nI n) si kn ss ws ne fa co de nd := by
  intro q
  induction q with
  | zero =>
    intro k N co hq hk hN hI hC
    obtain ⟨k, rfl⟩ : ∃ q, k = q + 1 := ⟨k - 1, by omega⟩
    have e : N = N' := Option.some.inj hN
    subst e
    refine br_t (by decide) (Exists.intro 5 ?_)
    have K := K co
    rw [← pp_top hW hT ho] at K
    have L : ∀ d s k, s + d = 4 → d < k → wY_changesAt_59 post (nI n) si kn ss ws ne fa co de nd k (nI (pp_bm (fun s => pp_row W N 0 s) s)) (nI s) := by
      intro d
      induction d with
      | zero =>
        intro s k hs hk
        obtain ⟨k, rfl⟩ : ∃ q, k = q + 1 := ⟨k - 1, by omega⟩
        have e4 : s = 4 := by omega
        subst e4
        exact br_t (nI_le (a := 4) (b := 4) (by omega) (by omega)) K
      | succ d ih =>
        intro s k hs hk
        obtain ⟨k, rfl⟩ : ∃ q, k = q + 1 := ⟨k - 1, by omega⟩
        have hcs : co s = nI (pp_row W N 0 s) := by
          have := hC 0 (by omega) s (by omega)
          rw [Nat.zero_mul, Nat.zero_add] at this
          exact this
        have hb1 := pp_bm_k (g := fun s => pp_row W N 0 s) (k := s)
        have hb2 := pp_row_le hI 0 s
        have IH := ih (s + 1) k (by omega) (by omega)
        have eq : pp_bm (fun s => pp_row W N 0 s) (s + 1) = if pp_bm (fun s => pp_row W N 0 s) s ≤ pp_row W N 0 s then pp_bm (fun s => pp_row W N 0 s) s else pp_row W N 0 s := rfl
        have hin : vp_in (nI s) 40 := vp_in_nI (by omega) (by omega)
        refine br_f (nI_ge (b := 4) (by omega) (by omega)) (And.intro hin ?_)
        rw [nI_clamp (by omega), hcs]
        by_cases z : pp_bm (fun s => pp_row W N 0 s) s ≤ pp_row W N 0 s
        · rw [if_pos z] at eq
          rw [eq] at IH
          exact br_t ((nI_leI (by omega) (by omega)).mpr z) (nm_r (nI_1 s) IH)
        · rw [if_neg z] at eq
          rw [eq] at IH
          exact br_f (fun w => z ((nI_leI (by omega) (by omega)).mp w)) (And.intro hin (nm_e (nm_r (nI_1 s) IH)))
    exact L 4 0 5 (by omega) (by omega)
  | succ q ih =>
    intro k N co hq hk hN hI hC
    obtain ⟨k, rfl⟩ : ∃ q, k = q + 1 := ⟨k - 1, by omega⟩
    unfold pp_ro at hN
    cases hr : pp_ri n c (q + 1) (2 * n - 3) N with
    | none => rw [hr] at hN; cases hN
    | some M =>
      rw [hr] at hN
      dsimp only at hN
      refine br_f (nI_nle (by omega) (by omega)) (Exists.intro (2 * n - 3 + 1) ?_)
      have := pp_c14 (post := post) (J8 := wY_changesAt_8 post k) (si := si) (kn := kn) (ss := ss) (ws := ws) (nd := nd) (N' := M) (q := q + 1) h3 h6 hc (by omega) hW H hD ?_ (2 * n - 3) (2 * n - 3 + 1) N co (by omega) (by omega) hr hI hC
      · rw [Nat.sub_self] at this
        exact this
      · intro co' hC' hI'
        rw [pk_m1]
        exact ih k M co' (by omega) (by omega) hN hI' hC'
theorem pp_ca {post : Int32 → SY → Prop} {i : Nat} (h3 : 3 ≤ n) (h6 : n ≤ 6) (hc : c < pp_P n) (hi : i < 8) (hS : pp_S ss) (H : pp_YT n c ne fa) (hD : pp_B de (pp_DE n c) (2 * n - 3)) {co : Nat → Int32}
    (K : ∀ co, post (nI (pp_D (pp_W ss i) (pp_tr n c))) (nI n, si, kn, ss, ws, ne, fa, co, de, nd)) :
    wpY_changesAt post (nI n, si, kn, ss, ws, ne, fa, co, de, nd) (nI i) := by
  have hW := pp_W_in hS hi
  obtain ⟨N', t, h1, h2, h4, h5⟩ := pp_treeY h3 h6 hc
  rw [← pp_D_eq h4] at K
  unfold wpY_changesAt
  refine pp_lv hi hS ?_
  intro co' hC
  exact Exists.intro 10 (pp_c8 h3 h6 hc hW H hD h2 h5 K 9 10 _ co' (by omega) (by omega) h1 pp_In_0 hC)
end
end
section
/-! the reference: workOut, score, bestTree, least, within, siteLeast -/
def pp_Tb (n s : Nat) (ss nd : Nat → Int32) (C : Nat) : Prop := ∀ c, c < C → ∀ i, i < s → nd (c * 8 + i) = nI (pp_D (pp_W ss i) (pp_tr n c))
def pp_Yk (Q : Prop) (n s : Nat) (ss : Nat → Int32) (kn : Int32) (nd : Nat → Int32) : Prop := (Q → ¬ kn = 0) ∧ (¬ kn = 0 → pp_Tb n s ss nd (pp_P n))
theorem pp_yt {post : Int32 → Prop} {n : Nat} {si kn : Int32} {ss ws ne fa co de nd : Nat → Int32} (h3 : 3 ≤ n) (h6 : n ≤ 6) (K : post (nI (pp_P n))) : wpY_trees post (nI n, si, kn, ss, ws, ne, fa, co, de, nd) := by
  have hn : n = 3 ∨ n = 4 ∨ n = 5 ∨ n = 6 := by omega
  rcases hn with rfl | rfl | rfl | rfl
  · exact br_t rfl K
  · exact br_f (by decide) (br_t rfl K)
  · exact br_f (by decide) (br_f (by decide) (br_t rfl K))
  · exact br_f (by decide) (br_f (by decide) (br_f (by decide) K))
section
variable {n s : Nat} {kn : Int32} {ss ws : Nat → Int32}
theorem pp_w61 {post : SY → Prop} {J10 : Int32 → Int32 → Int32 → Int32 → (Nat → Int32) → (Nat → Int32) → (Nat → Int32) → (Nat → Int32) → (Nat → Int32) → (Nat → Int32) → (Nat → Int32) → Prop} {c : Nat} {ne fa de : Nat → Int32} (h3 : 3 ≤ n) (h6 : n ≤ 6) (hs : s ≤ 8) (hS : pp_S ss) (hc : c < pp_P n) (H : pp_YT n c ne fa) (hD : pp_B de (pp_DE n c) (2 * n - 3))
    (K : ∀ co nd, pp_Tb n s ss nd (c + 1) → J10 (nI (c + 1)) (nI n) (nI s) kn ss ws ne fa co de nd) :
    ∀ d i k co nd, i + d = s → d < k → pp_Tb n s ss nd c → (∀ j, j < i → nd (c * 8 + j) = nI (pp_D (pp_W ss j) (pp_tr n c))) →
      wY_workOut_61 post J10 (nI c) k (nI i) (nI n) (nI s) kn ss ws ne fa co de nd := by
  have hP := (pp_P_0 n).2
  intro d
  induction d with
  | zero =>
    intro i k co nd hi hk hT hN
    obtain ⟨k, rfl⟩ : ∃ q, k = q + 1 := ⟨k - 1, by omega⟩
    refine br_t (nI_le (by omega) (by omega)) (nm_r (nI_1 c) (K co nd ?_))
    intro c' hc' j hj
    by_cases e : c' = c
    · subst e; exact hN j (by omega)
    · exact hT c' (by omega) j hj
  | succ d ih =>
    intro i k co nd hi hk hT hN
    obtain ⟨k, rfl⟩ : ∃ q, k = q + 1 := ⟨k - 1, by omega⟩
    have hix : nI c * 8 + nI i = nI (c * 8 + i) := by rw [show (8 : Int32) = nI 8 from rfl, pk_mul, nI_add]
    refine br_f (nI_ge (by omega) (by omega)) (pp_ca h3 h6 hc (by omega) hS H hD ?_)
    intro co'
    refine And.intro (by rw [hix]; exact vp_in_nI (by omega) (by omega)) (nm_r (e' := upd nd (c * 8 + i) (nI (pp_D (pp_W ss i) (pp_tr n c)))) (by rw [hix, nI_clamp (by omega)]) (nm_r (nI_1 i) ?_))
    refine ih (i + 1) k co' _ (by omega) (by omega) ?_ ?_
    · intro c' hc' j hj
      rw [pk_un (by omega)]
      exact hT c' hc' j hj
    · intro j hj
      by_cases e : j = i
      · subst e; exact pk_us
      · rw [pk_un (by omega)]; exact hN j (by omega)
theorem pp_w25 {post : SY → Prop} {J10 : Int32 → Int32 → Int32 → Int32 → (Nat → Int32) → (Nat → Int32) → (Nat → Int32) → (Nat → Int32) → (Nat → Int32) → (Nat → Int32) → (Nat → Int32) → Prop} {c : Nat} {ne fa co nd : Nat → Int32} (h3 : 3 ≤ n) (h6 : n ≤ 6) (hs : s ≤ 8) (hS : pp_S ss) (hc : c < pp_P n) (H : pp_YT n c ne fa) (hT : pp_Tb n s ss nd c)
    (K : ∀ co de nd, pp_Tb n s ss nd (c + 1) → J10 (nI (c + 1)) (nI n) (nI s) kn ss ws ne fa co de nd) :
    ∀ d e k de, e + d = 2 * n - 3 → d < k → pp_B de (pp_DE n c) e →
      wY_workOut_25 post J10 (nI c) (nI n) (nI s) kn k (nI e) ss ws ne fa co de nd := by
  have cB := of_decide_eq_true (pp_every_s pp_cB2 h3 h6 hc)
  have cD := of_decide_eq_true (pp_every_s pp_cDE h3 h6 hc)
  intro d
  induction d with
  | zero =>
    intro e k de he hk hD
    obtain ⟨k, rfl⟩ : ∃ q, k = q + 1 := ⟨k - 1, by omega⟩
    have e' : e = 2 * n - 3 := by omega
    subst e'
    refine br_t ?_ (Exists.intro (s + 1) ?_)
    · rw [pp_m3 h3]
      exact nI_le (by omega) (by omega)
    · exact pp_w61 h3 h6 hs hS hc H hD (fun co nd h => K co de nd h) s 0 (s + 1) co nd (by omega) (by omega) hT (fun j hj => by omega)
  | succ d ih =>
    intro e k de he hk hD
    obtain ⟨k, rfl⟩ : ∃ q, k = q + 1 := ⟨k - 1, by omega⟩
    have hin : vp_in (nI e) 9 := vp_in_nI (by omega) (by omega)
    have hcl : (nI e).toNatClampNeg = e := nI_clamp (by omega)
    refine br_f ?_ (And.intro hin ?_)
    · rw [pp_m3 h3]
      exact nI_ge (by omega) (by omega)
    · rw [hcl, H.2 e (by omega)]
      refine pp_de h3 h6 hc (cB e (by omega)).2.1 H ?_
      rw [cD e (by omega)]
      refine And.intro hin (nm_e (nm_r (nI_1 e) (ih (e + 1) k _ (by omega) (by omega) ?_)))
      intro j hj
      by_cases z : j = e
      · subst z; exact pk_us
      · rw [pk_un z]; exact hD j (by omega)
theorem pp_wo {post : SY → Prop} {Q : Prop} (h3 : 3 ≤ n) (h6 : n ≤ 6) (hs : s ≤ 8) (hS : pp_S ss) {ne fa co de nd : Nat → Int32} (hk : pp_Yk Q n s ss kn nd)
    (K : ∀ kn ne fa co de nd, pp_Yk True n s ss kn nd → post (nI n, nI s, kn, ss, ws, ne, fa, co, de, nd)) :
    wpY_workOut post (nI n, nI s, kn, ss, ws, ne, fa, co, de, nd) := by
  have hP := pp_P_0 n
  have L : ∀ d c k ne fa co de nd, c + d = pp_P n → d < k → pp_Tb n s ss nd c → wY_workOut_10 post k (nI c) (nI n) (nI s) kn ss ws ne fa co de nd := by
    intro d
    induction d with
    | zero =>
      intro c k ne fa co de nd hc hk hT
      obtain ⟨k, rfl⟩ : ∃ q, k = q + 1 := ⟨k - 1, by omega⟩
      have e : c = pp_P n := by omega
      unfold wY_workOut_10
      refine pp_yt h3 h6 (br_t (by rw [e]; exact nI_le (by omega) (by omega)) (K _ _ _ _ _ _ ⟨fun _ => by decide, fun _ => ?_⟩))
      rw [← e]
      exact hT
    | succ d ih =>
      intro c k ne fa co de nd hc hk hT
      obtain ⟨k, rfl⟩ : ∃ q, k = q + 1 := ⟨k - 1, by omega⟩
      unfold wY_workOut_10
      refine pp_yt h3 h6 (br_f (nI_ge (by omega) (by omega)) (pp_yb h3 h6 (by omega) ?_))
      intro ne' fa' H
      refine Exists.intro (2 * n - 3 + 1) ?_
      refine pp_w25 h3 h6 hs hS (by omega) H hT ?_ (2 * n - 3) 0 (2 * n - 3 + 1) de (by omega) (by omega) (fun j hj => by omega)
      intro co' de' nd' hT'
      exact ih (c + 1) k ne' fa' co' de' nd' (by omega) (by omega) hT'
  by_cases z : kn = 0
  · exact br_t z (Exists.intro (pp_P n + 1) (L (pp_P n) 0 (pp_P n + 1) ne fa co de nd (by omega) (by omega) (fun c hc => by omega)))
  · exact br_f z (K _ _ _ _ _ _ ⟨fun _ => z, hk.2⟩)
theorem pp_ys {post : Int32 → SY → Prop} {Q : Prop} {c : Nat} (h3 : 3 ≤ n) (h6 : n ≤ 6) (hs : s ≤ 8) (hS : pp_S ss) (hV : pp_V ws) (hc : c < pp_P n) {ne fa co de nd : Nat → Int32} (hk : pp_Yk Q n s ss kn nd)
    (K : ∀ kn ne fa co de nd, pp_Yk True n s ss kn nd → post (nI (pp_su n ss ws c s)) (nI n, nI s, kn, ss, ws, ne, fa, co, de, nd)) :
    wpY_score post (nI n, nI s, kn, ss, ws, ne, fa, co, de, nd) (nI c) := by
  have hP := pp_P_0 n
  unfold wpY_score
  refine br_f (nI_pos (by omega)) (pp_yt h3 h6 (br_t (nI_lt hc (by omega)) (pp_wo h3 h6 hs hS hk ?_)))
  intro kn' ne' fa' co' de' nd' hk'
  refine Exists.intro (s + 1) ?_
  have hT := hk'.2 (hk'.1 True.intro)
  have L : ∀ d i k, i + d = s → d < k → wY_score_23 post (nI c) (nI n) (nI s) kn' ss ws ne' fa' co' de' nd' k (nI (pp_su n ss ws c i)) (nI i) := by
    intro d
    induction d with
    | zero =>
      intro i k hi hk
      obtain ⟨k, rfl⟩ : ∃ q, k = q + 1 := ⟨k - 1, by omega⟩
      have e : i = s := by omega
      subst e
      exact br_t (nI_le (by omega) (by omega)) (K _ _ _ _ _ _ hk')
    | succ d ih =>
      intro i k hi hk
      obtain ⟨k, rfl⟩ : ∃ q, k = q + 1 := ⟨k - 1, by omega⟩
      have hix : nI c * 8 + nI i = nI (c * 8 + i) := by rw [show (8 : Int32) = nI 8 from rfl, pk_mul, nI_add]
      refine br_f (nI_ge (by omega) (by omega)) (And.intro (by rw [hix]; exact vp_in_nI (by omega) (by omega)) (And.intro (vp_in_nI (by omega) (by omega)) (nm_r (e' := nI (pp_su n ss ws c (i + 1))) ?_ (nm_r (nI_1 i) (ih (i + 1) k (by omega) (by omega))))))
      rw [hix, nI_clamp (by omega), nI_clamp (by omega), hT c hc i (by omega), (pp_w_s hV (show i < 8 by omega)).1, pk_mul, nI_add]
      rfl
  exact L s 0 (s + 1) (by omega) (by omega)
theorem pp_Yk_w {Q : Prop} {nd : Nat → Int32} (h : pp_Yk True n s ss kn nd) : pp_Yk Q n s ss kn nd := ⟨fun _ => h.1 True.intro, h.2⟩
theorem pp_yk {post : Int32 → SY → Prop} {Q : Prop} (h3 : 3 ≤ n) (h6 : n ≤ 6) (hs : s ≤ 8) (hS : pp_S ss) (hV : pp_V ws) {ne fa co de nd : Nat → Int32} (hk : pp_Yk Q n s ss kn nd)
    (K : ∀ kn ne fa co de nd, pp_Yk Q n s ss kn nd → post (nI (pp_bk (fun c => pp_su n ss ws c s) (pp_P n))) (nI n, nI s, kn, ss, ws, ne, fa, co, de, nd)) :
    wpY_bestTree post (nI n, nI s, kn, ss, ws, ne, fa, co, de, nd) := by
  have hP := pp_P_0 n
  have L : ∀ d x k kn ne fa co de nd, x + d = pp_P n → 1 ≤ x → d < k → pp_Yk Q n s ss kn nd → wY_bestTree_4 post k (nI (pp_bk (fun c => pp_su n ss ws c s) x)) (nI x) (nI n) (nI s) kn ss ws ne fa co de nd := by
    intro d
    induction d with
    | zero =>
      intro x k kn ne fa co de nd hx h1 hk hK
      obtain ⟨k, rfl⟩ : ∃ q, k = q + 1 := ⟨k - 1, by omega⟩
      have e : x = pp_P n := by omega
      rw [e]
      unfold wY_bestTree_4
      exact pp_yt h3 h6 (br_t (nI_le (by omega) (by omega)) (K _ _ _ _ _ _ hK))
    | succ d ih =>
      intro x k kn ne fa co de nd hx h1 hk hK
      obtain ⟨k, rfl⟩ : ∃ q, k = q + 1 := ⟨k - 1, by omega⟩
      have hbx := pp_bk_in (f := fun c => pp_su n ss ws c s) h1
      have b1 := pp_su_le (ss := ss) h3 h6 hV (show pp_bk (fun c => pp_su n ss ws c s) x < pp_P n by omega) hs
      have b2 := pp_su_le (ss := ss) h3 h6 hV (show x < pp_P n by omega) hs
      unfold wY_bestTree_4
      refine pp_yt h3 h6 (br_f (nI_ge (by omega) (by omega)) ?_)
      refine pp_ys h3 h6 hs hS hV (by omega) hK ?_
      intro kn' ne' fa' co' de' nd' hk'
      refine pp_ys h3 h6 hs hS hV (by omega) hk' ?_
      intro kn' ne' fa' co' de' nd' hk'
      have IH := fun kn ne fa co de nd h => ih (x + 1) k kn ne fa co de nd (by omega) (by omega) (by omega) h
      have eq : pp_bk (fun c => pp_su n ss ws c s) (x + 1) = if pp_su n ss ws (pp_bk (fun c => pp_su n ss ws c s) x) s ≤ pp_su n ss ws x s then pp_bk (fun c => pp_su n ss ws c s) x else x := rfl
      by_cases z : pp_su n ss ws (pp_bk (fun c => pp_su n ss ws c s) x) s ≤ pp_su n ss ws x s
      · rw [if_pos z] at eq
        rw [eq] at IH
        exact br_t ((nI_leI (by omega) (by omega)).mpr z) (nm_r (nI_1 x) (IH _ _ _ _ _ _ (pp_Yk_w hk')))
      · rw [if_neg z] at eq
        rw [eq] at IH
        exact br_f (fun w => z ((nI_leI (by omega) (by omega)).mp w)) (nm_r (nI_1 x) (IH _ _ _ _ _ _ (pp_Yk_w hk')))
  have := L (pp_P n - 1) 1 (pp_P n) kn ne fa co de nd (by omega) (by omega) (by omega) hk
  rw [pp_bk_1] at this
  exact Exists.intro _ this
theorem pp_yle {post : Int32 → SY → Prop} {Q : Prop} (h3 : 3 ≤ n) (h6 : n ≤ 6) (hs : s ≤ 8) (hS : pp_S ss) (hV : pp_V ws) {ne fa co de nd : Nat → Int32} (hk : pp_Yk Q n s ss kn nd)
    (K : ∀ kn ne fa co de nd, pp_Yk True n s ss kn nd → post (nI (pp_su n ss ws (pp_bk (fun c => pp_su n ss ws c s) (pp_P n)) s)) (nI n, nI s, kn, ss, ws, ne, fa, co, de, nd)) :
    wpY_least post (nI n, nI s, kn, ss, ws, ne, fa, co, de, nd) := by
  have hP := pp_P_0 n
  unfold wpY_least
  refine pp_yk h3 h6 hs hS hV hk ?_
  intro kn' ne' fa' co' de' nd' hk'
  refine pp_ys h3 h6 hs hS hV (pp_bk_in hP.1) hk' ?_
  intro kn' ne' fa' co' de' nd' hk'
  exact K _ _ _ _ _ _ hk'
theorem pp_ywi {post : Int32 → SY → Prop} {Q : Prop} (h3 : 3 ≤ n) (h6 : n ≤ 6) (hs : s ≤ 8) (hS : pp_S ss) (hV : pp_V ws) {x : Int32} {ne fa co de nd : Nat → Int32} (hk : pp_Yk Q n s ss kn nd)
    (K : ∀ kn ne fa co de nd, pp_Yk True n s ss kn nd → post (nI (if x < 0 then 0 else pp_cw (fun c => pp_su n ss ws c s) x (nI (pp_su n ss ws (pp_bk (fun c => pp_su n ss ws c s) (pp_P n)) s)) (pp_P n))) (nI n, nI s, kn, ss, ws, ne, fa, co, de, nd)) :
    wpY_within post (nI n, nI s, kn, ss, ws, ne, fa, co, de, nd) x := by
  have hP := pp_P_0 n
  unfold wpY_within
  refine pp_yle h3 h6 hs hS hV hk ?_
  intro kn' ne' fa' co' de' nd' hk'
  refine Exists.intro (pp_P n + 1) ?_
  revert K
  generalize nI (pp_su n ss ws (pp_bk (fun c => pp_su n ss ws c s) (pp_P n)) s) = l
  intro K
  have L : ∀ d y k kn ne fa co de nd, y + d = pp_P n → d < k → pp_Yk True n s ss kn nd → wY_within_10 post x l k (nI (if x < 0 then 0 else pp_cw (fun c => pp_su n ss ws c s) x l y)) (nI y) (nI n) (nI s) kn ss ws ne fa co de nd := by
    intro d
    induction d with
    | zero =>
      intro y k kn ne fa co de nd hy hk hK
      obtain ⟨k, rfl⟩ : ∃ q, k = q + 1 := ⟨k - 1, by omega⟩
      have e : y = pp_P n := by omega
      rw [e]
      unfold wY_within_10
      exact pp_yt h3 h6 (br_t (nI_le (by omega) (by omega)) (K _ _ _ _ _ _ hK))
    | succ d ih =>
      intro y k kn ne fa co de nd hy hk hK
      obtain ⟨k, rfl⟩ : ∃ q, k = q + 1 := ⟨k - 1, by omega⟩
      have IH := fun kn ne fa co de nd h => ih (y + 1) k kn ne fa co de nd (by omega) (by omega) h
      unfold wY_within_10
      refine pp_yt h3 h6 (br_f (nI_ge (by omega) (by omega)) ?_)
      by_cases zx : x < 0
      · simp only [if_pos zx] at IH ⊢
        exact br_t zx (nm_r (nI_1 y) (IH _ _ _ _ _ _ hK))
      · simp only [if_neg zx] at IH ⊢
        refine br_f zx ?_
        refine pp_ys h3 h6 hs hS hV (by omega) hK ?_
        intro kn' ne' fa' co' de' nd' hk'
        have eq : pp_cw (fun c => pp_su n ss ws c s) x l (y + 1) = if x < nI (pp_su n ss ws y s) - l then pp_cw (fun c => pp_su n ss ws c s) x l y else pp_cw (fun c => pp_su n ss ws c s) x l y + 1 := rfl
        by_cases z : x < nI (pp_su n ss ws y s) - l
        · rw [if_pos z] at eq
          rw [eq] at IH
          exact br_t z (nm_r (nI_1 y) (IH _ _ _ _ _ _ hk'))
        · rw [if_neg z] at eq
          rw [eq] at IH
          exact br_f z (nm_r (nI_1 _) (nm_r (nI_1 y) (IH _ _ _ _ _ _ hk')))
  have := L (pp_P n) 0 (pp_P n + 1) kn' ne' fa' co' de' nd' (by omega) (by omega) hk'
  rw [show (if x < 0 then 0 else pp_cw (fun c => pp_su n ss ws c s) x l 0) = 0 by split <;> rfl] at this
  exact this
theorem pp_ysl {post : Int32 → SY → Prop} {Q : Prop} (h3 : 3 ≤ n) (h6 : n ≤ 6) (hs : s ≤ 8) (hS : pp_S ss) (hV : pp_V ws) {i : Nat} (hi : i < s) {ne fa co de nd : Nat → Int32} (hk : pp_Yk Q n s ss kn nd)
    (K : ∀ kn ne fa co de nd, pp_Yk True n s ss kn nd → post (nI (pp_bm (fun c => pp_D (pp_W ss i) (pp_tr n c) * pp_w ws i) (pp_P n))) (nI n, nI s, kn, ss, ws, ne, fa, co, de, nd)) :
    wpY_siteLeast post (nI n, nI s, kn, ss, ws, ne, fa, co, de, nd) (nI i) := by
  have hP := pp_P_0 n
  have hw := pp_w_s hV (show i < 8 by omega)
  unfold wpY_siteLeast
  refine br_f (nI_pos (by omega)) (br_t (nI_lt hi (by omega)) (br_t rfl ?_))
  refine pp_wo h3 h6 hs hS hk ?_
  intro kn' ne' fa' co' de' nd' hk'
  have hT := hk'.2 (hk'.1 True.intro)
  refine Exists.intro (pp_P n + 1) ?_
  have L : ∀ d y k, y + d = pp_P n → d < k → wY_siteLeast_21 post (nI i) (nI n) (nI s) kn' ss ws ne' fa' co' de' nd' k (nI (pp_bm (fun c => pp_D (pp_W ss i) (pp_tr n c) * pp_w ws i) y)) (nI y) := by
    intro d
    induction d with
    | zero =>
      intro y k hy hk
      obtain ⟨k, rfl⟩ : ∃ q, k = q + 1 := ⟨k - 1, by omega⟩
      have e : y = pp_P n := by omega
      rw [e]
      unfold wY_siteLeast_21
      exact pp_yt h3 h6 (br_t (nI_le (by omega) (by omega)) (K _ _ _ _ _ _ hk'))
    | succ d ih =>
      intro y k hy hk
      obtain ⟨k, rfl⟩ : ∃ q, k = q + 1 := ⟨k - 1, by omega⟩
      have IH := ih (y + 1) k (by omega) (by omega)
      have hix : nI y * 8 + nI i = nI (y * 8 + i) := by rw [show (8 : Int32) = nI 8 from rfl, pk_mul, nI_add]
      have hv : nd' (nI y * 8 + nI i).toNatClampNeg * ws (nI i).toNatClampNeg = nI (pp_D (pp_W ss i) (pp_tr n y) * pp_w ws i) := by
        rw [hix, nI_clamp (by omega), nI_clamp (by omega), hT y (by omega) i hi, hw.1, pk_mul]
      have i1 : vp_in (nI y * 8 + nI i) 840 := by rw [hix]; exact vp_in_nI (by omega) (by omega)
      have i2 : vp_in (nI i) 8 := vp_in_nI (by omega) (by omega)
      have b1 := pp_bm_k (g := fun c => pp_D (pp_W ss i) (pp_tr n c) * pp_w ws i) (k := y)
      have b2 : pp_D (pp_W ss i) (pp_tr n y) * pp_w ws i ≤ 5 * 9 := Nat.mul_le_mul (pp_D_le (pp_tree h3 h6 (by omega)).2) (by omega)
      have eq : pp_bm (fun c => pp_D (pp_W ss i) (pp_tr n c) * pp_w ws i) (y + 1) = if pp_bm (fun c => pp_D (pp_W ss i) (pp_tr n c) * pp_w ws i) y ≤ pp_D (pp_W ss i) (pp_tr n y) * pp_w ws i then pp_bm (fun c => pp_D (pp_W ss i) (pp_tr n c) * pp_w ws i) y else pp_D (pp_W ss i) (pp_tr n y) * pp_w ws i := rfl
      unfold wY_siteLeast_21
      refine pp_yt h3 h6 (br_f (nI_ge (by omega) (by omega)) (And.intro i1 (And.intro i2 ?_)))
      rw [hv]
      by_cases z : pp_bm (fun c => pp_D (pp_W ss i) (pp_tr n c) * pp_w ws i) y ≤ pp_D (pp_W ss i) (pp_tr n y) * pp_w ws i
      · rw [if_pos z] at eq
        rw [eq] at IH
        exact br_t ((nI_leI (by omega) (by omega)).mpr z) (nm_r (nI_1 y) IH)
      · rw [if_neg z] at eq
        rw [eq] at IH
        exact br_f (fun w => z ((nI_leI (by omega) (by omega)).mp w)) (And.intro i1 (And.intro i2 (nm_e (nm_r (nI_1 y) IH))))
  exact L (pp_P n) 0 (pp_P n + 1) (by omega) (by omega)
theorem pp_yc {post : Int32 → SY → Prop} {Q : Prop} (h3 : 3 ≤ n) (h6 : n ≤ 6) (hs : s ≤ 8) (hS : pp_S ss) (hV : pp_V ws) {i : Nat} (hi : i < s) {ne fa co de nd : Nat → Int32} (hk : pp_Yk Q n s ss kn nd)
    (K : ∀ kn ne fa co de nd, pp_Yk True n s ss kn nd → post (nI (pp_D (pp_W ss i) (pp_tr n (pp_bk (fun c => pp_su n ss ws c s) (pp_P n))))) (nI n, nI s, kn, ss, ws, ne, fa, co, de, nd)) :
    wpY_changes post (nI n, nI s, kn, ss, ws, ne, fa, co, de, nd) (nI i) := by
  have hP := pp_P_0 n
  have hbk := pp_bk_in (f := fun c => pp_su n ss ws c s) hP.1
  unfold wpY_changes
  refine br_f (nI_pos (by omega)) (br_t (nI_lt hi (by omega)) (br_t rfl ?_))
  refine pp_wo h3 h6 hs hS hk ?_
  intro kn' ne' fa' co' de' nd' hk'
  refine pp_yk h3 h6 hs hS hV hk' ?_
  intro kn' ne' fa' co' de' nd' hk'
  have hT := hk'.2 (hk'.1 True.intro)
  have hix : nI (pp_bk (fun c => pp_su n ss ws c s) (pp_P n)) * 8 + nI i = nI (pp_bk (fun c => pp_su n ss ws c s) (pp_P n) * 8 + i) := by rw [show (8 : Int32) = nI 8 from rfl, pk_mul, nI_add]
  refine And.intro (by rw [hix]; exact vp_in_nI (by omega) (by omega)) ?_
  rw [hix, nI_clamp (by omega), hT _ hbk i hi]
  exact K _ _ _ _ _ _ hk'
end
theorem pp_bm_ml {g : Nat → Nat} {w : Nat} : ∀ {k : Nat}, (∀ c, c < k + 1 → g c * w ≤ 1000) → pp_bm (fun c => g c * w) (k + 1) = pp_ml g (k + 1) * w
  | 0, h => by
    show (if 1000 ≤ g 0 * w then 1000 else g 0 * w) = (if g 0 ≤ g 0 then g 0 else g 0) * w
    rw [if_pos (Nat.le_refl (g 0))]
    have := h 0 (by omega)
    split <;> omega
  | k + 1, h => by
    have ih := pp_bm_ml (g := g) (w := w) (k := k) (fun c hc => h c (by omega))
    show (if pp_bm (fun c => g c * w) (k + 1) ≤ g (k + 1) * w then pp_bm (fun c => g c * w) (k + 1) else g (k + 1) * w) = (if pp_ml g (k + 1) ≤ g (k + 1) then pp_ml g (k + 1) else g (k + 1)) * w
    rw [ih]
    by_cases z : pp_ml g (k + 1) ≤ g (k + 1)
    · rw [if_pos z, if_pos (Nat.mul_le_mul_right w z)]
    · rw [if_neg z]
      have h2 : g (k + 1) * w ≤ pp_ml g (k + 1) * w := Nat.mul_le_mul_right w (by omega)
      split <;> omega
end
section
/-! the reference: behind, separates, support -/
section
variable {n c : Nat} {si kn : Int32} {ss ws ne fa co de nd : Nat → Int32}
theorem pp_b18 {post : Int32 → Prop} {J4 : Int32 → Int32 → Prop} {e t : Nat} (h3 : 3 ≤ n) (h6 : n ≤ 6) (hc : c < pp_P n) (H : pp_YT n c ne fa) (he : e < 2 * n - 3) (ht : t < 6) :
    ∀ d i k v m, i + d = 9 → d < k → v < 10 → J4 (nI (pp_bi n c e t d v m)) (nI (t + 1)) → wY_behind_18 post J4 (nI e) (nI t) (nI n) si kn ss ws ne fa co de nd k (nI m) (nI v) (nI i) := by
  intro d
  induction d with
  | zero =>
    intro i k v m hi hk hv h
    obtain ⟨k, rfl⟩ : ∃ q, k = q + 1 := ⟨k - 1, by omega⟩
    have e9 : i = 9 := by omega
    subst e9
    exact br_t (nI_le (a := 9) (b := 9) (by omega) (by omega)) (nm_r (nI_1 t) h)
  | succ d ih =>
    intro i k v m hi hk hv h
    obtain ⟨k, rfl⟩ : ∃ q, k = q + 1 := ⟨k - 1, by omega⟩
    unfold pp_bi at h
    have hu := pp_up_lt h3 h6 hc hv
    refine br_f (nI_ge (b := 9) (by omega) (by omega)) (pp_eo h3 h6 hc hv H ?_)
    have F : ∀ m', J4 (nI (pp_bi n c e t d (pp_up n c v) m')) (nI (t + 1)) → wY_behind_45 post J4 (wY_behind_18 post J4 (nI e) (nI t) (nI n) si kn ss ws ne fa co de nd k) (nI e) (nI m') (nI t) (nI v) (nI i) (if pp_et n c v < 2 * n - 3 then nI (pp_et n c v) else -1) (nI n) si kn ss ws ne fa co de nd := by
      intro m' h'
      by_cases z : pp_et n c v < 2 * n - 3
      · rw [if_pos z]
        have ev : pp_up n c v = pp_NE n c (pp_et n c v) := if_pos z
        rw [ev] at h' hu
        refine br_f (nI_pos (by omega)) (And.intro (vp_in_nI (by omega) (by omega)) (nm_r (e' := nI (pp_NE n c (pp_et n c v))) (by rw [nI_clamp (by omega), H.1 _ z]) (nm_r (nI_1 i) ?_)))
        exact ih (i + 1) k _ _ (by omega) (by omega) hu h'
      · rw [if_neg z]
        have ev : pp_up n c v = v := if_neg z
        rw [ev] at h'
        refine br_t (by decide) (nm_r (nI_1 i) ?_)
        exact ih (i + 1) k _ _ (by omega) (by omega) hv h'
    by_cases y : pp_et n c v = e
    · rw [if_pos y] at h
      refine br_t (by rw [if_pos (by omega), y]) (nm_r (e' := nI (m ||| 2 ^ t)) (by rw [pp_shl t (by omega), nx_or]) (F _ h))
    · rw [if_neg y] at h
      refine br_f ?_ (F _ h)
      by_cases z : pp_et n c v < 2 * n - 3
      · rw [if_pos z]
        exact fun w => y ((nI_eq (by omega) (by omega)).mp w)
      · rw [if_neg z]
        exact fun w => pp_nI_m1 (by omega) w.symm
theorem pp_be {post : Int32 → Prop} {e : Nat} (h3 : 3 ≤ n) (h6 : n ≤ 6) (hc : c < pp_P n) (H : pp_YT n c ne fa) (he : e < 2 * n - 3)
    (K : post (nI (pp_SI n c e))) : wpY_behind post (nI n, si, kn, ss, ws, ne, fa, co, de, nd) (nI e) := by
  have cS := of_decide_eq_true (pp_every_s pp_cSI h3 h6 hc) e he
  rw [← cS] at K
  have L : ∀ d k m, d ≤ n - 1 → d < k → post (nI (pp_bh n c e d m)) → wY_behind_4 post (nI e) (nI n) si kn ss ws ne fa co de nd k (nI m) (nI (n - d)) := by
    intro d
    induction d with
    | zero =>
      intro k m hd hk h
      obtain ⟨k, rfl⟩ : ∃ q, k = q + 1 := ⟨k - 1, by omega⟩
      exact br_t (nI_le (by omega) (by omega)) h
    | succ d ih =>
      intro k m hd hk h
      obtain ⟨k, rfl⟩ : ∃ q, k = q + 1 := ⟨k - 1, by omega⟩
      unfold pp_bh at h
      refine br_f (nI_ge (by omega) (by omega)) (Exists.intro 10 ?_)
      refine pp_b18 h3 h6 hc H he (by omega) 9 0 10 (n - (d + 1)) m (by omega) (by omega) (by omega) ?_
      rw [show n - (d + 1) + 1 = n - d by omega]
      exact ih k _ (by omega) (by omega) h
  have := L (n - 1) n 0 (by omega) (by omega) K
  rw [show n - (n - 1) = 1 by omega] at this
  exact Exists.intro _ this
def pp_sp (n c x : Nat) : Bool := pp_any (2 * n - 3) (fun e => decide (pp_SI n c e = x ∨ pp_SI n c e = 2 ^ n - 1 - x))
theorem pp_yse {post : Int32 → SY → Prop} {x : Nat} (h3 : 3 ≤ n) (h6 : n ≤ 6) (hc : c < pp_P n) (hx : x < 2 ^ n)
    (K : ∀ ne fa, post (if pp_sp n c x = true then 1 else 0) (nI n, si, kn, ss, ws, ne, fa, co, de, nd)) :
    wpY_separates post (nI n, si, kn, ss, ws, ne, fa, co, de, nd) (nI c) (nI x) := by
  have cB3 := of_decide_eq_true (pp_every_s pp_cB3 h3 h6 hc)
  have h64 : 2 ^ n ≤ 64 := by
    have : 2 ^ n ≤ 2 ^ 6 := Nat.pow_le_pow_right (by omega) h6
    omega
  unfold wpY_separates
  refine pp_yb h3 h6 hc ?_
  intro ne' fa' H
  have K := K ne' fa'
  refine nm_r (e' := nI (2 ^ n - 1)) (by rw [pp_shl n (by omega), show (1 : Int32) = nI 1 from rfl, pk_sub (by omega)]) (Exists.intro (2 * n - 3 + 1) ?_)
  have L : ∀ d e k, e + d = 2 * n - 3 → d < k → (∀ j, j < e → ¬ (pp_SI n c j = x ∨ pp_SI n c j = 2 ^ n - 1 - x)) → wY_separates_17 post (nI x) (nI (2 ^ n - 1)) (nI n) si kn ss ws ne' fa' co de nd k (nI e) := by
    intro d
    induction d with
    | zero =>
      intro e k he hk hN
      obtain ⟨k, rfl⟩ : ∃ q, k = q + 1 := ⟨k - 1, by omega⟩
      rw [if_neg] at K
      · refine br_t ?_ K
        rw [pp_m3 h3]
        exact nI_le (by omega) (by omega)
      · intro z
        unfold pp_sp at z
        rw [pp_any_s] at z
        obtain ⟨j, hj, hz⟩ := z
        exact hN j (by omega) (of_decide_eq_true hz)
    | succ d ih =>
      intro e k he hk hN
      obtain ⟨k, rfl⟩ : ∃ q, k = q + 1 := ⟨k - 1, by omega⟩
      have hse := (cB3 e (by omega)).1
      have F : (pp_SI n c e = x ∨ pp_SI n c e = 2 ^ n - 1 - x) → post 1 (nI n, si, kn, ss, ws, ne', fa', co, de, nd) := by
        intro z
        rw [if_pos] at K
        · exact K
        · unfold pp_sp
          rw [pp_any_s]
          exact ⟨e, by omega, decide_eq_true z⟩
      refine br_f ?_ (pp_be h3 h6 hc H (by omega) ?_)
      · rw [pp_m3 h3]
        exact nI_ge (by omega) (by omega)
      · rw [pk_sub (show x ≤ 2 ^ n - 1 by omega)]
        by_cases z1 : pp_SI n c e = x
        · exact br_t (by rw [z1]) (F (Or.inl z1))
        · refine br_f (fun w => z1 ((nI_eq (by omega) (by omega)).mp w)) ?_
          by_cases z2 : pp_SI n c e = 2 ^ n - 1 - x
          · exact br_t (by rw [z2]) (F (Or.inr z2))
          · refine br_f (fun w => z2 ((nI_eq (by omega) (by omega)).mp w)) (nm_r (nI_1 e) (ih (e + 1) k (by omega) (by omega) (fun j hj => ?_)))
            by_cases ej : j = e
            · subst ej
              exact fun z => z.elim z1 z2
            · exact hN j (by omega)
  exact L (2 * n - 3) 0 (2 * n - 3 + 1) (by omega) (by omega) (fun j hj => by omega)
end
theorem pp_sp_eq {n c x : Nat} (h3 : 3 ≤ n) (h6 : n ≤ 6) (hc : c < pp_P n) (hx : x < 2 ^ n) : pp_sp n c x = pp_sep n c (if x % 2 = 1 then 2 ^ n - 1 - x else x) := by
  have cB3 := of_decide_eq_true (pp_every_s pp_cB3 h3 h6 hc)
  have hpe : 2 ^ n % 2 = 0 := by
    obtain ⟨m, rfl⟩ : ∃ m, n = m + 1 := ⟨n - 1, by omega⟩
    rw [Nat.pow_succ]
    omega
  rw [Bool.eq_iff_iff]
  unfold pp_sp pp_sep
  rw [pp_any_s, pp_any_s]
  constructor
  · intro ⟨j, hj, h⟩
    have h := of_decide_eq_true h
    have hp := cB3 j hj
    refine ⟨j, hj, decide_eq_true ?_⟩
    by_cases z : x % 2 = 1
    · rw [if_pos z]; omega
    · rw [if_neg z]; omega
  · intro ⟨j, hj, h⟩
    have h := of_decide_eq_true h
    refine ⟨j, hj, decide_eq_true ?_⟩
    by_cases z : x % 2 = 1
    · rw [if_pos z] at h; exact Or.inr h
    · rw [if_neg z] at h; exact Or.inl h
theorem pp_cs_c {f : Nat → Nat} {b b' : Nat → Bool} {l : Nat} : ∀ {k : Nat}, (∀ c, c < k → b c = b' c) → pp_cs f b l k = pp_cs f b' l k
  | 0, _ => rfl
  | k + 1, h => by
    have ih := pp_cs_c (f := f) (l := l) (k := k) (fun c hc => h c (by omega))
    show (if f k = l ∧ b k = true then pp_cs f b l k + 1 else pp_cs f b l k) = (if f k = l ∧ b' k = true then pp_cs f b' l k + 1 else pp_cs f b' l k)
    rw [ih, h k (by omega)]
section
variable {n s : Nat} {kn : Int32} {ss ws : Nat → Int32}
theorem pp_yu {post : Int32 → SY → Prop} (h3 : 3 ≤ n) (h6 : n ≤ 6) (hs : s ≤ 8) (hS : pp_S ss) (hV : pp_V ws) {x l : Nat} (hx : x < 2 ^ n) (hl : l < 1000) {ne fa co de nd : Nat → Int32} (hk : pp_Yk True n s ss kn nd)
    (K : ∀ kn ne fa co de nd, pp_Yk True n s ss kn nd → post (nI (pp_cs (fun c => pp_su n ss ws c s) (fun c => pp_sp n c x) l (pp_P n))) (nI n, nI s, kn, ss, ws, ne, fa, co, de, nd)) :
    ∃ k, wY_support_36 post (nI x) (nI l) k 0 0 (nI n) (nI s) kn ss ws ne fa co de nd := by
  have hP := pp_P_0 n
  have L : ∀ d y k kn ne fa co de nd, y + d = pp_P n → d < k → pp_Yk True n s ss kn nd → wY_support_36 post (nI x) (nI l) k (nI (pp_cs (fun c => pp_su n ss ws c s) (fun c => pp_sp n c x) l y)) (nI y) (nI n) (nI s) kn ss ws ne fa co de nd := by
    intro d
    induction d with
    | zero =>
      intro y k kn ne fa co de nd hy hk hK
      obtain ⟨k, rfl⟩ : ∃ q, k = q + 1 := ⟨k - 1, by omega⟩
      have e : y = pp_P n := by omega
      rw [e]
      unfold wY_support_36
      exact pp_yt h3 h6 (br_t (nI_le (by omega) (by omega)) (K _ _ _ _ _ _ hK))
    | succ d ih =>
      intro y k kn ne fa co de nd hy hk hK
      obtain ⟨k, rfl⟩ : ∃ q, k = q + 1 := ⟨k - 1, by omega⟩
      have IH := fun kn ne fa co de nd h => ih (y + 1) k kn ne fa co de nd (by omega) (by omega) h
      have b2 := pp_su_le (ss := ss) h3 h6 hV (show y < pp_P n by omega) hs
      have eq : pp_cs (fun c => pp_su n ss ws c s) (fun c => pp_sp n c x) l (y + 1) = if pp_su n ss ws y s = l ∧ pp_sp n y x = true then pp_cs (fun c => pp_su n ss ws c s) (fun c => pp_sp n c x) l y + 1 else pp_cs (fun c => pp_su n ss ws c s) (fun c => pp_sp n c x) l y := rfl
      unfold wY_support_36
      refine pp_yt h3 h6 (br_f (nI_ge (by omega) (by omega)) ?_)
      refine pp_ys h3 h6 hs hS hV (by omega) hK ?_
      intro kn' ne' fa' co' de' nd' hk'
      by_cases z : pp_su n ss ws y s = l
      · refine br_t (by rw [z]) ?_
        refine pp_yse h3 h6 (by omega) hx ?_
        intro ne'' fa''
        by_cases w : pp_sp n y x = true
        · rw [if_pos ⟨z, w⟩] at eq
          rw [eq] at IH
          rw [if_pos w]
          exact br_f (by decide) (nm_r (nI_1 _) (nm_r (nI_1 y) (IH _ _ _ _ _ _ hk')))
        · rw [if_neg (fun h => w h.2)] at eq
          rw [eq] at IH
          rw [if_neg w]
          exact br_t rfl (nm_r (nI_1 y) (IH _ _ _ _ _ _ hk'))
      · rw [if_neg (fun h => z h.1)] at eq
        rw [eq] at IH
        exact br_f (fun w => z ((nI_eq (by omega) (by omega)).mp w)) (nm_r (nI_1 y) (IH _ _ _ _ _ _ hk'))
  exact Exists.intro _ (L (pp_P n) 0 (pp_P n + 1) kn ne fa co de nd (by omega) (by omega) hk)
end
end
section
/-! the relation, and what is owed -/
def i_Rel (_ : Nat) (u : SX) (v : SY) : Prop := ∃ (n s : Nat) (ss ws : Nat → Int32) (ec : Int32) (ft lb rb dw fs fd : Nat → Int32) (kn : Int32) (ne fa co de nd : Nat → Int32),
  3 ≤ n ∧ n ≤ 6 ∧ 1 ≤ s ∧ s ≤ 8 ∧ pp_S ss ∧ pp_V ws ∧ pp_Yk False n s ss kn nd ∧
  u = (nI n, nI s, nI (pp_P n), ec, ss, ws, ft, lb, rb, dw, fs, fd) ∧ v = (nI n, nI s, kn, ss, ws, ne, fa, co, de, nd)
theorem i_up {k : Nat} {u : SX} {v : SY} (h : i_Rel k u v) : i_Rel (k + 4) u v := h
theorem pp_rel {k n s : Nat} {ss ws : Nat → Int32} (h3 : 3 ≤ n) (h6 : n ≤ 6) (h1 : 1 ≤ s) (h8 : s ≤ 8) (hS : pp_S ss) (hV : pp_V ws) {ec : Int32} {ft lb rb dw fs fd : Nat → Int32} {kn : Int32} {ne fa co de nd : Nat → Int32} (hk : pp_Yk False n s ss kn nd) :
    i_Rel k (nI n, nI s, nI (pp_P n), ec, ss, ws, ft, lb, rb, dw, fs, fd) (nI n, nI s, kn, ss, ws, ne, fa, co, de, nd) :=
  ⟨n, s, ss, ws, ec, ft, lb, rb, dw, fs, fd, kn, ne, fa, co, de, nd, h3, h6, h1, h8, hS, hV, hk, rfl, rfl⟩
theorem pp_ct {post : Int32 → Prop} {n : Nat} (h3 : 3 ≤ n) (h6 : n ≤ 6) (K : post (nI (pp_P n))) : wpX_countTrees post (nI n) := by
  have L : ∀ d t k, t + d = n → 3 ≤ t → d < k → wX_countTrees_4 post (nI n) k (nI (pp_P t)) (nI t) := by
    intro d
    induction d with
    | zero =>
      intro t k ht h3 hk
      obtain ⟨k, rfl⟩ : ∃ q, k = q + 1 := ⟨k - 1, by omega⟩
      have e : t = n := by omega
      subst e
      exact br_t (nI_le (by omega) (by omega)) K
    | succ d ih =>
      intro t k ht h3 hk
      obtain ⟨k, rfl⟩ : ∃ q, k = q + 1 := ⟨k - 1, by omega⟩
      refine br_f (nI_ge (by omega) (by omega)) (pp_eb h3 (nm_r (e' := nI (pp_P (t + 1))) (by rw [pk_mul, pp_P_s h3 (by omega)]) (nm_r (nI_1 t) (ih (t + 1) k (by omega) (by omega) (by omega)))))
  exact Exists.intro 4 (L (n - 3) 3 4 (by omega) (by omega) (by omega))
def pp_fl (x : Int32) (i : Nat) : Nat → Int32 := fun j => if j < i then x else 0
theorem pp_fl_0 (x : Int32) : pp_fl x 0 = fun _ => 0 := by
  funext j
  exact if_neg (Nat.not_lt_zero j)
theorem pp_fl_s (x : Int32) (i : Nat) : upd (pp_fl x i) i x = pp_fl x (i + 1) := by
  funext j
  by_cases e : j = i
  · subst e; rw [pk_us]; exact (if_pos (Nat.lt_succ_self j)).symm
  · rw [pk_un e]
    unfold pp_fl
    have : j < i ↔ j < i + 1 := by omega
    simp only [this]
theorem pp_xi {post : SX → Prop} {tc sc rc ec : Int32} {ft lb rb dw fs fd : Nat → Int32} (K : post (tc, sc, rc, ec, pp_fl 15 48, pp_fl 1 8, ft, lb, rb, dw, fs, fd)) :
    ∃ k, wX_init_103 post tc sc rc ec k 0 (fun _ => 0) (fun _ => 0) ft lb rb dw fs fd := by
  have L2 : ∀ d i k, i + d = 8 → d < k → wX_init_125 post tc sc rc ec k (nI i) (pp_fl 15 48) (pp_fl 1 i) ft lb rb dw fs fd := by
    intro d
    induction d with
    | zero =>
      intro i k hi hk
      obtain ⟨k, rfl⟩ : ∃ q, k = q + 1 := ⟨k - 1, by omega⟩
      have e : i = 8 := by omega
      subst e
      exact br_t (nI_le (a := 8) (b := 8) (by omega) (by omega)) K
    | succ d ih =>
      intro i k hi hk
      obtain ⟨k, rfl⟩ : ∃ q, k = q + 1 := ⟨k - 1, by omega⟩
      exact br_f (nI_ge (b := 8) (by omega) (by omega)) (And.intro (vp_in_nI (by omega) (by omega)) (nm_r (e' := pp_fl 1 (i + 1)) (by rw [nI_clamp (by omega), pp_fl_s]) (nm_r (nI_1 i) (ih (i + 1) k (by omega) (by omega)))))
  have L1 : ∀ d i k, i + d = 48 → d < k → wX_init_103 post tc sc rc ec k (nI i) (pp_fl 15 i) (fun _ => 0) ft lb rb dw fs fd := by
    intro d
    induction d with
    | zero =>
      intro i k hi hk
      obtain ⟨k, rfl⟩ : ∃ q, k = q + 1 := ⟨k - 1, by omega⟩
      have e : i = 48 := by omega
      subst e
      have := L2 8 0 9 (by omega) (by omega)
      rw [pp_fl_0] at this
      exact br_t (nI_le (a := 48) (b := 48) (by omega) (by omega)) (Exists.intro _ this)
    | succ d ih =>
      intro i k hi hk
      obtain ⟨k, rfl⟩ : ∃ q, k = q + 1 := ⟨k - 1, by omega⟩
      exact br_f (nI_ge (b := 48) (by omega) (by omega)) (And.intro (vp_in_nI (by omega) (by omega)) (nm_r (e' := pp_fl 15 (i + 1)) (by rw [nI_clamp (by omega), pp_fl_s]) (nm_r (nI_1 i) (ih (i + 1) k (by omega) (by omega)))))
  have := L1 48 0 49 (by omega) (by omega)
  rw [pp_fl_0] at this
  exact Exists.intro _ this
theorem pp_yi {post : SY → Prop} {fn si kn : Int32} {ne fa co de nd : Nat → Int32} (K : post (fn, si, kn, pp_fl 15 48, pp_fl 1 8, ne, fa, co, de, nd)) :
    ∃ k, wY_init_116 post fn si kn k 0 (fun _ => 0) (fun _ => 0) ne fa co de nd := by
  have L2 : ∀ d i k, i + d = 8 → d < k → wY_init_141 post fn si kn k (nI i) (pp_fl 15 48) (pp_fl 1 i) ne fa co de nd := by
    intro d
    induction d with
    | zero =>
      intro i k hi hk
      obtain ⟨k, rfl⟩ : ∃ q, k = q + 1 := ⟨k - 1, by omega⟩
      have e : i = 8 := by omega
      subst e
      exact br_t (nI_le (a := 8) (b := 8) (by omega) (by omega)) K
    | succ d ih =>
      intro i k hi hk
      obtain ⟨k, rfl⟩ : ∃ q, k = q + 1 := ⟨k - 1, by omega⟩
      exact br_f (nI_ge (b := 8) (by omega) (by omega)) (And.intro (vp_in_nI (by omega) (by omega)) (nm_r (e' := pp_fl 1 (i + 1)) (by rw [nI_clamp (by omega), pp_fl_s]) (nm_r (nI_1 i) (ih (i + 1) k (by omega) (by omega)))))
  have L1 : ∀ d i k, i + d = 48 → d < k → wY_init_116 post fn si kn k (nI i) (pp_fl 15 i) (fun _ => 0) ne fa co de nd := by
    intro d
    induction d with
    | zero =>
      intro i k hi hk
      obtain ⟨k, rfl⟩ : ∃ q, k = q + 1 := ⟨k - 1, by omega⟩
      have e : i = 48 := by omega
      subst e
      have := L2 8 0 9 (by omega) (by omega)
      rw [pp_fl_0] at this
      exact br_t (nI_le (a := 48) (b := 48) (by omega) (by omega)) (Exists.intro _ this)
    | succ d ih =>
      intro i k hi hk
      obtain ⟨k, rfl⟩ : ∃ q, k = q + 1 := ⟨k - 1, by omega⟩
      exact br_f (nI_ge (b := 48) (by omega) (by omega)) (And.intro (vp_in_nI (by omega) (by omega)) (nm_r (e' := pp_fl 15 (i + 1)) (by rw [nI_clamp (by omega), pp_fl_s]) (nm_r (nI_1 i) (ih (i + 1) k (by omega) (by omega)))))
  have := L1 48 0 49 (by omega) (by omega)
  rw [pp_fl_0] at this
  exact Exists.intro _ this
theorem pp_i1 (k0 : Int32) : ∃ n, 3 ≤ n ∧ n ≤ 6 ∧ (∀ post : Int32 → Prop, post (nI n) → wpX_clamp post k0 3 6) ∧ (∀ (post : SY → Prop) (k1 : Int32), wY_init_79 post k1 (nI n) 0 0 0 (fun _ => 0) (fun _ => 0) (fun _ => 0) (fun _ => 0) (fun _ => 0) (fun _ => 0) (fun _ => 0) → wpY_init post k0 k1) := by
  by_cases a : (3 : Int32) ≤ k0
  · by_cases b : k0 ≤ 6
    · have h0 : ¬ k0 < 0 := fun z => absurd (Int32.lt_of_le_of_lt a z) (by decide)
      obtain ⟨n, hn, rfl⟩ := nI_of2 (M := 6) (n := 6) (by decide) h0 b
      have h3 : 3 ≤ n := (nI_leI (a := 3) (by omega) (by omega)).mp a
      exact ⟨n, h3, hn, fun post h => br_t a (br_t b h), fun post k1 h => br_t a (br_t b h)⟩
    · exact ⟨6, by omega, by omega, fun post h => br_t a (br_f b h), fun post k1 h => br_t a (br_f b h)⟩
  · exact ⟨3, by omega, by omega, fun post h => br_f a h, fun post k1 h => br_f a (br_t (by decide) h)⟩
theorem pp_i2 (k1 : Int32) : ∃ s, 1 ≤ s ∧ s ≤ 8 ∧ (∀ post : Int32 → Prop, post (nI s) → wpX_clamp post k1 1 8) ∧ (∀ (post : SY → Prop) (x f g h : Int32) (ss ws ne fa co de nd : Nat → Int32), wY_init_102 post x (nI s) f g h ss ws ne fa co de nd → wY_init_79 post k1 x f g h ss ws ne fa co de nd) := by
  by_cases a : (1 : Int32) ≤ k1
  · by_cases b : k1 ≤ 8
    · have h0 : ¬ k1 < 0 := fun z => absurd (Int32.lt_of_le_of_lt a z) (by decide)
      obtain ⟨n, hn, rfl⟩ := nI_of2 (M := 8) (n := 8) (by decide) h0 b
      have h3 : 1 ≤ n := (nI_leI (a := 1) (by omega) (by omega)).mp a
      exact ⟨n, h3, hn, fun post h => br_t a (br_t b h), fun post x f g h ss ws ne fa co de nd q => br_t a (br_t b q)⟩
    · exact ⟨8, by omega, by omega, fun post h => br_t a (br_f b h), fun post x f g h ss ws ne fa co de nd q => br_t a (br_f b q)⟩
  · exact ⟨1, by omega, by omega, fun post h => br_f a h, fun post x f g h ss ws ne fa co de nd q => br_f a (br_t (by decide) q)⟩
theorem i_vc0 (k0 : Int32) (k1 : Int32) : wpX_init (fun u => wpY_init (fun v => i_Rel 2 u v) k0 k1) k0 k1 := by
  obtain ⟨n, h3, h6, X1, Y1⟩ := pp_i1 k0
  obtain ⟨s, h1, h8, X2, Y2⟩ := pp_i2 k1
  unfold wpX_init
  refine X1 _ (X2 _ (pp_ct h3 h6 (pp_xi (Y1 _ _ (Y2 _ _ _ _ _ _ _ _ _ _ _ _ (pp_yi (pp_rel h3 h6 h1 h8 ?_ ?_ ⟨fun z => z.elim, fun z => absurd rfl z⟩)))))))
  · intro j hj
    exact ⟨15, by omega, by omega, if_pos hj⟩
  · intro j hj
    exact ⟨1, by omega, if_pos hj⟩
theorem i_vc_states {k : Nat} {u : SX} {v : SY} (I : i_Rel k u v) (hk : k + 4 ≤ 2050) (v1 : Int32) (v2 : Int32) (v3 : Int32) : wpX_states (fun r u' => wpY_states (fun r' v' => r' = r ∧ i_Rel (k + 4) u' v') v v1 v2 v3) u v1 v2 v3 := by
  obtain ⟨n, s, ss, ws, ec, ft, lb, rb, dw, fs, fd, kn, ne, fa, co, de, nd, h3, h6, h1, h8, hS, hV, hK, rfl, rfl⟩ := I
  have R : i_Rel (k + 4) (nI n, nI s, nI (pp_P n), ec, ss, ws, ft, lb, rb, dw, fs, fd) (nI n, nI s, kn, ss, ws, ne, fa, co, de, nd) := pp_rel h3 h6 h1 h8 hS hV hK
  by_cases a1 : v1 < 0
  · exact br_t a1 (br_t a1 ⟨rfl, R⟩)
  refine br_f a1 ?_
  by_cases a2 : v1 < nI n
  · refine br_t a2 ?_
    by_cases b1 : v2 < 0
    · exact br_t b1 (br_t rfl (br_f a1 (br_t a2 (br_t b1 (br_f (by decide) ⟨rfl, R⟩)))))
    by_cases b2 : nI s ≤ v2
    · exact br_f b1 (br_t b2 (br_t rfl (br_f a1 (br_t a2 (br_f b1 (br_f (Int32.not_lt.mpr b2) (br_f (by decide) ⟨rfl, R⟩)))))))
    have b3 : v2 < nI s := Int32.not_le.mp b2
    refine br_f b1 (br_f b2 (br_f (by decide) ?_))
    by_cases c1 : v3 < 1
    · exact br_t c1 (br_f a1 (br_t a2 (br_f b1 (br_t b3 (br_t rfl (br_t c1 ⟨rfl, R⟩))))))
    by_cases c2 : v3 ≤ 15
    · obtain ⟨t, ht, rfl⟩ := nI_of a1
      obtain ⟨i, hi, rfl⟩ := nI_of b1
      have ht2 := (nI_ltI ht (by omega)).mp a2
      have hi2 := (nI_ltI hi (by omega)).mp b3
      have hix : nI t * 8 + nI i = nI (t * 8 + i) := by rw [show (8 : Int32) = nI 8 from rfl, pk_mul, nI_add]
      have hin : vp_in (nI (t * 8 + i)) 48 := vp_in_nI (by omega) (by omega)
      have hin2 : vp_in (nI t * 8 + nI i) 48 := by rw [hix]; exact hin
      have hcl : (nI (t * 8 + i)).toNatClampNeg = t * 8 + i := nI_clamp (by omega)
      have hv3 : ∃ w, 1 ≤ w ∧ w < 16 ∧ v3 = nI w := by
        have h0 : ¬ v3 < 0 := fun z => c1 (Int32.lt_trans z (by decide))
        obtain ⟨w, hw, rfl⟩ := nI_of2 (M := 15) (n := 15) (by decide) h0 c2
        refine ⟨w, ?_, by omega, rfl⟩
        by_cases z : w = 0
        · subst z; exact absurd (show nI 0 < 1 by decide) c1
        · omega
      refine br_f c1 (br_t c2 (nm_r hix (And.intro hin (nm_e (And.intro hin (nm_r (e' := upd ss (t * 8 + i) v3) (by rw [hcl]) ?_))))))
      refine br_f a1 (br_t a2 (br_f b1 (br_t b3 (br_t rfl (br_f c1 (br_t c2 (And.intro hin2 (nm_r (e' := ss (t * 8 + i)) (by rw [hix, hcl]) (And.intro hin2 (nm_r (e' := upd ss (t * 8 + i) v3) (by rw [hix, hcl]) ⟨by rw [hcl], pp_rel h3 h6 h1 h8 ?_ hV ⟨fun z => z.elim, fun z => absurd rfl z⟩⟩))))))))))
      intro j hj
      by_cases e : j = t * 8 + i
      · subst e; rw [pk_us]; exact hv3
      · rw [pk_un e]; exact hS j hj
    · exact br_f c1 (br_f c2 (br_f a1 (br_t a2 (br_f b1 (br_t b3 (br_t rfl (br_f c1 (br_f c2 ⟨rfl, R⟩))))))))
  · exact br_f a2 (br_f a1 (br_f a2 ⟨rfl, R⟩))
theorem i_vc_weight {k : Nat} {u : SX} {v : SY} (I : i_Rel k u v) (hk : k + 4 ≤ 2050) (v1 : Int32) (v2 : Int32) : wpX_weight (fun r u' => wpY_weight (fun r' v' => r' = r ∧ i_Rel (k + 4) u' v') v v1 v2) u v1 v2 := by
  obtain ⟨n, s, ss, ws, ec, ft, lb, rb, dw, fs, fd, kn, ne, fa, co, de, nd, h3, h6, h1, h8, hS, hV, hK, rfl, rfl⟩ := I
  have R : i_Rel (k + 4) (nI n, nI s, nI (pp_P n), ec, ss, ws, ft, lb, rb, dw, fs, fd) (nI n, nI s, kn, ss, ws, ne, fa, co, de, nd) := pp_rel h3 h6 h1 h8 hS hV hK
  unfold wpX_weight wpY_weight
  dsimp only
  by_cases b1 : v1 < 0
  · exact br_t b1 (br_t rfl (br_t b1 (br_f (by decide) ⟨rfl, R⟩)))
  by_cases b2 : nI s ≤ v1
  · exact br_f b1 (br_t b2 (br_t rfl (br_f b1 (br_f (Int32.not_lt.mpr b2) (br_f (by decide) ⟨rfl, R⟩)))))
  have b3 : v1 < nI s := Int32.not_le.mp b2
  refine br_f b1 (br_f b2 (br_f (by decide) ?_))
  by_cases c1 : v2 < 0
  · exact br_t c1 (br_f b1 (br_t b3 (br_t rfl (br_t c1 ⟨rfl, R⟩))))
  by_cases c2 : v2 ≤ 9
  · obtain ⟨i, hi, rfl⟩ := nI_of b1
    have hi2 := (nI_ltI hi (by omega)).mp b3
    have hin : vp_in (nI i) 8 := vp_in_nI (by omega) (by omega)
    have hcl : (nI i).toNatClampNeg = i := nI_clamp (by omega)
    obtain ⟨w, hw, rfl⟩ := nI_of2 (M := 9) (n := 9) (by decide) c1 c2
    refine br_f c1 (br_t c2 (And.intro hin (nm_e (And.intro hin (nm_r (e' := upd ws i (nI w)) (by rw [hcl]) ?_)))))
    refine br_f b1 (br_t b3 (br_t rfl (br_f c1 (br_t c2 (And.intro hin (nm_e (And.intro hin (nm_r (e' := upd ws i (nI w)) (by rw [hcl]) ⟨rfl, pp_rel h3 h6 h1 h8 hS ?_ hK⟩))))))))
    intro j hj
    by_cases e : j = i
    · subst e; exact ⟨w, by omega, pk_us⟩
    · rw [pk_un e]; exact hV j hj
  · exact br_f c1 (br_f c2 (br_f b1 (br_t b3 (br_t rfl (br_f c1 (br_f c2 ⟨rfl, R⟩))))))
theorem i_vc_trees {k : Nat} {u : SX} {v : SY} (I : i_Rel k u v) (hk : k + 4 ≤ 2050) : wpX_trees (fun r => wpY_trees (fun r' => r' = r ∧ i_Rel (k + 4) u v) v) u := by
  obtain ⟨n, s, ss, ws, ec, ft, lb, rb, dw, fs, fd, kn, ne, fa, co, de, nd, h3, h6, h1, h8, hS, hV, hK, rfl, rfl⟩ := I
  unfold wpX_trees
  exact pp_yt h3 h6 ⟨rfl, pp_rel h3 h6 h1 h8 hS hV hK⟩
theorem pp_kF {n s : Nat} {ss nd : Nat → Int32} {kn : Int32} (h : pp_Yk True n s ss kn nd) : pp_Yk False n s ss kn nd := ⟨fun z => z.elim, h.2⟩
theorem i_vc_score {k : Nat} {u : SX} {v : SY} (I : i_Rel k u v) (hk : k + 4 ≤ 2050) (v1 : Int32) : wpX_score (fun r u' => wpY_score (fun r' v' => r' = r ∧ i_Rel (k + 4) u' v') v v1) u v1 := by
  obtain ⟨n, s, ss, ws, ec, ft, lb, rb, dw, fs, fd, kn, ne, fa, co, de, nd, h3, h6, h1, h8, hS, hV, hK, rfl, rfl⟩ := I
  have R : i_Rel (k + 4) (nI n, nI s, nI (pp_P n), ec, ss, ws, ft, lb, rb, dw, fs, fd) (nI n, nI s, kn, ss, ws, ne, fa, co, de, nd) := pp_rel h3 h6 h1 h8 hS hV hK
  have hP := pp_P_0 n
  by_cases a1 : v1 < 0
  · exact br_t a1 (br_t a1 ⟨rfl, R⟩)
  by_cases a2 : v1 < nI (pp_P n)
  · obtain ⟨c, hc, rfl⟩ := nI_of a1
    have hc2 := (nI_ltI hc (by omega)).mp a2
    refine pp_xs h3 h6 h8 hS hV hc2 ?_
    intro ec ft lb rb dw fs
    refine pp_ys h3 h6 h8 hS hV hc2 hK ?_
    intro kn ne fa co de nd hK
    exact ⟨rfl, pp_rel h3 h6 h1 h8 hS hV (pp_kF hK)⟩
  · refine br_f a1 (br_f a2 ?_)
    unfold wpY_score
    exact br_f a1 (pp_yt h3 h6 (br_f a2 ⟨rfl, R⟩))
theorem i_vc_least {k : Nat} {u : SX} {v : SY} (I : i_Rel k u v) (hk : k + 4 ≤ 2050) : wpX_least (fun r u' => wpY_least (fun r' v' => r' = r ∧ i_Rel (k + 4) u' v') v) u := by
  obtain ⟨n, s, ss, ws, ec, ft, lb, rb, dw, fs, fd, kn, ne, fa, co, de, nd, h3, h6, h1, h8, hS, hV, hK, rfl, rfl⟩ := I
  have hP := pp_P_0 n
  unfold wpX_least
  refine pp_fb h3 h6 h8 hS hV ?_
  intro ec ft lb rb dw fs
  refine pp_xs h3 h6 h8 hS hV (pp_bk_in hP.1) ?_
  intro ec ft lb rb dw fs
  refine pp_yle h3 h6 h8 hS hV hK ?_
  intro kn ne fa co de nd hK
  exact ⟨rfl, pp_rel h3 h6 h1 h8 hS hV (pp_kF hK)⟩
theorem i_vc_bestTree {k : Nat} {u : SX} {v : SY} (I : i_Rel k u v) (hk : k + 4 ≤ 2050) : wpX_bestTree (fun r u' => wpY_bestTree (fun r' v' => r' = r ∧ i_Rel (k + 4) u' v') v) u := by
  obtain ⟨n, s, ss, ws, ec, ft, lb, rb, dw, fs, fd, kn, ne, fa, co, de, nd, h3, h6, h1, h8, hS, hV, hK, rfl, rfl⟩ := I
  unfold wpX_bestTree
  refine pp_fb h3 h6 h8 hS hV ?_
  intro ec ft lb rb dw fs
  refine pp_yk h3 h6 h8 hS hV hK ?_
  intro kn ne fa co de nd hK
  exact ⟨rfl, pp_rel h3 h6 h1 h8 hS hV hK⟩
theorem i_vc_within {k : Nat} {u : SX} {v : SY} (I : i_Rel k u v) (hk : k + 4 ≤ 2050) (v1 : Int32) : wpX_within (fun r u' => wpY_within (fun r' v' => r' = r ∧ i_Rel (k + 4) u' v') v v1) u v1 := by
  obtain ⟨n, s, ss, ws, ec, ft, lb, rb, dw, fs, fd, kn, ne, fa, co, de, nd, h3, h6, h1, h8, hS, hV, hK, rfl, rfl⟩ := I
  by_cases a1 : v1 < 0
  · refine br_f (Int32.not_le.mpr a1) ?_
    refine pp_ywi h3 h6 h8 hS hV hK ?_
    intro kn ne fa co de nd hK
    rw [if_pos a1]
    exact ⟨rfl, pp_rel h3 h6 h1 h8 hS hV (pp_kF hK)⟩
  · refine pp_xl h3 h6 h8 hS hV (Int32.not_lt.mp a1) ?_
    intro ec ft lb rb dw fs
    refine pp_ywi h3 h6 h8 hS hV hK ?_
    intro kn ne fa co de nd hK
    rw [if_neg a1]
    exact ⟨rfl, pp_rel h3 h6 h1 h8 hS hV (pp_kF hK)⟩
theorem pp_xor : ∀ n, n < 7 → 3 ≤ n → ∀ x, x < 2 ^ n → (2 ^ n - 1) ^^^ x = 2 ^ n - 1 - x := by decide +kernel
theorem i_vc_support {k : Nat} {u : SX} {v : SY} (I : i_Rel k u v) (hk : k + 4 ≤ 2050) (v1 : Int32) : wpX_support (fun r u' => wpY_support (fun r' v' => r' = r ∧ i_Rel (k + 4) u' v') v v1) u v1 := by
  obtain ⟨n, s, ss, ws, ec, ft, lb, rb, dw, fs, fd, kn, ne, fa, co, de, nd, h3, h6, h1, h8, hS, hV, hK, rfl, rfl⟩ := I
  have R : i_Rel (k + 4) (nI n, nI s, nI (pp_P n), ec, ss, ws, ft, lb, rb, dw, fs, fd) (nI n, nI s, kn, ss, ws, ne, fa, co, de, nd) := pp_rel h3 h6 h1 h8 hS hV hK
  have hP := pp_P_0 n
  have h64 : 2 ^ n ≤ 64 := by
    have : 2 ^ n ≤ 2 ^ 6 := Nat.pow_le_pow_right (by omega) h6
    omega
  have h2n : 0 < 2 ^ n := Nat.two_pow_pos n
  have e1 : ((1 : Int32) <<< (nI n &&& 31)) - 1 = nI (2 ^ n - 1) := by rw [pp_shl n (by omega), show (1 : Int32) = nI 1 from rfl, pk_sub (by omega)]
  obtain ⟨x, hx, e2⟩ := pk_andE v1 (m := nI (2 ^ n - 1)) n (pk_tn (by omega))
  unfold wpX_support
  refine nm_r e1 (nm_r e2 ?_)
  have Y : ∀ (r : Int32) (u : SX), (x = 0 → r = 0 ∧ i_Rel (k + 4) u (nI n, nI s, kn, ss, ws, ne, fa, co, de, nd)) → (x = 2 ^ n - 1 → r = 0 ∧ i_Rel (k + 4) u (nI n, nI s, kn, ss, ws, ne, fa, co, de, nd)) → (x ≠ 0 → x ≠ 2 ^ n - 1 → ∀ kn ne fa co de nd, pp_Yk True n s ss kn nd → nI (pp_cs (fun c => pp_su n ss ws c s) (fun c => pp_sp n c x) (pp_su n ss ws (pp_bk (fun c => pp_su n ss ws c s) (pp_P n)) s) (pp_P n)) = r ∧ i_Rel (k + 4) u (nI n, nI s, kn, ss, ws, ne, fa, co, de, nd)) →
      wpY_support (fun r' v' => r' = r ∧ i_Rel (k + 4) u v') (nI n, nI s, kn, ss, ws, ne, fa, co, de, nd) v1 := by
    intro r u q1 q2 q3
    unfold wpY_support
    refine nm_r e1 (nm_r e2 ?_)
    by_cases z1 : x = 0
    · exact br_t (by rw [z1]; rfl) ⟨(q1 z1).1.symm, (q1 z1).2⟩
    refine br_f (nI_ne0 (by omega) (by omega)) ?_
    by_cases z2 : x = 2 ^ n - 1
    · exact br_t (by rw [z2]) ⟨(q2 z2).1.symm, (q2 z2).2⟩
    refine br_f (fun w => z2 ((nI_eq (by omega) (by omega)).mp w)) ?_
    refine pp_yle h3 h6 h8 hS hV hK ?_
    intro kn ne fa co de nd hK
    have hb := pp_su_le (ss := ss) h3 h6 hV (pp_bk_in (f := fun c => pp_su n ss ws c s) hP.1) h8
    refine pp_yu h3 h6 h8 hS hV hx (by omega) hK ?_
    intro kn ne fa co de nd hK
    exact q3 z1 z2 _ _ _ _ _ _ hK
  by_cases z1 : x = 0
  · exact br_t (by rw [z1]; rfl) (Y _ _ (fun _ => ⟨rfl, R⟩) (fun _ => ⟨rfl, R⟩) (fun w => absurd z1 w))
  refine br_f (nI_ne0 (by omega) (by omega)) ?_
  by_cases z2 : x = 2 ^ n - 1
  · exact br_t (by rw [z2]) (Y _ _ (fun _ => ⟨rfl, R⟩) (fun _ => ⟨rfl, R⟩) (fun _ w => absurd z2 w))
  refine br_f (fun w => z2 ((nI_eq (by omega) (by omega)).mp w)) ?_
  have F : ∀ y, y = (if x % 2 = 1 then 2 ^ n - 1 - x else x) → wX_support_35 (fun r u' => wpY_support (fun r' v' => r' = r ∧ i_Rel (k + 4) u' v') (nI n, nI s, kn, ss, ws, ne, fa, co, de, nd) v1) (nI y) (nI n) (nI s) (nI (pp_P n)) ec ss ws ft lb rb dw fs fd := by
    intro y hy
    refine pp_xu h3 h6 h8 hS hV (by rw [hy]; split <;> omega) ?_
    intro ec ft lb rb dw fs fd
    refine Y _ _ (fun w => absurd w z1) (fun w => absurd w z2) ?_
    intro _ _ kn ne fa co de nd hK
    refine ⟨?_, pp_rel h3 h6 h1 h8 hS hV (pp_kF hK)⟩
    rw [hy, pp_cs_c (fun c hc => pp_sp_eq h3 h6 hc hx)]
  have ea : nI x &&& 1 = nI (x % 2) := pk_andN (by omega) 1 (by decide)
  rw [ea]
  by_cases z : x % 2 = 1
  · rw [if_pos z] at F
    refine br_t (by rw [z]; rfl) (nm_r (e' := nI (2 ^ n - 1 - x)) (by rw [nx_xor, pp_xor n (by omega) h3 x hx]) (F _ rfl))
  · rw [if_neg z] at F
    refine br_f (fun w => z ((nI_eq (b := 1) (by omega) (by omega)).mp w)) (F _ rfl)
theorem i_vc_siteLeast {k : Nat} {u : SX} {v : SY} (I : i_Rel k u v) (hk : k + 4 ≤ 2050) (v1 : Int32) : wpX_siteLeast (fun r u' => wpY_siteLeast (fun r' v' => r' = r ∧ i_Rel (k + 4) u' v') v v1) u v1 := by
  obtain ⟨n, s, ss, ws, ec, ft, lb, rb, dw, fs, fd, kn, ne, fa, co, de, nd, h3, h6, h1, h8, hS, hV, hK, rfl, rfl⟩ := I
  have R : i_Rel (k + 4) (nI n, nI s, nI (pp_P n), ec, ss, ws, ft, lb, rb, dw, fs, fd) (nI n, nI s, kn, ss, ws, ne, fa, co, de, nd) := pp_rel h3 h6 h1 h8 hS hV hK
  have hP := pp_P_0 n
  by_cases b1 : v1 < 0
  · unfold wpX_siteLeast wpY_siteLeast
    exact br_t b1 (br_t rfl (br_t b1 (br_f (by decide) ⟨rfl, R⟩)))
  by_cases b2 : nI s ≤ v1
  · unfold wpX_siteLeast wpY_siteLeast
    exact br_f b1 (br_t b2 (br_t rfl (br_f b1 (br_f (Int32.not_lt.mpr b2) (br_f (by decide) ⟨rfl, R⟩)))))
  obtain ⟨i, hi, rfl⟩ := nI_of b1
  have hi2 : i < s := (nI_ltI hi (by omega)).mp (Int32.not_le.mp b2)
  refine pp_xm h3 h6 h8 hS hi2 ?_
  intro ec ft lb rb dw fs
  refine pp_ysl h3 h6 h8 hS hV hi2 hK ?_
  intro kn ne fa co de nd hK
  refine ⟨?_, pp_rel h3 h6 h1 h8 hS hV (pp_kF hK)⟩
  have hw := pp_w_s hV (show i < 8 by omega)
  obtain ⟨p, hp⟩ : ∃ p, pp_P n = p + 1 := ⟨pp_P n - 1, by omega⟩
  rw [hw.1, pk_mul, hp, pp_bm_ml (g := fun c => pp_D (pp_W ss i) (pp_tr n c))]
  intro c hc
  have : pp_D (pp_W ss i) (pp_tr n c) * pp_w ws i ≤ 5 * 9 := Nat.mul_le_mul (pp_D_le (pp_tree h3 h6 (by omega)).2) (by omega)
  omega
theorem i_vc_changes {k : Nat} {u : SX} {v : SY} (I : i_Rel k u v) (hk : k + 4 ≤ 2050) (v1 : Int32) : wpX_changes (fun r u' => wpY_changes (fun r' v' => r' = r ∧ i_Rel (k + 4) u' v') v v1) u v1 := by
  obtain ⟨n, s, ss, ws, ec, ft, lb, rb, dw, fs, fd, kn, ne, fa, co, de, nd, h3, h6, h1, h8, hS, hV, hK, rfl, rfl⟩ := I
  have R : i_Rel (k + 4) (nI n, nI s, nI (pp_P n), ec, ss, ws, ft, lb, rb, dw, fs, fd) (nI n, nI s, kn, ss, ws, ne, fa, co, de, nd) := pp_rel h3 h6 h1 h8 hS hV hK
  by_cases b1 : v1 < 0
  · unfold wpX_changes wpY_changes
    exact br_t b1 (br_t rfl (br_t b1 (br_f (by decide) ⟨rfl, R⟩)))
  by_cases b2 : nI s ≤ v1
  · unfold wpX_changes wpY_changes
    exact br_f b1 (br_t b2 (br_t rfl (br_f b1 (br_f (Int32.not_lt.mpr b2) (br_f (by decide) ⟨rfl, R⟩)))))
  obtain ⟨i, hi, rfl⟩ := nI_of b1
  have hi2 : i < s := (nI_ltI hi (by omega)).mp (Int32.not_le.mp b2)
  refine pp_xc h3 h6 h8 hS hV hi2 ?_
  intro ec ft lb rb dw fs
  refine pp_yc h3 h6 h8 hS hV hi2 hK ?_
  intro kn ne fa co de nd hK
  exact ⟨rfl, pp_rel h3 h6 h1 h8 hS hV (pp_kF hK)⟩
end
