def bt (x : Int32) (i : Nat) : Bool := x.toBitVec.getLsbD i
theorem b_ext {x y : Int32} (h : ∀ i, i < 32 → bt x i = bt y i) : x = y := Int32.toBitVec_inj.mp (BitVec.eq_of_getLsbD_eq (fun i hi => h i hi))
theorem b_or (x y : Int32) (i : Nat) : bt (x ||| y) i = (bt x i || bt y i) := by unfold bt; rw [Int32.toBitVec_or, BitVec.getLsbD_or]
theorem b_and (x y : Int32) (i : Nat) : bt (x &&& y) i = (bt x i && bt y i) := by unfold bt; rw [Int32.toBitVec_and, BitVec.getLsbD_and]
theorem b_xor (x y : Int32) (i : Nat) : bt (x ^^^ y) i = (bt x i ^^ bt y i) := by unfold bt; rw [Int32.toBitVec_xor, BitVec.getLsbD_xor]
theorem b_big {x : Int32} {i : Nat} (h : 32 ≤ i) : bt x i = false := BitVec.getLsbD_of_ge _ _ h
theorem b_m1 : ∀ i, i < 32 → bt (-1) i = true := by decide +kernel
theorem b_0 (i : Nat) : bt 0 i = false := BitVec.getLsbD_zero
theorem s_l : ∀ n, n < 32 → ((nI n &&& 31).toBitVec.smod 32).toNat = n := by decide +kernel
theorem b_shl (n : Nat) (hn : n < 32) (x : Int32) {i : Nat} (hi : i < 32) : bt (x <<< (nI n &&& 31)) i = (decide (n ≤ i) && bt x (i - n)) := by
  unfold bt
  rw [Int32.toBitVec_shiftLeft]
  show (x.toBitVec <<< ((nI n &&& 31).toBitVec.smod 32).toNat).getLsbD i = _
  rw [s_l n hn, BitVec.getLsbD_shiftLeft]
  rcases Nat.lt_or_ge i n with h | h
  · simp [h, Nat.not_le.mpr h]
  · simp [hi, h, Nat.not_lt.mpr h]
theorem b_sshr (n : Nat) (hn : n < 32) (x : Int32) {i : Nat} (hi : i < 32) : bt (x >>> (nI n &&& 31)) i = if n + i < 32 then bt x (n + i) else bt x 31 := by
  unfold bt
  rw [Int32.toBitVec_shiftRight]
  show (x.toBitVec.sshiftRight ((nI n &&& 31).toBitVec.smod 32).toNat).getLsbD i = _
  rw [s_l n hn, BitVec.getLsbD_sshiftRight, BitVec.msb_eq_getLsbD_last]
  simp [hi]
theorem pk_us {f : Nat → Int32} {k : Nat} {x : Int32} : upd f k x k = x := if_pos rfl
theorem pk_un {f : Nat → Int32} {k j : Nat} {x : Int32} (h : j ≠ k) : upd f k x j = f j := if_neg h
theorem pk_sub {a b : Nat} (h : b ≤ a) : nI a - nI b = nI (a - b) := by
  obtain ⟨c, rfl⟩ : ∃ c, a = c + b := ⟨a - b, by omega⟩
  rw [← nI_add, Int32.add_sub_cancel, Nat.add_sub_cancel]
theorem pk_m1 (n : Nat) : nI (n + 1) + (-1) = nI n := by
  rw [← nI_1, Int32.add_assoc, show (1 : Int32) + (-1) = 0 from rfl, Int32.add_zero]
theorem pk_mul (a b : Nat) : nI a * nI b = nI (a * b) := (Int32.ofNat_mul a b).symm
theorem pk_div {a d : Nat} (ha : a < 2 ^ 31) (h0 : 0 < d) (hd : d < 2 ^ 31) : nI a / nI d = nI (a / d) := by
  apply Int32.toInt_inj.mp
  rw [lg_idiv_nonneg (by rw [nI_toInt ha]; omega) (by rw [nI_toInt hd]; omega), nI_toInt ha, nI_toInt hd, nI_toInt (Nat.lt_of_le_of_lt (Nat.div_le_self a d) ha)]
  first | rfl | exact (Int.natCast_ediv _ _).symm
theorem pk_rem {a d : Nat} (ha : a < 2 ^ 31) (h0 : 0 < d) (hd : d < 2 ^ 31) : nI a - nI a / nI d * nI d = nI (a % d) := by
  rw [pk_div ha h0 hd, pk_mul, pk_sub (Nat.div_mul_le_self a d)]
  exact congrArg nI (by have := Nat.div_add_mod' a d; omega)
theorem pk_ix (x : Int32) {n : Nat} (hn : n < 2 ^ 31) : x < 0 ∨ nI n ≤ x ∨ ∃ j : Nat, j < n ∧ x = nI j := by
  by_cases h : x < 0
  · exact Or.inl h
  · obtain ⟨j, hj, rfl⟩ := nI_of h
    by_cases h2 : j < n
    · exact Or.inr (Or.inr ⟨j, h2, rfl⟩)
    · exact Or.inr (Or.inl (nI_le (by omega) hj))
theorem pk_le {x y : Int32} {A B : Prop} (a b : Nat) (f : a ≤ b → A) (g : b < a → B) (hx : x = nI a := by rfl) (hy : y = nI b := by rfl) (ha : a < 2 ^ 31 := by omega) (hb : b < 2 ^ 31 := by omega) : (x ≤ y → A) ∧ (¬ x ≤ y → B) := by
  subst hx hy
  rw [nI_leI ha hb]
  exact ⟨f, fun z => g (by omega)⟩
theorem pk_lt {x y : Int32} {A B : Prop} (a b : Nat) (f : a < b → A) (g : b ≤ a → B) (hx : x = nI a := by rfl) (hy : y = nI b := by rfl) (ha : a < 2 ^ 31 := by omega) (hb : b < 2 ^ 31 := by omega) : (x < y → A) ∧ (¬ x < y → B) := by
  subst hx hy
  rw [nI_ltI ha hb]
  exact ⟨f, fun z => g (by omega)⟩
theorem pk_eq {x y : Int32} {A B : Prop} (a b : Nat) (f : a = b → A) (g : a ≠ b → B) (hx : x = nI a := by rfl) (hy : y = nI b := by rfl) (ha : a < 2 ^ 31 := by omega) (hb : b < 2 ^ 31 := by omega) : (x = y → A) ∧ (¬ x = y → B) := by
  subst hx hy
  rw [nI_eq ha hb]
  exact ⟨f, g⟩
theorem pk_in {x : Int32} (n N : Nat) (h : n < N) (hx : x = nI n := by rfl) (hN : N < 2 ^ 31 := by omega) : vp_in x N := by
  subst hx
  exact vp_in_nI h hN
theorem pk_cl {x : Int32} (n : Nat) (hx : x = nI n := by rfl) (h : n < 2 ^ 31 := by omega) : x.toNatClampNeg = n := by
  subst hx
  exact nI_clamp h
theorem pk_tn {n : Nat} (h : n < 2 ^ 32) : (nI n).toBitVec.toNat = n := Nat.mod_eq_of_lt h
/-! own rows: bits, tests, numbers -/
theorem gb_1 : ∀ k, k < 32 → bt 1 k = decide (k = 0) := by decide +kernel
theorem gb_sb {n i : Nat} (hn : n < 32) (hi : i < 32) : bt ((1 : Int32) <<< (nI n &&& 31)) i = decide (i = n) := by
  rw [b_shl n hn 1 hi, gb_1 (i - n) (by omega)]
  by_cases h : n ≤ i
  · rw [decide_eq_true h, Bool.true_and]
    exact decide_eq_decide.mpr (by omega)
  · rw [decide_eq_false h, Bool.false_and, decide_eq_false (by omega)]
theorem gb_not (x : Int32) {i : Nat} (hi : i < 32) : bt (x ^^^ (-1)) i = !bt x i := by
  rw [b_xor, b_m1 i hi, Bool.xor_true]
theorem gb_and1 (x : Int32) : x &&& 1 = if bt x 0 = true then 1 else 0 := by
  apply b_ext
  intro i hi
  rw [b_and, gb_1 i hi]
  by_cases h : i = 0
  · subst h
    rw [decide_eq_true rfl, Bool.and_true]
    by_cases c : bt x 0 = true
    · rw [if_pos c, c]; decide
    · rw [if_neg c, b_0]; exact Bool.eq_false_iff.mpr c
  · rw [decide_eq_false h, Bool.and_false]
    by_cases c : bt x 0 = true
    · rw [if_pos c, gb_1 i hi, decide_eq_false h]
    · rw [if_neg c, b_0]
theorem gb_bit (x : Int32) {n : Nat} (hn : n < 32) : (x >>> (nI n &&& 31)) &&& 1 = if bt x n = true then 1 else 0 := by
  rw [gb_and1, b_sshr n hn x (by omega), Nat.add_zero, if_pos hn]
theorem gb_bit0 (x : Int32) {n : Nat} (hn : n < 32) : (x >>> (nI n &&& 31)) &&& 1 = 0 ↔ bt x n = false := by
  rw [gb_bit x hn]
  cases bt x n <;> decide
theorem gb_bit1 (x : Int32) {n : Nat} (hn : n < 32) : (x >>> (nI n &&& 31)) &&& 1 = 1 ↔ bt x n = true := by
  rw [gb_bit x hn]
  cases bt x n <;> decide
theorem gb_ne0 {x : Int32} : ¬ x = 0 ↔ ∃ i, i < 32 ∧ bt x i = true := by
  constructor
  · intro h
    apply Classical.byContradiction
    intro z
    apply h
    apply b_ext
    intro i hi
    rw [b_0]
    exact Bool.eq_false_iff.mpr (fun t => z ⟨i, hi, t⟩)
  · rintro ⟨i, _, h⟩ e
    rw [e, b_0] at h
    exact Bool.false_ne_true h
theorem gb_ext {x y : Int32} (h : ∀ i, i < 32 → (bt x i = true ↔ bt y i = true)) : x = y :=
  b_ext fun i hi => Bool.eq_iff_iff.mpr (h i hi)
noncomputable def gq_b (P : Prop) : Bool := @decide P (Classical.propDecidable P)
theorem gq_bt {P : Prop} (h : P) : gq_b P = true := @decide_eq_true P (Classical.propDecidable P) h
theorem gq_bf {P : Prop} (h : ¬ P) : gq_b P = false := @decide_eq_false P (Classical.propDecidable P) h
theorem gq_bi {P : Prop} : gq_b P = true ↔ P := @decide_eq_true_iff P (Classical.propDecidable P)
theorem gn_10 : ¬ (1 : Int32) = 0 := by decide
theorem gn_00 : (0 : Int32) = 0 := rfl
theorem gn_d3 : ¬ (3 : Int32) = 0 := by decide
theorem gn_d4 : ¬ (4 : Int32) = 0 := by decide
theorem gn_d2 : ¬ (2 : Int32) = 0 := by decide
theorem gn_b0 : vp_nar .boolean 0 = 0 := by decide
theorem gn_b1 : vp_nar .boolean 1 = 1 := by decide
theorem gn_n0 : narrow .boolean (.int 0) = .int 0 := by decide
theorem gn_n1 : narrow .boolean (.int 1) = .int 1 := by decide
/-- a count -/
def gc_n (P : Nat → Bool) : Nat → Nat
  | 0 => 0
  | k + 1 => gc_n P k + (bif P k then 1 else 0)
theorem gc_le (P : Nat → Bool) : ∀ k, gc_n P k ≤ k
  | 0 => Nat.le_refl 0
  | k + 1 => by
    have := gc_le P k
    unfold gc_n
    cases P k
    · exact Nat.le_succ_of_le this
    · exact Nat.succ_le_succ this
theorem gc_eq {P Q : Nat → Bool} : ∀ k, (∀ i, i < k → P i = Q i) → gc_n P k = gc_n Q k
  | 0, _ => rfl
  | k + 1, h => by
    unfold gc_n
    rw [gc_eq k (fun i hi => h i (by omega)), h k (by omega)]
theorem gc_ext {P : Nat → Bool} : ∀ m k, (∀ i, k ≤ i → i < k + m → P i = false) → gc_n P (k + m) = gc_n P k
  | 0, _, _ => rfl
  | m + 1, k, h => by
    show gc_n P (k + m) + (bif P (k + m) then 1 else 0) = _
    rw [h (k + m) (by omega) (by omega), gc_ext m k (fun i h1 h2 => h i h1 (by omega))]
    rfl
