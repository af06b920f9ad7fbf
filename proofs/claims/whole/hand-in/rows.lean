section
def bt (x : Int32) (i : Nat) : Bool := x.toBitVec.getLsbD i
theorem b_ext {x y : Int32} (h : ∀ i, i < 32 → bt x i = bt y i) : x = y := Int32.toBitVec_inj.mp (BitVec.eq_of_getLsbD_eq (fun i hi => h i hi))
theorem b_or (x y : Int32) (i : Nat) : bt (x ||| y) i = (bt x i || bt y i) := by unfold bt; rw [Int32.toBitVec_or, BitVec.getLsbD_or]
theorem b_and (x y : Int32) (i : Nat) : bt (x &&& y) i = (bt x i && bt y i) := by unfold bt; rw [Int32.toBitVec_and, BitVec.getLsbD_and]
theorem b_xor (x y : Int32) (i : Nat) : bt (x ^^^ y) i = (bt x i ^^ bt y i) := by unfold bt; rw [Int32.toBitVec_xor, BitVec.getLsbD_xor]
theorem b_big {x : Int32} {i : Nat} (h : 32 ≤ i) : bt x i = false := BitVec.getLsbD_of_ge _ _ h
theorem b_m1 : ∀ i, i < 32 → bt (-1) i = true := by decide +kernel
theorem b_0 (i : Nat) : bt 0 i = false := BitVec.getLsbD_zero
theorem s_l : ∀ n, n < 32 → ((nI n &&& 31).toBitVec.smod 32).toNat = n := by decide +kernel
theorem b_shl (n : Nat) (hn : n < 32) (x : Int32) {i : Nat} (hi : i < 32) : bt (x <<< (nI n &&& 31)) i = (decide (n ≤ i) && bt x (i - n)) := by
  unfold bt
  rw [Int32.toBitVec_shiftLeft]
  show (x.toBitVec <<< ((nI n &&& 31).toBitVec.smod 32).toNat).getLsbD i = _
  rw [s_l n hn, BitVec.getLsbD_shiftLeft]
  rcases Nat.lt_or_ge i n with h | h
  · simp [h, Nat.not_le.mpr h]
  · simp [hi, h, Nat.not_lt.mpr h]
theorem b_sshr (n : Nat) (hn : n < 32) (x : Int32) {i : Nat} (hi : i < 32) : bt (x >>> (nI n &&& 31)) i = if n + i < 32 then bt x (n + i) else bt x 31 := by
  unfold bt
  rw [Int32.toBitVec_shiftRight]
  show (x.toBitVec.sshiftRight ((nI n &&& 31).toBitVec.smod 32).toNat).getLsbD i = _
  rw [s_l n hn, BitVec.getLsbD_sshiftRight, BitVec.msb_eq_getLsbD_last]
  simp [hi]
theorem pk_us {f : Nat → Int32} {k : Nat} {x : Int32} : upd f k x k = x := if_pos rfl
theorem pk_un {f : Nat → Int32} {k j : Nat} {x : Int32} (h : j ≠ k) : upd f k x j = f j := if_neg h
theorem pk_sub {a b : Nat} (h : b ≤ a) : nI a - nI b = nI (a - b) := by
  obtain ⟨c, rfl⟩ : ∃ c, a = c + b := ⟨a - b, by omega⟩
  rw [← nI_add, Int32.add_sub_cancel, Nat.add_sub_cancel]
theorem pk_m1 (n : Nat) : nI (n + 1) + (-1) = nI n := by
  rw [← nI_1, Int32.add_assoc, show (1 : Int32) + (-1) = 0 from rfl, Int32.add_zero]
theorem pk_mul (a b : Nat) : nI a * nI b = nI (a * b) := (Int32.ofNat_mul a b).symm
theorem pk_div {a d : Nat} (ha : a < 2 ^ 31) (h0 : 0 < d) (hd : d < 2 ^ 31) : nI a / nI d = nI (a / d) := by
  apply Int32.toInt_inj.mp
  rw [lg_idiv_nonneg (by rw [nI_toInt ha]; omega) (by rw [nI_toInt hd]; omega), nI_toInt ha, nI_toInt hd, nI_toInt (Nat.lt_of_le_of_lt (Nat.div_le_self a d) ha)]
  first | rfl | exact (Int.natCast_ediv _ _).symm
theorem pk_rem {a d : Nat} (ha : a < 2 ^ 31) (h0 : 0 < d) (hd : d < 2 ^ 31) : nI a - nI a / nI d * nI d = nI (a % d) := by
  rw [pk_div ha h0 hd, pk_mul, pk_sub (Nat.div_mul_le_self a d)]
  exact congrArg nI (by have := Nat.div_add_mod' a d; omega)
theorem pk_ix (x : Int32) {n : Nat} (hn : n < 2 ^ 31) : x < 0 ∨ nI n ≤ x ∨ ∃ j : Nat, j < n ∧ x = nI j := by
  by_cases h : x < 0
  · exact Or.inl h
  · obtain ⟨j, hj, rfl⟩ := nI_of h
    by_cases h2 : j < n
    · exact Or.inr (Or.inr ⟨j, h2, rfl⟩)
    · exact Or.inr (Or.inl (nI_le (by omega) hj))
theorem pk_le {x y : Int32} {A B : Prop} (a b : Nat) (f : a ≤ b → A) (g : b < a → B) (hx : x = nI a := by rfl) (hy : y = nI b := by rfl) (ha : a < 2 ^ 31 := by omega) (hb : b < 2 ^ 31 := by omega) : (x ≤ y → A) ∧ (¬ x ≤ y → B) := by
  subst hx hy
  rw [nI_leI ha hb]
  exact ⟨f, fun z => g (by omega)⟩
theorem pk_lt {x y : Int32} {A B : Prop} (a b : Nat) (f : a < b → A) (g : b ≤ a → B) (hx : x = nI a := by rfl) (hy : y = nI b := by rfl) (ha : a < 2 ^ 31 := by omega) (hb : b < 2 ^ 31 := by omega) : (x < y → A) ∧ (¬ x < y → B) := by
  subst hx hy
  rw [nI_ltI ha hb]
  exact ⟨f, fun z => g (by omega)⟩
theorem pk_eq {x y : Int32} {A B : Prop} (a b : Nat) (f : a = b → A) (g : a ≠ b → B) (hx : x = nI a := by rfl) (hy : y = nI b := by rfl) (ha : a < 2 ^ 31 := by omega) (hb : b < 2 ^ 31 := by omega) : (x = y → A) ∧ (¬ x = y → B) := by
  subst hx hy
  rw [nI_eq ha hb]
  exact ⟨f, g⟩
theorem pk_in {x : Int32} (n N : Nat) (h : n < N) (hx : x = nI n := by rfl) (hN : N < 2 ^ 31 := by omega) : vp_in x N := by
  subst hx
  exact vp_in_nI h hN
theorem pk_cl {x : Int32} (n : Nat) (hx : x = nI n := by rfl) (h : n < 2 ^ 31 := by omega) : x.toNatClampNeg = n := by
  subst hx
  exact nI_clamp h
theorem pk_tn {n : Nat} (h : n < 2 ^ 32) : (nI n).toBitVec.toNat = n := Nat.mod_eq_of_lt h
/-! own rows: bits, tests, numbers -/
theorem gb_1 : ∀ k, k < 32 → bt 1 k = decide (k = 0) := by decide +kernel
theorem gb_sb {n i : Nat} (hn : n < 32) (hi : i < 32) : bt ((1 : Int32) <<< (nI n &&& 31)) i = decide (i = n) := by
  rw [b_shl n hn 1 hi, gb_1 (i - n) (by omega)]
  by_cases h : n ≤ i
  · rw [decide_eq_true h, Bool.true_and]
    exact decide_eq_decide.mpr (by omega)
  · rw [decide_eq_false h, Bool.false_and, decide_eq_false (by omega)]
theorem gb_not (x : Int32) {i : Nat} (hi : i < 32) : bt (x ^^^ (-1)) i = !bt x i := by
  rw [b_xor, b_m1 i hi, Bool.xor_true]
theorem gb_and1 (x : Int32) : x &&& 1 = if bt x 0 = true then 1 else 0 := by
  apply b_ext
  intro i hi
  rw [b_and, gb_1 i hi]
  by_cases h : i = 0
  · subst h
    rw [decide_eq_true rfl, Bool.and_true]
    by_cases c : bt x 0 = true
    · rw [if_pos c, c]; decide
    · rw [if_neg c, b_0]; exact Bool.eq_false_iff.mpr c
  · rw [decide_eq_false h, Bool.and_false]
    by_cases c : bt x 0 = true
    · rw [if_pos c, gb_1 i hi, decide_eq_false h]
    · rw [if_neg c, b_0]
theorem gb_bit (x : Int32) {n : Nat} (hn : n < 32) : (x >>> (nI n &&& 31)) &&& 1 = if bt x n = true then 1 else 0 := by
  rw [gb_and1, b_sshr n hn x (by omega), Nat.add_zero, if_pos hn]
theorem gb_bit0 (x : Int32) {n : Nat} (hn : n < 32) : (x >>> (nI n &&& 31)) &&& 1 = 0 ↔ bt x n = false := by
  rw [gb_bit x hn]
  cases bt x n <;> decide
theorem gb_bit1 (x : Int32) {n : Nat} (hn : n < 32) : (x >>> (nI n &&& 31)) &&& 1 = 1 ↔ bt x n = true := by
  rw [gb_bit x hn]
  cases bt x n <;> decide
theorem gb_ne0 {x : Int32} : ¬ x = 0 ↔ ∃ i, i < 32 ∧ bt x i = true := by
  constructor
  · intro h
    apply Classical.byContradiction
    intro z
    apply h
    apply b_ext
    intro i hi
    rw [b_0]
    exact Bool.eq_false_iff.mpr (fun t => z ⟨i, hi, t⟩)
  · rintro ⟨i, _, h⟩ e
    rw [e, b_0] at h
    exact Bool.false_ne_true h
theorem gb_ext {x y : Int32} (h : ∀ i, i < 32 → (bt x i = true ↔ bt y i = true)) : x = y :=
  b_ext fun i hi => Bool.eq_iff_iff.mpr (h i hi)
noncomputable def gq_b (P : Prop) : Bool := @decide P (Classical.propDecidable P)
theorem gq_bt {P : Prop} (h : P) : gq_b P = true := @decide_eq_true P (Classical.propDecidable P) h
theorem gq_bf {P : Prop} (h : ¬ P) : gq_b P = false := @decide_eq_false P (Classical.propDecidable P) h
theorem gq_bi {P : Prop} : gq_b P = true ↔ P := @decide_eq_true_iff P (Classical.propDecidable P)
theorem gn_10 : ¬ (1 : Int32) = 0 := by decide
theorem gn_00 : (0 : Int32) = 0 := rfl
theorem gn_d3 : ¬ (3 : Int32) = 0 := by decide
theorem gn_d4 : ¬ (4 : Int32) = 0 := by decide
theorem gn_d2 : ¬ (2 : Int32) = 0 := by decide
theorem gn_b0 : vp_nar .boolean 0 = 0 := by decide
theorem gn_b1 : vp_nar .boolean 1 = 1 := by decide
theorem gn_n0 : narrow .boolean (.int 0) = .int 0 := by decide
theorem gn_n1 : narrow .boolean (.int 1) = .int 1 := by decide
/-- a count -/
def gc_n (P : Nat → Bool) : Nat → Nat
  | 0 => 0
  | k + 1 => gc_n P k + (bif P k then 1 else 0)
theorem gc_le (P : Nat → Bool) : ∀ k, gc_n P k ≤ k
  | 0 => Nat.le_refl 0
  | k + 1 => by
    have := gc_le P k
    unfold gc_n
    cases P k
    · exact Nat.le_succ_of_le this
    · exact Nat.succ_le_succ this
theorem gc_eq {P Q : Nat → Bool} : ∀ k, (∀ i, i < k → P i = Q i) → gc_n P k = gc_n Q k
  | 0, _ => rfl
  | k + 1, h => by
    unfold gc_n
    rw [gc_eq k (fun i hi => h i (by omega)), h k (by omega)]
theorem gc_ext {P : Nat → Bool} : ∀ m k, (∀ i, k ≤ i → i < k + m → P i = false) → gc_n P (k + m) = gc_n P k
  | 0, _, _ => rfl
  | m + 1, k, h => by
    show gc_n P (k + m) + (bif P (k + m) then 1 else 0) = _
    rw [h (k + m) (by omega) (by omega), gc_ext m k (fun i h1 h2 => h i h1 (by omega))]
    rfl
end
section
/-! the list of matches: a search over eight parts -/
def gq_scan {α : Type} (f : Nat → List α) : Nat → Nat → List α
  | _, 0 => []
  | c, r + 1 => f c ++ gq_scan f (c + 1) r
theorem gq_scan_nil {α : Type} {f : Nat → List α} : ∀ r c, (∀ i, c ≤ i → i < c + r → f i = []) → gq_scan f c r = []
  | 0, _, _ => rfl
  | r + 1, c, h => by
    show f c ++ gq_scan f (c + 1) r = []
    rw [h c (by omega) (by omega), gq_scan_nil r (c + 1) (fun i h1 h2 => h i (by omega) (by omega))]
    rfl
theorem gq_scan_congr {α : Type} {f g : Nat → List α} : ∀ r c, (∀ i, c ≤ i → i < c + r → f i = g i) → gq_scan f c r = gq_scan g c r
  | 0, _, _ => rfl
  | r + 1, c, h => by
    show f c ++ gq_scan f (c + 1) r = g c ++ gq_scan g (c + 1) r
    rw [h c (by omega) (by omega), gq_scan_congr r (c + 1) (fun i h1 h2 => h i (by omega) (by omega))]
theorem gq_scan_add {α : Type} {f : Nat → List α} : ∀ r t c, gq_scan f c (r + t) = gq_scan f c r ++ gq_scan f (c + r) t
  | 0, t, c => by rw [Nat.zero_add]; rfl
  | r + 1, t, c => by
    rw [show r + 1 + t = (r + t) + 1 by omega]
    show f c ++ gq_scan f (c + 1) (r + t) = (f c ++ gq_scan f (c + 1) r) ++ _
    rw [gq_scan_add r t (c + 1), List.append_assoc, show c + 1 + r = c + (r + 1) by omega]
theorem gq_scan_len {α : Type} {f : Nat → List α} {B : Nat} (h : ∀ i, (f i).length ≤ B) : ∀ r c, (gq_scan f c r).length ≤ r * B
  | 0, _ => Nat.zero_le _
  | r + 1, c => by
    show (f c ++ gq_scan f (c + 1) r).length ≤ _
    rw [List.length_append, Nat.succ_mul]
    have h1 := h c
    have h2 := gq_scan_len h r (c + 1)
    omega
theorem gq_scan_hit {α : Type} {f : Nat → List α} {c k r : Nat} (h : ∀ i, c ≤ i → i < c + k → f i = []) (hr : k < r) : gq_scan f c r = f (c + k) ++ gq_scan f (c + k + 1) (r - k - 1) := by
  obtain ⟨t, rfl⟩ : ∃ t, r = k + (t + 1) := ⟨r - k - 1, by omega⟩
  rw [gq_scan_add k (t + 1) c, gq_scan_nil k c h, List.nil_append, show k + (t + 1) - k - 1 = t by omega]
  rfl
def gq_up (s : Nat → Nat) (p c : Nat) : Nat → Nat := fun q => if q = p then c else s q
theorem gq_us {s : Nat → Nat} {p c : Nat} : gq_up s p c p = c := if_pos rfl
theorem gq_un {s : Nat → Nat} {p c q : Nat} (h : q ≠ p) : gq_up s p c q = s q := if_neg h
theorem gq_uid {s : Nat → Nat} {p c : Nat} (h : s p = c) : gq_up s p c = s := by
  funext q
  by_cases e : q = p
  · subst e; rw [gq_us, h]
  · exact gq_un e
theorem gq_uu {s : Nat → Nat} {p c d : Nat} : gq_up (gq_up s p c) p d = gq_up s p d := by
  funext q
  by_cases e : q = p
  · subst e; rw [gq_us, gq_us]
  · rw [gq_un e, gq_un e, gq_un e]
def gq_lim (p : Nat) : Nat := if p < 4 then 12 else 20
def gq_st (p : Nat) : Nat := if p < 4 then 12 + p else 16 + p
theorem gq_lim20 (p : Nat) : gq_lim p ≤ 20 := by unfold gq_lim; split <;> omega
noncomputable def gq_E (pr : Nat → Prop) (ok : Nat → (Nat → Nat) → Nat → Prop) : Nat → (Nat → Nat) → List (Nat → Nat)
  | 0, s => [s]
  | d + 1, s => bif gq_b (pr (7 - d)) then gq_scan (fun c => bif gq_b (ok (7 - d) s c) then gq_E pr ok d (gq_up s (7 - d) c) else []) 0 (gq_lim (7 - d)) else gq_E pr ok d (gq_up s (7 - d) (gq_st (7 - d)))
noncomputable def gq_g (pr : Nat → Prop) (ok : Nat → (Nat → Nat) → Nat → Prop) (p : Nat) (s : Nat → Nat) (c : Nat) : List (Nat → Nat) :=
  bif gq_b (ok p s c) then gq_E pr ok (7 - p) (gq_up s p c) else []
def gq_okx (pr : Nat → Prop) (ok : Nat → (Nat → Nat) → Nat → Prop) (p : Nat) (s : Nat → Nat) (c : Nat) : Prop :=
  (pr p ∧ c < gq_lim p ∧ ok p s c) ∨ (¬ pr p ∧ c = gq_st p)
noncomputable def gq_f (pr : Nat → Prop) (ok : Nat → (Nat → Nat) → Nat → Prop) (p : Nat) (s : Nat → Nat) (c : Nat) : List (Nat → Nat) :=
  bif gq_b (gq_okx pr ok p s c) then gq_E pr ok (7 - p) (gq_up s p c) else []
section GQ
variable {pr : Nat → Prop} {ok : Nat → (Nat → Nat) → Nat → Prop}
theorem gq_g1 {p : Nat} {s : Nat → Nat} {c : Nat} (h : ok p s c) : gq_g pr ok p s c = gq_E pr ok (7 - p) (gq_up s p c) := by
  unfold gq_g; rw [gq_bt h]; rfl
theorem gq_g0 {p : Nat} {s : Nat → Nat} {c : Nat} (h : ¬ ok p s c) : gq_g pr ok p s c = [] := by
  unfold gq_g; rw [gq_bf h]; rfl
theorem gq_f1 {p : Nat} {s : Nat → Nat} {c : Nat} (h : gq_okx pr ok p s c) : gq_f pr ok p s c = gq_E pr ok (7 - p) (gq_up s p c) := by
  unfold gq_f; rw [gq_bt h]; rfl
theorem gq_f0 {p : Nat} {s : Nat → Nat} {c : Nat} (h : ¬ gq_okx pr ok p s c) : gq_f pr ok p s c = [] := by
  unfold gq_f; rw [gq_bf h]; rfl
theorem gq_Ep {p : Nat} (hp : p < 8) (h : pr p) (s : Nat → Nat) : gq_E pr ok (8 - p) s = gq_scan (gq_g pr ok p s) 0 (gq_lim p) := by
  obtain ⟨d, rfl⟩ : ∃ d, p = 7 - d := ⟨7 - p, by omega⟩
  rcases Nat.lt_or_ge d 8 with hd | hd
  · rw [show 8 - (7 - d) = d + 1 by omega]
    show (bif gq_b (pr (7 - d)) then _ else _) = _
    rw [gq_bt h]
    show gq_scan _ 0 _ = _
    refine gq_scan_congr _ _ (fun i _ _ => ?_)
    unfold gq_g
    rw [show 7 - (7 - d) = d by omega]
  · have e : 7 - d = 0 := by omega
    rw [e] at h ⊢
    show (bif gq_b (pr (7 - 7)) then _ else _) = _
    rw [gq_bt h]
    rfl
theorem gq_En {p : Nat} (hp : p < 8) (h : ¬ pr p) (s : Nat → Nat) : gq_E pr ok (8 - p) s = gq_E pr ok (7 - p) (gq_up s p (gq_st p)) := by
  have e : 8 - p = (7 - p) + 1 := by omega
  rw [e]
  show (bif gq_b (pr (7 - (7 - p))) then _ else _) = _
  rw [show 7 - (7 - p) = p by omega, gq_bf h]
  rfl
theorem gq_Ex {p N : Nat} (hp : p < 8) (h1 : gq_lim p ≤ N) (h2 : gq_st p < N) (s : Nat → Nat) : gq_E pr ok (8 - p) s = gq_scan (gq_f pr ok p s) 0 N := by
  by_cases h : pr p
  · rw [gq_Ep hp h]
    obtain ⟨t, rfl⟩ : ∃ t, N = gq_lim p + t := ⟨N - gq_lim p, by omega⟩
    rw [gq_scan_add]
    have e2 : gq_scan (gq_f pr ok p s) (0 + gq_lim p) t = [] := by
      refine gq_scan_nil _ _ (fun i i1 i2 => gq_f0 ?_)
      rintro (⟨_, hc, _⟩ | ⟨hn, _⟩)
      · omega
      · exact hn h
    rw [e2, List.append_nil]
    refine gq_scan_congr _ _ (fun i i1 i2 => ?_)
    by_cases o : ok p s i
    · rw [gq_g1 o, gq_f1 (Or.inl ⟨h, by omega, o⟩)]
    · rw [gq_g0 o, gq_f0]
      rintro (⟨_, _, hc⟩ | ⟨hn, _⟩)
      · exact o hc
      · exact hn h
  · rw [gq_En hp h]
    have n0 : ∀ i, i ≠ gq_st p → gq_f pr ok p s i = [] := by
      intro i hi
      apply gq_f0
      rintro (⟨hh, _⟩ | ⟨_, hc⟩)
      · exact h hh
      · exact hi hc
    rw [gq_scan_hit (k := gq_st p) (fun i _ _ => n0 i (by omega)) h2, Nat.zero_add, gq_f1 (Or.inr ⟨h, rfl⟩), gq_scan_nil _ _ (fun i _ _ => n0 i (by omega)), List.append_nil]
theorem gq_Elen : ∀ d s, (gq_E pr ok d s).length ≤ 20 ^ d
  | 0, s => Nat.le_refl 1
  | d + 1, s => by
    show (bif gq_b (pr (7 - d)) then _ else _ : List (Nat → Nat)).length ≤ _
    have hp : 0 < 20 ^ d := Nat.pow_pos (by decide)
    rw [Nat.pow_succ]
    cases gq_b (pr (7 - d))
    · show (gq_E pr ok d _).length ≤ _
      exact Nat.le_trans (gq_Elen d _) (by omega)
    · show (gq_scan _ 0 _).length ≤ _
      refine Nat.le_trans (gq_scan_len (B := 20 ^ d) (fun i => ?_) _ _) ?_
      · show (bif gq_b (ok (7 - d) s i) then gq_E pr ok d (gq_up s (7 - d) i) else []).length ≤ _
        cases gq_b (ok (7 - d) s i)
        · exact Nat.zero_le _
        · exact gq_Elen d _
      · rw [Nat.mul_comm]
        exact Nat.mul_le_mul_left _ (gq_lim20 _)
theorem gq_flen {p : Nat} {s : Nat → Nat} (c : Nat) : (gq_f pr ok p s c).length ≤ 20 ^ (7 - p) := by
  unfold gq_f
  cases gq_b (gq_okx pr ok p s c)
  · exact Nat.zero_le _
  · exact gq_Elen _ _
theorem gq_prune {q a b va vb : Nat} (hq : q ≤ 7) (hpr : pr q) (hno : ∀ s : Nat → Nat, s a = va → s b = vb → ∀ c, c < gq_lim q → ¬ ok q s c) :
    ∀ d s, d ≤ 8 → 8 - d ≤ q → a < 8 - d → b < 8 - d → s a = va → s b = vb → gq_E pr ok d s = []
  | 0, s, _, h, _, _, _, _ => by omega
  | d + 1, s, h8, h, ha, hb, ea, eb => by
    have ih : ∀ c, 8 - d ≤ q → gq_E pr ok d (gq_up s (7 - d) c) = [] := fun c hd =>
      gq_prune hq hpr hno d (gq_up s (7 - d) c) (by omega) hd (by omega) (by omega) (by rw [gq_un (by omega), ea]) (by rw [gq_un (by omega), eb])
    rw [show d + 1 = 8 - (7 - d) by omega]
    by_cases e : 7 - d = q
    · rw [e, gq_Ep (by omega) hpr]
      exact gq_scan_nil _ _ (fun c _ hc => gq_g0 (hno s ea eb c (by omega)))
    · by_cases hp : pr (7 - d)
      · rw [gq_Ep (by omega) hp]
        refine gq_scan_nil _ _ (fun c _ hc => ?_)
        by_cases o : ok (7 - d) s c
        · rw [gq_g1 o, show 7 - (7 - d) = d by omega, ih c (by omega)]
        · exact gq_g0 o
      · rw [gq_En (by omega) hp, show 7 - (7 - d) = d by omega, ih _ (by omega)]
/-! ranks -/
noncomputable def gq_rk (pr : Nat → Prop) : Nat → Nat
  | 0 => 0
  | p + 1 => gq_rk pr p + (bif gq_b (pr p) then 1 else 0)
theorem gq_rk1 {p : Nat} (h : pr p) : gq_rk pr (p + 1) = gq_rk pr p + 1 := by
  show gq_rk pr p + (bif gq_b (pr p) then 1 else 0) = _
  rw [gq_bt h]; rfl
theorem gq_rk0 {p : Nat} (h : ¬ pr p) : gq_rk pr (p + 1) = gq_rk pr p := by
  show gq_rk pr p + (bif gq_b (pr p) then 1 else 0) = _
  rw [gq_bf h]; rfl
theorem gq_rkm {p : Nat} : ∀ d, gq_rk pr p ≤ gq_rk pr (p + d)
  | 0 => Nat.le_refl _
  | d + 1 => Nat.le_trans (gq_rkm d) (Nat.le_add_right _ _)
theorem gq_rk_mono {p q : Nat} (h : p ≤ q) : gq_rk pr p ≤ gq_rk pr q := by
  obtain ⟨d, rfl⟩ : ∃ d, q = p + d := ⟨q - p, by omega⟩
  exact gq_rkm d
theorem gq_rk_lt {p q : Nat} (hp : pr p) (h : p < q) : gq_rk pr p < gq_rk pr q := by
  have := gq_rk_mono (pr := pr) (show p + 1 ≤ q from h)
  rw [gq_rk1 hp] at this
  omega
theorem gq_rk_inj {p q : Nat} (hp : pr p) (hq : pr q) (h : gq_rk pr p = gq_rk pr q) : p = q := by
  rcases Nat.lt_trichotomy p q with z | z | z
  · have := gq_rk_lt hp z; omega
  · exact z
  · have := gq_rk_lt hq z; omega
theorem gq_rk_le {p q : Nat} (hp : pr p) (hq : pr q) : gq_rk pr p ≤ gq_rk pr q ↔ p ≤ q := by
  constructor
  · intro h
    rcases Nat.lt_or_ge q p with z | z
    · have := gq_rk_lt hq z; omega
    · exact z
  · exact gq_rk_mono
theorem gq_rk_id (p : Nat) : gq_rk pr p ≤ p := by
  induction p with
  | zero => exact Nat.le_refl 0
  | succ p ih =>
    show gq_rk pr p + (bif gq_b (pr p) then 1 else 0) ≤ _
    cases gq_b (pr p)
    · exact Nat.le_succ_of_le ih
    · exact Nat.succ_le_succ ih
theorem gq_rk_sur : ∀ q l, l < gq_rk pr q → ∃ p, p < q ∧ pr p ∧ gq_rk pr p = l
  | 0, l, h => absurd h (Nat.not_lt_zero l)
  | q + 1, l, h => by
    by_cases hq : pr q
    · rw [gq_rk1 hq] at h
      rcases Nat.lt_or_ge l (gq_rk pr q) with z | z
      · obtain ⟨p, h1, h2, h3⟩ := gq_rk_sur q l z
        exact ⟨p, by omega, h2, h3⟩
      · exact ⟨q, by omega, hq, by omega⟩
    · rw [gq_rk0 hq] at h
      obtain ⟨p, h1, h2, h3⟩ := gq_rk_sur q l h
      exact ⟨p, by omega, h2, h3⟩
/-! what is still to come -/
noncomputable def gq_R (pr : Nat → Prop) (ok : Nat → (Nat → Nat) → Nat → Prop) (s : Nat → Nat) : Nat → List (Nat → Nat)
  | 0 => []
  | p + 1 => (bif gq_b (pr p) then gq_scan (gq_g pr ok p s) (s p + 1) (gq_lim p - (s p + 1)) else []) ++ gq_R pr ok s p
noncomputable def gq_T (pr : Nat → Prop) (ok : Nat → (Nat → Nat) → Nat → Prop) (s : Nat → Nat) (p c : Nat) : List (Nat → Nat) :=
  gq_scan (gq_g pr ok p s) c (gq_lim p - c) ++ gq_R pr ok s p
noncomputable def gq_W (pr : Nat → Prop) (s : Nat → Nat) : Nat → Nat
  | 0 => 0
  | p + 1 => gq_W pr s p + (bif gq_b (pr p) then (22 - s p) * 24 ^ (8 - p) else 0)
theorem gq_R1 {s : Nat → Nat} {p : Nat} (h : pr p) : gq_R pr ok s (p + 1) = gq_T pr ok s p (s p + 1) := by
  show (bif gq_b (pr p) then _ else _) ++ _ = _
  rw [gq_bt h]; rfl
theorem gq_R0 {s : Nat → Nat} {p : Nat} (h : ¬ pr p) : gq_R pr ok s (p + 1) = gq_R pr ok s p := by
  show (bif gq_b (pr p) then _ else _) ++ _ = _
  rw [gq_bf h]; rfl
theorem gq_W1 {s : Nat → Nat} {p : Nat} (h : pr p) : gq_W pr s (p + 1) = gq_W pr s p + (22 - s p) * 24 ^ (8 - p) := by
  show _ + (bif gq_b (pr p) then _ else _) = _
  rw [gq_bt h]; rfl
theorem gq_W0 {s : Nat → Nat} {p : Nat} (h : ¬ pr p) : gq_W pr s (p + 1) = gq_W pr s p := by
  show _ + (bif gq_b (pr p) then _ else _) = _
  rw [gq_bf h]; rfl
theorem gq_T0 {s : Nat → Nat} {p : Nat} (hp : p < 8) (h : pr p) : gq_T pr ok s p 0 = gq_E pr ok (8 - p) s ++ gq_R pr ok s p := by
  rw [gq_Ep hp h]; rfl
theorem gq_down {s : Nat → Nat} : ∀ p, (gq_rk pr p = 0 ∧ gq_R pr ok s p = []) ∨ ∃ q, q < p ∧ pr q ∧ gq_rk pr q + 1 = gq_rk pr p ∧ gq_R pr ok s p = gq_T pr ok s q (s q + 1) ∧ gq_W pr s p = gq_W pr s q + (22 - s q) * 24 ^ (8 - q)
  | 0 => Or.inl ⟨rfl, rfl⟩
  | p + 1 => by
    by_cases h : pr p
    · exact Or.inr ⟨p, by omega, h, (gq_rk1 h).symm, gq_R1 h, gq_W1 h⟩
    · rw [gq_rk0 h, gq_R0 h, gq_W0 h]
      rcases gq_down (s := s) p with z | ⟨q, h1, h2, h3, h4, h5⟩
      · exact Or.inl z
      · exact Or.inr ⟨q, by omega, h2, h3, h4, h5⟩
theorem gq_next {s : Nat → Nat} (hs : ∀ q, q < 8 → ¬ pr q → s q = gq_st q) : ∀ d p, p + d = 8 →
    (∃ q, p ≤ q ∧ q < 8 ∧ pr q ∧ gq_rk pr q = gq_rk pr p ∧ gq_E pr ok (8 - p) s ++ gq_R pr ok s p = gq_T pr ok s q 0 ∧ gq_W pr s q = gq_W pr s p) ∨
    (gq_rk pr p = gq_rk pr 8 ∧ gq_E pr ok (8 - p) s ++ gq_R pr ok s p = s :: gq_R pr ok s 8)
  | 0, p, h => by
    obtain rfl : p = 8 := by omega
    exact Or.inr ⟨rfl, rfl⟩
  | d + 1, p, h => by
    by_cases hp : pr p
    · exact Or.inl ⟨p, Nat.le_refl p, by omega, hp, rfl, (gq_T0 (by omega) hp).symm, rfl⟩
    · have e : gq_E pr ok (8 - p) s ++ gq_R pr ok s p = gq_E pr ok (8 - (p + 1)) s ++ gq_R pr ok s (p + 1) := by
        rw [gq_En (by omega) hp, gq_uid (hs p (by omega) hp), gq_R0 hp, show 8 - (p + 1) = 7 - p by omega]
      rw [e, ← gq_rk0 hp, ← gq_W0 (s := s) hp]
      rcases gq_next hs d (p + 1) (by omega) with ⟨q, h1, h2, h3, h4, h5, h6⟩ | z
      · exact Or.inl ⟨q, by omega, h2, h3, h4, h5, h6⟩
      · exact Or.inr z
theorem gq_Wc {s t : Nat → Nat} : ∀ p, (∀ q, q < p → s q = t q) → gq_W pr s p = gq_W pr t p
  | 0, _ => rfl
  | p + 1, h => by
    show _ + (bif gq_b (pr p) then (22 - s p) * _ else _) = _ + (bif gq_b (pr p) then (22 - t p) * _ else _)
    rw [gq_Wc p (fun q hq => h q (by omega)), h p (by omega)]
/-- ok looks at the parts ahead alone -/
def gq_loc (ok : Nat → (Nat → Nat) → Nat → Prop) : Prop := ∀ p (s t : Nat → Nat) c, (∀ q, q < p → s q = t q) → (ok p s c ↔ ok p t c)
theorem gq_Ec (hl : gq_loc ok) : ∀ d (s t : Nat → Nat), d ≤ 8 → (∀ q, (q < 8 - d ∨ 8 ≤ q) → s q = t q) → gq_E pr ok d s = gq_E pr ok d t
  | 0, s, t, _, h => by
    have : s = t := funext fun q => h q (by omega)
    rw [this]
  | d + 1, s, t, hd, h => by
    have ih : ∀ c, gq_E pr ok d (gq_up s (7 - d) c) = gq_E pr ok d (gq_up t (7 - d) c) := fun c => by
      refine gq_Ec hl d _ _ (by omega) (fun q hq => ?_)
      by_cases e : q = 7 - d
      · subst e; rw [gq_us, gq_us]
      · rw [gq_un e, gq_un e, h q (by omega)]
    rw [show d + 1 = 8 - (7 - d) by omega]
    by_cases hp : pr (7 - d)
    · rw [gq_Ep (by omega) hp, gq_Ep (by omega) hp]
      refine gq_scan_congr _ _ (fun c _ _ => ?_)
      have o := hl (7 - d) s t c (fun q hq => h q (by omega))
      by_cases os : ok (7 - d) s c
      · rw [gq_g1 os, gq_g1 (o.mp os), show 7 - (7 - d) = d by omega, ih c]
      · rw [gq_g0 os, gq_g0 (fun z => os (o.mpr z))]
    · rw [gq_En (by omega) hp, gq_En (by omega) hp, show 7 - (7 - d) = d by omega, ih]
theorem gq_gc (hl : gq_loc ok) {p : Nat} (hp : p < 8) {s t : Nat → Nat} (h : ∀ q, (q < p ∨ 8 ≤ q) → s q = t q) (c : Nat) : gq_g pr ok p s c = gq_g pr ok p t c := by
  have o := hl p s t c (fun q hq => h q (by omega))
  have e : gq_E pr ok (7 - p) (gq_up s p c) = gq_E pr ok (7 - p) (gq_up t p c) := by
    refine gq_Ec hl _ _ _ (by omega) (fun q hq => ?_)
    by_cases e : q = p
    · subst e; rw [gq_us, gq_us]
    · rw [gq_un e, gq_un e, h q (by omega)]
  by_cases os : ok p s c
  · rw [gq_g1 os, gq_g1 (o.mp os), e]
  · rw [gq_g0 os, gq_g0 (fun z => os (o.mpr z))]
theorem gq_Rc (hl : gq_loc ok) {s t : Nat → Nat} : ∀ p, p ≤ 8 → (∀ q, (q < p ∨ 8 ≤ q) → s q = t q) → gq_R pr ok s p = gq_R pr ok t p
  | 0, _, _ => rfl
  | p + 1, hp, h => by
    have e := gq_Rc hl (s := s) (t := t) p (by omega) (fun q hq => h q (by omega))
    by_cases c : pr p
    · rw [gq_R1 c, gq_R1 c]
      unfold gq_T
      rw [e, h p (by omega), gq_scan_congr _ _ (fun i _ _ => gq_gc hl (by omega) (fun q hq => h q (by omega)) i)]
    · rw [gq_R0 c, gq_R0 c, e]
/-- a raise that finds c' -/
theorem gq_hit (hl : gq_loc ok) {p c c' : Nat} {s : Nat → Nat} (hp : p < 8) (hpr : pr p) (h1 : c ≤ c') (h2 : c' < gq_lim p) (hn : ∀ i, c ≤ i → i < c' → ¬ ok p s i) (ho : ok p s c') :
    gq_T pr ok s p c = gq_E pr ok (8 - (p + 1)) (gq_up s p c') ++ gq_R pr ok (gq_up s p c') (p + 1) := by
  rw [gq_R1 hpr]
  unfold gq_T
  rw [gq_us, gq_scan_hit (k := c' - c) (fun i i1 i2 => gq_g0 (hn i i1 (by omega))) (by omega), show c + (c' - c) = c' by omega, gq_g1 ho, List.append_assoc, show 8 - (p + 1) = 7 - p by omega,
    gq_Rc hl (s := gq_up s p c') (t := s) p (by omega) (fun q hq => gq_un (by omega)), show gq_lim p - c - (c' - c) - 1 = gq_lim p - (c' + 1) by omega,
    gq_scan_congr (f := gq_g pr ok p (gq_up s p c')) _ _ (fun i _ _ => gq_gc hl hp (fun q hq => gq_un (by omega)) i)]
theorem gq_miss {p c : Nat} {s : Nat → Nat} (hn : ∀ i, c ≤ i → i < gq_lim p → ¬ ok p s i) : gq_T pr ok s p c = gq_R pr ok s p := by
  unfold gq_T
  rw [gq_scan_nil _ _ (fun i i1 i2 => gq_g0 (hn i i1 (by omega)))]
  rfl
theorem gq_mu {p q c c' W B : Nat} (hpq : p < q) (hq : q < 8) (h1 : c ≤ c') (h2 : c' < 20) : W + (22 - c') * 24 ^ (8 - p) + 23 * 24 ^ (8 - q) < W + (23 - c) * 24 ^ (8 - p) := by
  have e : 24 ^ (8 - p) = 24 ^ (q - p) * 24 ^ (8 - q) := by rw [← Nat.pow_add]; congr 1; omega
  have e2 : 24 ≤ 24 ^ (q - p) := by
    rw [show q - p = (q - p - 1) + 1 by omega, Nat.pow_succ]
    have : 0 < 24 ^ (q - p - 1) := Nat.pow_pos (by decide)
    omega
  have e3 : 24 * 24 ^ (8 - q) ≤ 24 ^ (8 - p) := by rw [e]; exact Nat.mul_le_mul_right _ e2
  have e4 : 0 < 24 ^ (8 - q) := Nat.pow_pos (by decide)
  have e5 : (22 - c' + 1) * 24 ^ (8 - p) ≤ (23 - c) * 24 ^ (8 - p) := Nat.mul_le_mul_right _ (by omega)
  rw [Nat.succ_mul] at e5
  omega
end GQ
end
section
/-! sets built by or -/
def ga_acc (Q : Nat → Nat → Prop) (k : Nat) (x : Int32) : Prop := ∀ i, i < 32 → (bt x i = true ↔ ∃ t, t < k ∧ Q t i)
theorem ga_0 {Q : Nat → Nat → Prop} : ga_acc Q 0 0 := fun i _ => by
  rw [b_0]
  exact ⟨fun z => absurd z Bool.false_ne_true, fun ⟨t, ht, _⟩ => absurd ht (Nat.not_lt_zero t)⟩
theorem ga_or {Q : Nat → Nat → Prop} {k : Nat} {x y : Int32} (h : ga_acc Q k x) (hy : ∀ i, i < 32 → (bt y i = true ↔ Q k i)) : ga_acc Q (k + 1) (x ||| y) := fun i hi => by
  rw [b_or, Bool.or_eq_true, h i hi, hy i hi]
  constructor
  · rintro (⟨t, ht, q⟩ | q)
    · exact ⟨t, by omega, q⟩
    · exact ⟨k, by omega, q⟩
  · rintro ⟨t, ht, q⟩
    by_cases e : t = k
    · subst e; exact Or.inr q
    · exact Or.inl ⟨t, by omega, q⟩
theorem ga_no {Q : Nat → Nat → Prop} {k : Nat} {x : Int32} (h : ga_acc Q k x) (hn : ∀ i, i < 32 → ¬ Q k i) : ga_acc Q (k + 1) x := fun i hi => by
  rw [h i hi]
  constructor
  · rintro ⟨t, ht, q⟩
    exact ⟨t, by omega, q⟩
  · rintro ⟨t, ht, q⟩
    by_cases e : t = k
    · subst e; exact absurd q (hn i hi)
    · exact ⟨t, by omega, q⟩
theorem ga_bit {n : Nat} (hn : n < 32) {Q : Nat → Prop} (h : ∀ i, i < 32 → (Q i ↔ i = n)) : ∀ i, i < 32 → (bt ((1 : Int32) <<< (nI n &&& 31)) i = true ↔ Q i) := fun i hi => by
  rw [gb_sb hn hi, h i hi, decide_eq_true_iff]
/-! X: the small methods -/
theorem gx_has {post : Int32 → Prop} {s : Int32} {m : Nat} (hm : m < 32) (h1 : bt s m = true → post 1) (h0 : bt s m = false → post 0) : wpX_has post s (nI m) :=
  ⟨fun z => h0 ((gb_bit0 s hm).mp z), fun z => h1 (by
    cases e : bt s m
    · exact absurd ((gb_bit0 s hm).mpr e) z
    · rfl)⟩
theorem gx_hasb {A B : Prop} {s : Int32} {m : Nat} (hm : m < 32) (h1 : bt s m = true → B) (h0 : bt s m = false → A) : wpX_has (fun r => (r = 0 → A) ∧ (¬ r = 0 → B)) s (nI m) :=
  gx_has hm (fun z => br_f gn_10 (h1 z)) (fun z => br_t rfl (h0 z))
theorem gx_size {post : Int32 → Prop} {x : Int32} (h : post (nI (gc_n (bt x) 24))) : wpX_size post x := by
  refine loop_0 (fun n i s => wX_size_4 post x n s (nI i)) (fun i s => s = nI (gc_n (bt x) i)) 24 0 rfl (fun n s I => ?_) (fun n i s hi I ih => ?_)
  · subst I
    exact br_t (nI_le (a := 24) (by omega) (by decide)) h
  · subst I
    refine br_f (nI_ge (b := 24) hi (by decide)) (nm_r (e' := nI (gc_n (bt x) (i + 1))) ?_ (nm_r (nI_1 i) (ih _ rfl)))
    rw [gb_bit x (by omega)]
    show _ = nI (gc_n (bt x) i + (bif bt x i then 1 else 0))
    cases bt x i
    · rw [if_neg Bool.false_ne_true, Int32.add_zero]; rfl
    · rw [if_pos rfl, nI_1]; rfl
theorem gx_lm {post : Int32 → Prop} {x : Int32} (L : Nat) (hL : L < 32) (h : ∀ m, m ≤ L → (∀ i, i < m → bt x i = true) → (m < L → bt x m = false) → post (nI m)) : wpX_leastMissing post x (nI L) := by
  refine loop_0 (fun n i (_ : Unit) => wX_leastMissing_2 post x (nI L) n (nI i)) (fun i _ => ∀ k, k < i → bt x k = true) L () (fun k hk => absurd hk (Nat.not_lt_zero k)) (fun n s I => ?_) (fun n i s hi I ih => ?_)
  · exact br_t (nI_le (by omega) (by omega)) (h L (Nat.le_refl L) I (fun z => absurd z (Nat.lt_irrefl L)))
  · refine br_f (nI_ge hi (by omega)) (gx_hasb (by omega) (fun hb => nm_r (nI_1 i) (ih () (fun k hk => ?_))) (fun hb => h i (by omega) I (fun _ => hb)))
    by_cases e : k = i
    · rw [e, hb]
    · exact I k (by omega)
def gv_ok (l v : Int32) : Prop := (∃ j, j < 4 ∧ l = nI j) ∧ ¬ v < (-99) ∧ ¬ 99 < v
theorem gx_lv {post : Int32 → Prop} (l v : Int32) (h1 : gv_ok l v → post 1) (h0 : ¬ gv_ok l v → post 0) : wpX_isLabelAndValue post l v := by
  refine br_c (fun z => h0 ?_) (fun z => br_c (fun y => h0 ?_) (fun y => br_c (fun x => h0 (fun w => w.2.1 x)) (fun x => br_c (fun w => h0 (fun q => q.2.2 w)) (fun w => h1 ⟨?_, x, w⟩))))
  · rintro ⟨⟨j, hj, rfl⟩, _⟩
    exact nI_pos (by omega) z
  · rintro ⟨⟨j, hj, rfl⟩, _⟩
    exact nI_ge (b := 4) hj (by decide) y
  · obtain ⟨j, hj, rfl⟩ := nI_of z
    refine ⟨j, ?_, rfl⟩
    apply Classical.byContradiction
    intro q
    exact y (nI_le (a := 4) (by omega) hj)
theorem gy_lv {post : Int32 → Prop} {f_base f_many : Int32} {a_nodeThere a_labels a_values a_edgeThere a_froms a_tos a_whats a_patterns a_parts a_chosen : Nat → Int32} (l v : Int32) (h1 : gv_ok l v → post 1) (h0 : ¬ gv_ok l v → post 0) : wpY_fine post (f_base, f_many, a_nodeThere, a_labels, a_values, a_edgeThere, a_froms, a_tos, a_whats, a_patterns, a_parts, a_chosen) l v := by
  refine br_c (fun z => h0 ?_) (fun z => br_c (fun y => h0 ?_) (fun y => br_c (fun x => h0 (fun w => w.2.1 x)) (fun x => br_c (fun w => h0 (fun q => q.2.2 w)) (fun w => h1 ⟨?_, x, w⟩))))
  · rintro ⟨⟨j, hj, rfl⟩, _⟩
    exact nI_pos (by omega) z
  · rintro ⟨⟨j, hj, rfl⟩, _⟩
    exact nI_nlt (b := j) (a := 3) (by omega) (by decide) y
  · obtain ⟨j, hj, rfl⟩ := nI_of z
    refine ⟨j, ?_, rfl⟩
    apply Classical.byContradiction
    intro q
    exact y (nI_lt (a := 3) (by omega) hj)
section GX
variable {f_nodeSet f_edgeSet f_sought f_wanted f_weighing f_found f_lightest f_heaviest : Int32} {a_nodeLabel a_nodeValue a_edgesFrom a_edgesTo a_edgesOfType a_edgeWeight a_patternMode a_spotSet a_linkSet a_spotLabels a_spotLeast a_spotGreatest a_linkStart a_linkEnd a_linkTypes a_linkKind a_spotNodes a_typedEdges a_wayTargets a_placed a_linkEdges a_taken a_picked : Nat → Int32}
theorem gx_isNode {post : Int32 → Prop} (v : Int32) (h0 : (¬ ∃ j, j < 12 ∧ v = nI j ∧ bt f_nodeSet j = true) → post 0) (h1 : ∀ j, j < 12 → v = nI j → bt f_nodeSet j = true → post 1) : wpX_isNode post (f_nodeSet, f_edgeSet, f_sought, f_wanted, f_weighing, f_found, f_lightest, f_heaviest, a_nodeLabel, a_nodeValue, a_edgesFrom, a_edgesTo, a_edgesOfType, a_edgeWeight, a_patternMode, a_spotSet, a_linkSet, a_spotLabels, a_spotLeast, a_spotGreatest, a_linkStart, a_linkEnd, a_linkTypes, a_linkKind, a_spotNodes, a_typedEdges, a_wayTargets, a_placed, a_linkEdges, a_taken, a_picked) v := by
  refine br_c (fun z => h0 ?_) (fun z => ?_)
  · rintro ⟨j, hj, rfl, _⟩
    exact nI_pos (by omega) z
  · obtain ⟨j, hj, rfl⟩ := nI_of z
    by_cases h : j < 12
    · refine br_f (nI_ge (b := 12) h (by decide)) (gx_hasb (by omega) (fun hb => h1 j h rfl hb) (fun hb => h0 ?_))
      rintro ⟨i, hi, e, q⟩
      rw [← (nI_eq hj (by omega)).mp e, hb] at q
      exact Bool.false_ne_true q
    · refine br_t (nI_le (a := 12) (by omega) hj) (h0 ?_)
      rintro ⟨i, hi, e, q⟩
      have := (nI_eq hj (by omega)).mp e
      omega
theorem gx_ewt {post : Int32 → Prop} {ty : Int32} (h : ∀ r, ga_acc (fun t i => bt ty t = true ∧ bt (a_edgesOfType t) i = true) 3 r → post r) : wpX_edgesWithTypes post (f_nodeSet, f_edgeSet, f_sought, f_wanted, f_weighing, f_found, f_lightest, f_heaviest, a_nodeLabel, a_nodeValue, a_edgesFrom, a_edgesTo, a_edgesOfType, a_edgeWeight, a_patternMode, a_spotSet, a_linkSet, a_spotLabels, a_spotLeast, a_spotGreatest, a_linkStart, a_linkEnd, a_linkTypes, a_linkKind, a_spotNodes, a_typedEdges, a_wayTargets, a_placed, a_linkEdges, a_taken, a_picked) ty := by
  refine loop_0 (fun n i s => wX_edgesWithTypes_4 post ty f_nodeSet f_edgeSet f_sought f_wanted f_weighing f_found f_lightest f_heaviest a_nodeLabel a_nodeValue a_edgesFrom a_edgesTo a_edgesOfType a_edgeWeight a_patternMode a_spotSet a_linkSet a_spotLabels a_spotLeast a_spotGreatest a_linkStart a_linkEnd a_linkTypes a_linkKind a_spotNodes a_typedEdges a_wayTargets a_placed a_linkEdges a_taken a_picked n s (nI i)) (ga_acc (fun t i => bt ty t = true ∧ bt (a_edgesOfType t) i = true)) 3 0 ga_0 (fun n s I => br_t (nI_le (a := 3) (by omega) (by decide)) (h s I)) (fun n i s hi I ih => ?_)
  have c : (nI i).toNatClampNeg = i := nI_clamp (by omega)
  refine br_f (nI_ge (b := 3) hi (by decide)) (gx_hasb (by omega) (fun hb => ⟨vp_in_nI hi (by omega), nm_r (e' := s ||| a_edgesOfType i) (by rw [c]) (nm_r (nI_1 i) (ih _ (ga_or I (fun k hk => ?_))))⟩) (fun hb => nm_r (nI_1 i) (ih _ (ga_no I (fun k hk q => ?_)))))
  · exact ⟨fun z => ⟨hb, z⟩, fun z => z.2⟩
  · rw [hb] at q
    exact Bool.false_ne_true q.1
theorem gx_step {post : Int32 → Prop} {st ed : Int32} (h : ∀ r, ga_acc (fun n i => i = n ∧ ∃ e, e < 32 ∧ bt (a_edgesTo n) e = true ∧ ∃ m, m < 12 ∧ bt st m = true ∧ bt (a_edgesFrom m) e = true ∧ bt ed e = true) 12 r → post r) : wpX_stepFrom post (f_nodeSet, f_edgeSet, f_sought, f_wanted, f_weighing, f_found, f_lightest, f_heaviest, a_nodeLabel, a_nodeValue, a_edgesFrom, a_edgesTo, a_edgesOfType, a_edgeWeight, a_patternMode, a_spotSet, a_linkSet, a_spotLabels, a_spotLeast, a_spotGreatest, a_linkStart, a_linkEnd, a_linkTypes, a_linkKind, a_spotNodes, a_typedEdges, a_wayTargets, a_placed, a_linkEdges, a_taken, a_picked) st ed := by
  refine loop_0 (fun n i s => wX_stepFrom_5 post st ed f_nodeSet f_edgeSet f_sought f_wanted f_weighing f_found f_lightest f_heaviest a_nodeLabel a_nodeValue a_edgesFrom a_edgesTo a_edgesOfType a_edgeWeight a_patternMode a_spotSet a_linkSet a_spotLabels a_spotLeast a_spotGreatest a_linkStart a_linkEnd a_linkTypes a_linkKind a_spotNodes a_typedEdges a_wayTargets a_placed a_linkEdges a_taken a_picked n s (nI i)) (ga_acc (fun m e => bt st m = true ∧ bt (a_edgesFrom m) e = true ∧ bt ed e = true)) 12 0 ga_0 (fun n l Il => br_t (nI_le (a := 12) (by omega) (by decide)) ?_) (fun n i s hi I ih => ?_)
  · refine loop_0 (fun n i s => wX_stepFrom_45 post l f_nodeSet f_edgeSet f_sought f_wanted f_weighing f_found f_lightest f_heaviest a_nodeLabel a_nodeValue a_edgesFrom a_edgesTo a_edgesOfType a_edgeWeight a_patternMode a_spotSet a_linkSet a_spotLabels a_spotLeast a_spotGreatest a_linkStart a_linkEnd a_linkTypes a_linkKind a_spotNodes a_typedEdges a_wayTargets a_placed a_linkEdges a_taken a_picked n s (nI i)) (ga_acc (fun n i => i = n ∧ ∃ e, e < 32 ∧ bt (a_edgesTo n) e = true ∧ ∃ m, m < 12 ∧ bt st m = true ∧ bt (a_edgesFrom m) e = true ∧ bt ed e = true)) 12 0 ga_0 (fun n s I => br_t (nI_le (a := 12) (by omega) (by decide)) (h s I)) (fun n i s hi I ih => ?_)
    have c : (nI i).toNatClampNeg = i := nI_clamp (by omega)
    have key : ¬ (a_edgesTo (nI i).toNatClampNeg &&& l) = 0 ↔ ∃ e, e < 32 ∧ bt (a_edgesTo i) e = true ∧ ∃ m, m < 12 ∧ bt st m = true ∧ bt (a_edgesFrom m) e = true ∧ bt ed e = true := by
      rw [c, gb_ne0]
      constructor
      · rintro ⟨e, he, q⟩
        rw [b_and, Bool.and_eq_true] at q
        exact ⟨e, he, q.1, (Il e he).mp q.2⟩
      · rintro ⟨e, he, q1, q2⟩
        refine ⟨e, he, ?_⟩
        rw [b_and, Bool.and_eq_true]
        exact ⟨q1, (Il e he).mpr q2⟩
    refine br_f (nI_ge (b := 12) hi (by decide)) ⟨vp_in_nI (by omega) (by decide), br_c (fun z => nm_r (nI_1 i) (ih _ (ga_no I (fun k hk q => ?_)))) (fun z => nm_e (nm_r (nI_1 i) (ih _ (ga_or I (ga_bit (by omega) (fun k hk => ?_))))))⟩
    · exact (key.mpr q.2) z
    · exact ⟨fun q => q.1, fun q => ⟨q, key.mp z⟩⟩
  · have c : (nI i).toNatClampNeg = i := nI_clamp (by omega)
    refine br_f (nI_ge (b := 12) hi (by decide)) (gx_hasb (by omega) (fun hb => ⟨vp_in_nI (by omega) (by decide), nm_r (e' := s ||| (a_edgesFrom i &&& ed)) (by rw [c]) (nm_r (nI_1 i) (ih _ (ga_or I (fun k hk => ?_))))⟩) (fun hb => nm_r (nI_1 i) (ih _ (ga_no I (fun k hk q => ?_)))))
    · rw [b_and, Bool.and_eq_true]
      exact ⟨fun z => ⟨hb, z⟩, fun z => z.2⟩
    · rw [hb] at q
      exact Bool.false_ne_true q.1
theorem gx_fit {post : Int32 → Prop} {p : Nat} (hp : p < 8) (hl : ∀ n, ∃ l, l < 4 ∧ a_nodeLabel n = nI l)
    (h : ∀ r, ga_acc (fun n i => i = n ∧ bt f_nodeSet n = true ∧ ((a_spotLabels p >>> (a_nodeLabel n &&& 31)) &&& 1) = 1 ∧ ¬ a_nodeValue n < a_spotLeast p ∧ ¬ a_spotGreatest p < a_nodeValue n) 12 r → post r) : wpX_fittingNodes post (f_nodeSet, f_edgeSet, f_sought, f_wanted, f_weighing, f_found, f_lightest, f_heaviest, a_nodeLabel, a_nodeValue, a_edgesFrom, a_edgesTo, a_edgesOfType, a_edgeWeight, a_patternMode, a_spotSet, a_linkSet, a_spotLabels, a_spotLeast, a_spotGreatest, a_linkStart, a_linkEnd, a_linkTypes, a_linkKind, a_spotNodes, a_typedEdges, a_wayTargets, a_placed, a_linkEdges, a_taken, a_picked) (nI p) := by
  refine loop_0 (fun n i s => wX_fittingNodes_4 post (nI p) f_nodeSet f_edgeSet f_sought f_wanted f_weighing f_found f_lightest f_heaviest a_nodeLabel a_nodeValue a_edgesFrom a_edgesTo a_edgesOfType a_edgeWeight a_patternMode a_spotSet a_linkSet a_spotLabels a_spotLeast a_spotGreatest a_linkStart a_linkEnd a_linkTypes a_linkKind a_spotNodes a_typedEdges a_wayTargets a_placed a_linkEdges a_taken a_picked n s (nI i)) (ga_acc (fun n i => i = n ∧ bt f_nodeSet n = true ∧ ((a_spotLabels p >>> (a_nodeLabel n &&& 31)) &&& 1) = 1 ∧ ¬ a_nodeValue n < a_spotLeast p ∧ ¬ a_spotGreatest p < a_nodeValue n)) 12 0 ga_0 (fun n s I => br_t (nI_le (a := 12) (by omega) (by decide)) (h s I)) (fun n i s hi I ih => ?_)
  have c : (nI i).toNatClampNeg = i := nI_clamp (by omega)
  have cp : (nI p).toNatClampNeg = p := nI_clamp (by omega)
  have v1 : vp_in (nI p) 8 := vp_in_nI hp (by decide)
  have v2 : vp_in (nI i) 12 := vp_in_nI hi (by decide)
  refine br_f (nI_ge (b := 12) hi (by decide)) (gx_hasb (by omega) (fun hb => ⟨v1, v2, ?_⟩) (fun hb => nm_r (nI_1 i) (ih _ (ga_no I (fun k hk q => ?_)))))
  · rw [c, cp]
    obtain ⟨l, hl4, el⟩ := hl i
    rw [el]
    refine gx_hasb (by omega) (fun hc => ⟨v1, v2, br_c (fun z => nm_r (nI_1 i) (ih _ (ga_no I (fun k hk q => q.2.2.2.1 z)))) (fun z => ⟨v2, v1, br_c (fun y => nm_r (nI_1 i) (ih _ (ga_no I (fun k hk q => q.2.2.2.2 y)))) (fun y => nm_e (nm_r (nI_1 i) (ih _ (ga_or I (ga_bit (by omega) (fun k hk => ?_))))))⟩)⟩) (fun hc => nm_r (nI_1 i) (ih _ (ga_no I (fun k hk q => ?_))))
    · rw [el, gb_bit1 _ (by omega)]
      exact ⟨fun q => q.1, fun q => ⟨q, hb, hc, z, y⟩⟩
    · rw [el, gb_bit1 _ (by omega), hc] at q
      exact Bool.false_ne_true q.2.2.1
  · rw [hb] at q
    exact Bool.false_ne_true q.2.1
/-- dropEdges: what is gone is gone everywhere -/
theorem gx_drop {post : SX → Prop} {g : Int32} (h : ∀ eF eO eY : Nat → Int32, (∀ n, n < 12 → eF n = a_edgesFrom n &&& (g ^^^ (-1)) ∧ eO n = a_edgesTo n &&& (g ^^^ (-1))) → (∀ t, t < 3 → eY t = a_edgesOfType t &&& (g ^^^ (-1))) → post (f_nodeSet, f_edgeSet &&& (g ^^^ (-1)), f_sought, f_wanted, f_weighing, f_found, f_lightest, f_heaviest, a_nodeLabel, a_nodeValue, eF, eO, eY, a_edgeWeight, a_patternMode, a_spotSet, a_linkSet, a_spotLabels, a_spotLeast, a_spotGreatest, a_linkStart, a_linkEnd, a_linkTypes, a_linkKind, a_spotNodes, a_typedEdges, a_wayTargets, a_placed, a_linkEdges, a_taken, a_picked)) : wpX_dropEdges post (f_nodeSet, f_edgeSet, f_sought, f_wanted, f_weighing, f_found, f_lightest, f_heaviest, a_nodeLabel, a_nodeValue, a_edgesFrom, a_edgesTo, a_edgesOfType, a_edgeWeight, a_patternMode, a_spotSet, a_linkSet, a_spotLabels, a_spotLeast, a_spotGreatest, a_linkStart, a_linkEnd, a_linkTypes, a_linkKind, a_spotNodes, a_typedEdges, a_wayTargets, a_placed, a_linkEdges, a_taken, a_picked) g := by
  refine nm_e ?_
  refine loop_0 (fun n i (s : (Nat → Int32) × (Nat → Int32)) => wX_dropEdges_14 post g f_nodeSet (f_edgeSet &&& (g ^^^ (-1))) f_sought f_wanted f_weighing f_found f_lightest f_heaviest n (nI i) a_nodeLabel a_nodeValue s.1 s.2 a_edgesOfType a_edgeWeight a_patternMode a_spotSet a_linkSet a_spotLabels a_spotLeast a_spotGreatest a_linkStart a_linkEnd a_linkTypes a_linkKind a_spotNodes a_typedEdges a_wayTargets a_placed a_linkEdges a_taken a_picked) (fun i s => ∀ n, (n < i → s.1 n = a_edgesFrom n &&& (g ^^^ (-1)) ∧ s.2 n = a_edgesTo n &&& (g ^^^ (-1))) ∧ (i ≤ n → s.1 n = a_edgesFrom n ∧ s.2 n = a_edgesTo n)) 12 (a_edgesFrom, a_edgesTo) (fun n => ⟨fun z => absurd z (Nat.not_lt_zero n), fun _ => ⟨rfl, rfl⟩⟩) (fun n s I => br_t (nI_le (a := 12) (by omega) (by decide)) ?_) (fun n i s hi I ih => ?_)
  · refine loop_0 (fun n i (t : Nat → Int32) => wX_dropEdges_52 post g f_nodeSet (f_edgeSet &&& (g ^^^ (-1))) f_sought f_wanted f_weighing f_found f_lightest f_heaviest n (nI i) a_nodeLabel a_nodeValue s.1 s.2 t a_edgeWeight a_patternMode a_spotSet a_linkSet a_spotLabels a_spotLeast a_spotGreatest a_linkStart a_linkEnd a_linkTypes a_linkKind a_spotNodes a_typedEdges a_wayTargets a_placed a_linkEdges a_taken a_picked) (fun i t => ∀ n, (n < i → t n = a_edgesOfType n &&& (g ^^^ (-1))) ∧ (i ≤ n → t n = a_edgesOfType n)) 3 a_edgesOfType (fun n => ⟨fun z => absurd z (Nat.not_lt_zero n), fun _ => rfl⟩) (fun n t It => br_t (nI_le (a := 3) (by omega) (by decide)) (h s.1 s.2 t (fun n hn => (I n).1 hn) (fun n hn => (It n).1 hn))) (fun n i t hi It ih => ?_)
    have c : (nI i).toNatClampNeg = i := nI_clamp (by omega)
    have v : vp_in (nI i) 3 := vp_in_nI hi (by decide)
    refine br_f (nI_ge (b := 3) hi (by decide)) ⟨v, v, nm_r (e' := upd t i (t i &&& (g ^^^ (-1)))) (by rw [c]) (nm_r (nI_1 i) (ih _ (fun n => ⟨fun hn => ?_, fun hn => ?_⟩)))⟩
    · by_cases e : n = i
      · subst e; rw [pk_us, (It n).2 (Nat.le_refl n)]
      · rw [pk_un e, (It n).1 (by omega)]
    · rw [pk_un (by omega), (It n).2 (by omega)]
  · have c : (nI i).toNatClampNeg = i := nI_clamp (by omega)
    have v : vp_in (nI i) 16 := vp_in_nI (by omega) (by decide)
    refine br_f (nI_ge (b := 12) hi (by decide)) ⟨v, v, nm_r (e' := upd s.1 i (s.1 i &&& (g ^^^ (-1)))) (by rw [c]) ⟨v, v, nm_r (e' := upd s.2 i (s.2 i &&& (g ^^^ (-1)))) (by rw [c]) (nm_r (nI_1 i) (ih (upd s.1 i (s.1 i &&& (g ^^^ (-1))), upd s.2 i (s.2 i &&& (g ^^^ (-1)))) (fun n => ⟨fun hn => ?_, fun hn => ?_⟩)))⟩⟩
    · dsimp only
      by_cases e : n = i
      · subst e; rw [pk_us, pk_us, ((I n).2 (Nat.le_refl n)).1, ((I n).2 (Nat.le_refl n)).2]; exact ⟨rfl, rfl⟩
      · rw [pk_un e, pk_un e]; exact (I n).1 (by omega)
    · dsimp only
      rw [pk_un (by omega), pk_un (by omega)]; exact (I n).2 (by omega)
end GX
end
section
/-! the relation -/
def gr_N (ns : Int32) (nT : Nat → Int32) : Prop := (∀ n, nT n = 0 ∨ nT n = 1) ∧ ∀ i, i < 32 → (bt ns i = true ↔ i < 12 ∧ nT i = 1)
def gr_L (lab : Nat → Int32) : Prop := ∀ n, ∃ l, l < 4 ∧ lab n = nI l
def gr_D (eT fr to wh : Nat → Int32) : Prop := (∀ e, eT e = 0 ∨ eT e = 1) ∧ (∀ e, ∃ a, a < 12 ∧ fr e = nI a) ∧ (∀ e, ∃ a, a < 12 ∧ to e = nI a) ∧ (∀ e, ∃ w, w < 63 ∧ wh e = nI w)
def gr_B (x : Int32) (eT : Nat → Int32) (P : Nat → Prop) : Prop := ∀ i, i < 32 → (bt x i = true ↔ i < 20 ∧ eT i = 1 ∧ P i)
def gr_E (es : Int32) (eF eO eY ew eT fr to wh : Nat → Int32) : Prop :=
  gr_D eT fr to wh ∧ gr_B es eT (fun _ => True) ∧ (∀ n, n < 12 → gr_B (eF n) eT (fun i => fr i = nI n)) ∧ (∀ n, n < 12 → gr_B (eO n) eT (fun i => to i = nI n)) ∧
  (∀ t, t < 3 → gr_B (eY t) eT (fun i => wh i - wh i / 3 * 3 = nI t)) ∧ (∀ e, e < 20 → ew e = wh e / 3) ∧ (∀ e, 20 ≤ e → e < 24 → ew e = 0)
def gr_S (b i : Nat) (ss sl so sg pat : Nat → Int32) : Prop :=
  (pat (33 * b + 1 + i) = 0 ∨ pat (33 * b + 1 + i) = 1) ∧ (bt (ss b) i = true ↔ pat (33 * b + 1 + i) = 1) ∧
  (pat (33 * b + 1 + i) = 1 → sl (4 * b + i) = pat (33 * b + 5 + i) ∧ so (4 * b + i) = pat (33 * b + 9 + i) ∧ sg (4 * b + i) = pat (33 * b + 13 + i))
def gr_K (b j : Nat) (ls lst len lty lki pat : Nat → Int32) : Prop :=
  (pat (33 * b + 17 + j) = 0 ∨ pat (33 * b + 17 + j) = 1) ∧ (bt (ls b) j = true ↔ pat (33 * b + 17 + j) = 1) ∧
  (pat (33 * b + 17 + j) = 1 → ∃ ab, ab < 16 ∧ pat (33 * b + 21 + j) = nI ab ∧ lst (4 * b + j) = nI (ab % 4) ∧ len (4 * b + j) = nI (ab / 4) ∧ lty (4 * b + j) = pat (33 * b + 25 + j) ∧ lki (4 * b + j) = pat (33 * b + 29 + j) ∧
    (pat (33 * b + 29 + j) = 0 ∨ pat (33 * b + 29 + j) = 1) ∧ pat (33 * b + 1 + ab % 4) = 1 ∧ pat (33 * b + 1 + ab / 4) = 1)
def gr_P (b : Nat) (pm ss ls sl so sg lst len lty lki pat : Nat → Int32) : Prop :=
  pm b = pat (33 * b) ∧ (∃ m, m < 4 ∧ pat (33 * b) = nI m) ∧ (∀ i, i < 4 → gr_S b i ss sl so sg pat) ∧ (∀ j, j < 4 → gr_K b j ls lst len lty lki pat)
/-- the relation at the head of a turn -/
def i_Rel (k : Nat) (u : SX) (v : SY) : Prop := match u with
  | (f_nodeSet, f_edgeSet, f_sought, f_wanted, f_weighing, f_found, f_lightest, f_heaviest, a_nodeLabel, a_nodeValue, a_edgesFrom, a_edgesTo, a_edgesOfType, a_edgeWeight, a_patternMode, a_spotSet, a_linkSet, a_spotLabels, a_spotLeast, a_spotGreatest, a_linkStart, a_linkEnd, a_linkTypes, a_linkKind, a_spotNodes, a_typedEdges, a_wayTargets, a_placed, a_linkEdges, a_taken, a_picked) => match v with
    | (f_base, f_many, a_nodeThere, a_labels, a_values, a_edgeThere, a_froms, a_tos, a_whats, a_patterns, a_parts, a_chosen) => gr_N f_nodeSet a_nodeThere ∧ (a_nodeLabel = a_labels ∧ a_nodeValue = a_values ∧ gr_L a_labels) ∧ gr_E f_edgeSet a_edgesFrom a_edgesTo a_edgesOfType a_edgeWeight a_edgeThere a_froms a_tos a_whats ∧
      gr_P 0 a_patternMode a_spotSet a_linkSet a_spotLabels a_spotLeast a_spotGreatest a_linkStart a_linkEnd a_linkTypes a_linkKind a_patterns ∧
      gr_P 1 a_patternMode a_spotSet a_linkSet a_spotLabels a_spotLeast a_spotGreatest a_linkStart a_linkEnd a_linkTypes a_linkKind a_patterns
theorem i_up {k : Nat} {u : SX} {v : SY} (h : i_Rel k u v) : i_Rel (k + 5) u v := h
theorem gr_B0 {eT : Nat → Int32} {P : Nat → Prop} (h : ∀ i, i < 20 → ¬ (eT i = 1 ∧ P i)) : gr_B 0 eT P := fun i _ => by
  rw [b_0]
  exact ⟨fun z => absurd z Bool.false_ne_true, fun z => absurd z.2 (h i z.1)⟩
theorem gr_P0 {b : Nat} : gr_P b (fun _ => 0) (fun _ => 0) (fun _ => 0) (fun _ => 0) (fun _ => 0) (fun _ => 0) (fun _ => 0) (fun _ => 0) (fun _ => 0) (fun _ => 0) (fun _ => 0) := by
  refine ⟨rfl, ⟨0, by omega, rfl⟩, fun i _ => ⟨Or.inl rfl, ?_, fun z => absurd z.symm gn_10⟩, fun j _ => ⟨Or.inl rfl, ?_, fun z => absurd z.symm gn_10⟩⟩
  · show bt 0 i = true ↔ (0 : Int32) = 1
    rw [b_0]
    exact ⟨fun z => absurd z Bool.false_ne_true, fun z => absurd z.symm gn_10⟩
  · show bt 0 j = true ↔ (0 : Int32) = 1
    rw [b_0]
    exact ⟨fun z => absurd z Bool.false_ne_true, fun z => absurd z.symm gn_10⟩
theorem i_vc0 : wpX_init (fun u => wpY_init (fun v => i_Rel 0 u v)) := by
  have z01 : ¬ (0 : Int32) = 1 := by decide
  refine ⟨⟨fun _ => Or.inl rfl, fun i _ => ?_⟩, ⟨rfl, rfl, fun _ => ⟨0, by omega, rfl⟩⟩, ⟨⟨fun _ => Or.inl rfl, fun _ => ⟨0, by omega, rfl⟩, fun _ => ⟨0, by omega, rfl⟩, fun _ => ⟨0, by omega, rfl⟩⟩, gr_B0 (fun _ _ z => z01 z.1), fun _ _ => gr_B0 (fun _ _ z => z01 z.1), fun _ _ => gr_B0 (fun _ _ z => z01 z.1), fun _ _ => gr_B0 (fun _ _ z => z01 z.1), fun _ _ => ?_, fun _ _ _ => rfl⟩, gr_P0, gr_P0⟩
  · rw [b_0]
    exact ⟨fun z => absurd z Bool.false_ne_true, fun z => absurd z.2 z01⟩
  · show (0 : Int32) = 0 / 3
    decide
/-! how the relation moves -/
theorem gr_Na {ns : Int32} {nT : Nat → Int32} {m : Nat} (h : gr_N ns nT) (hm : m < 12) : gr_N (ns ||| ((1 : Int32) <<< (nI m &&& 31))) (upd nT m 1) := by
  refine ⟨fun n => ?_, fun i hi => ?_⟩
  · by_cases e : n = m
    · subst e; rw [pk_us]; exact Or.inr rfl
    · rw [pk_un e]; exact h.1 n
  · rw [b_or, Bool.or_eq_true, h.2 i hi, gb_sb (by omega) hi, decide_eq_true_iff]
    by_cases e : i = m
    · subst e; rw [pk_us]; exact ⟨fun _ => ⟨hm, rfl⟩, fun _ => Or.inr rfl⟩
    · rw [pk_un e]; exact ⟨fun z => z.resolve_right e, Or.inl⟩
theorem gr_Nd {ns : Int32} {nT : Nat → Int32} {m : Nat} (h : gr_N ns nT) (hm : m < 12) : gr_N (ns &&& (((1 : Int32) <<< (nI m &&& 31)) ^^^ (-1))) (upd nT m 0) := by
  refine ⟨fun n => ?_, fun i hi => ?_⟩
  · by_cases e : n = m
    · subst e; rw [pk_us]; exact Or.inl rfl
    · rw [pk_un e]; exact h.1 n
  · rw [b_and, Bool.and_eq_true, h.2 i hi, gb_not _ hi, gb_sb (by omega) hi]
    by_cases e : i = m
    · subst e; rw [pk_us, decide_eq_true rfl]
      exact ⟨fun z => absurd z.2 Bool.false_ne_true, fun z => absurd z.2.symm gn_10⟩
    · rw [pk_un e, decide_eq_false e]; exact ⟨fun z => z.1, fun z => ⟨z, rfl⟩⟩
theorem gr_Lu {lab : Nat → Int32} {m l : Nat} (h : gr_L lab) (hl : l < 4) : gr_L (upd lab m (nI l)) := fun n => by
  by_cases e : n = m
  · subst e; rw [pk_us]; exact ⟨l, hl, rfl⟩
  · rw [pk_un e]; exact h n
theorem gr_Bd {x g : Int32} {eT eT' : Nat → Int32} {P : Nat → Prop} (h : gr_B x eT P) (hg : ∀ i, i < 20 → (eT' i = 1 ↔ eT i = 1 ∧ bt g i = false)) : gr_B (x &&& (g ^^^ (-1))) eT' P := fun i hi => by
  rw [b_and, Bool.and_eq_true, h i hi, gb_not _ hi]
  constructor
  · rintro ⟨⟨h1, h2, h3⟩, h4⟩
    refine ⟨h1, (hg i h1).mpr ⟨h2, ?_⟩, h3⟩
    cases e : bt g i
    · rfl
    · rw [e] at h4; exact h4.symm
  · rintro ⟨h1, h2, h3⟩
    obtain ⟨h4, h5⟩ := (hg i h1).mp h2
    rw [h5]
    exact ⟨⟨h1, h4, h3⟩, rfl⟩
theorem gr_B1 {x : Int32} {eT : Nat → Int32} {P P' : Nat → Prop} {m : Nat} (h : gr_B x eT P) (hm : m < 20) (hP : ∀ i, i ≠ m → (P' i ↔ P i)) (hm' : P' m) : gr_B (x ||| ((1 : Int32) <<< (nI m &&& 31))) (upd eT m 1) P' := fun i hi => by
  rw [b_or, Bool.or_eq_true, h i hi, gb_sb (by omega) hi, decide_eq_true_iff]
  by_cases e : i = m
  · subst e; rw [pk_us]; exact ⟨fun _ => ⟨hm, rfl, hm'⟩, fun _ => Or.inr rfl⟩
  · rw [pk_un e, hP i e]; exact ⟨fun z => z.resolve_right e, Or.inl⟩
theorem gr_B2 {x : Int32} {eT : Nat → Int32} {P P' : Nat → Prop} {m : Nat} (h : gr_B x eT P) (h0 : eT m = 0) (hP : ∀ i, i ≠ m → (P' i ↔ P i)) (hm' : ¬ P' m) : gr_B x (upd eT m 1) P' := fun i hi => by
  rw [h i hi]
  by_cases e : i = m
  · subst e; rw [pk_us, h0]; exact ⟨fun z => absurd z.2.1.symm gn_10, fun z => absurd z.2.2 hm'⟩
  · rw [pk_un e, hP i e]
theorem gr_cnt {x : Int32} {eT : Nat → Int32} {P : Nat → Prop} (h : gr_B x eT P) : gc_n (bt x) 24 = gc_n (fun e => gq_b (eT e = 1 ∧ P e)) 20 := by
  rw [gc_ext (P := bt x) 4 20]
  · refine gc_eq 20 (fun i hi => ?_)
    rw [Bool.eq_iff_iff, h i (by omega), gq_bi]
    exact ⟨fun z => z.2, fun z => ⟨hi, z⟩⟩
  · intro i h1 h2
    apply Bool.eq_false_iff.mpr
    intro z
    have := ((h i (by omega)).mp z).1
    omega
/-! the reference: small methods -/
section GY
variable {f_base f_many : Int32} {a_nodeThere a_labels a_values a_edgeThere a_froms a_tos a_whats a_patterns a_parts a_chosen : Nat → Int32}
theorem gy_isNode {post : Int32 → Prop} (v : Int32) (hT : ∀ n, a_nodeThere n = 0 ∨ a_nodeThere n = 1) (h0 : (¬ ∃ j, j < 12 ∧ v = nI j ∧ a_nodeThere j = 1) → post 0) (h1 : ∀ j, j < 12 → v = nI j → a_nodeThere j = 1 → post 1) : wpY_isNode post (f_base, f_many, a_nodeThere, a_labels, a_values, a_edgeThere, a_froms, a_tos, a_whats, a_patterns, a_parts, a_chosen) v := by
  refine br_c (fun z => h0 ?_) (fun z => ?_)
  · rintro ⟨j, hj, rfl, _⟩
    exact nI_pos (by omega) z
  · obtain ⟨j, hj, rfl⟩ := nI_of z
    by_cases h : j < 12
    · have c : (nI j).toNatClampNeg = j := nI_clamp hj
      refine br_f (nI_ge (b := 12) h (by decide)) ⟨vp_in_nI h (by decide), br_c (fun z => h0 ?_) (fun z => h1 j h rfl ?_)⟩
      · rintro ⟨i, hi, e, q⟩
        rw [c, (nI_eq hj (by omega)).mp e, q] at z
        exact gn_10 z
      · rw [c] at z
        exact (hT j).resolve_left z
    · refine br_t (nI_le (a := 12) (by omega) hj) (h0 ?_)
      rintro ⟨i, hi, e, q⟩
      have := (nI_eq hj (by omega)).mp e
      omega
theorem gy_addNode {post : Int32 → SY → Prop} {l v : Int32} {m : Nat} (hm : m ≤ 12) (h : ∀ i, i < m → a_nodeThere i = 1) (h0 : m < 12 → a_nodeThere m = 0) (hf : m = 12 → post (-2) (f_base, f_many, a_nodeThere, a_labels, a_values, a_edgeThere, a_froms, a_tos, a_whats, a_patterns, a_parts, a_chosen))
    (hp : m < 12 → post (nI m) (f_base, f_many, upd a_nodeThere m 1, upd a_labels m l, upd a_values m v, a_edgeThere, a_froms, a_tos, a_whats, a_patterns, a_parts, a_chosen)) : ∃ n, wY_addNode_13 post l v f_base f_many a_nodeThere a_labels a_values a_edgeThere a_froms a_tos a_whats a_patterns a_parts a_chosen n 0 := by
  refine loop_0 (fun n i (_ : Unit) => wY_addNode_13 post l v f_base f_many a_nodeThere a_labels a_values a_edgeThere a_froms a_tos a_whats a_patterns a_parts a_chosen n (nI i)) (fun _ _ => True) m () trivial (fun n s _ => ?_) (fun n i s hi _ ih => ?_)
  · by_cases e : m = 12
    · exact br_t (nI_le (a := 12) (by omega) (by omega)) (hf e)
    · have c : (nI m).toNatClampNeg = m := nI_clamp (by omega)
      have w : vp_in (nI m) 12 := vp_in_nI (by omega) (by decide)
      exact br_f (nI_ge (b := 12) (by omega) (by decide)) ⟨w, br_t (by rw [c]; exact h0 (by omega)) ⟨w, nm_r (e' := upd a_nodeThere m 1) (by rw [c, gn_b1]) ⟨w, nm_r (e' := upd a_labels m l) (by rw [c]) ⟨w, nm_r (e' := upd a_values m v) (by rw [c]) (hp (by omega))⟩⟩⟩⟩
  · have c : (nI i).toNatClampNeg = i := nI_clamp (by omega)
    exact br_f (nI_ge (b := 12) (by omega) (by decide)) ⟨vp_in_nI (by omega) (by decide), br_f (by rw [c, h i hi]; exact gn_10) (nm_r (nI_1 i) (ih () trivial))⟩
theorem gy_addEdge {post : Int32 → SY → Prop} {a b w : Int32} {m : Nat} (hm : m ≤ 20) (h : ∀ i, i < m → a_edgeThere i = 1) (h0 : m < 20 → a_edgeThere m = 0) (hf : m = 20 → post (-2) (f_base, f_many, a_nodeThere, a_labels, a_values, a_edgeThere, a_froms, a_tos, a_whats, a_patterns, a_parts, a_chosen))
    (hp : m < 20 → post (nI m) (f_base, f_many, a_nodeThere, a_labels, a_values, upd a_edgeThere m 1, upd a_froms m a, upd a_tos m b, upd a_whats m w, a_patterns, a_parts, a_chosen)) : ∃ n, wY_addEdge_31 post a b w f_base f_many a_nodeThere a_labels a_values a_edgeThere a_froms a_tos a_whats a_patterns a_parts a_chosen n 0 := by
  refine loop_0 (fun n i (_ : Unit) => wY_addEdge_31 post a b w f_base f_many a_nodeThere a_labels a_values a_edgeThere a_froms a_tos a_whats a_patterns a_parts a_chosen n (nI i)) (fun _ _ => True) m () trivial (fun n s _ => ?_) (fun n i s hi _ ih => ?_)
  · by_cases e : m = 20
    · exact br_t (nI_le (a := 20) (by omega) (by omega)) (hf e)
    · have c : (nI m).toNatClampNeg = m := nI_clamp (by omega)
      have v : vp_in (nI m) 20 := vp_in_nI (by omega) (by decide)
      exact br_f (nI_ge (b := 20) (by omega) (by decide)) ⟨v, br_t (by rw [c]; exact h0 (by omega)) ⟨v, nm_r (e' := upd a_edgeThere m 1) (by rw [c, gn_b1]) ⟨v, nm_r (e' := upd a_froms m a) (by rw [c]) ⟨v, nm_r (e' := upd a_tos m b) (by rw [c]) ⟨v, nm_r (e' := upd a_whats m w) (by rw [c]) (hp (by omega))⟩⟩⟩⟩⟩
  · have c : (nI i).toNatClampNeg = i := nI_clamp (by omega)
    exact br_f (nI_ge (b := 20) (by omega) (by decide)) ⟨vp_in_nI (by omega) (by decide), br_f (by rw [c, h i hi]; exact gn_10) (nm_r (nI_1 i) (ih () trivial))⟩
theorem gy_remove {post : Int32 → SY → Prop} {v : Nat} (hv : v < 12) (hT : ∀ e, a_edgeThere e = 0 ∨ a_edgeThere e = 1)
    (h : ∀ eT : Nat → Int32, (∀ e, e < 20 → eT e = if a_edgeThere e = 1 ∧ (a_froms e = nI v ∨ a_tos e = nI v) then 0 else a_edgeThere e) → (∀ e, 20 ≤ e → eT e = a_edgeThere e) → post (nI (gc_n (fun e => gq_b (a_edgeThere e = 1 ∧ (a_froms e = nI v ∨ a_tos e = nI v))) 20)) (f_base, f_many, upd a_nodeThere v 0, a_labels, a_values, eT, a_froms, a_tos, a_whats, a_patterns, a_parts, a_chosen)) :
    ∃ n, wY_removeNode_14 post (nI v) f_base f_many n 0 0 a_nodeThere a_labels a_values a_edgeThere a_froms a_tos a_whats a_patterns a_parts a_chosen := by
  refine loop_0 (fun n i (s : Int32 × (Nat → Int32)) => wY_removeNode_14 post (nI v) f_base f_many n s.1 (nI i) a_nodeThere a_labels a_values s.2 a_froms a_tos a_whats a_patterns a_parts a_chosen) (fun i s => s.1 = nI (gc_n (fun e => gq_b (a_edgeThere e = 1 ∧ (a_froms e = nI v ∨ a_tos e = nI v))) i) ∧ (∀ e, e < i → s.2 e = if a_edgeThere e = 1 ∧ (a_froms e = nI v ∨ a_tos e = nI v) then 0 else a_edgeThere e) ∧ (∀ e, i ≤ e → s.2 e = a_edgeThere e)) 20 (0, a_edgeThere) ⟨rfl, fun e he => absurd he (Nat.not_lt_zero e), fun _ _ => rfl⟩ (fun n s I => ?_) (fun n i s hi I ih => ?_)
  · have c : (nI v).toNatClampNeg = v := nI_clamp (by omega)
    refine br_t (nI_le (a := 20) (by omega) (by decide)) ⟨vp_in_nI hv (by decide), nm_r (e' := upd a_nodeThere v 0) (by rw [c, gn_b0]) ?_⟩
    rw [I.1]
    exact h s.2 I.2.1 I.2.2
  · obtain ⟨I1, I2, I3⟩ := I
    have c : (nI i).toNatClampNeg = i := nI_clamp (by omega)
    have w : vp_in (nI i) 20 := vp_in_nI hi (by decide)
    have ei : s.2 i = a_edgeThere i := I3 i (Nat.le_refl i)
    have fin : ∀ (x : Int32) (y : Int32), x = nI (gc_n (fun e => gq_b (a_edgeThere e = 1 ∧ (a_froms e = nI v ∨ a_tos e = nI v))) (i + 1)) → (y = if a_edgeThere i = 1 ∧ (a_froms i = nI v ∨ a_tos i = nI v) then 0 else a_edgeThere i) → wY_removeNode_14 post (nI v) f_base f_many n x (nI (i + 1)) a_nodeThere a_labels a_values (upd s.2 i y) a_froms a_tos a_whats a_patterns a_parts a_chosen := by
      intro x y hx hy
      refine ih (x, upd s.2 i y) ⟨hx, fun e he => ?_, fun e he => ?_⟩
      · by_cases q : e = i
        · subst q; exact pk_us.trans hy
        · exact (pk_un q).trans (I2 e (by omega))
      · exact (pk_un (by omega)).trans (I3 e (by omega))
    refine br_f (nI_ge (b := 20) hi (by decide)) ⟨w, ?_⟩
    rw [c, ei]
    rcases hT i with t0 | t1
    · have nq : ¬ (a_edgeThere i = 1 ∧ (a_froms i = nI v ∨ a_tos i = nI v)) := fun z => gn_10 (z.1.symm.trans t0)
      refine br_t t0 (br_t rfl ⟨w, br_t (by rw [c, ei]; exact t0) ⟨w, nm_r (e' := upd s.2 i 0) (by rw [c, gn_b0]) (nm_r (nI_1 i) (fin _ _ ?_ ?_))⟩⟩)
      · rw [I1]
        show _ = nI (_ + (bif gq_b _ then 1 else 0))
        rw [gq_bf nq]; rfl
      · rw [if_neg nq, t0]
    · have t1' : ¬ a_edgeThere i = 0 := fun z => gn_10 (t1.symm.trans z)
      have t2' : ¬ s.2 (nI i).toNatClampNeg = 0 := by rw [c, ei]; exact t1'
      have case1 : (a_froms i = nI v ∨ a_tos i = nI v) → wY_removeNode_49 post (wY_removeNode_14 post (nI v) f_base f_many n) (nI v) s.1 (nI i) f_base f_many a_nodeThere a_labels a_values s.2 a_froms a_tos a_whats a_patterns a_parts a_chosen := by
        intro q
        refine br_f gn_10 ⟨w, br_f t2' (br_f gn_10 ⟨w, nm_r (e' := upd s.2 i 0) (by rw [c, gn_b0]) (nm_r (nI_1 i) (fin _ _ ?_ ?_))⟩)⟩
        · rw [I1, nI_1]
          show _ = nI (_ + (bif gq_b _ then 1 else 0))
          rw [gq_bt ⟨t1, q⟩]; rfl
        · rw [if_pos ⟨t1, q⟩]
      refine br_f t1' ⟨w, br_c (fun q => case1 (Or.inl q)) (fun q => ⟨w, br_c (fun r => case1 (Or.inr r)) (fun r => ?_)⟩)⟩
      have nq : ¬ (a_edgeThere i = 1 ∧ (a_froms i = nI v ∨ a_tos i = nI v)) := fun z => z.2.elim q r
      refine br_t rfl ⟨w, br_f t2' (br_t rfl ⟨w, nm_r (e' := upd s.2 i 1) (by rw [c, gn_b1]) (nm_r (nI_1 i) (fin _ _ ?_ ?_))⟩)⟩
      · rw [I1]
        show _ = nI (_ + (bif gq_b _ then 1 else 0))
        rw [gq_bf nq]; rfl
      · rw [if_neg nq, t1]
theorem gy_degree {post : Int32 → Prop} {v w : Int32} {g : Nat → Int32} (hg : g = if w = 0 then a_froms else a_tos) (hT : ∀ e, a_edgeThere e = 0 ∨ a_edgeThere e = 1)
    (h : post (nI (gc_n (fun e => gq_b (a_edgeThere e = 1 ∧ g e = v)) 20))) : ∃ n, wY_degree_24 post v w f_base f_many a_nodeThere a_labels a_values a_edgeThere a_froms a_tos a_whats a_patterns a_parts a_chosen n 0 0 := by
  refine loop_0 (fun n i s => wY_degree_24 post v w f_base f_many a_nodeThere a_labels a_values a_edgeThere a_froms a_tos a_whats a_patterns a_parts a_chosen n s (nI i)) (fun i s => s = nI (gc_n (fun e => gq_b (a_edgeThere e = 1 ∧ g e = v)) i)) 20 0 rfl (fun n s I => ?_) (fun n i s hi I ih => ?_)
  · subst I
    exact br_t (nI_le (a := 20) (by omega) (by decide)) h
  · subst I
    have c : (nI i).toNatClampNeg = i := nI_clamp (by omega)
    have x : vp_in (nI i) 20 := vp_in_nI hi (by decide)
    refine br_f (nI_ge (b := 20) hi (by decide)) ⟨x, ?_⟩
    rw [c]
    have e1 : (a_edgeThere i = 1 ∧ g i = v) → nI (gc_n (fun e => gq_b (a_edgeThere e = 1 ∧ g e = v)) i) + 1 = nI (gc_n (fun e => gq_b (a_edgeThere e = 1 ∧ g e = v)) (i + 1)) := fun q => by
      rw [nI_1]
      show _ = nI (_ + (bif gq_b _ then 1 else 0))
      rw [gq_bt q]; rfl
    have e0 : ¬ (a_edgeThere i = 1 ∧ g i = v) → nI (gc_n (fun e => gq_b (a_edgeThere e = 1 ∧ g e = v)) i) = nI (gc_n (fun e => gq_b (a_edgeThere e = 1 ∧ g e = v)) (i + 1)) := fun q => by
      show _ = nI (_ + (bif gq_b _ then 1 else 0))
      rw [gq_bf q]; rfl
    rcases hT i with t0 | t1
    · exact br_t t0 (nm_r (nI_1 i) (ih _ (e0 (fun z => gn_10 (z.1.symm.trans t0)))))
    · have key : wY_degree_62 post (wY_degree_24 post v w f_base f_many a_nodeThere a_labels a_values a_edgeThere a_froms a_tos a_whats a_patterns a_parts a_chosen n) v w (nI (gc_n (fun e => gq_b (a_edgeThere e = 1 ∧ g e = v)) i)) (nI i) (g i) f_base f_many a_nodeThere a_labels a_values a_edgeThere a_froms a_tos a_whats a_patterns a_parts a_chosen :=
        br_c (fun q => nm_e (nm_r (nI_1 i) (ih _ (e1 ⟨t1, q⟩)))) (fun q => nm_r (nI_1 i) (ih _ (e0 (fun z => q z.2))))
      refine br_f (fun z => gn_10 (t1.symm.trans z)) (br_c (fun z => ⟨x, ?_⟩) (fun z => ⟨x, ?_⟩))
      · rw [if_pos z] at hg
        subst hg
        exact key
      · rw [if_neg z] at hg
        subst hg
        exact key
theorem gy_nodes {post : Int32 → Prop} (h : ∀ r, ga_acc (fun n i => i = n ∧ ¬ a_nodeThere n = 0) 12 r → post r) : wpY_nodes post (f_base, f_many, a_nodeThere, a_labels, a_values, a_edgeThere, a_froms, a_tos, a_whats, a_patterns, a_parts, a_chosen) := by
  refine loop_0 (fun n i s => wY_nodes_4 post f_base f_many a_nodeThere a_labels a_values a_edgeThere a_froms a_tos a_whats a_patterns a_parts a_chosen n s (nI i)) (ga_acc (fun n i => i = n ∧ ¬ a_nodeThere n = 0)) 12 0 ga_0 (fun n s I => br_t (nI_le (a := 12) (by omega) (by decide)) (h s I)) (fun n i s hi I ih => ?_)
  have c : (nI i).toNatClampNeg = i := nI_clamp (by omega)
  refine br_f (nI_ge (b := 12) hi (by decide)) ⟨vp_in_nI hi (by decide), ?_⟩
  rw [c]
  exact br_c (fun z => nm_r (nI_1 i) (ih _ (ga_no I (fun k hk q => q.2 z)))) (fun z => nm_e (nm_r (nI_1 i) (ih _ (ga_or I (ga_bit (by omega) (fun k hk => ⟨fun q => q.1, fun q => ⟨q, z⟩⟩))))))
end GY
end
section
/-! ways: both sides make the same set -/
def gw_c (eT fr wh : Nat → Int32) (ty set : Int32) (e : Nat) : Prop := (eT e = 1 ∧ ((ty >>> ((wh e - wh e / 3 * 3) &&& 31)) &&& 1) = 1) ∧ ((set >>> (fr e &&& 31)) &&& 1) = 1
noncomputable def gw_step (eT fr to wh : Nat → Int32) (ty set : Int32) : Nat → Int32
  | 0 => 0
  | e + 1 => bif gq_b (gw_c eT fr wh ty set e) then gw_step eT fr to wh ty set e ||| ((1 : Int32) <<< (to e &&& 31)) else gw_step eT fr to wh ty set e
noncomputable def gw_ways (eT fr to wh : Nat → Int32) (ty : Int32) (n : Nat) : Nat → Int32 × Int32
  | 0 => (0, (1 : Int32) <<< (nI n &&& 31))
  | k + 1 => ((gw_ways eT fr to wh ty n k).1 ||| gw_step eT fr to wh ty (gw_ways eT fr to wh ty n k).2 20, gw_step eT fr to wh ty (gw_ways eT fr to wh ty n k).2 20)
theorem gw_acc {eT fr to wh : Nat → Int32} {ty set : Int32} (hD : gr_D eT fr to wh) : ∀ k, ga_acc (fun e i => gw_c eT fr wh ty set e ∧ to e = nI i) k (gw_step eT fr to wh ty set k)
  | 0 => ga_0
  | k + 1 => by
    show ga_acc _ _ (bif gq_b (gw_c eT fr wh ty set k) then _ else _)
    by_cases h : gw_c eT fr wh ty set k
    · rw [gq_bt h]
      obtain ⟨a, ha, ea⟩ := hD.2.2.1 k
      refine ga_or (gw_acc hD k) ?_
      rw [ea]
      refine ga_bit (by omega) (fun i hi => ?_)
      rw [nI_eq (by omega) (by omega)]
      exact ⟨fun z => z.2.symm, fun z => ⟨h, z.symm⟩⟩
    · rw [gq_bf h]
      exact ga_no (gw_acc hD k) (fun i _ z => h z.1)
theorem gw_rem {wh : Nat → Int32} {e : Nat} (h : ∃ w, w < 63 ∧ wh e = nI w) : ∃ t, t < 3 ∧ wh e - wh e / 3 * 3 = nI t := by
  obtain ⟨w, hw, ew⟩ := h
  refine ⟨w % 3, by omega, ?_⟩
  rw [ew]
  exact pk_rem (a := w) (d := 3) (by omega) (by decide) (by decide)
/-- the edges of some types -/
theorem gw_typed {es : Int32} {eF eO eY ew eT fr to wh : Nat → Int32} {ty r : Int32} (hE : gr_E es eF eO eY ew eT fr to wh) (h : ga_acc (fun t i => bt ty t = true ∧ bt (eY t) i = true) 3 r) :
    gr_B r eT (fun e => ((ty >>> ((wh e - wh e / 3 * 3) &&& 31)) &&& 1) = 1) := fun i hi => by
  rw [h i hi]
  obtain ⟨t, ht, et⟩ := gw_rem (hE.1.2.2.2 i)
  dsimp only
  rw [et, gb_bit1 _ (by omega)]
  constructor
  · rintro ⟨t', ht', q1, q2⟩
    obtain ⟨z1, z2, z3⟩ := (hE.2.2.2.2.1 t' ht' i hi).mp q2
    rw [et, nI_eq (by omega) (by omega)] at z3
    rw [z3]
    exact ⟨z1, z2, q1⟩
  · rintro ⟨z1, z2, z3⟩
    exact ⟨t, ht, z3, (hE.2.2.2.2.1 t ht i hi).mpr ⟨z1, z2, et⟩⟩
theorem gw_same {es : Int32} {eF eO eY ew eT fr to wh : Nat → Int32} {ty ed st r : Int32} (hE : gr_E es eF eO eY ew eT fr to wh) (he : gr_B ed eT (fun e => ((ty >>> ((wh e - wh e / 3 * 3) &&& 31)) &&& 1) = 1))
    (h : ga_acc (fun n i => i = n ∧ ∃ e, e < 32 ∧ bt (eO n) e = true ∧ ∃ m, m < 12 ∧ bt st m = true ∧ bt (eF m) e = true ∧ bt ed e = true) 12 r) : r = gw_step eT fr to wh ty st 20 := by
  apply gb_ext
  intro i hi
  rw [h i hi, gw_acc hE.1 20 i hi]
  constructor
  · rintro ⟨n, hn, rfl, e, he32, q1, m, hm, q2, q3, q4⟩
    obtain ⟨a1, a2, a3⟩ := (hE.2.2.2.1 i hn e he32).mp q1
    obtain ⟨b1, b2, b3⟩ := (hE.2.2.1 m hm e he32).mp q3
    obtain ⟨c1, c2, c3⟩ := (he e he32).mp q4
    refine ⟨e, a1, ⟨⟨a2, c3⟩, ?_⟩, a3⟩
    rw [b3, gb_bit1 _ (by omega)]
    exact q2
  · rintro ⟨e, he20, ⟨⟨q1, q2⟩, q3⟩, q4⟩
    obtain ⟨a, ha, ea⟩ := hE.1.2.1 e
    obtain ⟨b, hb, eb⟩ := hE.1.2.2.1 e
    rw [eb, nI_eq (by omega) (by omega)] at q4
    subst q4
    rw [ea, gb_bit1 _ (by omega)] at q3
    exact ⟨b, hb, rfl, e, by omega, (hE.2.2.2.1 b hb e (by omega)).mpr ⟨he20, q1, eb⟩, a, ha, q3, (hE.2.2.1 a ha e (by omega)).mpr ⟨he20, q1, ea⟩, (he e (by omega)).mpr ⟨he20, q1, q2⟩⟩
section GWX
variable {f_nodeSet f_edgeSet f_sought f_wanted f_weighing f_found f_lightest f_heaviest : Int32} {a_nodeLabel a_nodeValue a_edgesFrom a_edgesTo a_edgesOfType a_edgeWeight a_patternMode a_spotSet a_linkSet a_spotLabels a_spotLeast a_spotGreatest a_linkStart a_linkEnd a_linkTypes a_linkKind a_spotNodes a_typedEdges a_wayTargets a_placed a_linkEdges a_taken a_picked : Nat → Int32} {a_edgeThere a_froms a_tos a_whats : Nat → Int32}
theorem gx_targets {post : Int32 → Prop} {ty ed : Int32} {n k : Nat} (hE : gr_E f_edgeSet a_edgesFrom a_edgesTo a_edgesOfType a_edgeWeight a_edgeThere a_froms a_tos a_whats) (he : gr_B ed a_edgeThere (fun e => ((ty >>> ((a_whats e - a_whats e / 3 * 3) &&& 31)) &&& 1) = 1)) (hk : k < 100)
    (h : post (gw_ways a_edgeThere a_froms a_tos a_whats ty n k).1) : wpX_targets post (f_nodeSet, f_edgeSet, f_sought, f_wanted, f_weighing, f_found, f_lightest, f_heaviest, a_nodeLabel, a_nodeValue, a_edgesFrom, a_edgesTo, a_edgesOfType, a_edgeWeight, a_patternMode, a_spotSet, a_linkSet, a_spotLabels, a_spotLeast, a_spotGreatest, a_linkStart, a_linkEnd, a_linkTypes, a_linkKind, a_spotNodes, a_typedEdges, a_wayTargets, a_placed, a_linkEdges, a_taken, a_picked) (nI n) ed (nI k) := by
  refine nm_e (loop_0 (fun f i (s : Int32 × Int32) => wX_targets_11 post ed (nI k) f_nodeSet f_edgeSet f_sought f_wanted f_weighing f_found f_lightest f_heaviest a_nodeLabel a_nodeValue a_edgesFrom a_edgesTo a_edgesOfType a_edgeWeight a_patternMode a_spotSet a_linkSet a_spotLabels a_spotLeast a_spotGreatest a_linkStart a_linkEnd a_linkTypes a_linkKind a_spotNodes a_typedEdges a_wayTargets a_placed a_linkEdges a_taken a_picked f s.1 s.2 (nI (i + 1))) (fun i s => s = gw_ways a_edgeThere a_froms a_tos a_whats ty n i) k (0, (1 : Int32) <<< (nI n &&& 31)) rfl (fun f s I => ?_) (fun f i s hi I ih => ?_))
  · subst I
    exact br_t (nI_lt (by omega) (by omega)) h
  · subst I
    refine br_f (nI_nlt (by omega) (by omega)) ?_
    refine gx_step (fun r hr => ?_)
    have e := gw_same hE he hr
    subst e
    exact nm_e (nm_r (nI_1 (i + 1)) (ih _ rfl))
end GWX
section GWY
variable {f_base f_many : Int32} {a_nodeThere a_labels a_values a_edgeThere a_froms a_tos a_whats a_patterns a_parts a_chosen : Nat → Int32}
theorem gy_typed {post : Int32 → Prop} {ty : Int32} {e : Nat} (he : e < 20) (hT : ∀ e, a_edgeThere e = 0 ∨ a_edgeThere e = 1) (h1 : (a_edgeThere e = 1 ∧ ((ty >>> ((a_whats e - a_whats e / 3 * 3) &&& 31)) &&& 1) = 1) → post 1) (h0 : ¬ (a_edgeThere e = 1 ∧ ((ty >>> ((a_whats e - a_whats e / 3 * 3) &&& 31)) &&& 1) = 1) → post 0) : wpY_typed post (f_base, f_many, a_nodeThere, a_labels, a_values, a_edgeThere, a_froms, a_tos, a_whats, a_patterns, a_parts, a_chosen) (nI e) ty := by
  have c : (nI e).toNatClampNeg = e := nI_clamp (by omega)
  have v : vp_in (nI e) 20 := vp_in_nI he (by decide)
  refine ⟨v, ?_⟩
  rw [c]
  rcases hT e with t | t
  · exact br_t t (h0 (fun z => gn_10 (z.1.symm.trans t)))
  · exact br_f (fun z => gn_10 (t.symm.trans z)) ⟨v, gn_d3, br_c (fun z => h1 ⟨t, z⟩) (fun z => h0 (fun w => z w.2))⟩
theorem gy_step {post : Int32 → Prop} {st ty : Int32} (hT : ∀ e, a_edgeThere e = 0 ∨ a_edgeThere e = 1) (h : post (gw_step a_edgeThere a_froms a_tos a_whats ty st 20)) : wpY_step post (f_base, f_many, a_nodeThere, a_labels, a_values, a_edgeThere, a_froms, a_tos, a_whats, a_patterns, a_parts, a_chosen) st ty := by
  refine loop_0 (fun n i s => wY_step_5 post st ty f_base f_many a_nodeThere a_labels a_values a_edgeThere a_froms a_tos a_whats a_patterns a_parts a_chosen n s (nI i)) (fun i s => s = gw_step a_edgeThere a_froms a_tos a_whats ty st i) 20 0 rfl (fun n s I => ?_) (fun n i s hi I ih => ?_)
  · subst I
    exact br_t (nI_le (a := 20) (by omega) (by decide)) h
  · subst I
    have c : (nI i).toNatClampNeg = i := nI_clamp (by omega)
    have v : vp_in (nI i) 20 := vp_in_nI hi (by decide)
    have e0 : ¬ gw_c a_edgeThere a_froms a_whats ty st i → gw_step a_edgeThere a_froms a_tos a_whats ty st i = gw_step a_edgeThere a_froms a_tos a_whats ty st (i + 1) := fun q => by
      show _ = bif gq_b (gw_c a_edgeThere a_froms a_whats ty st i) then _ else _
      rw [gq_bf q]; rfl
    have e1 : gw_c a_edgeThere a_froms a_whats ty st i → gw_step a_edgeThere a_froms a_tos a_whats ty st i ||| ((1 : Int32) <<< (a_tos i &&& 31)) = gw_step a_edgeThere a_froms a_tos a_whats ty st (i + 1) := fun q => by
      show _ = bif gq_b (gw_c a_edgeThere a_froms a_whats ty st i) then _ else _
      rw [gq_bt q]; rfl
    refine br_f (nI_ge (b := 20) hi (by decide)) (gy_typed hi hT (fun q => br_f gn_10 ⟨v, ?_⟩) (fun q => br_t rfl (nm_r (nI_1 i) (ih _ (e0 (fun z => q z.1))))))
    rw [c]
    exact br_c (fun z => ⟨v, nm_r (e1 ⟨q, z⟩) (nm_r (nI_1 i) (ih _ rfl))⟩) (fun z => nm_r (nI_1 i) (ih _ (e0 (fun w => z w.2))))
theorem gy_ways {post : Int32 → Prop} {ty : Int32} {n k : Nat} (hT : ∀ e, a_edgeThere e = 0 ∨ a_edgeThere e = 1) (hk : k < 100) (h : post (gw_ways a_edgeThere a_froms a_tos a_whats ty n k).1) : wpY_ways post (f_base, f_many, a_nodeThere, a_labels, a_values, a_edgeThere, a_froms, a_tos, a_whats, a_patterns, a_parts, a_chosen) (nI n) ty (nI k) := by
  refine nm_e (loop_0 (fun f i (s : Int32 × Int32) => wY_ways_11 post ty (nI k) f_base f_many a_nodeThere a_labels a_values a_edgeThere a_froms a_tos a_whats a_patterns a_parts a_chosen f s.1 s.2 (nI i)) (fun i s => s = gw_ways a_edgeThere a_froms a_tos a_whats ty n i) k (0, (1 : Int32) <<< (nI n &&& 31)) rfl (fun f s I => ?_) (fun f i s hi I ih => ?_))
  · subst I
    exact br_t (nI_le (by omega) (by omega)) h
  · subst I
    refine br_f (nI_ge hi (by omega)) ?_
    refine gy_step hT ?_
    exact nm_e (nm_r (nI_1 i) (ih _ rfl))
end GWY
end
section
/-! the methods on the graph -/
theorem gr_Nb {ns : Int32} {nT : Nat → Int32} (h : gr_N ns nT) {i : Nat} (hi : i < 12) : bt ns i = true ↔ nT i = 1 := by
  rw [h.2 i (by omega)]
  exact ⟨fun z => z.2, fun z => ⟨hi, z⟩⟩
theorem gr_Nx {ns : Int32} {nT : Nat → Int32} (h : gr_N ns nT) {v : Int32} : (∃ j, j < 12 ∧ v = nI j ∧ bt ns j = true) ↔ (∃ j, j < 12 ∧ v = nI j ∧ nT j = 1) :=
  ⟨fun ⟨j, a, b, c⟩ => ⟨j, a, b, (gr_Nb h a).mp c⟩, fun ⟨j, a, b, c⟩ => ⟨j, a, b, (gr_Nb h a).mpr c⟩⟩
theorem i_vc_addNode {k : Nat} {u : SX} {v : SY} (I : i_Rel k u v) (hk : k + 5 ≤ 2560) (v1 : Int32) (v2 : Int32) : wpX_addNode (fun r u' => wpY_addNode (fun r' v' => r' = r ∧ i_Rel (k + 5) u' v') v v1 v2) u v1 v2 := by
  obtain ⟨f_nodeSet, f_edgeSet, f_sought, f_wanted, f_weighing, f_found, f_lightest, f_heaviest, a_nodeLabel, a_nodeValue, a_edgesFrom, a_edgesTo, a_edgesOfType, a_edgeWeight, a_patternMode, a_spotSet, a_linkSet, a_spotLabels, a_spotLeast, a_spotGreatest, a_linkStart, a_linkEnd, a_linkTypes, a_linkKind, a_spotNodes, a_typedEdges, a_wayTargets, a_placed, a_linkEdges, a_taken, a_picked⟩ := u
  obtain ⟨f_base, f_many, a_nodeThere, a_labels, a_values, a_edgeThere, a_froms, a_tos, a_whats, a_patterns, a_parts, a_chosen⟩ := v
  have J := I
  obtain ⟨hN, ⟨e1, e2, hL⟩, hE, hP0, hP1⟩ := I
  unfold wpX_addNode wpY_addNode
  refine gx_lv v1 v2 (fun ok => br_f gn_10 ?_) (fun no => br_t rfl ?_)
  · refine gx_lm 12 (by decide) (fun m hm h1 h0 => ?_)
    have hT : ∀ i, i < m → a_nodeThere i = 1 := fun i hi => (gr_Nb hN (by omega)).mp (h1 i hi)
    have hT0 : m < 12 → a_nodeThere m = 0 := fun z => (hN.1 m).resolve_right (fun w => Bool.false_ne_true ((h0 z).symm.trans ((gr_Nb hN z).mpr w)))
    refine pk_eq m 12 (fun e => ?_) (fun e => ?_)
    · refine gy_lv v1 v2 (fun _ => br_f gn_10 ?_) (fun z => absurd ok z)
      exact gy_addNode hm hT hT0 (fun _ => ⟨rfl, J⟩) (fun z => absurd e (by omega))
    · have c : (nI m).toNatClampNeg = m := nI_clamp (by omega)
      have w : vp_in (nI m) 12 := vp_in_nI (by omega) (by decide)
      refine nm_e ⟨w, nm_r (e' := upd a_nodeLabel m v1) (by rw [c]) ⟨w, nm_r (e' := upd a_nodeValue m v2) (by rw [c]) ?_⟩⟩
      refine gy_lv v1 v2 (fun _ => br_f gn_10 ?_) (fun z => absurd ok z)
      refine gy_addNode hm hT hT0 (fun z => absurd z e) (fun hm' => ⟨rfl, gr_Na hN hm', ⟨by rw [e1], by rw [e2], ?_⟩, hE, hP0, hP1⟩)
      obtain ⟨⟨l, hl, rfl⟩, _⟩ := ok
      exact gr_Lu hL hl
  · exact gy_lv v1 v2 (fun z => absurd z no) (fun _ => br_t rfl ⟨rfl, J⟩)
theorem i_vc_setNode {k : Nat} {u : SX} {v : SY} (I : i_Rel k u v) (hk : k + 5 ≤ 2560) (v1 : Int32) (v2 : Int32) (v3 : Int32) : wpX_setNode (fun r u' => wpY_setNode (fun r' v' => r' = r ∧ i_Rel (k + 5) u' v') v v1 v2 v3) u v1 v2 v3 := by
  obtain ⟨f_nodeSet, f_edgeSet, f_sought, f_wanted, f_weighing, f_found, f_lightest, f_heaviest, a_nodeLabel, a_nodeValue, a_edgesFrom, a_edgesTo, a_edgesOfType, a_edgeWeight, a_patternMode, a_spotSet, a_linkSet, a_spotLabels, a_spotLeast, a_spotGreatest, a_linkStart, a_linkEnd, a_linkTypes, a_linkKind, a_spotNodes, a_typedEdges, a_wayTargets, a_placed, a_linkEdges, a_taken, a_picked⟩ := u
  obtain ⟨f_base, f_many, a_nodeThere, a_labels, a_values, a_edgeThere, a_froms, a_tos, a_whats, a_patterns, a_parts, a_chosen⟩ := v
  have J := I
  obtain ⟨hN, ⟨e1, e2, hL⟩, hE, hP0, hP1⟩ := I
  unfold wpX_setNode wpY_setNode
  refine gx_isNode v1 (fun no => br_t rfl ?_) (fun j hj e hb => br_f gn_10 ?_)
  · exact gy_isNode v1 hN.1 (fun _ => br_t rfl ⟨rfl, J⟩) (fun j a b c => absurd ((gr_Nx hN).mpr ⟨j, a, b, c⟩) no)
  · have yes : ∃ j, j < 12 ∧ v1 = nI j ∧ a_nodeThere j = 1 := (gr_Nx hN).mp ⟨j, hj, e, hb⟩
    refine gx_lv v2 v3 (fun ok => br_f gn_10 ?_) (fun no => br_t rfl ?_)
    · subst e
      have c : (nI j).toNatClampNeg = j := nI_clamp (by omega)
      have w : vp_in (nI j) 12 := vp_in_nI (by omega) (by decide)
      refine ⟨w, nm_r (e' := upd a_nodeLabel j v2) (by rw [c]) ⟨w, nm_r (e' := upd a_nodeValue j v3) (by rw [c]) ?_⟩⟩
      refine gy_isNode (nI j) hN.1 (fun z => absurd yes z) (fun _ _ _ _ => br_f gn_10 (gy_lv v2 v3 (fun _ => br_f gn_10 ⟨w, nm_r (e' := upd a_labels j v2) (by rw [c]) ⟨w, nm_r (e' := upd a_values j v3) (by rw [c]) ⟨rfl, hN, ⟨by rw [e1], by rw [e2], ?_⟩, hE, hP0, hP1⟩⟩⟩) (fun z => absurd ok z)))
      obtain ⟨⟨l, hl, rfl⟩, _⟩ := ok
      exact gr_Lu hL hl
    · exact gy_isNode v1 hN.1 (fun z => absurd yes z) (fun _ _ _ _ => br_f gn_10 (gy_lv v2 v3 (fun z => absurd z no) (fun _ => br_t rfl ⟨rfl, J⟩)))
theorem gr_Ed {es g : Int32} {eF eO eY ew eT fr to wh eF' eO' eY' eT' : Nat → Int32} (h : gr_E es eF eO eY ew eT fr to wh) (hF : ∀ n, n < 12 → eF' n = eF n &&& (g ^^^ (-1)) ∧ eO' n = eO n &&& (g ^^^ (-1))) (hY : ∀ t, t < 3 → eY' t = eY t &&& (g ^^^ (-1)))
    (h01 : ∀ e, eT' e = 0 ∨ eT' e = 1) (hT : ∀ e, e < 20 → (eT' e = 1 ↔ eT e = 1 ∧ bt g e = false)) : gr_E (es &&& (g ^^^ (-1))) eF' eO' eY' ew eT' fr to wh := by
  obtain ⟨h1, h2, h3, h4, h5, h6, h7⟩ := h
  refine ⟨⟨h01, h1.2⟩, gr_Bd h2 hT, fun n hn => ?_, fun n hn => ?_, fun t ht => ?_, h6, h7⟩
  · rw [(hF n hn).1]; exact gr_Bd (h3 n hn) hT
  · rw [(hF n hn).2]; exact gr_Bd (h4 n hn) hT
  · rw [hY t ht]; exact gr_Bd (h5 t ht) hT
theorem gr_Or {x y : Int32} {eT : Nat → Int32} {P Q : Nat → Prop} (hx : gr_B x eT P) (hy : gr_B y eT Q) : gr_B (x ||| y) eT (fun i => P i ∨ Q i) := fun i hi => by
  rw [b_or, Bool.or_eq_true, hx i hi, hy i hi]
  constructor
  · rintro (⟨a, b, c⟩ | ⟨a, b, c⟩)
    · exact ⟨a, b, Or.inl c⟩
    · exact ⟨a, b, Or.inr c⟩
  · rintro ⟨a, b, c | c⟩
    · exact Or.inl ⟨a, b, c⟩
    · exact Or.inr ⟨a, b, c⟩
theorem i_vc_removeNode {k : Nat} {u : SX} {v : SY} (I : i_Rel k u v) (hk : k + 5 ≤ 2560) (v1 : Int32) : wpX_removeNode (fun r u' => wpY_removeNode (fun r' v' => r' = r ∧ i_Rel (k + 5) u' v') v v1) u v1 := by
  obtain ⟨f_nodeSet, f_edgeSet, f_sought, f_wanted, f_weighing, f_found, f_lightest, f_heaviest, a_nodeLabel, a_nodeValue, a_edgesFrom, a_edgesTo, a_edgesOfType, a_edgeWeight, a_patternMode, a_spotSet, a_linkSet, a_spotLabels, a_spotLeast, a_spotGreatest, a_linkStart, a_linkEnd, a_linkTypes, a_linkKind, a_spotNodes, a_typedEdges, a_wayTargets, a_placed, a_linkEdges, a_taken, a_picked⟩ := u
  obtain ⟨f_base, f_many, a_nodeThere, a_labels, a_values, a_edgeThere, a_froms, a_tos, a_whats, a_patterns, a_parts, a_chosen⟩ := v
  have J := I
  obtain ⟨hN, ⟨e1, e2, hL⟩, hE, hP0, hP1⟩ := I
  unfold wpX_removeNode wpY_removeNode
  refine gx_isNode v1 (fun no => br_t rfl ?_) (fun j hj e hb => br_f gn_10 ?_)
  · exact gy_isNode v1 hN.1 (fun _ => br_t rfl ⟨rfl, J⟩) (fun j a b c => absurd ((gr_Nx hN).mpr ⟨j, a, b, c⟩) no)
  · have yes : ∃ j, j < 12 ∧ v1 = nI j ∧ a_nodeThere j = 1 := (gr_Nx hN).mp ⟨j, hj, e, hb⟩
    subst e
    have c : (nI j).toNatClampNeg = j := nI_clamp (by omega)
    have w : vp_in (nI j) 16 := vp_in_nI (by omega) (by decide)
    refine ⟨w, w, nm_r (e' := a_edgesFrom j ||| a_edgesTo j) (by rw [c]) ?_⟩
    have hg := gr_Or (hE.2.2.1 j hj) (hE.2.2.2.1 j hj)
    refine gx_drop (fun eF eO eY hF hY => nm_e (gx_size ?_))
    refine gy_isNode (nI j) hN.1 (fun z => absurd yes z) (fun _ _ _ _ => br_f gn_10 (gy_remove hj hE.1.1 (fun eT hT hT2 => ⟨?_, gr_Nd hN hj, ⟨e1, e2, hL⟩, gr_Ed hE hF hY ?_ ?_, hP0, hP1⟩)))
    · rw [gr_cnt hg]
    · intro e
      rcases Nat.lt_or_ge e 20 with he | he
      · rw [hT e he]
        split
        · exact Or.inl rfl
        · exact hE.1.1 e
      · rw [hT2 e he]; exact hE.1.1 e
    · intro e he
      rw [hT e he]
      by_cases q : a_edgeThere e = 1 ∧ (a_froms e = nI j ∨ a_tos e = nI j)
      · rw [if_pos q, (hg e (by omega)).mpr ⟨he, q⟩]
        exact ⟨fun z => absurd z.symm gn_10, fun z => absurd z.2.symm Bool.false_ne_true⟩
      · rw [if_neg q]
        refine ⟨fun z => ⟨z, ?_⟩, fun z => z.1⟩
        apply Bool.eq_false_iff.mpr
        intro y
        exact q ((hg e (by omega)).mp y).2
theorem i_vc_removeEdge {k : Nat} {u : SX} {v : SY} (I : i_Rel k u v) (hk : k + 5 ≤ 2560) (v1 : Int32) : wpX_removeEdge (fun r u' => wpY_removeEdge (fun r' v' => r' = r ∧ i_Rel (k + 5) u' v') v v1) u v1 := by
  obtain ⟨f_nodeSet, f_edgeSet, f_sought, f_wanted, f_weighing, f_found, f_lightest, f_heaviest, a_nodeLabel, a_nodeValue, a_edgesFrom, a_edgesTo, a_edgesOfType, a_edgeWeight, a_patternMode, a_spotSet, a_linkSet, a_spotLabels, a_spotLeast, a_spotGreatest, a_linkStart, a_linkEnd, a_linkTypes, a_linkKind, a_spotNodes, a_typedEdges, a_wayTargets, a_placed, a_linkEdges, a_taken, a_picked⟩ := u
  obtain ⟨f_base, f_many, a_nodeThere, a_labels, a_values, a_edgeThere, a_froms, a_tos, a_whats, a_patterns, a_parts, a_chosen⟩ := v
  have J := I
  obtain ⟨hN, ⟨e1, e2, hL⟩, hE, hP0, hP1⟩ := I
  unfold wpX_removeEdge wpY_removeEdge
  by_cases n0 : v1 < 0
  · exact br_t n0 (br_t n0 ⟨rfl, J⟩)
  · obtain ⟨j, hj, rfl⟩ := nI_of n0
    refine br_f n0 ?_
    by_cases h20 : j < 20
    · have c : (nI j).toNatClampNeg = j := nI_clamp (by omega)
      have w : vp_in (nI j) 20 := vp_in_nI h20 (by decide)
      have g20 : ¬ (20 : Int32) ≤ nI j := nI_ge (b := 20) h20 (by decide)
      refine br_f g20 (gx_hasb (by omega) (fun hb => ?_) (fun hb => ?_))
      · have t1 : a_edgeThere j = 1 := ((hE.2.1 j (by omega)).mp hb).2.1
        refine gx_drop (fun eF eO eY hF hY => br_f n0 (br_f g20 ⟨w, br_f (by rw [c, t1]; exact gn_10) ⟨w, nm_r (e' := upd a_edgeThere j 0) (by rw [c, gn_b0]) ⟨rfl, hN, ⟨e1, e2, hL⟩, gr_Ed hE hF hY ?_ ?_, hP0, hP1⟩⟩⟩))
        · intro e
          by_cases q : e = j
          · subst q; rw [pk_us]; exact Or.inl rfl
          · rw [pk_un q]; exact hE.1.1 e
        · intro e he
          rw [gb_sb (by omega) (by omega)]
          by_cases q : e = j
          · subst q; rw [pk_us, decide_eq_true rfl]
            exact ⟨fun z => absurd z.symm gn_10, fun z => absurd z.2.symm Bool.false_ne_true⟩
          · rw [pk_un q, decide_eq_false q]
            exact ⟨fun z => ⟨z, rfl⟩, fun z => z.1⟩
      · have t0 : a_edgeThere j = 0 := (hE.1.1 j).resolve_right (fun z => Bool.false_ne_true (hb.symm.trans ((hE.2.1 j (by omega)).mpr ⟨h20, z, trivial⟩)))
        exact br_f n0 (br_f g20 ⟨w, br_t (by rw [c]; exact t0) ⟨rfl, J⟩⟩)
    · have g20 : (20 : Int32) ≤ nI j := nI_le (a := 20) (by omega) hj
      exact br_t g20 (br_f n0 (br_t g20 ⟨rfl, J⟩))
theorem gr_Ea {es : Int32} {eF eO eY ew eT fr to wh : Nat → Int32} {m a b w : Nat} (h : gr_E es eF eO eY ew eT fr to wh) (hm : m < 20) (h0 : eT m = 0) (ha : a < 12) (hb : b < 12) (hw : w < 63) :
    gr_E (es ||| ((1 : Int32) <<< (nI m &&& 31))) (upd eF a (eF a ||| ((1 : Int32) <<< (nI m &&& 31)))) (upd eO b (eO b ||| ((1 : Int32) <<< (nI m &&& 31)))) (upd eY (w % 3) (eY (w % 3) ||| ((1 : Int32) <<< (nI m &&& 31)))) (upd ew m (nI w / 3)) (upd eT m 1) (upd fr m (nI a)) (upd to m (nI b)) (upd wh m (nI w)) := by
  obtain ⟨h1, h2, h3, h4, h5, h6, h7⟩ := h
  have hr : nI w - nI w / 3 * 3 = nI (w % 3) := pk_rem (a := w) (d := 3) (by omega) (by decide) (by decide)
  have up1 : ∀ (f : Nat → Int32) (P : Int32 → Prop) (x : Int32), (∀ e, P (f e)) → P x → ∀ e, P (upd f m x e) := fun f P x hf hx e => by
    by_cases q : e = m
    · subst q; rw [pk_us]; exact hx
    · rw [pk_un q]; exact hf e
  have up2 : ∀ (f : Nat → Int32) (x y : Int32) (i : Nat), i ≠ m → (upd f m x i = y ↔ f i = y) := fun f x y i hi => by rw [pk_un hi]
  refine ⟨⟨up1 eT (fun z => z = 0 ∨ z = 1) 1 h1.1 (Or.inr rfl), up1 fr (fun z => ∃ a, a < 12 ∧ z = nI a) _ h1.2.1 ⟨a, ha, rfl⟩, up1 to (fun z => ∃ a, a < 12 ∧ z = nI a) _ h1.2.2.1 ⟨b, hb, rfl⟩, up1 wh (fun z => ∃ a, a < 63 ∧ z = nI a) _ h1.2.2.2 ⟨w, hw, rfl⟩⟩, gr_B1 h2 hm (fun _ _ => Iff.rfl) trivial, fun n hn => ?_, fun n hn => ?_, fun t ht => ?_, fun e he => ?_, fun e he1 he2 => ?_⟩
  · by_cases q : n = a
    · subst q; rw [pk_us]
      exact gr_B1 (h3 n hn) hm (fun i hi => up2 fr _ _ i hi) pk_us
    · rw [pk_un q]
      refine gr_B2 (h3 n hn) h0 (fun i hi => up2 fr _ _ i hi) (fun z => ?_)
      rw [pk_us, nI_eq (by omega) (by omega)] at z
      exact q z.symm
  · by_cases q : n = b
    · subst q; rw [pk_us]
      exact gr_B1 (h4 n hn) hm (fun i hi => up2 to _ _ i hi) pk_us
    · rw [pk_un q]
      refine gr_B2 (h4 n hn) h0 (fun i hi => up2 to _ _ i hi) (fun z => ?_)
      rw [pk_us, nI_eq (by omega) (by omega)] at z
      exact q z.symm
  · have hi3 : ∀ i, i ≠ m → (upd wh m (nI w) i - upd wh m (nI w) i / 3 * 3 = nI t ↔ wh i - wh i / 3 * 3 = nI t) := fun i hi => by rw [pk_un hi]
    by_cases q : t = w % 3
    · subst q; rw [pk_us]
      refine gr_B1 (h5 (w % 3) ht) hm hi3 ?_
      rw [pk_us, hr]
    · rw [pk_un q]
      refine gr_B2 (h5 t ht) h0 hi3 (fun z => ?_)
      rw [pk_us, hr, nI_eq (by omega) (by omega)] at z
      exact q z.symm
  · by_cases q : e = m
    · subst q; rw [pk_us, pk_us]
    · rw [pk_un q, pk_un q]; exact h6 e he
  · rw [pk_un (by omega)]; exact h7 e he1 he2
theorem i_vc_addEdge {k : Nat} {u : SX} {v : SY} (I : i_Rel k u v) (hk : k + 5 ≤ 2560) (v1 : Int32) (v2 : Int32) (v3 : Int32) : wpX_addEdge (fun r u' => wpY_addEdge (fun r' v' => r' = r ∧ i_Rel (k + 5) u' v') v v1 v2 v3) u v1 v2 v3 := by
  obtain ⟨f_nodeSet, f_edgeSet, f_sought, f_wanted, f_weighing, f_found, f_lightest, f_heaviest, a_nodeLabel, a_nodeValue, a_edgesFrom, a_edgesTo, a_edgesOfType, a_edgeWeight, a_patternMode, a_spotSet, a_linkSet, a_spotLabels, a_spotLeast, a_spotGreatest, a_linkStart, a_linkEnd, a_linkTypes, a_linkKind, a_spotNodes, a_typedEdges, a_wayTargets, a_placed, a_linkEdges, a_taken, a_picked⟩ := u
  obtain ⟨f_base, f_many, a_nodeThere, a_labels, a_values, a_edgeThere, a_froms, a_tos, a_whats, a_patterns, a_parts, a_chosen⟩ := v
  have J := I
  obtain ⟨hN, ⟨e1, e2, hL⟩, hE, hP0, hP1⟩ := I
  unfold wpX_addEdge wpY_addEdge
  refine gx_isNode v1 (fun no => br_t rfl ?_) (fun a ha ea hb => br_f gn_10 ?_)
  · exact gy_isNode v1 hN.1 (fun _ => br_t rfl ⟨rfl, J⟩) (fun j a b c => absurd ((gr_Nx hN).mpr ⟨j, a, b, c⟩) no)
  have yes1 : ∃ j, j < 12 ∧ v1 = nI j ∧ a_nodeThere j = 1 := (gr_Nx hN).mp ⟨a, ha, ea, hb⟩
  refine gx_isNode v2 (fun no => br_t rfl ?_) (fun b hb' eb hbb => br_f gn_10 ?_)
  · exact gy_isNode v1 hN.1 (fun z => absurd yes1 z) (fun _ _ _ _ => br_f gn_10 (gy_isNode v2 hN.1 (fun _ => br_t rfl ⟨rfl, J⟩) (fun j a b c => absurd ((gr_Nx hN).mpr ⟨j, a, b, c⟩) no)))
  have yes2 : ∃ j, j < 12 ∧ v2 = nI j ∧ a_nodeThere j = 1 := (gr_Nx hN).mp ⟨b, hb', eb, hbb⟩
  by_cases n0 : v3 < 0
  · exact br_t n0 (gy_isNode v1 hN.1 (fun z => absurd yes1 z) (fun _ _ _ _ => br_f gn_10 (gy_isNode v2 hN.1 (fun z => absurd yes2 z) (fun _ _ _ _ => br_f gn_10 (br_t n0 ⟨rfl, J⟩)))))
  refine br_f n0 ?_
  by_cases n62 : v3 ≤ 62
  · refine br_t n62 (gx_lm 20 (by decide) (fun m hm h1 h0 => ?_))
    have hT : ∀ i, i < m → a_edgeThere i = 1 := fun i hi => ((hE.2.1 i (by omega)).mp (h1 i hi)).2.1
    have hT0 : m < 20 → a_edgeThere m = 0 := fun z => (hE.1.1 m).resolve_right (fun w => Bool.false_ne_true ((h0 z).symm.trans ((hE.2.1 m (by omega)).mpr ⟨z, w, trivial⟩)))
    refine pk_eq m 20 (fun e => ?_) (fun e => ?_)
    · exact gy_isNode v1 hN.1 (fun z => absurd yes1 z) (fun _ _ _ _ => br_f gn_10 (gy_isNode v2 hN.1 (fun z => absurd yes2 z) (fun _ _ _ _ => br_f gn_10 (br_f n0 (br_t n62 (gy_addEdge hm hT hT0 (fun _ => ⟨rfl, J⟩) (fun z => absurd e (by omega))))))))
    · obtain ⟨w, hw, rfl⟩ := nI_of2 (M := 62) (n := 62) (by decide) n0 n62
      subst ea eb
      have ca : (nI a).toNatClampNeg = a := nI_clamp (by omega)
      have cb : (nI b).toNatClampNeg = b := nI_clamp (by omega)
      have cm : (nI m).toNatClampNeg = m := nI_clamp (by omega)
      have hr : nI w - nI w / 3 * 3 = nI (w % 3) := pk_rem (a := w) (d := 3) (by omega) (by decide) (by decide)
      have cr : (nI (w % 3)).toNatClampNeg = w % 3 := nI_clamp (by omega)
      have va : vp_in (nI a) 16 := vp_in_nI (by omega) (by decide)
      have vb : vp_in (nI b) 16 := vp_in_nI (by omega) (by decide)
      have vr : vp_in (nI w - nI w / 3 * 3) 3 := by rw [hr]; exact vp_in_nI (by omega) (by decide)
      have vm : vp_in (nI m) 24 := vp_in_nI (by omega) (by decide)
      refine nm_e ⟨va, va, nm_r (e' := upd a_edgesFrom a (a_edgesFrom a ||| ((1 : Int32) <<< (nI m &&& 31)))) (by rw [ca]) ⟨vb, vb, nm_r (e' := upd a_edgesTo b (a_edgesTo b ||| ((1 : Int32) <<< (nI m &&& 31)))) (by rw [cb]) ⟨gn_d3, vr, vr, nm_r (e' := upd a_edgesOfType (w % 3) (a_edgesOfType (w % 3) ||| ((1 : Int32) <<< (nI m &&& 31)))) (by rw [hr, cr]) ⟨gn_d3, vm, nm_r (e' := upd a_edgeWeight m (nI w / 3)) (by rw [cm]) ?_⟩⟩⟩⟩
      exact gy_isNode (nI a) hN.1 (fun z => absurd yes1 z) (fun _ _ _ _ => br_f gn_10 (gy_isNode (nI b) hN.1 (fun z => absurd yes2 z) (fun _ _ _ _ => br_f gn_10 (br_f n0 (br_t n62 (gy_addEdge hm hT hT0 (fun z => absurd z e) (fun hm' => ⟨rfl, hN, ⟨e1, e2, hL⟩, gr_Ea hE hm' (hT0 hm') ha hb' (by omega), hP0, hP1⟩)))))))
  · exact br_f n62 (gy_isNode v1 hN.1 (fun z => absurd yes1 z) (fun _ _ _ _ => br_f gn_10 (gy_isNode v2 hN.1 (fun z => absurd yes2 z) (fun _ _ _ _ => br_f gn_10 (br_f n0 (br_f n62 ⟨rfl, J⟩))))))
theorem gr_01 {v : Int32} (h0 : ¬ v < 0) (h1 : v ≤ 1) (n : ¬ v = 0) : v = 1 := by
  obtain ⟨j, hj, rfl⟩ := nI_of2 (M := 1) (n := 1) (by decide) h0 h1
  rcases Nat.lt_or_ge j 1 with z | z
  · exfalso; obtain rfl : j = 0 := by omega
    exact n rfl
  · obtain rfl : j = 1 := by omega
    rfl
theorem i_vc_degree {k : Nat} {u : SX} {v : SY} (I : i_Rel k u v) (hk : k + 5 ≤ 2560) (v1 : Int32) (v2 : Int32) : wpX_degree (fun r => wpY_degree (fun r' => r' = r ∧ i_Rel (k + 5) u v) v v1 v2) u v1 v2 := by
  obtain ⟨f_nodeSet, f_edgeSet, f_sought, f_wanted, f_weighing, f_found, f_lightest, f_heaviest, a_nodeLabel, a_nodeValue, a_edgesFrom, a_edgesTo, a_edgesOfType, a_edgeWeight, a_patternMode, a_spotSet, a_linkSet, a_spotLabels, a_spotLeast, a_spotGreatest, a_linkStart, a_linkEnd, a_linkTypes, a_linkKind, a_spotNodes, a_typedEdges, a_wayTargets, a_placed, a_linkEdges, a_taken, a_picked⟩ := u
  obtain ⟨f_base, f_many, a_nodeThere, a_labels, a_values, a_edgeThere, a_froms, a_tos, a_whats, a_patterns, a_parts, a_chosen⟩ := v
  have J := I
  obtain ⟨hN, ⟨e1, e2, hL⟩, hE, hP0, hP1⟩ := I
  unfold wpX_degree wpY_degree
  refine gx_isNode v1 (fun no => br_t rfl ?_) (fun j hj e hb => br_f gn_10 ?_)
  · exact gy_isNode v1 hN.1 (fun _ => br_t rfl ⟨rfl, J⟩) (fun j a b c => absurd ((gr_Nx hN).mpr ⟨j, a, b, c⟩) no)
  have yes : ∃ j, j < 12 ∧ v1 = nI j ∧ a_nodeThere j = 1 := (gr_Nx hN).mp ⟨j, hj, e, hb⟩
  subst e
  have c : (nI j).toNatClampNeg = j := nI_clamp (by omega)
  have w : vp_in (nI j) 16 := vp_in_nI (by omega) (by decide)
  by_cases n0 : v2 < 0
  · refine br_t n0 (gy_isNode (nI j) hN.1 (fun z => absurd yes z) (fun _ _ _ _ => br_f gn_10 (br_f (fun z => ?_) (br_f (fun z => ?_) ⟨rfl, J⟩))))
    · subst z; exact absurd n0 (by decide)
    · subst z; exact absurd n0 (by decide)
  refine br_f n0 ?_
  by_cases n1 : v2 ≤ 1
  · refine br_t n1 ?_
    by_cases z : v2 = 0
    · refine br_t z ⟨w, ?_⟩
      unfold wX_degree_38
      refine gx_size (gy_isNode (nI j) hN.1 (fun z => absurd yes z) (fun _ _ _ _ => br_f gn_10 (br_t z (gy_degree (g := a_froms) (by rw [if_pos z]) hE.1.1 ⟨?_, J⟩))))
      rw [c, gr_cnt (hE.2.2.1 j hj)]
    · refine br_f z ⟨w, ?_⟩
      unfold wX_degree_38
      refine gx_size (gy_isNode (nI j) hN.1 (fun z => absurd yes z) (fun _ _ _ _ => br_f gn_10 (br_f z (br_t (gr_01 n0 n1 z) (gy_degree (g := a_tos) (by rw [if_neg z]) hE.1.1 ⟨?_, J⟩)))))
      rw [c, gr_cnt (hE.2.2.2.1 j hj)]
  · refine br_f n1 (gy_isNode (nI j) hN.1 (fun z => absurd yes z) (fun _ _ _ _ => br_f gn_10 (br_f (fun z => ?_) (br_f (fun z => ?_) ⟨rfl, J⟩))))
    · subst z; exact n1 (by decide)
    · subst z; exact n1 (by decide)
theorem i_vc_reach {k : Nat} {u : SX} {v : SY} (I : i_Rel k u v) (hk : k + 5 ≤ 2560) (v1 : Int32) (v2 : Int32) (v3 : Int32) : wpX_reach (fun r => wpY_reach (fun r' => r' = r ∧ i_Rel (k + 5) u v) v v1 v2 v3) u v1 v2 v3 := by
  obtain ⟨f_nodeSet, f_edgeSet, f_sought, f_wanted, f_weighing, f_found, f_lightest, f_heaviest, a_nodeLabel, a_nodeValue, a_edgesFrom, a_edgesTo, a_edgesOfType, a_edgeWeight, a_patternMode, a_spotSet, a_linkSet, a_spotLabels, a_spotLeast, a_spotGreatest, a_linkStart, a_linkEnd, a_linkTypes, a_linkKind, a_spotNodes, a_typedEdges, a_wayTargets, a_placed, a_linkEdges, a_taken, a_picked⟩ := u
  obtain ⟨f_base, f_many, a_nodeThere, a_labels, a_values, a_edgeThere, a_froms, a_tos, a_whats, a_patterns, a_parts, a_chosen⟩ := v
  have J := I
  obtain ⟨hN, ⟨e1, e2, hL⟩, hE, hP0, hP1⟩ := I
  unfold wpX_reach wpY_reach
  refine gx_isNode v1 (fun no => br_t rfl ?_) (fun j hj e hb => br_f gn_10 ?_)
  · exact gy_isNode v1 hN.1 (fun _ => br_t rfl ⟨rfl, J⟩) (fun j a b c => absurd ((gr_Nx hN).mpr ⟨j, a, b, c⟩) no)
  have yes : ∃ j, j < 12 ∧ v1 = nI j ∧ a_nodeThere j = 1 := (gr_Nx hN).mp ⟨j, hj, e, hb⟩
  subst e
  by_cases c1 : v2 < 0
  · exact br_t c1 (gy_isNode (nI j) hN.1 (fun z => absurd yes z) (fun _ _ _ _ => br_f gn_10 (br_t c1 ⟨rfl, J⟩)))
  refine br_f c1 ?_
  by_cases c2 : 7 < v2
  · exact br_t c2 (gy_isNode (nI j) hN.1 (fun z => absurd yes z) (fun _ _ _ _ => br_f gn_10 (br_f c1 (br_t c2 ⟨rfl, J⟩))))
  refine br_f c2 ?_
  by_cases c3 : v3 < 1
  · exact br_t c3 (gy_isNode (nI j) hN.1 (fun z => absurd yes z) (fun _ _ _ _ => br_f gn_10 (br_f c1 (br_f c2 (br_t c3 ⟨rfl, J⟩)))))
  refine br_f c3 ?_
  by_cases c4 : v3 ≤ 3
  · have c0 : ¬ v3 < 0 := fun z => c3 (Int32.lt_trans z (by decide))
    obtain ⟨q, hq, rfl⟩ := nI_of2 (M := 3) (n := 3) (by decide) c0 c4
    have c4' : ¬ (3 : Int32) < nI q := Int32.not_lt.mpr c4
    refine br_t c4 (gx_ewt (fun r hr => gx_targets hE (gw_typed hE hr) (by omega) ?_))
    exact gy_isNode (nI j) hN.1 (fun z => absurd yes z) (fun _ _ _ _ => br_f gn_10 (br_f c1 (br_f c2 (br_f c3 (br_f c4' (gy_ways hE.1.1 (by omega) ⟨rfl, J⟩))))))
  · have c4' : (3 : Int32) < v3 := Int32.not_le.mp c4
    exact br_f c4 (gy_isNode (nI j) hN.1 (fun z => absurd yes z) (fun _ _ _ _ => br_f gn_10 (br_f c1 (br_f c2 (br_f c3 (br_t c4' ⟨rfl, J⟩))))))
theorem i_vc_nodes {k : Nat} {u : SX} {v : SY} (I : i_Rel k u v) (hk : k + 5 ≤ 2560) : wpX_nodes (fun r => wpY_nodes (fun r' => r' = r ∧ i_Rel (k + 5) u v) v) u := by
  obtain ⟨f_nodeSet, f_edgeSet, f_sought, f_wanted, f_weighing, f_found, f_lightest, f_heaviest, a_nodeLabel, a_nodeValue, a_edgesFrom, a_edgesTo, a_edgesOfType, a_edgeWeight, a_patternMode, a_spotSet, a_linkSet, a_spotLabels, a_spotLeast, a_spotGreatest, a_linkStart, a_linkEnd, a_linkTypes, a_linkKind, a_spotNodes, a_typedEdges, a_wayTargets, a_placed, a_linkEdges, a_taken, a_picked⟩ := u
  obtain ⟨f_base, f_many, a_nodeThere, a_labels, a_values, a_edgeThere, a_froms, a_tos, a_whats, a_patterns, a_parts, a_chosen⟩ := v
  have J := I
  obtain ⟨hN, ⟨e1, e2, hL⟩, hE, hP0, hP1⟩ := I
  unfold wpX_nodes
  refine gy_nodes (fun r hr => ⟨gb_ext (fun i hi => ?_), J⟩)
  rw [hr i hi, hN.2 i hi]
  constructor
  · rintro ⟨n, hn, rfl, q⟩
    exact ⟨hn, (hN.1 i).resolve_left q⟩
  · rintro ⟨hn, q⟩
    exact ⟨i, hn, rfl, fun z => gn_10 (q.symm.trans z)⟩
end
section
/-! the methods on the pattern at hand -/
theorem gu_s {f : Nat → Int32} {k j : Nat} {x : Int32} (h : j = k) : upd f k x j = x := by subst h; exact pk_us
theorem gr_Pc {b b' : Nat} {pm ss ls sl so sg lst len lty lki pat pm' ss' ls' sl' so' sg' lst' len' lty' lki' pat' : Nat → Int32} (h : gr_P b pm ss ls sl so sg lst len lty lki pat)
    (h1 : pm' b' = pm b) (h2 : ss' b' = ss b) (h3 : ls' b' = ls b) (h4 : ∀ i, i < 4 → sl' (4 * b' + i) = sl (4 * b + i) ∧ so' (4 * b' + i) = so (4 * b + i) ∧ sg' (4 * b' + i) = sg (4 * b + i))
    (h5 : ∀ j, j < 4 → lst' (4 * b' + j) = lst (4 * b + j) ∧ len' (4 * b' + j) = len (4 * b + j) ∧ lty' (4 * b' + j) = lty (4 * b + j) ∧ lki' (4 * b' + j) = lki (4 * b + j))
    (h6 : ∀ c, c < 33 → pat' (33 * b' + c) = pat (33 * b + c)) : gr_P b' pm' ss' ls' sl' so' sg' lst' len' lty' lki' pat' := by
  obtain ⟨a1, a2, a3, a4⟩ := h
  have k0 : pat' (33 * b') = pat (33 * b) := h6 0 (by omega)
  have k2 : ∀ d i, d + i < 33 → pat' (33 * b' + d + i) = pat (33 * b + d + i) := fun d i hd => by rw [Nat.add_assoc, Nat.add_assoc]; exact h6 (d + i) hd
  refine ⟨by rw [h1, a1, k0], by rw [k0]; exact a2, fun i hi => ?_, fun j hj => ?_⟩
  · unfold gr_S
    rw [k2 1 i (by omega), k2 5 i (by omega), k2 9 i (by omega), k2 13 i (by omega), h2, (h4 i hi).1, (h4 i hi).2.1, (h4 i hi).2.2]
    exact a3 i hi
  · have z := a4 j hj
    unfold gr_K at z ⊢
    rw [k2 17 j (by omega), k2 21 j (by omega), k2 25 j (by omega), k2 29 j (by omega), h3, (h5 j hj).1, (h5 j hj).2.1, (h5 j hj).2.2.1, (h5 j hj).2.2.2]
    refine ⟨z.1, z.2.1, fun y => ?_⟩
    obtain ⟨ab, hab, q⟩ := z.2.2 y
    refine ⟨ab, hab, ?_⟩
    rw [k2 1 (ab % 4) (by omega), k2 1 (ab / 4) (by omega)]
    exact q
section GYP
variable {f_base f_many : Int32} {a_nodeThere a_labels a_values a_edgeThere a_froms a_tos a_whats a_patterns a_parts a_chosen : Nat → Int32}
theorem gy_begin {post : Int32 → SY → Prop} {v : Int32} (h : ∀ pat : Nat → Int32, pat 0 = v → (∀ c, 0 < c → c < 33 → pat c = 0) → (∀ c, 33 ≤ c → pat c = a_patterns c) → post 1 (f_base, f_many, a_nodeThere, a_labels, a_values, a_edgeThere, a_froms, a_tos, a_whats, pat, a_parts, a_chosen)) : ∃ n, wY_begin_13 post v f_base f_many n 0 a_nodeThere a_labels a_values a_edgeThere a_froms a_tos a_whats a_patterns a_parts a_chosen := by
  refine loop_0 (fun n i (s : Nat → Int32) => wY_begin_13 post v f_base f_many n (nI i) a_nodeThere a_labels a_values a_edgeThere a_froms a_tos a_whats s a_parts a_chosen) (fun i s => (0 < i → s 0 = v) ∧ (∀ c, 0 < c → c < i → s c = 0) ∧ (∀ c, i ≤ c → s c = a_patterns c)) 33 a_patterns ⟨fun z => absurd z (Nat.lt_irrefl 0), fun c _ z => absurd z (Nat.not_lt_zero c), fun _ _ => rfl⟩ (fun n s I => br_t (nI_le (a := 33) (by omega) (by decide)) (h s (I.1 (by omega)) I.2.1 I.2.2)) (fun n i s hi I ih => ?_)
  have c : (nI i).toNatClampNeg = i := nI_clamp (by omega)
  have w : vp_in (nI i) 66 := vp_in_nI (by omega) (by decide)
  refine br_f (nI_ge (b := 33) hi (by decide)) (pk_eq i 0 (fun e => ⟨w, nm_r (e' := upd s i v) (by rw [c]) (nm_r (nI_1 i) (ih _ ⟨fun _ => ?_, fun d d1 d2 => ?_, fun d d1 => ?_⟩))⟩) (fun e => ⟨w, nm_r (e' := upd s i 0) (by rw [c]) (nm_r (nI_1 i) (ih _ ⟨fun _ => ?_, fun d d1 d2 => ?_, fun d d1 => ?_⟩))⟩))
  · exact gu_s e.symm
  · omega
  · rw [pk_un (by omega)]; exact I.2.2 d (by omega)
  · rw [pk_un (by omega)]; exact I.1 (by omega)
  · by_cases q : d = i
    · exact gu_s q
    · rw [pk_un q]; exact I.2.1 d d1 (by omega)
  · rw [pk_un (by omega)]; exact I.2.2 d (by omega)
end GYP
theorem i_vc_begin {k : Nat} {u : SX} {v : SY} (I : i_Rel k u v) (hk : k + 5 ≤ 2560) (v1 : Int32) : wpX_begin (fun r u' => wpY_begin (fun r' v' => r' = r ∧ i_Rel (k + 5) u' v') v v1) u v1 := by
  obtain ⟨f_nodeSet, f_edgeSet, f_sought, f_wanted, f_weighing, f_found, f_lightest, f_heaviest, a_nodeLabel, a_nodeValue, a_edgesFrom, a_edgesTo, a_edgesOfType, a_edgeWeight, a_patternMode, a_spotSet, a_linkSet, a_spotLabels, a_spotLeast, a_spotGreatest, a_linkStart, a_linkEnd, a_linkTypes, a_linkKind, a_spotNodes, a_typedEdges, a_wayTargets, a_placed, a_linkEdges, a_taken, a_picked⟩ := u
  obtain ⟨f_base, f_many, a_nodeThere, a_labels, a_values, a_edgeThere, a_froms, a_tos, a_whats, a_patterns, a_parts, a_chosen⟩ := v
  have J := I
  obtain ⟨hN, hL, hE, hP0, hP1⟩ := I
  unfold wpX_begin wpY_begin
  by_cases n0 : v1 < 0
  · exact br_t n0 (br_t n0 ⟨rfl, J⟩)
  obtain ⟨m, hm, rfl⟩ := nI_of n0
  refine br_f n0 ?_
  by_cases h4 : m < 4
  · have a1 : nI m < 4 := nI_lt (b := 4) h4 (by decide)
    have a2 : nI m ≤ 3 := nI_le (b := 3) (by omega) (by decide)
    refine br_t a1 (nm_e (nm_e (nm_e (br_f n0 (br_t a2 (gy_begin (fun pat p0 p1 p2 => ⟨rfl, hN, hL, hE, ⟨?_, ⟨m, h4, p0⟩, fun i hi => ?_, fun j hj => ?_⟩, ?_⟩)))))))
    · rw [p0]; exact pk_us
    · have z : pat (33 * 0 + 1 + i) = 0 := p1 _ (by omega) (by omega)
      refine ⟨Or.inl z, ?_, fun y => absurd (y.symm.trans z) gn_10⟩
      rw [z, pk_us, b_0]
      exact ⟨fun y => absurd y Bool.false_ne_true, fun y => absurd y.symm gn_10⟩
    · have z : pat (33 * 0 + 17 + j) = 0 := p1 _ (by omega) (by omega)
      refine ⟨Or.inl z, ?_, fun y => absurd (y.symm.trans z) gn_10⟩
      rw [z, pk_us, b_0]
      exact ⟨fun y => absurd y Bool.false_ne_true, fun y => absurd y.symm gn_10⟩
    · exact gr_Pc hP1 (pk_un (by omega)) (pk_un (by omega)) (pk_un (by omega)) (fun _ _ => ⟨rfl, rfl, rfl⟩) (fun _ _ => ⟨rfl, rfl, rfl, rfl⟩) (fun c hc => p2 _ (by omega))
  · have a1 : ¬ nI m < 4 := nI_nlt (b := 4) (by omega) hm
    have a2 : ¬ nI m ≤ 3 := nI_ge (a := 3) (by omega) hm
    exact br_f a1 (br_f n0 (br_f a2 ⟨rfl, J⟩))
theorem gr_Ps {pm ss ls sl so sg lst len lty lki pat : Nat → Int32} {i : Nat} {l lo hi : Int32} (h : gr_P 0 pm ss ls sl so sg lst len lty lki pat) (h4 : i < 4) :
    gr_P 0 pm (upd ss 0 (ss 0 ||| ((1 : Int32) <<< (nI i &&& 31)))) ls (upd sl i l) (upd so i lo) (upd sg i hi) lst len lty lki (upd (upd (upd (upd pat (1 + i) 1) (5 + i) l) (9 + i) lo) (13 + i) hi) := by
  obtain ⟨a1, a2, a3, a4⟩ := h
  have k0 : ∀ c, c ≠ 1 + i → c ≠ 5 + i → c ≠ 9 + i → c ≠ 13 + i → upd (upd (upd (upd pat (1 + i) 1) (5 + i) l) (9 + i) lo) (13 + i) hi c = pat c := fun c c1 c2 c3 c4 => by rw [pk_un c4, pk_un c3, pk_un c2, pk_un c1]
  have k1 : upd (upd (upd (upd pat (1 + i) 1) (5 + i) l) (9 + i) lo) (13 + i) hi (33 * 0 + 1 + i) = 1 := by rw [pk_un (by omega), pk_un (by omega), pk_un (by omega), gu_s (by omega)]
  have k5 : upd (upd (upd (upd pat (1 + i) 1) (5 + i) l) (9 + i) lo) (13 + i) hi (33 * 0 + 5 + i) = l := by rw [pk_un (by omega), pk_un (by omega), gu_s (by omega)]
  have k9 : upd (upd (upd (upd pat (1 + i) 1) (5 + i) l) (9 + i) lo) (13 + i) hi (33 * 0 + 9 + i) = lo := by rw [pk_un (by omega), gu_s (by omega)]
  have k13 : upd (upd (upd (upd pat (1 + i) 1) (5 + i) l) (9 + i) lo) (13 + i) hi (33 * 0 + 13 + i) = hi := by rw [gu_s (by omega)]
  have kk : ∀ x, x < 4 → pat (33 * 0 + 1 + x) = 1 → upd (upd (upd (upd pat (1 + i) 1) (5 + i) l) (9 + i) lo) (13 + i) hi (33 * 0 + 1 + x) = 1 := fun x hx e => by
    by_cases q : x = i
    · subst q; exact k1
    · rw [k0 _ (by omega) (by omega) (by omega) (by omega), e]
  generalize upd (upd (upd (upd pat (1 + i) 1) (5 + i) l) (9 + i) lo) (13 + i) hi = pat' at *
  refine ⟨by rw [k0 _ (by omega) (by omega) (by omega) (by omega)]; exact a1, by rw [k0 _ (by omega) (by omega) (by omega) (by omega)]; exact a2, fun x hx => ?_, fun j hj => ?_⟩
  · by_cases q : x = i
    · subst q
      refine ⟨Or.inr k1, ?_, fun _ => ?_⟩
      · rw [k1, pk_us, b_or, gb_sb (by omega) (by omega), decide_eq_true rfl, Bool.or_true]
        exact ⟨fun _ => rfl, fun _ => rfl⟩
      · rw [k5, k9, k13]
        exact ⟨gu_s (by omega), gu_s (by omega), gu_s (by omega)⟩
    · have z := a3 x hx
      unfold gr_S at z ⊢
      rw [k0 (33 * 0 + 1 + x) (by omega) (by omega) (by omega) (by omega), k0 (33 * 0 + 5 + x) (by omega) (by omega) (by omega) (by omega), k0 (33 * 0 + 9 + x) (by omega) (by omega) (by omega) (by omega), k0 (33 * 0 + 13 + x) (by omega) (by omega) (by omega) (by omega), pk_us, b_or, gb_sb (by omega) (by omega), decide_eq_false q, Bool.or_false, pk_un (by omega), pk_un (by omega), pk_un (by omega)]
      exact z
  · have z := a4 j hj
    unfold gr_K at z ⊢
    rw [k0 (33 * 0 + 17 + j) (by omega) (by omega) (by omega) (by omega), k0 (33 * 0 + 21 + j) (by omega) (by omega) (by omega) (by omega), k0 (33 * 0 + 25 + j) (by omega) (by omega) (by omega) (by omega), k0 (33 * 0 + 29 + j) (by omega) (by omega) (by omega) (by omega)]
    refine ⟨z.1, z.2.1, fun y => ?_⟩
    obtain ⟨ab, hab, q1, q2, q3, q4, q5, q6, q7, q8⟩ := z.2.2 y
    exact ⟨ab, hab, q1, q2, q3, q4, q5, q6, kk _ (by omega) q7, kk _ (by omega) q8⟩
theorem i_vc_spot {k : Nat} {u : SX} {v : SY} (I : i_Rel k u v) (hk : k + 5 ≤ 2560) (v1 : Int32) (v2 : Int32) (v3 : Int32) (v4 : Int32) : wpX_spot (fun r u' => wpY_spot (fun r' v' => r' = r ∧ i_Rel (k + 5) u' v') v v1 v2 v3 v4) u v1 v2 v3 v4 := by
  obtain ⟨f_nodeSet, f_edgeSet, f_sought, f_wanted, f_weighing, f_found, f_lightest, f_heaviest, a_nodeLabel, a_nodeValue, a_edgesFrom, a_edgesTo, a_edgesOfType, a_edgeWeight, a_patternMode, a_spotSet, a_linkSet, a_spotLabels, a_spotLeast, a_spotGreatest, a_linkStart, a_linkEnd, a_linkTypes, a_linkKind, a_spotNodes, a_typedEdges, a_wayTargets, a_placed, a_linkEdges, a_taken, a_picked⟩ := u
  obtain ⟨f_base, f_many, a_nodeThere, a_labels, a_values, a_edgeThere, a_froms, a_tos, a_whats, a_patterns, a_parts, a_chosen⟩ := v
  have J := I
  obtain ⟨hN, hL, hE, hP0, hP1⟩ := I
  unfold wpX_spot wpY_spot
  by_cases n0 : v1 < 0
  · exact br_t n0 (br_t n0 ⟨rfl, J⟩)
  obtain ⟨i, hi, rfl⟩ := nI_of n0
  refine br_f n0 ?_
  by_cases h4 : i < 4
  · have a1 : ¬ (4 : Int32) ≤ nI i := nI_ge (b := 4) h4 (by decide)
    have a2 : ¬ (3 : Int32) < nI i := nI_nlt (a := 3) (by omega) (by decide)
    refine br_f a1 ?_
    by_cases l0 : v2 < 0
    · exact br_t l0 (br_f n0 (br_f a2 (br_t l0 ⟨rfl, J⟩)))
    refine br_f l0 ?_
    by_cases l1 : v2 ≤ 15
    · have c : (nI i).toNatClampNeg = i := nI_clamp hi
      have w : vp_in (nI i) 8 := vp_in_nI (by omega) (by decide)
      have y1 : (1 : Int32) + nI i = nI (1 + i) := nI_add 1 i
      have y5 : (5 : Int32) + nI i = nI (5 + i) := nI_add 5 i
      have y9 : (9 : Int32) + nI i = nI (9 + i) := nI_add 9 i
      have y13 : (13 : Int32) + nI i = nI (13 + i) := nI_add 13 i
      have c1 : (nI (1 + i)).toNatClampNeg = 1 + i := nI_clamp (by omega)
      have c5 : (nI (5 + i)).toNatClampNeg = 5 + i := nI_clamp (by omega)
      have c9 : (nI (9 + i)).toNatClampNeg = 9 + i := nI_clamp (by omega)
      have c13 : (nI (13 + i)).toNatClampNeg = 13 + i := nI_clamp (by omega)
      have w1 : vp_in (1 + nI i) 66 := by rw [y1]; exact vp_in_nI (by omega) (by decide)
      have w5 : vp_in (5 + nI i) 66 := by rw [y5]; exact vp_in_nI (by omega) (by decide)
      have w9 : vp_in (9 + nI i) 66 := by rw [y9]; exact vp_in_nI (by omega) (by decide)
      have w13 : vp_in (13 + nI i) 66 := by rw [y13]; exact vp_in_nI (by omega) (by decide)
      refine br_t l1 (nm_r (e' := nI i) (Int32.zero_add _) (nm_e ⟨w, nm_r (e' := upd a_spotLabels i v2) (by rw [c]) ⟨w, nm_r (e' := upd a_spotLeast i v3) (by rw [c]) ⟨w, nm_r (e' := upd a_spotGreatest i v4) (by rw [c]) ?_⟩⟩⟩))
      refine br_f n0 (br_f a2 (br_f l0 (br_t l1 ⟨w1, nm_r (e' := upd a_patterns (1 + i) 1) (by rw [y1, c1]) ⟨w5, nm_r (e' := upd (upd a_patterns (1 + i) 1) (5 + i) v2) (by rw [y5, c5]) ⟨w9, nm_r (e' := upd (upd (upd a_patterns (1 + i) 1) (5 + i) v2) (9 + i) v3) (by rw [y9, c9]) ⟨w13, nm_r (e' := upd (upd (upd (upd a_patterns (1 + i) 1) (5 + i) v2) (9 + i) v3) (13 + i) v4) (by rw [y13, c13]) ?_⟩⟩⟩⟩)))
      refine ⟨rfl, hN, hL, hE, gr_Ps hP0 h4, gr_Pc hP1 rfl (pk_un (by omega)) rfl (fun x hx => ⟨pk_un (by omega), pk_un (by omega), pk_un (by omega)⟩) (fun _ _ => ⟨rfl, rfl, rfl, rfl⟩) (fun c hc => ?_)⟩
      rw [pk_un (by omega), pk_un (by omega), pk_un (by omega), pk_un (by omega)]
    · exact br_f l1 (br_f n0 (br_f a2 (br_f l0 (br_f l1 ⟨rfl, J⟩))))
  · have a1 : (4 : Int32) ≤ nI i := nI_le (a := 4) (by omega) hi
    have a2 : (3 : Int32) < nI i := nI_lt (a := 3) (by omega) hi
    exact br_t a1 (br_f n0 (br_t a2 ⟨rfl, J⟩))
theorem gr_Pl {pm ss ls sl so sg lst len lty lki pat : Nat → Int32} {j ab : Nat} {ty ki : Int32} (h : gr_P 0 pm ss ls sl so sg lst len lty lki pat) (h4 : j < 4) (hab : ab < 16) (s1 : pat (33 * 0 + 1 + ab % 4) = 1) (s2 : pat (33 * 0 + 1 + ab / 4) = 1) (hki : ki = 0 ∨ ki = 1) :
    gr_P 0 pm ss (upd ls 0 (ls 0 ||| ((1 : Int32) <<< (nI j &&& 31)))) sl so sg (upd lst j (nI (ab % 4))) (upd len j (nI (ab / 4))) (upd lty j ty) (upd lki j ki) (upd (upd (upd (upd pat (17 + j) 1) (21 + j) (nI ab)) (25 + j) ty) (29 + j) ki) := by
  obtain ⟨a1, a2, a3, a4⟩ := h
  have k0 : ∀ c, c ≠ 17 + j → c ≠ 21 + j → c ≠ 25 + j → c ≠ 29 + j → upd (upd (upd (upd pat (17 + j) 1) (21 + j) (nI ab)) (25 + j) ty) (29 + j) ki c = pat c := fun c c1 c2 c3 c4 => by rw [pk_un c4, pk_un c3, pk_un c2, pk_un c1]
  have k1 : upd (upd (upd (upd pat (17 + j) 1) (21 + j) (nI ab)) (25 + j) ty) (29 + j) ki (33 * 0 + 17 + j) = 1 := by rw [pk_un (by omega), pk_un (by omega), pk_un (by omega), gu_s (by omega)]
  have k5 : upd (upd (upd (upd pat (17 + j) 1) (21 + j) (nI ab)) (25 + j) ty) (29 + j) ki (33 * 0 + 21 + j) = nI ab := by rw [pk_un (by omega), pk_un (by omega), gu_s (by omega)]
  have k9 : upd (upd (upd (upd pat (17 + j) 1) (21 + j) (nI ab)) (25 + j) ty) (29 + j) ki (33 * 0 + 25 + j) = ty := by rw [pk_un (by omega), gu_s (by omega)]
  have k13 : upd (upd (upd (upd pat (17 + j) 1) (21 + j) (nI ab)) (25 + j) ty) (29 + j) ki (33 * 0 + 29 + j) = ki := by rw [gu_s (by omega)]
  generalize upd (upd (upd (upd pat (17 + j) 1) (21 + j) (nI ab)) (25 + j) ty) (29 + j) ki = pat' at *
  refine ⟨by rw [k0 _ (by omega) (by omega) (by omega) (by omega)]; exact a1, by rw [k0 _ (by omega) (by omega) (by omega) (by omega)]; exact a2, fun x hx => ?_, fun x hx => ?_⟩
  · have z := a3 x hx
    unfold gr_S at z ⊢
    rw [k0 (33 * 0 + 1 + x) (by omega) (by omega) (by omega) (by omega), k0 (33 * 0 + 5 + x) (by omega) (by omega) (by omega) (by omega), k0 (33 * 0 + 9 + x) (by omega) (by omega) (by omega) (by omega), k0 (33 * 0 + 13 + x) (by omega) (by omega) (by omega) (by omega)]
    exact z
  · by_cases q : x = j
    · subst q
      refine ⟨Or.inr k1, ?_, fun _ => ⟨ab, hab, k5, gu_s (by omega), gu_s (by omega), ?_, ?_, ?_, ?_, ?_⟩⟩
      · rw [k1, pk_us, b_or, gb_sb (by omega) (by omega), decide_eq_true rfl, Bool.or_true]
        exact ⟨fun _ => rfl, fun _ => rfl⟩
      · rw [k9, gu_s (by omega)]
      · rw [k13, gu_s (by omega)]
      · rw [k13]; exact hki
      · rw [k0 _ (by omega) (by omega) (by omega) (by omega), s1]
      · rw [k0 _ (by omega) (by omega) (by omega) (by omega), s2]
    · have z := a4 x hx
      unfold gr_K at z ⊢
      rw [k0 (33 * 0 + 17 + x) (by omega) (by omega) (by omega) (by omega), k0 (33 * 0 + 21 + x) (by omega) (by omega) (by omega) (by omega), k0 (33 * 0 + 25 + x) (by omega) (by omega) (by omega) (by omega), k0 (33 * 0 + 29 + x) (by omega) (by omega) (by omega) (by omega), pk_us, b_or, gb_sb (by omega) (by omega), decide_eq_false q, Bool.or_false]
      refine ⟨z.1, z.2.1, fun y => ?_⟩
      obtain ⟨ab', hab', q⟩ := z.2.2 y
      refine ⟨ab', hab', ?_⟩
      rw [k0 (33 * 0 + 1 + ab' % 4) (by omega) (by omega) (by omega) (by omega), k0 (33 * 0 + 1 + ab' / 4) (by omega) (by omega) (by omega) (by omega), pk_un (by omega), pk_un (by omega), pk_un (by omega), pk_un (by omega)]
      exact q
theorem i_vc_link {k : Nat} {u : SX} {v : SY} (I : i_Rel k u v) (hk : k + 5 ≤ 2560) (v1 : Int32) (v2 : Int32) (v3 : Int32) (v4 : Int32) : wpX_link (fun r u' => wpY_link (fun r' v' => r' = r ∧ i_Rel (k + 5) u' v') v v1 v2 v3 v4) u v1 v2 v3 v4 := by
  obtain ⟨f_nodeSet, f_edgeSet, f_sought, f_wanted, f_weighing, f_found, f_lightest, f_heaviest, a_nodeLabel, a_nodeValue, a_edgesFrom, a_edgesTo, a_edgesOfType, a_edgeWeight, a_patternMode, a_spotSet, a_linkSet, a_spotLabels, a_spotLeast, a_spotGreatest, a_linkStart, a_linkEnd, a_linkTypes, a_linkKind, a_spotNodes, a_typedEdges, a_wayTargets, a_placed, a_linkEdges, a_taken, a_picked⟩ := u
  obtain ⟨f_base, f_many, a_nodeThere, a_labels, a_values, a_edgeThere, a_froms, a_tos, a_whats, a_patterns, a_parts, a_chosen⟩ := v
  have J := I
  obtain ⟨hN, hL, hE, hP0, hP1⟩ := I
  unfold wpX_link wpY_link
  by_cases n0 : v1 < 0
  · exact br_t n0 (br_t n0 ⟨rfl, J⟩)
  obtain ⟨j, hj, rfl⟩ := nI_of n0
  refine br_f n0 ?_
  by_cases h4 : ¬ j < 4
  · have a1 : (4 : Int32) ≤ nI j := nI_le (a := 4) (by omega) hj
    have a2 : (3 : Int32) < nI j := nI_lt (a := 3) (by omega) hj
    exact br_t a1 (br_f n0 (br_t a2 ⟨rfl, J⟩))
  have h4 : j < 4 := by omega
  have a1 : ¬ (4 : Int32) ≤ nI j := nI_ge (b := 4) h4 (by decide)
  have a2 : ¬ (3 : Int32) < nI j := nI_nlt (a := 3) (by omega) (by decide)
  refine br_f a1 ?_
  by_cases l0 : v2 < 0
  · exact br_t l0 (br_f n0 (br_f a2 (br_t l0 ⟨rfl, J⟩)))
  obtain ⟨ab, hab, rfl⟩ := nI_of l0
  refine br_f l0 ?_
  by_cases h16 : ¬ ab < 16
  · have b1 : ¬ nI ab < 16 := nI_nlt (b := 16) (by omega) hab
    have b2 : (15 : Int32) < nI ab := nI_lt (a := 15) (by omega) hab
    exact br_f b1 (br_f n0 (br_f a2 (br_f l0 (br_t b2 ⟨rfl, J⟩))))
  have h16 : ab < 16 := by omega
  have b1 : nI ab < 16 := nI_lt (b := 16) h16 (by decide)
  have b2 : ¬ (15 : Int32) < nI ab := nI_nlt (a := 15) (by omega) (by decide)
  have er : nI ab - nI ab / 4 * 4 = nI (ab % 4) := pk_rem (a := ab) (d := 4) (by omega) (by decide) (by decide)
  have ed : nI ab / 4 = nI (ab / 4) := pk_div (a := ab) (d := 4) (by omega) (by decide) (by decide)
  have y1 : (1 : Int32) + nI (ab % 4) = nI (1 + ab % 4) := nI_add 1 _
  have y2 : (1 : Int32) + nI (ab / 4) = nI (1 + ab / 4) := nI_add 1 _
  have c1 : (nI (1 + ab % 4)).toNatClampNeg = 33 * 0 + 1 + ab % 4 := by rw [nI_clamp (by omega)]
  have c2 : (nI (1 + ab / 4)).toNatClampNeg = 33 * 0 + 1 + ab / 4 := by rw [nI_clamp (by omega)]
  have w1 : vp_in (1 + (nI ab - nI ab / 4 * 4)) 66 := by rw [er, y1]; exact vp_in_nI (by omega) (by decide)
  have w2 : vp_in (1 + nI ab / 4) 66 := by rw [ed, y2]; exact vp_in_nI (by omega) (by decide)
  have S1 := hP0.2.2.1 (ab % 4) (by omega)
  have S2 := hP0.2.2.1 (ab / 4) (by omega)
  refine br_t b1 ⟨gn_d4, nm_r er ⟨gn_d4, nm_r ed ?_⟩⟩
  have z1 : a_patterns (1 + (nI ab - nI ab / 4 * 4)).toNatClampNeg = a_patterns (33 * 0 + 1 + ab % 4) := by rw [er, y1, c1]
  have z2 : a_patterns (1 + nI ab / 4).toNatClampNeg = a_patterns (33 * 0 + 1 + ab / 4) := by rw [ed, y2, c2]
  refine gx_hasb (by omega) (fun hb => ?_) (fun hb => ?_)
  · have p1 := S1.2.1.mp hb
    have p1' : ¬ a_patterns (1 + (nI ab - nI ab / 4 * 4)).toNatClampNeg = 0 := fun z => gn_10 (p1.symm.trans (z1.symm.trans z))
    refine gx_hasb (by omega) (fun hc => ?_) (fun hc => ?_)
    · have p2 := S2.2.1.mp hc
      have p2' : ¬ a_patterns (1 + nI ab / 4).toNatClampNeg = 0 := fun z => gn_10 (p2.symm.trans (z2.symm.trans z))
      by_cases t0 : v3 < 0
      · exact br_t t0 (br_f n0 (br_f a2 (br_f l0 (br_f b2 ⟨gn_d4, w1, br_f p1' ⟨gn_d4, w2, br_f p2' (br_t t0 ⟨rfl, J⟩)⟩⟩))))
      refine br_f t0 ?_
      by_cases t1 : 7 < v3
      · exact br_t t1 (br_f n0 (br_f a2 (br_f l0 (br_f b2 ⟨gn_d4, w1, br_f p1' ⟨gn_d4, w2, br_f p2' (br_f t0 (br_t t1 ⟨rfl, J⟩))⟩⟩))))
      refine br_f t1 ?_
      have main : (v4 = 0 ∨ v4 = 1) → ¬ v4 < 0 → v4 ≤ 1 → wX_link_84 (fun r u' => wpY_link (fun r' v' => r' = r ∧ i_Rel (k + 5) u' v') (f_base, f_many, a_nodeThere, a_labels, a_values, a_edgeThere, a_froms, a_tos, a_whats, a_patterns, a_parts, a_chosen) (nI j) (nI ab) v3 v4) (nI j) v3 v4 (nI (ab % 4)) (nI (ab / 4)) f_nodeSet f_edgeSet f_sought f_wanted f_weighing f_found f_lightest f_heaviest a_nodeLabel a_nodeValue a_edgesFrom a_edgesTo a_edgesOfType a_edgeWeight a_patternMode a_spotSet a_linkSet a_spotLabels a_spotLeast a_spotGreatest a_linkStart a_linkEnd a_linkTypes a_linkKind a_spotNodes a_typedEdges a_wayTargets a_placed a_linkEdges a_taken a_picked := by
        intro hki k0 k1
        have c : (nI j).toNatClampNeg = j := nI_clamp hj
        have w : vp_in (nI j) 8 := vp_in_nI (by omega) (by decide)
        have y17 : (17 : Int32) + nI j = nI (17 + j) := nI_add 17 j
        have y21 : (21 : Int32) + nI j = nI (21 + j) := nI_add 21 j
        have y25 : (25 : Int32) + nI j = nI (25 + j) := nI_add 25 j
        have y29 : (29 : Int32) + nI j = nI (29 + j) := nI_add 29 j
        have c17 : (nI (17 + j)).toNatClampNeg = 17 + j := nI_clamp (by omega)
        have c21 : (nI (21 + j)).toNatClampNeg = 21 + j := nI_clamp (by omega)
        have c25 : (nI (25 + j)).toNatClampNeg = 25 + j := nI_clamp (by omega)
        have c29 : (nI (29 + j)).toNatClampNeg = 29 + j := nI_clamp (by omega)
        have w17 : vp_in (17 + nI j) 66 := by rw [y17]; exact vp_in_nI (by omega) (by decide)
        have w21 : vp_in (21 + nI j) 66 := by rw [y21]; exact vp_in_nI (by omega) (by decide)
        have w25 : vp_in (25 + nI j) 66 := by rw [y25]; exact vp_in_nI (by omega) (by decide)
        have w29 : vp_in (29 + nI j) 66 := by rw [y29]; exact vp_in_nI (by omega) (by decide)
        refine nm_r (e' := nI j) (Int32.zero_add _) (nm_e ⟨w, nm_r (e' := upd a_linkStart j (nI (ab % 4))) (by rw [c]) ⟨w, nm_r (e' := upd a_linkEnd j (nI (ab / 4))) (by rw [c]) ⟨w, nm_r (e' := upd a_linkTypes j v3) (by rw [c]) ⟨w, nm_r (e' := upd a_linkKind j v4) (by rw [c]) ?_⟩⟩⟩⟩)
        refine br_f n0 (br_f a2 (br_f l0 (br_f b2 ⟨gn_d4, w1, br_f p1' ⟨gn_d4, w2, br_f p2' (br_f t0 (br_f t1 (br_f k0 (br_t k1 ⟨w17, nm_r (e' := upd a_patterns (17 + j) 1) (by rw [y17, c17]) ⟨w21, nm_r (e' := upd (upd a_patterns (17 + j) 1) (21 + j) (nI ab)) (by rw [y21, c21]) ⟨w25, nm_r (e' := upd (upd (upd a_patterns (17 + j) 1) (21 + j) (nI ab)) (25 + j) v3) (by rw [y25, c25]) ⟨w29, nm_r (e' := upd (upd (upd (upd a_patterns (17 + j) 1) (21 + j) (nI ab)) (25 + j) v3) (29 + j) v4) (by rw [y29, c29]) ?_⟩⟩⟩⟩))))⟩⟩)))
        refine ⟨rfl, hN, hL, hE, gr_Pl hP0 h4 h16 p1 p2 hki, gr_Pc hP1 rfl rfl (pk_un (by omega)) (fun _ _ => ⟨rfl, rfl, rfl⟩) (fun x hx => ⟨pk_un (by omega), pk_un (by omega), pk_un (by omega), pk_un (by omega)⟩) (fun c hc => ?_)⟩
        rw [pk_un (by omega), pk_un (by omega), pk_un (by omega), pk_un (by omega)]
      by_cases q0 : v4 = 0
      · exact br_t q0 (main (Or.inl q0) (by rw [q0]; decide) (by rw [q0]; decide))
      refine br_f q0 ?_
      by_cases q1 : v4 = 1
      · exact br_t q1 (main (Or.inr q1) (by rw [q1]; decide) (by rw [q1]; decide))
      refine br_f q1 (br_f n0 (br_f a2 (br_f l0 (br_f b2 ⟨gn_d4, w1, br_f p1' ⟨gn_d4, w2, br_f p2' (br_f t0 (br_f t1 (br_c (fun _ => ⟨rfl, J⟩) (fun k0 => br_f (fun k1 => ?_) ⟨rfl, J⟩))))⟩⟩))))
      exact q1 (gr_01 k0 k1 q0)
    · have p2 : a_patterns (33 * 0 + 1 + ab / 4) = 0 := S2.1.resolve_right (fun z => Bool.false_ne_true (hc.symm.trans (S2.2.1.mpr z)))
      exact br_f n0 (br_f a2 (br_f l0 (br_f b2 ⟨gn_d4, w1, br_f p1' ⟨gn_d4, w2, br_t (z2.trans p2) ⟨rfl, J⟩⟩⟩)))
  · have p1 : a_patterns (33 * 0 + 1 + ab % 4) = 0 := S1.1.resolve_right (fun z => Bool.false_ne_true (hb.symm.trans (S1.2.1.mpr z)))
    exact br_f n0 (br_f a2 (br_f l0 (br_f b2 ⟨gn_d4, w1, br_t (z1.trans p1) ⟨rfl, J⟩⟩)))
end
section
/-! the component's search: the nodes that a spot may have -/
def gp_ok (pr l1 : Nat → Prop) (la lb : Nat → Nat) (sp : Nat → Nat → Prop) (wy : Nat → Nat → Nat → Prop) (ed : Nat → Nat → Nat → Nat → Prop) (dn de : Prop) (p : Nat) (s : Nat → Nat) (c : Nat) : Prop :=
  (p < 4 → sp p c ∧ (dn → ∀ q, q < p → pr q → s q ≠ c) ∧ (∀ j, j < 4 → l1 j → la j ≤ p → lb j ≤ p → (la j = p ∨ lb j = p) → wy j (gq_up s p c (la j)) (gq_up s p c (lb j)))) ∧
  (4 ≤ p → ed (p - 4) c (s (la (p - 4))) (s (lb (p - 4))) ∧ (de → ∀ q, q < p → 4 ≤ q → pr q → s q ≠ c))
def gx_H (b : Nat) (pr l1 : Nat → Prop) (la lb : Nat → Nat) (sp : Nat → Nat → Prop) (wy : Nat → Nat → Nat → Prop) (ed : Nat → Nat → Nat → Nat → Prop) (dn de : Prop) (pm ls lst len lki eF eO spN tyE wT : Nat → Int32) : Prop :=
  (∀ j, la j < 4 ∧ lb j < 4) ∧
  (∀ i, i < 4 → ∀ n, n < 16 → (bt (spN i) n = true ↔ (pr i ∧ n < 12 ∧ sp i n) ∨ (¬ pr i ∧ n = 12 + i))) ∧
  (∀ j, j < 4 → (bt (ls b) j = true ↔ pr (4 + j) ∨ l1 j)) ∧
  (∀ j, j < 4 → (pr (4 + j) ∨ l1 j) → lst (4 * b + j) = nI (la j) ∧ len (4 * b + j) = nI (lb j) ∧ pr (la j) ∧ pr (lb j)) ∧
  (∀ j, j < 4 → pr (4 + j) → ¬ lki (4 * b + j) = 1) ∧ (∀ j, j < 4 → l1 j → lki (4 * b + j) = 1) ∧
  (∀ j, j < 4 → l1 j → ∀ a, a < 12 → ∀ c, c < 12 → (bt (wT (16 * j + a)) c = true ↔ wy j a c)) ∧
  (∀ j, j < 4 → pr (4 + j) → ∀ a, a < 12 → ∀ c, c < 12 → ∀ e, e < 32 → (bt ((eF a &&& eO c) &&& tyE j) e = true ↔ e < 20 ∧ ed j e a c)) ∧
  ((pm b &&& 1) = 0 ↔ ¬ dn) ∧ ((pm b &&& 2) = 0 ↔ ¬ de) ∧ b < 2
def gx_set (eF eO tyE : Nat → Int32) (la lb : Nat → Nat) (j : Nat) (s : Nat → Nat) : Int32 := (eF (s (la j)) &&& eO (s (lb j))) &&& tyE j
def gx_LE (pr : Nat → Prop) (la lb : Nat → Nat) (eF eO tyE : Nat → Int32) (i : Nat) (s : Nat → Nat) (le : Nat → Int32) : Prop :=
  ∀ j, j < 4 → (¬ pr (4 + j) → le j = (1 : Int32) <<< (nI (20 + j) &&& 31)) ∧ (pr (4 + j) → la j < i → lb j < i → le j = gx_set eF eO tyE la lb j s)
def gx_PL (i : Nat) (s : Nat → Nat) (pl : Nat → Int32) : Prop := ∀ h, h < i → pl h = nI (s h)
def gx_TK (i : Nat) (s : Nat → Nat) (tk : Nat → Int32) : Prop := ∀ h, h < i → tk h = nI (s (4 + h))
def gx_SB (pr : Nat → Prop) (p : Nat) (s : Nat → Nat) : Prop := ∀ q, q < p → (pr q → s q < gq_lim q) ∧ (¬ pr q → s q = gq_st q)
theorem gx_ix {b j : Nat} : nI b * 4 + nI j = nI (4 * b + j) := by
  rw [show (4 : Int32) = nI 4 from rfl, pk_mul, nI_add, Nat.mul_comm]
theorem gx_ix16 {b j : Nat} : nI b * 16 + nI j = nI (16 * b + j) := by
  rw [show (16 : Int32) = nI 16 from rfl, pk_mul, nI_add, Nat.mul_comm]
theorem gq_lim4 {p : Nat} (h : p < 4) : gq_lim p = 12 := if_pos h
theorem gq_st4 {p : Nat} (h : p < 4) : gq_st p = 12 + p := if_pos h
theorem gq_lim8 {j : Nat} : gq_lim (4 + j) = 20 := if_neg (by omega)
theorem gq_st8 {j : Nat} : gq_st (4 + j) = 20 + j := by unfold gq_st; rw [if_neg (by omega)]; omega
theorem gx_PLu {i n : Nat} {s : Nat → Nat} {pl : Nat → Int32} (h : gx_PL i s pl) : gx_PL (i + 1) (gq_up s i n) (upd pl i (nI n)) := fun q hq => by
  by_cases e : q = i
  · subst e; rw [pk_us, gq_us]
  · rw [pk_un e, gq_un e]; exact h q (by omega)
theorem gx_PLk {i n : Nat} {s : Nat → Nat} {pl : Nat → Int32} (h : gx_PL (i + 1) (gq_up s i n) pl) : gx_PL i s pl := fun q hq => by
  have := h q (by omega)
  rw [gq_un (by omega)] at this
  exact this
theorem gx_LEk {pr : Nat → Prop} {la lb : Nat → Nat} {eF eO tyE : Nat → Int32} {i n : Nat} {s : Nat → Nat} {le : Nat → Int32} (h : gx_LE pr la lb eF eO tyE i (gq_up s i n) le) : gx_LE pr la lb eF eO tyE i s le := fun j hj => ⟨(h j hj).1, fun hp ha hb => by
  rw [(h j hj).2 hp ha hb]
  unfold gx_set
  rw [gq_un (by omega), gq_un (by omega)]⟩
theorem gx_LEw {pr : Nat → Prop} {la lb : Nat → Nat} {eF eO tyE : Nat → Int32} {i k : Nat} (hk : k ≤ i) {s : Nat → Nat} {le : Nat → Int32} (h : gx_LE pr la lb eF eO tyE i s le) : gx_LE pr la lb eF eO tyE k s le := fun j hj => ⟨(h j hj).1, fun hp ha hb => (h j hj).2 hp (by omega) (by omega)⟩
theorem gx_SBu {pr : Nat → Prop} {p c : Nat} {s : Nat → Nat} (h : gx_SB pr p s) (hc : (pr p → c < gq_lim p) ∧ (¬ pr p → c = gq_st p)) : gx_SB pr (p + 1) (gq_up s p c) := fun q hq => by
  by_cases e : q = p
  · subst e; rw [gq_us]; exact hc
  · rw [gq_un e]; exact h q (by omega)
section GXP
variable {b : Nat} {pr l1 : Nat → Prop} {la lb : Nat → Nat} {sp : Nat → Nat → Prop} {wy : Nat → Nat → Nat → Prop} {ed : Nat → Nat → Nat → Nat → Prop} {dn de : Prop} {f_nodeSet f_edgeSet f_wanted f_weighing f_found f_lightest f_heaviest : Int32} {a_nodeLabel a_nodeValue a_edgesFrom a_edgesTo a_edgesOfType a_edgeWeight a_patternMode a_spotSet a_linkSet a_spotLabels a_spotLeast a_spotGreatest a_linkStart a_linkEnd a_linkTypes a_linkKind a_spotNodes a_typedEdges a_wayTargets a_placed a_linkEdges a_taken a_picked : Nat → Int32}
theorem gx_last {post : Int32 → Prop} {j : Nat} (hj : j < 4) (H : gx_H b pr l1 la lb sp wy ed dn de a_patternMode a_linkSet a_linkStart a_linkEnd a_linkKind a_edgesFrom a_edgesTo a_spotNodes a_typedEdges a_wayTargets) (hl : pr (4 + j) ∨ l1 j) (h : post (nI (if la j ≤ lb j then lb j else la j))) : wpX_lastSpot post (f_nodeSet, f_edgeSet, nI b, f_wanted, f_weighing, f_found, f_lightest, f_heaviest, a_nodeLabel, a_nodeValue, a_edgesFrom, a_edgesTo, a_edgesOfType, a_edgeWeight, a_patternMode, a_spotSet, a_linkSet, a_spotLabels, a_spotLeast, a_spotGreatest, a_linkStart, a_linkEnd, a_linkTypes, a_linkKind, a_spotNodes, a_typedEdges, a_wayTargets, a_placed, a_linkEdges, a_taken, a_picked) (nI j) := by
  obtain ⟨H0, _, _, H3, _, _, _, _, _, _, H10⟩ := H
  obtain ⟨e1, e2, _, _⟩ := H3 j hj hl
  have hla := (H0 j).1
  have hlb := (H0 j).2
  have c : (nI (4 * b + j)).toNatClampNeg = 4 * b + j := nI_clamp (by omega)
  have w : vp_in (nI b * 4 + nI j) 8 := by rw [gx_ix]; exact vp_in_nI (by omega) (by decide)
  refine ⟨w, nm_r (e' := nI (la j)) (by rw [gx_ix, c, e1]) ⟨w, nm_r (e' := nI (lb j)) (by rw [gx_ix, c, e2]) ?_⟩⟩
  by_cases q : la j ≤ lb j
  · rw [if_pos q] at h
    exact br_t (nI_le q (by omega)) h
  · rw [if_neg q] at h
    exact br_f (nI_ge (by omega) (by omega)) h
theorem gx_joins {post : Int32 → SX → Prop} {j : Nat} {s : Nat → Nat} (hj : j < 4) (H : gx_H b pr l1 la lb sp wy ed dn de a_patternMode a_linkSet a_linkStart a_linkEnd a_linkKind a_edgesFrom a_edgesTo a_spotNodes a_typedEdges a_wayTargets) (hl : pr (4 + j) ∨ l1 j) (ps : a_placed (la j) = nI (s (la j))) (pe : a_placed (lb j) = nI (s (lb j))) (sa : s (la j) < 12) (sb : s (lb j) < 12)
    (hw1 : l1 j → wy j (s (la j)) (s (lb j)) → post 1 (f_nodeSet, f_edgeSet, nI b, f_wanted, f_weighing, f_found, f_lightest, f_heaviest, a_nodeLabel, a_nodeValue, a_edgesFrom, a_edgesTo, a_edgesOfType, a_edgeWeight, a_patternMode, a_spotSet, a_linkSet, a_spotLabels, a_spotLeast, a_spotGreatest, a_linkStart, a_linkEnd, a_linkTypes, a_linkKind, a_spotNodes, a_typedEdges, a_wayTargets, a_placed, a_linkEdges, a_taken, a_picked)) (hw0 : l1 j → ¬ wy j (s (la j)) (s (lb j)) → post 0 (f_nodeSet, f_edgeSet, nI b, f_wanted, f_weighing, f_found, f_lightest, f_heaviest, a_nodeLabel, a_nodeValue, a_edgesFrom, a_edgesTo, a_edgesOfType, a_edgeWeight, a_patternMode, a_spotSet, a_linkSet, a_spotLabels, a_spotLeast, a_spotGreatest, a_linkStart, a_linkEnd, a_linkTypes, a_linkKind, a_spotNodes, a_typedEdges, a_wayTargets, a_placed, a_linkEdges, a_taken, a_picked))
    (he1 : pr (4 + j) → ¬ (gx_set a_edgesFrom a_edgesTo a_typedEdges la lb j s) = 0 → post 1 (f_nodeSet, f_edgeSet, nI b, f_wanted, f_weighing, f_found, f_lightest, f_heaviest, a_nodeLabel, a_nodeValue, a_edgesFrom, a_edgesTo, a_edgesOfType, a_edgeWeight, a_patternMode, a_spotSet, a_linkSet, a_spotLabels, a_spotLeast, a_spotGreatest, a_linkStart, a_linkEnd, a_linkTypes, a_linkKind, a_spotNodes, a_typedEdges, a_wayTargets, a_placed, upd a_linkEdges j (gx_set a_edgesFrom a_edgesTo a_typedEdges la lb j s), a_taken, a_picked)) (he0 : pr (4 + j) → (gx_set a_edgesFrom a_edgesTo a_typedEdges la lb j s) = 0 → post 0 (f_nodeSet, f_edgeSet, nI b, f_wanted, f_weighing, f_found, f_lightest, f_heaviest, a_nodeLabel, a_nodeValue, a_edgesFrom, a_edgesTo, a_edgesOfType, a_edgeWeight, a_patternMode, a_spotSet, a_linkSet, a_spotLabels, a_spotLeast, a_spotGreatest, a_linkStart, a_linkEnd, a_linkTypes, a_linkKind, a_spotNodes, a_typedEdges, a_wayTargets, a_placed, upd a_linkEdges j (gx_set a_edgesFrom a_edgesTo a_typedEdges la lb j s), a_taken, a_picked)) : wpX_joins post (f_nodeSet, f_edgeSet, nI b, f_wanted, f_weighing, f_found, f_lightest, f_heaviest, a_nodeLabel, a_nodeValue, a_edgesFrom, a_edgesTo, a_edgesOfType, a_edgeWeight, a_patternMode, a_spotSet, a_linkSet, a_spotLabels, a_spotLeast, a_spotGreatest, a_linkStart, a_linkEnd, a_linkTypes, a_linkKind, a_spotNodes, a_typedEdges, a_wayTargets, a_placed, a_linkEdges, a_taken, a_picked) (nI j) := by
  obtain ⟨H0, _, _, H3, H4, H5, H6, H7, _, _, H10⟩ := H
  obtain ⟨e1, e2, _, _⟩ := H3 j hj hl
  have hla := (H0 j).1
  have hlb := (H0 j).2
  have c : (nI (4 * b + j)).toNatClampNeg = 4 * b + j := nI_clamp (by omega)
  have w : vp_in (nI b * 4 + nI j) 8 := by rw [gx_ix]; exact vp_in_nI (by omega) (by decide)
  have ca : (nI (la j)).toNatClampNeg = la j := nI_clamp (by omega)
  have cb : (nI (lb j)).toNatClampNeg = lb j := nI_clamp (by omega)
  have cj : (nI j).toNatClampNeg = j := nI_clamp (by omega)
  have wj : vp_in (nI j) 4 := vp_in_nI hj (by decide)
  refine ⟨w, by rw [gx_ix, c, e1]; exact vp_in_nI hla (by decide), nm_r (e' := nI (s (la j))) (by rw [gx_ix, c, e1, ca, ps]) ⟨w, by rw [gx_ix, c, e2]; exact vp_in_nI hlb (by decide), nm_r (e' := nI (s (lb j))) (by rw [gx_ix, c, e2, cb, pe]) ⟨w, ?_⟩⟩⟩
  have ck : a_linkKind (nI b * 4 + nI j).toNatClampNeg = a_linkKind (4 * b + j) := by rw [gx_ix, c]
  rcases hl with hp | hl1
  · refine br_f (by rw [ck]; exact H4 j hj hp) ⟨vp_in_nI (by omega) (by decide), vp_in_nI (by omega) (by decide), wj, wj, nm_r (e' := upd a_linkEdges j (gx_set a_edgesFrom a_edgesTo a_typedEdges la lb j s)) ?_ ⟨wj, ?_⟩⟩
    · rw [cj, nI_clamp (by omega), nI_clamp (by omega)]
      rfl
    · rw [cj, pk_us]
      exact br_c (he0 hp) (he1 hp)
  · refine br_t (by rw [ck]; exact H5 j hj hl1) ⟨?_, ?_⟩
    · rw [gx_ix16]; exact vp_in_nI (by omega) (by decide)
    · rw [gx_ix16, nI_clamp (n := 16 * j + s (la j)) (by omega)]
      refine gx_has (by omega) (fun hb => ⟨gn_n1, hw1 hl1 ((H6 j hj hl1 _ sa _ sb).mp hb)⟩) (fun hb => ⟨gn_n0, hw0 hl1 (fun z => ?_)⟩)
      rw [(H6 j hj hl1 _ sa _ sb).mpr z] at hb
      exact Bool.false_ne_true hb.symm
theorem gx_p63 {post : Int32 → SX → Prop} {i : Nat} {s : Nat → Nat} (hi : i < 4) (H : gx_H b pr l1 la lb sp wy ed dn de a_patternMode a_linkSet a_linkStart a_linkEnd a_linkKind a_edgesFrom a_edgesTo a_spotNodes a_typedEdges a_wayTargets) (hpl : gx_PL (i + 1) s a_placed) (hs : ∀ q, q ≤ i → pr q → s q < 12)
    (h1 : ∀ le, gx_LE pr la lb a_edgesFrom a_edgesTo a_typedEdges (i + 1) s le → (∀ j, j < 4 → la j ≤ i → lb j ≤ i → (la j = i ∨ lb j = i) → l1 j → wy j (s (la j)) (s (lb j))) → post 1 (f_nodeSet, f_edgeSet, nI b, f_wanted, f_weighing, f_found, f_lightest, f_heaviest, a_nodeLabel, a_nodeValue, a_edgesFrom, a_edgesTo, a_edgesOfType, a_edgeWeight, a_patternMode, a_spotSet, a_linkSet, a_spotLabels, a_spotLeast, a_spotGreatest, a_linkStart, a_linkEnd, a_linkTypes, a_linkKind, a_spotNodes, a_typedEdges, a_wayTargets, a_placed, le, a_taken, a_picked))
    (h0 : ∀ le j, gx_LE pr la lb a_edgesFrom a_edgesTo a_typedEdges i s le → j < 4 → la j ≤ i → lb j ≤ i → (la j = i ∨ lb j = i) → (l1 j ∧ ¬ wy j (s (la j)) (s (lb j))) ∨ (pr (4 + j) ∧ (gx_set a_edgesFrom a_edgesTo a_typedEdges la lb j s) = 0) → post 0 (f_nodeSet, f_edgeSet, nI b, f_wanted, f_weighing, f_found, f_lightest, f_heaviest, a_nodeLabel, a_nodeValue, a_edgesFrom, a_edgesTo, a_edgesOfType, a_edgeWeight, a_patternMode, a_spotSet, a_linkSet, a_spotLabels, a_spotLeast, a_spotGreatest, a_linkStart, a_linkEnd, a_linkTypes, a_linkKind, a_spotNodes, a_typedEdges, a_wayTargets, a_placed, le, a_taken, a_picked)) :
    ∀ r n j le, j + r = 4 → r < n → gx_LE pr la lb a_edgesFrom a_edgesTo a_typedEdges i s le → (∀ q, q < j → pr (4 + q) → la q ≤ i → lb q ≤ i → le q = (gx_set a_edgesFrom a_edgesTo a_typedEdges la lb q s)) → (∀ q, q < j → la q ≤ i → lb q ≤ i → (la q = i ∨ lb q = i) → l1 q → wy q (s (la q)) (s (lb q))) →
      wX_place_63 post (nI i) n (nI j) f_nodeSet f_edgeSet (nI b) f_wanted f_weighing f_found f_lightest f_heaviest a_nodeLabel a_nodeValue a_edgesFrom a_edgesTo a_edgesOfType a_edgeWeight a_patternMode a_spotSet a_linkSet a_spotLabels a_spotLeast a_spotGreatest a_linkStart a_linkEnd a_linkTypes a_linkKind a_spotNodes a_typedEdges a_wayTargets a_placed le a_taken a_picked := by
  intro r
  induction r with
  | zero =>
    intro n j le hj hn hle hq hw
    obtain ⟨m, rfl⟩ : ∃ m, n = m + 1 := ⟨n - 1, by omega⟩
    obtain rfl : j = 4 := by omega
    refine br_t (nI_le (a := 4) (by omega) (by decide)) (h1 le (fun q hq4 => ⟨(hle q hq4).1, fun hp ha hb => hq q hq4 hp (by omega) (by omega)⟩) hw)
  | succ r ih =>
    intro n j le hj hn hle hq hw
    obtain ⟨m, rfl⟩ : ∃ m, n = m + 1 := ⟨n - 1, by omega⟩
    have hj4 : j < 4 := by omega
    have H' := H
    obtain ⟨H0, _, H2, H3, H4, H5, _, _, _, _, H10⟩ := H'
    have cb : (nI b).toNatClampNeg = b := nI_clamp (by omega)
    refine br_f (nI_ge (b := 4) hj4 (by decide)) ⟨vp_in_nI H10 (by decide), ?_⟩
    rw [cb]
    refine gx_hasb (by omega) (fun hb => ?_) (fun hb => ?_)
    · have hl := (H2 j hj4).mp hb
      obtain ⟨_, _, pa, pb⟩ := H3 j hj4 hl
      have hla := (H0 j).1
      have hlb := (H0 j).2
      refine gx_last hj4 H hl ?_
      refine pk_eq (if la j ≤ lb j then lb j else la j) i (fun e => ?_) (fun e => ?_) rfl rfl (by split <;> omega) (by omega)
      · have a1 : la j ≤ i := by split at e <;> omega
        have a2 : lb j ≤ i := by split at e <;> omega
        have a3 : la j = i ∨ lb j = i := by split at e <;> omega
        have sa := hs _ a1 pa
        have sb := hs _ a2 pb
        refine gx_joins (s := s) hj4 H hl (hpl _ (by omega)) (hpl _ (by omega)) sa sb ?_ ?_ ?_ ?_
        · intro q1 q2
          refine br_f gn_10 (nm_r (nI_1 j) (ih m (j + 1) le (by omega) (by omega) hle (fun q hqj hp ha hb => ?_) (fun q hqj ha hb hc hd => ?_)))
          · by_cases z : q = j
            · subst z; exact absurd (H5 q hj4 q1) (H4 q hj4 hp)
            · exact hq q (by omega) hp ha hb
          · by_cases z : q = j
            · subst z; exact q2
            · exact hw q (by omega) ha hb hc hd
        · intro q1 q2
          exact br_t rfl (h0 le j hle hj4 a1 a2 a3 (Or.inl ⟨q1, q2⟩))
        · intro q1 q2
          have lev : gx_LE pr la lb a_edgesFrom a_edgesTo a_typedEdges i s (upd le j (gx_set a_edgesFrom a_edgesTo a_typedEdges la lb j s)) := fun q hq4 => by
            by_cases z : q = j
            · subst z; exact ⟨fun np => absurd q1 np, fun _ _ _ => pk_us⟩
            · rw [pk_un z]; exact hle q hq4
          refine br_f gn_10 (nm_r (nI_1 j) (ih m (j + 1) _ (by omega) (by omega) lev (fun q hqj hp ha hb => ?_) (fun q hqj ha hb hc hd => ?_)))
          · by_cases z : q = j
            · subst z; exact pk_us
            · rw [pk_un z]; exact hq q (by omega) hp ha hb
          · by_cases z : q = j
            · subst z; exact absurd (H5 q hj4 hd) (H4 q hj4 q1)
            · exact hw q (by omega) ha hb hc hd
        · intro q1 q2
          have lev : gx_LE pr la lb a_edgesFrom a_edgesTo a_typedEdges i s (upd le j (gx_set a_edgesFrom a_edgesTo a_typedEdges la lb j s)) := fun q hq4 => by
            by_cases z : q = j
            · subst z; exact ⟨fun np => absurd q1 np, fun _ _ _ => pk_us⟩
            · rw [pk_un z]; exact hle q hq4
          exact br_t rfl (h0 _ j lev hj4 a1 a2 a3 (Or.inr ⟨q1, q2⟩))
      · refine nm_r (nI_1 j) (ih m (j + 1) le (by omega) (by omega) hle (fun q hqj hp ha hb => ?_) (fun q hqj ha hb hc hd => ?_))
        · by_cases z : q = j
          · subst z
            have : la q < i ∧ lb q < i := by split at e <;> omega
            exact (hle q hj4).2 hp this.1 this.2
          · exact hq q (by omega) hp ha hb
        · by_cases z : q = j
          · subst z; exfalso; split at e <;> omega
          · exact hw q (by omega) ha hb hc hd
    · have nl : ¬ (pr (4 + j) ∨ l1 j) := fun z => Bool.false_ne_true (hb.symm.trans ((H2 j hj4).mpr z))
      refine nm_r (nI_1 j) (ih m (j + 1) le (by omega) (by omega) hle (fun q hqj hp ha hb => ?_) (fun q hqj ha hb hc hd => ?_))
      · by_cases z : q = j
        · subst z; exact absurd (Or.inl hp) nl
        · exact hq q (by omega) hp ha hb
      · by_cases z : q = j
        · subst z; exact absurd (Or.inr hd) nl
        · exact hw q (by omega) ha hb hc hd
theorem gx_p38 {post : Int32 → SX → Prop} {i : Nat} {c : Int32} (hi : i < 4) {f_sought : Int32} (h1 : (∀ h, h < i → ¬ a_placed h = c) → ∃ n, wX_place_63 post (nI i) n 0 f_nodeSet f_edgeSet f_sought f_wanted f_weighing f_found f_lightest f_heaviest a_nodeLabel a_nodeValue a_edgesFrom a_edgesTo a_edgesOfType a_edgeWeight a_patternMode a_spotSet a_linkSet a_spotLabels a_spotLeast a_spotGreatest a_linkStart a_linkEnd a_linkTypes a_linkKind a_spotNodes a_typedEdges a_wayTargets a_placed a_linkEdges a_taken a_picked) (h0 : ∀ h, h < i → a_placed h = c → post 0 (f_nodeSet, f_edgeSet, f_sought, f_wanted, f_weighing, f_found, f_lightest, f_heaviest, a_nodeLabel, a_nodeValue, a_edgesFrom, a_edgesTo, a_edgesOfType, a_edgeWeight, a_patternMode, a_spotSet, a_linkSet, a_spotLabels, a_spotLeast, a_spotGreatest, a_linkStart, a_linkEnd, a_linkTypes, a_linkKind, a_spotNodes, a_typedEdges, a_wayTargets, a_placed, a_linkEdges, a_taken, a_picked)) : ∃ n, wX_place_38 post (nI i) c f_nodeSet f_edgeSet f_sought f_wanted f_weighing f_found f_lightest f_heaviest a_nodeLabel a_nodeValue a_edgesFrom a_edgesTo a_edgesOfType a_edgeWeight a_patternMode a_spotSet a_linkSet a_spotLabels a_spotLeast a_spotGreatest a_linkStart a_linkEnd a_linkTypes a_linkKind a_spotNodes a_typedEdges a_wayTargets a_placed a_linkEdges a_taken a_picked n 0 := by
  refine loop_0 (fun n h (_ : Unit) => wX_place_38 post (nI i) c f_nodeSet f_edgeSet f_sought f_wanted f_weighing f_found f_lightest f_heaviest a_nodeLabel a_nodeValue a_edgesFrom a_edgesTo a_edgesOfType a_edgeWeight a_patternMode a_spotSet a_linkSet a_spotLabels a_spotLeast a_spotGreatest a_linkStart a_linkEnd a_linkTypes a_linkKind a_spotNodes a_typedEdges a_wayTargets a_placed a_linkEdges a_taken a_picked n (nI h)) (fun h _ => ∀ q, q < h → ¬ a_placed q = c) i () (fun q hq => absurd hq (Nat.not_lt_zero q)) (fun n s I => ?_) (fun n h s hh I ih => ?_)
  · exact br_t (nI_le (by omega) (by omega)) (h1 I)
  · have e : (nI h).toNatClampNeg = h := nI_clamp (by omega)
    refine br_f (nI_ge hh (by omega)) ⟨vp_in_nI (by omega) (by decide), ?_⟩
    rw [e]
    refine br_c (h0 h hh) (fun z => nm_r (nI_1 h) (ih () (fun q hq => ?_)))
    by_cases y : q = h
    · subst y; exact z
    · exact I q (by omega)
theorem gx_place {post : Int32 → SX → Prop} {i n : Nat} {s : Nat → Nat} (hi : i < 4) (hn : n < 16) (H : gx_H b pr l1 la lb sp wy ed dn de a_patternMode a_linkSet a_linkStart a_linkEnd a_linkKind a_edgesFrom a_edgesTo a_spotNodes a_typedEdges a_wayTargets) (hPL : gx_PL i s a_placed) (hSB : gx_SB pr i s) (hLE : gx_LE pr la lb a_edgesFrom a_edgesTo a_typedEdges i s a_linkEdges)
    (h1 : ∀ pl le, gx_PL (i + 1) (gq_up s i n) pl → gx_SB pr (i + 1) (gq_up s i n) → gx_LE pr la lb a_edgesFrom a_edgesTo a_typedEdges (i + 1) (gq_up s i n) le → gq_f pr (gp_ok pr l1 la lb sp wy ed dn de) i s n = gq_E pr (gp_ok pr l1 la lb sp wy ed dn de) (7 - i) (gq_up s i n) → post 1 (f_nodeSet, f_edgeSet, nI b, f_wanted, f_weighing, f_found, f_lightest, f_heaviest, a_nodeLabel, a_nodeValue, a_edgesFrom, a_edgesTo, a_edgesOfType, a_edgeWeight, a_patternMode, a_spotSet, a_linkSet, a_spotLabels, a_spotLeast, a_spotGreatest, a_linkStart, a_linkEnd, a_linkTypes, a_linkKind, a_spotNodes, a_typedEdges, a_wayTargets, pl, le, a_taken, a_picked))
    (h0 : ∀ pl le, gx_PL i s pl → gx_LE pr la lb a_edgesFrom a_edgesTo a_typedEdges i s le → gq_f pr (gp_ok pr l1 la lb sp wy ed dn de) i s n = [] → post 0 (f_nodeSet, f_edgeSet, nI b, f_wanted, f_weighing, f_found, f_lightest, f_heaviest, a_nodeLabel, a_nodeValue, a_edgesFrom, a_edgesTo, a_edgesOfType, a_edgeWeight, a_patternMode, a_spotSet, a_linkSet, a_spotLabels, a_spotLeast, a_spotGreatest, a_linkStart, a_linkEnd, a_linkTypes, a_linkKind, a_spotNodes, a_typedEdges, a_wayTargets, pl, le, a_taken, a_picked)) : wpX_place post (f_nodeSet, f_edgeSet, nI b, f_wanted, f_weighing, f_found, f_lightest, f_heaviest, a_nodeLabel, a_nodeValue, a_edgesFrom, a_edgesTo, a_edgesOfType, a_edgeWeight, a_patternMode, a_spotSet, a_linkSet, a_spotLabels, a_spotLeast, a_spotGreatest, a_linkStart, a_linkEnd, a_linkTypes, a_linkKind, a_spotNodes, a_typedEdges, a_wayTargets, a_placed, a_linkEdges, a_taken, a_picked) (nI i) (nI n) := by
  have H' := H
  obtain ⟨H0, H1, H2, H3, H4, H5, H6, H7, H8, _, H10⟩ := H'
  have ci : (nI i).toNatClampNeg = i := nI_clamp (by omega)
  have cb : (nI b).toNatClampNeg = b := nI_clamp (by omega)
  have wi : vp_in (nI i) 4 := vp_in_nI hi (by decide)
  have nokx : ∀ (P : Prop), (gq_okx pr (gp_ok pr l1 la lb sp wy ed dn de) i s n → False) → (gq_f pr (gp_ok pr l1 la lb sp wy ed dn de) i s n = [] → P) → P := fun P q r => r (gq_f0 q)
  refine ⟨wi, ?_⟩
  rw [ci]
  refine gx_hasb (by omega) (fun hb => ?_) (fun hb => ?_)
  · have hc := (H1 i hi n hn).mp hb
    have hPL' : gx_PL (i + 1) (gq_up s i n) (upd a_placed i (nI n)) := gx_PLu hPL
    have hSB' : gx_SB pr (i + 1) (gq_up s i n) := gx_SBu hSB (by
      rw [gq_lim4 hi, gq_st4 hi]
      rcases hc with z | z
      · exact ⟨fun _ => z.2.1, fun w => absurd z.1 w⟩
      · exact ⟨fun w => absurd w z.1, fun _ => z.2⟩)
    have hs : ∀ q, q ≤ i → pr q → gq_up s i n q < 12 := fun q hq hp => by
      have := (hSB' q (by omega)).1 hp
      rw [gq_lim4 (by omega)] at this
      exact this
    have hLE' : gx_LE pr la lb a_edgesFrom a_edgesTo a_typedEdges i (gq_up s i n) a_linkEdges := fun j hj => ⟨(hLE j hj).1, fun hp ha hb => by
      rw [(hLE j hj).2 hp ha hb]
      unfold gx_set
      rw [gq_un (by omega), gq_un (by omega)]⟩
    have main : (dn → ∀ q, q < i → pr q → s q ≠ n) → ∃ f, wX_place_63 post (nI i) f 0 f_nodeSet f_edgeSet (nI b) f_wanted f_weighing f_found f_lightest f_heaviest a_nodeLabel a_nodeValue a_edgesFrom a_edgesTo a_edgesOfType a_edgeWeight a_patternMode a_spotSet a_linkSet a_spotLabels a_spotLeast a_spotGreatest a_linkStart a_linkEnd a_linkTypes a_linkKind a_spotNodes a_typedEdges a_wayTargets (upd a_placed i (nI n)) a_linkEdges a_taken a_picked := by
      intro hd
      refine ⟨5, gx_p63 (s := gq_up s i n) hi H hPL' hs ?_ ?_ 4 5 0 a_linkEdges (by omega) (by omega) hLE' (fun q hq => absurd hq (Nat.not_lt_zero q)) (fun q hq => absurd hq (Nat.not_lt_zero q))⟩
      · intro le hle hw
        refine h1 _ le hPL' hSB' hle (gq_f1 ?_)
        rcases hc with z | z
        · refine Or.inl ⟨z.1, by rw [gq_lim4 hi]; exact z.2.1, fun _ => ⟨z.2.2, hd, fun j hj hl ha hb hab => hw j hj ha hb hab hl⟩, fun z => by omega⟩
        · exact Or.inr ⟨z.1, by rw [gq_st4 hi]; exact z.2⟩
      · intro le j hle hj ha hb hab hbad
        refine h0 _ le (gx_PLk hPL') (gx_LEk hle) ?_
        by_cases o : gq_okx pr (gp_ok pr l1 la lb sp wy ed dn de) i s n
        · rcases hbad with ⟨q1, q2⟩ | ⟨q1, q2⟩
          · exfalso
            rcases o with o | o
            · exact q2 ((o.2.2.1 hi).2.2 j hj q1 ha hb hab)
            · obtain ⟨_, _, pa, pb⟩ := H3 j hj (Or.inr q1)
              rcases hab with z | z
              · rw [z] at pa; exact o.1 pa
              · rw [z] at pb; exact o.1 pb
          · rw [gq_f1 o]
            obtain ⟨_, _, pa, pb⟩ := H3 j hj (Or.inl q1)
            refine gq_prune (q := 4 + j) (a := la j) (b := lb j) (va := gq_up s i n (la j)) (vb := gq_up s i n (lb j)) (by omega) q1 ?_ (7 - i) _ (by omega) (by omega) (by omega) (by omega) rfl rfl
            intro t ta tb c hc ho
            have ho' := (ho.2 (by omega)).1
            rw [show 4 + j - 4 = j by omega, ta, tb] at ho'
            rw [gq_lim8] at hc
            have hbit := (H7 j hj q1 _ (hs _ ha pa) _ (hs _ hb pb) c (by omega)).mpr ⟨hc, ho'⟩
            unfold gx_set at q2
            rw [q2, b_0] at hbit
            exact Bool.false_ne_true hbit
        · exact gq_f0 o
    refine ⟨wi, nm_r (e' := upd a_placed i (nI n)) rfl ⟨vp_in_nI H10 (by decide), ?_⟩⟩
    rw [cb]
    refine br_c (fun z => ?_) (fun z => ?_)
    · exact main (fun d => absurd d (H8.mp z))
    · refine gx_p38 hi (fun hh => main (fun _ q hq hp e => ?_)) (fun h hh e => ?_)
      · refine hh q hq ?_
        rw [pk_un (by omega), hPL q hq, e]
      · rw [pk_un (by omega), hPL h hh] at e
        refine h0 _ _ (gx_PLk hPL') hLE (gq_f0 ?_)
        have dn' : dn := Classical.byContradiction (fun w => z (H8.mpr w))
        have sh := hSB h hh
        rw [gq_lim4 (by omega), gq_st4 (by omega)] at sh
        have shb : s h < 16 := by
          by_cases ph : pr h
          · have := sh.1 ph; omega
          · have := sh.2 ph; omega
        rw [nI_eq (by omega) (by omega)] at e
        rintro (o | o)
        · have hlt := o.2.1
          rw [gq_lim4 hi] at hlt
          by_cases ph : pr h
          · exact (o.2.2.1 hi).2.1 dn' h hh ph e
          · have := sh.2 ph; omega
        · have hst := o.2
          rw [gq_st4 hi] at hst
          by_cases ph : pr h
          · have := sh.1 ph; omega
          · have := sh.2 ph; omega
  · refine h0 _ _ hPL hLE (gq_f0 ?_)
    intro o
    have : bt (a_spotNodes i) n = true := (H1 i hi n hn).mpr (by
      rcases o with o | o
      · have := o.2.1
        rw [gq_lim4 hi] at this
        exact Or.inl ⟨o.1, this, (o.2.2.1 hi).1⟩
      · have := o.2
        rw [gq_st4 hi] at this
        exact Or.inr ⟨o.1, this⟩)
    rw [hb] at this
    exact Bool.false_ne_true this
end GXP
end
section
/-! the component's search: the edges, and what is done with a match -/
abbrev gx_A : Type := Int32 × Int32 × Int32 × (Nat → Int32)
def gx_pick (s : Nat → Nat) (pk : Nat → Int32) (k : Nat) : Nat → Int32 := fun q => if q < k then nI (s q) else pk q
def gx_wt (ew : Nat → Int32) (s : Nat → Nat) : Int32 := ((ew (s 4) + ew (s 5)) + ew (s 6)) + ew (s 7)
def gx_tick (wa we : Int32) (ew : Nat → Int32) (a : gx_A) (s : Nat → Nat) : gx_A :=
  if we = 0 then (if wa = (-1) then (a.1 + 1, a.2.1, a.2.2.1, a.2.2.2) else (a.1 + 1, a.2.1, a.2.2.1, if a.1 = wa then gx_pick s a.2.2.2 8 else a.2.2.2))
  else (a.1, (if a.2.1 ≤ gx_wt ew s then a.2.1 else gx_wt ew s), (if gx_wt ew s ≤ a.2.2.1 then a.2.2.1 else gx_wt ew s), a.2.2.2)
def gx_fold (wa we : Int32) (ew : Nat → Int32) (a : gx_A) (L : List (Nat → Nat)) : gx_A := L.foldl (gx_tick wa we ew) a
theorem gx_fnil {wa we : Int32} {ew : Nat → Int32} {a : gx_A} : gx_fold wa we ew a [] = a := rfl
theorem gx_fone {wa we : Int32} {ew : Nat → Int32} {a : gx_A} {s : Nat → Nat} : gx_fold wa we ew a [s] = gx_tick wa we ew a s := rfl
theorem gx_fapp {wa we : Int32} {ew : Nat → Int32} {a : gx_A} {L M : List (Nat → Nat)} : gx_fold wa we ew a (L ++ M) = gx_fold wa we ew (gx_fold wa we ew a L) M := List.foldl_append
theorem gx_fcnt {ew : Nat → Int32} : ∀ (L : List (Nat → Nat)) (a : gx_A), gx_fold (-1) 0 ew a L = (a.1 + nI L.length, a.2.1, a.2.2.1, a.2.2.2)
  | [], a => by
    show a = (a.1 + nI 0, _)
    rw [nI_0, Int32.add_zero]
  | s :: L, a => by
    show gx_fold (-1) 0 ew (gx_tick (-1) 0 ew a s) L = _
    rw [gx_fcnt L]
    unfold gx_tick
    rw [if_pos rfl, if_pos rfl, List.length_cons]
    show (a.1 + 1 + nI L.length, _) = _
    rw [Int32.add_assoc, Int32.add_comm 1, nI_1]
theorem gx_scan1 {α : Type} {f : Nat → List α} {P : Nat → Bool} (h : ∀ c, (f c).length = bif P c then 1 else 0) : ∀ k, (gq_scan f 0 k).length = gc_n P k
  | 0 => rfl
  | k + 1 => by
    rw [gq_scan_add k 1 0, List.length_append, gx_scan1 h k, Nat.zero_add]
    show _ + (f k ++ []).length = _ + _
    rw [List.append_nil, h k]
theorem gx_pku {s : Nat → Nat} {pk : Nat → Int32} {k : Nat} {x : Int32} (h : x = nI (s k)) : upd (gx_pick s pk k) k x = gx_pick s pk (k + 1) := by
  funext q
  by_cases e : q = k
  · subst e
    rw [pk_us, h]
    exact (if_pos (Nat.lt_succ_self q)).symm
  · rw [pk_un e]
    unfold gx_pick
    by_cases z : q < k
    · rw [if_pos z, if_pos (by omega)]
    · rw [if_neg z, if_neg (by omega)]
theorem gx_TKu {i c : Nat} {s : Nat → Nat} {tk : Nat → Int32} (h : gx_TK i s tk) : gx_TK (i + 1) (gq_up s (4 + i) c) (upd tk i (nI c)) := fun q hq => by
  by_cases e : q = i
  · subst e; rw [pk_us, gq_us]
  · rw [pk_un e, gq_un (by omega)]; exact h q (by omega)
theorem gx_TKk {i c : Nat} {s : Nat → Nat} {tk : Nat → Int32} (h : gx_TK (i + 1) (gq_up s (4 + i) c) tk) : gx_TK i s tk := fun q hq => by
  have := h q (by omega)
  rw [gq_un (by omega)] at this
  exact this
theorem gx_LE4 {pr : Nat → Prop} {la lb : Nat → Nat} {eF eO tyE : Nat → Int32} {p c : Nat} (hp : 4 ≤ p) (hl : ∀ j, la j < 4 ∧ lb j < 4) {s : Nat → Nat} {le : Nat → Int32} (h : gx_LE pr la lb eF eO tyE 4 s le) : gx_LE pr la lb eF eO tyE 4 (gq_up s p c) le := fun j hj => ⟨(h j hj).1, fun hp ha hb => by
  rw [(h j hj).2 hp ha hb]
  have := hl j
  unfold gx_set
  rw [gq_un (by omega), gq_un (by omega)]⟩
theorem gx_PL4 {p c : Nat} (hp : 4 ≤ p) {s : Nat → Nat} {pl : Nat → Int32} (h : gx_PL 4 s pl) : gx_PL 4 (gq_up s p c) pl := fun q hq => by
  rw [gq_un (by omega)]; exact h q hq
theorem gx_SBc {pr : Nat → Prop} {ok : Nat → (Nat → Nat) → Nat → Prop} {p c : Nat} {s : Nat → Nat} (h : gx_SB pr p s) (o : gq_okx pr ok p s c) : gx_SB pr (p + 1) (gq_up s p c) := gx_SBu h (by
  rcases o with o | o
  · exact ⟨fun _ => o.2.1, fun w => absurd o.1 w⟩
  · exact ⟨fun w => absurd w o.1, fun _ => o.2⟩)
theorem gx_SB24 {pr : Nat → Prop} {p q : Nat} {s : Nat → Nat} (h : gx_SB pr p s) (hq : q < p) (h8 : q < 8) : s q < 24 := by
  by_cases c : pr q
  · have := (h q hq).1 c
    have := gq_lim20 q
    omega
  · have := (h q hq).2 c
    unfold gq_st at this
    split at this <;> omega
section GXE
variable {b : Nat} {pr l1 : Nat → Prop} {la lb : Nat → Nat} {sp : Nat → Nat → Prop} {wy : Nat → Nat → Nat → Prop} {ed : Nat → Nat → Nat → Nat → Prop} {dn de : Prop} {f_nodeSet f_edgeSet f_wanted f_weighing f_found f_lightest f_heaviest : Int32} {a_nodeLabel a_nodeValue a_edgesFrom a_edgesTo a_edgesOfType a_edgeWeight a_patternMode a_spotSet a_linkSet a_spotLabels a_spotLeast a_spotGreatest a_linkStart a_linkEnd a_linkTypes a_linkKind a_spotNodes a_typedEdges a_wayTargets a_placed a_linkEdges a_taken a_picked : Nat → Int32}
theorem gx_free {post : Int32 → Prop} {j : Nat} {s : Nat → Nat} (hj : j < 4) (H : gx_H b pr l1 la lb sp wy ed dn de a_patternMode a_linkSet a_linkStart a_linkEnd a_linkKind a_edgesFrom a_edgesTo a_spotNodes a_typedEdges a_wayTargets) (hLE : gx_LE pr la lb a_edgesFrom a_edgesTo a_typedEdges 4 s a_linkEdges) (hSB : gx_SB pr 4 s ∧ gx_SB pr (4 + j) s) (hTK : gx_TK j s a_taken)
    (h : ∀ r, (∀ e, e < 24 → (bt r e = true ↔ gq_okx pr (gp_ok pr l1 la lb sp wy ed dn de) (4 + j) s e)) → post r) : wpX_freeEdges post (f_nodeSet, f_edgeSet, nI b, f_wanted, f_weighing, f_found, f_lightest, f_heaviest, a_nodeLabel, a_nodeValue, a_edgesFrom, a_edgesTo, a_edgesOfType, a_edgeWeight, a_patternMode, a_spotSet, a_linkSet, a_spotLabels, a_spotLeast, a_spotGreatest, a_linkStart, a_linkEnd, a_linkTypes, a_linkKind, a_spotNodes, a_typedEdges, a_wayTargets, a_placed, a_linkEdges, a_taken, a_picked) (nI j) := by
  obtain ⟨H0, H1, H2, H3, H4, H5, H6, H7, _, H9, H10⟩ := H
  obtain ⟨hSB4, hSB⟩ := hSB
  have cj : (nI j).toNatClampNeg = j := nI_clamp (by omega)
  have cb : (nI b).toNatClampNeg = b := nI_clamp (by omega)
  have bits : ∀ e, e < 24 → (bt (a_linkEdges j) e = true ↔ (pr (4 + j) ∧ e < 20 ∧ ed j e (s (la j)) (s (lb j))) ∨ (¬ pr (4 + j) ∧ e = 20 + j)) := by
    intro e he
    by_cases hp : pr (4 + j)
    · obtain ⟨_, _, pa, pb⟩ := H3 j hj (Or.inl hp)
      have sa := (hSB4 _ (H0 j).1).1 pa
      have sb := (hSB4 _ (H0 j).2).1 pb
      rw [gq_lim4 (H0 j).1] at sa
      rw [gq_lim4 (H0 j).2] at sb
      rw [(hLE j hj).2 hp (H0 j).1 (H0 j).2]
      unfold gx_set
      rw [H7 j hj hp _ sa _ sb e (by omega)]
      exact ⟨fun z => Or.inl ⟨hp, z⟩, fun z => z.elim (fun y => y.2) (fun y => absurd hp y.1)⟩
    · rw [(hLE j hj).1 hp, gb_sb (by omega) (by omega), decide_eq_true_iff]
      exact ⟨fun z => Or.inr ⟨hp, z⟩, fun z => z.elim (fun y => absurd y.1 hp) (fun y => y.2)⟩
  have okof : ∀ e, e < 24 → (gq_okx pr (gp_ok pr l1 la lb sp wy ed dn de) (4 + j) s e ↔ bt (a_linkEdges j) e = true ∧ (de → ∀ h, h < j → s (4 + h) ≠ e)) := by
    intro e he
    rw [bits e he]
    unfold gq_okx
    rw [gq_lim8, gq_st8]
    constructor
    · rintro (⟨o1, o2, o3⟩ | ⟨o1, o2⟩)
      · have o4 := o3.2 (by omega)
        rw [show 4 + j - 4 = j by omega] at o4
        refine ⟨Or.inl ⟨o1, o2, o4.1⟩, fun d q hq => ?_⟩
        by_cases ph : pr (4 + q)
        · exact o4.2 d (4 + q) (by omega) (by omega) ph
        · have := (hSB (4 + q) (by omega)).2 ph
          rw [gq_st8] at this
          omega
      · refine ⟨Or.inr ⟨o1, o2⟩, fun d q hq => ?_⟩
        by_cases ph : pr (4 + q)
        · have := (hSB (4 + q) (by omega)).1 ph
          rw [gq_lim8] at this
          omega
        · have := (hSB (4 + q) (by omega)).2 ph
          rw [gq_st8] at this
          omega
    · rintro ⟨⟨o1, o2, o3⟩ | ⟨o1, o2⟩, o4⟩
      · refine Or.inl ⟨o1, o2, fun z => by omega, fun _ => ?_⟩
        rw [show 4 + j - 4 = j by omega]
        refine ⟨o3, fun d q hq1 hq2 _ => ?_⟩
        have := o4 d (q - 4) (by omega)
        rw [show 4 + (q - 4) = q by omega] at this
        exact this
      · exact Or.inr ⟨o1, o2⟩
  refine ⟨vp_in_nI hj (by decide), nm_r (e' := a_linkEdges j) (by rw [cj]) ⟨vp_in_nI H10 (by decide), ?_⟩⟩
  rw [cb]
  refine br_c (fun z => h _ (fun e he => ?_)) (fun z => ?_)
  · rw [okof e he]
    exact ⟨fun y => ⟨y, fun d => absurd d (H9.mp z)⟩, fun y => y.1⟩
  · have hd : de := Classical.byContradiction (fun w => z (H9.mpr w))
    refine loop_0 (fun n h x => wX_freeEdges_23 post (nI j) f_nodeSet f_edgeSet (nI b) f_wanted f_weighing f_found f_lightest f_heaviest a_nodeLabel a_nodeValue a_edgesFrom a_edgesTo a_edgesOfType a_edgeWeight a_patternMode a_spotSet a_linkSet a_spotLabels a_spotLeast a_spotGreatest a_linkStart a_linkEnd a_linkTypes a_linkKind a_spotNodes a_typedEdges a_wayTargets a_placed a_linkEdges a_taken a_picked n x (nI h)) (fun h x => ∀ e, e < 24 → (bt x e = true ↔ bt (a_linkEdges j) e = true ∧ ∀ q, q < h → s (4 + q) ≠ e)) j (a_linkEdges j) (fun e he => ⟨fun y => ⟨y, fun q hq => absurd hq (Nat.not_lt_zero q)⟩, fun y => y.1⟩) (fun n x I => ?_) (fun n q x hq I ih => ?_)
    · refine br_t (nI_le (by omega) (by omega)) (h x (fun e he => ?_))
      rw [okof e he, I e he]
      exact ⟨fun y => ⟨y.1, fun _ => y.2⟩, fun y => ⟨y.1, y.2 hd⟩⟩
    · have cq : (nI q).toNatClampNeg = q := nI_clamp (by omega)
      have s24 : s (4 + q) < 24 := gx_SB24 hSB (by omega) (by omega)
      refine br_f (nI_ge hq (by omega)) ⟨vp_in_nI (by omega) (by decide), nm_r (e' := x &&& (((1 : Int32) <<< (nI (s (4 + q)) &&& 31)) ^^^ (-1))) (by rw [cq, hTK q hq]) (nm_r (nI_1 q) (ih _ (fun e he => ?_)))⟩
      rw [b_and, Bool.and_eq_true, I e he, gb_not _ (by omega), gb_sb (by omega) (by omega), Bool.not_eq_true', decide_eq_false_iff_not]
      constructor
      · rintro ⟨⟨y1, y2⟩, y3⟩
        refine ⟨y1, fun r hr => ?_⟩
        by_cases w : r = q
        · subst w; exact fun v => y3 v.symm
        · exact y2 r (by omega)
      · rintro ⟨y1, y2⟩
        exact ⟨⟨y1, fun r hr => y2 r (by omega)⟩, fun v => y2 q (by omega) v.symm⟩
theorem gx_pickM {post : SX → Prop} {s : Nat → Nat} {f_sought : Int32} (hPL : gx_PL 4 s a_placed) (hTK : gx_TK 4 s a_taken) (h : post (f_nodeSet, f_edgeSet, f_sought, f_wanted, f_weighing, f_found, f_lightest, f_heaviest, a_nodeLabel, a_nodeValue, a_edgesFrom, a_edgesTo, a_edgesOfType, a_edgeWeight, a_patternMode, a_spotSet, a_linkSet, a_spotLabels, a_spotLeast, a_spotGreatest, a_linkStart, a_linkEnd, a_linkTypes, a_linkKind, a_spotNodes, a_typedEdges, a_wayTargets, a_placed, a_linkEdges, a_taken, gx_pick s a_picked 8)) : wpX_pickMatch post (f_nodeSet, f_edgeSet, f_sought, f_wanted, f_weighing, f_found, f_lightest, f_heaviest, a_nodeLabel, a_nodeValue, a_edgesFrom, a_edgesTo, a_edgesOfType, a_edgeWeight, a_patternMode, a_spotSet, a_linkSet, a_spotLabels, a_spotLeast, a_spotGreatest, a_linkStart, a_linkEnd, a_linkTypes, a_linkKind, a_spotNodes, a_typedEdges, a_wayTargets, a_placed, a_linkEdges, a_taken, a_picked) := by
  refine loop_0 (fun n i pk => wX_pickMatch_2 post f_nodeSet f_edgeSet f_sought f_wanted f_weighing f_found f_lightest f_heaviest n (nI i) a_nodeLabel a_nodeValue a_edgesFrom a_edgesTo a_edgesOfType a_edgeWeight a_patternMode a_spotSet a_linkSet a_spotLabels a_spotLeast a_spotGreatest a_linkStart a_linkEnd a_linkTypes a_linkKind a_spotNodes a_typedEdges a_wayTargets a_placed a_linkEdges a_taken pk) (fun i pk => pk = gx_pick s a_picked i) 4 a_picked rfl (fun n pk I => ?_) (fun n i pk hi I ih => ?_)
  · subst I
    refine br_t (nI_le (a := 4) (by omega) (by decide)) ?_
    refine loop_0 (fun n i pk => wX_pickMatch_27 post f_nodeSet f_edgeSet f_sought f_wanted f_weighing f_found f_lightest f_heaviest n (nI i) a_nodeLabel a_nodeValue a_edgesFrom a_edgesTo a_edgesOfType a_edgeWeight a_patternMode a_spotSet a_linkSet a_spotLabels a_spotLeast a_spotGreatest a_linkStart a_linkEnd a_linkTypes a_linkKind a_spotNodes a_typedEdges a_wayTargets a_placed a_linkEdges a_taken pk) (fun i pk => pk = gx_pick s a_picked (4 + i)) 4 (gx_pick s a_picked 4) rfl (fun n pk I => ?_) (fun n i pk hi I ih => ?_)
    · subst I
      exact br_t (nI_le (a := 4) (by omega) (by decide)) h
    · subst I
      have c : (nI i).toNatClampNeg = i := nI_clamp (by omega)
      have e4 : (4 : Int32) + nI i = nI (4 + i) := nI_add 4 i
      have c4 : (nI (4 + i)).toNatClampNeg = 4 + i := nI_clamp (by omega)
      refine br_f (nI_ge (b := 4) hi (by decide)) ⟨vp_in_nI hi (by decide), by rw [e4]; exact vp_in_nI (by omega) (by decide), nm_r (e' := gx_pick s a_picked (4 + i + 1)) ?_ (nm_r (nI_1 i) (ih _ rfl))⟩
      rw [e4, c4, c]
      exact gx_pku (hTK i hi)
  · subst I
    have c : (nI i).toNatClampNeg = i := nI_clamp (by omega)
    refine br_f (nI_ge (b := 4) hi (by decide)) ⟨vp_in_nI hi (by decide), vp_in_nI (by omega) (by decide), nm_r (e' := gx_pick s a_picked (i + 1)) ?_ (nm_r (nI_1 i) (ih _ rfl))⟩
    rw [c]
    exact gx_pku (hPL i hi)
theorem gx_pass {post : SX → Prop} {s : Nat → Nat} {r : Int32} {f_sought : Int32} (hwa : ¬ f_wanted = (-1)) (hwe : f_weighing = 0) (hr : ∀ e, e < 24 → (bt r e = true ↔ gq_okx pr (gp_ok pr l1 la lb sp wy ed dn de) 7 s e)) (hPL : gx_PL 4 s a_placed)
    (h : ∀ tk acc, gx_TK 3 s tk → acc = (gx_fold f_wanted f_weighing a_edgeWeight (f_found, f_lightest, f_heaviest, a_picked) (gq_E pr (gp_ok pr l1 la lb sp wy ed dn de) 1 s)) → post (f_nodeSet, f_edgeSet, f_sought, f_wanted, f_weighing, acc.1, acc.2.1, acc.2.2.1, a_nodeLabel, a_nodeValue, a_edgesFrom, a_edgesTo, a_edgesOfType, a_edgeWeight, a_patternMode, a_spotSet, a_linkSet, a_spotLabels, a_spotLeast, a_spotGreatest, a_linkStart, a_linkEnd, a_linkTypes, a_linkKind, a_spotNodes, a_typedEdges, a_wayTargets, a_placed, a_linkEdges, tk, acc.2.2.2)) (hTK : gx_TK 3 s a_taken) : wpX_passMatches post (f_nodeSet, f_edgeSet, f_sought, f_wanted, f_weighing, f_found, f_lightest, f_heaviest, a_nodeLabel, a_nodeValue, a_edgesFrom, a_edgesTo, a_edgesOfType, a_edgeWeight, a_patternMode, a_spotSet, a_linkSet, a_spotLabels, a_spotLeast, a_spotGreatest, a_linkStart, a_linkEnd, a_linkTypes, a_linkKind, a_spotNodes, a_typedEdges, a_wayTargets, a_placed, a_linkEdges, a_taken, a_picked) r := by
  refine loop_0 (fun n i (z : gx_A × (Nat → Int32)) => wX_passMatches_2 post r n (nI i) f_nodeSet f_edgeSet f_sought f_wanted f_weighing z.1.1 z.1.2.1 z.1.2.2.1 a_nodeLabel a_nodeValue a_edgesFrom a_edgesTo a_edgesOfType a_edgeWeight a_patternMode a_spotSet a_linkSet a_spotLabels a_spotLeast a_spotGreatest a_linkStart a_linkEnd a_linkTypes a_linkKind a_spotNodes a_typedEdges a_wayTargets a_placed a_linkEdges z.2 z.1.2.2.2) (fun i z => gx_TK 3 s z.2 ∧ z.1 = (gx_fold f_wanted f_weighing a_edgeWeight (f_found, f_lightest, f_heaviest, a_picked) (gq_scan (gq_f pr (gp_ok pr l1 la lb sp wy ed dn de) 7 s) 0 i))) 24 ((f_found, f_lightest, f_heaviest, a_picked), a_taken) ⟨hTK, rfl⟩ (fun n z I => ?_) (fun n i z hi I ih => ?_)
  · refine br_t (nI_le (a := 24) (by omega) (by decide)) (h z.2 z.1 I.1 ?_)
    rw [I.2]
    exact congrArg _ (gq_Ex (p := 7) (by omega) (by decide) (by decide) s).symm
  · obtain ⟨⟨fo, li, he, pk⟩, tk⟩ := z
    obtain ⟨I1, I2⟩ := I
    have step : ∀ acc tk', gx_TK 3 s tk' → acc = gx_fold f_wanted f_weighing a_edgeWeight (fo, li, he, pk) (gq_f pr (gp_ok pr l1 la lb sp wy ed dn de) 7 s i) → wX_passMatches_2 post r n (nI (i + 1)) f_nodeSet f_edgeSet f_sought f_wanted f_weighing acc.1 acc.2.1 acc.2.2.1 a_nodeLabel a_nodeValue a_edgesFrom a_edgesTo a_edgesOfType a_edgeWeight a_patternMode a_spotSet a_linkSet a_spotLabels a_spotLeast a_spotGreatest a_linkStart a_linkEnd a_linkTypes a_linkKind a_spotNodes a_typedEdges a_wayTargets a_placed a_linkEdges tk' acc.2.2.2 := by
      intro acc tk' h1 h2
      refine ih (acc, tk') ⟨h1, ?_⟩
      rw [gq_scan_add i 1 0, gx_fapp, ← I2, Nat.zero_add]
      show acc = gx_fold _ _ _ _ (gq_f pr (gp_ok pr l1 la lb sp wy ed dn de) 7 s i ++ [])
      rw [List.append_nil]
      exact h2
    refine br_f (nI_ge (b := 24) hi (by decide)) (gx_hasb (by omega) (fun hb => ?_) (fun hb => nm_r (nI_1 i) (step (fo, li, he, pk) tk I1 ?_)))
    · have o := (hr i hi).mp hb
      have ef : gx_fold f_wanted f_weighing a_edgeWeight (fo, li, he, pk) (gq_f pr (gp_ok pr l1 la lb sp wy ed dn de) 7 s i) = (fo + 1, li, he, if fo = f_wanted then gx_pick (gq_up s 7 i) pk 8 else pk) := by
        rw [gq_f1 o]
        show gx_tick _ _ _ _ _ = _
        unfold gx_tick
        rw [if_pos hwe, if_neg hwa]
      by_cases q : fo = f_wanted
      · rw [if_pos q] at ef
        refine br_t q (nm_e ?_)
        refine gx_pickM (s := gq_up s 7 i) (gx_PL4 (by omega) hPL) (gx_TKu I1) ?_
        exact nm_e (nm_r (nI_1 i) (step (fo + 1, li, he, gx_pick (gq_up s 7 i) pk 8) _ (gx_TKk (gx_TKu I1)) ef.symm))
      · rw [if_neg q] at ef
        exact br_f q (nm_e (nm_r (nI_1 i) (step (fo + 1, li, he, pk) tk I1 ef.symm)))
    · rw [gq_f0 (fun o => Bool.false_ne_true (hb.symm.trans ((hr i hi).mpr o)))]
      rfl
theorem gx_weighM {post : SX → Prop} {s : Nat → Nat} {r : Int32} {f_sought : Int32} (hwe : ¬ f_weighing = 0) (hr : ∀ e, e < 24 → (bt r e = true ↔ gq_okx pr (gp_ok pr l1 la lb sp wy ed dn de) 7 s e)) (hSB : gx_SB pr 7 s)
    (h : ∀ acc, acc = (gx_fold f_wanted f_weighing a_edgeWeight (f_found, f_lightest, f_heaviest, a_picked) (gq_E pr (gp_ok pr l1 la lb sp wy ed dn de) 1 s)) → post (f_nodeSet, f_edgeSet, f_sought, f_wanted, f_weighing, acc.1, acc.2.1, acc.2.2.1, a_nodeLabel, a_nodeValue, a_edgesFrom, a_edgesTo, a_edgesOfType, a_edgeWeight, a_patternMode, a_spotSet, a_linkSet, a_spotLabels, a_spotLeast, a_spotGreatest, a_linkStart, a_linkEnd, a_linkTypes, a_linkKind, a_spotNodes, a_typedEdges, a_wayTargets, a_placed, a_linkEdges, a_taken, acc.2.2.2)) (hTK : gx_TK 3 s a_taken) : wpX_weighMatches post (f_nodeSet, f_edgeSet, f_sought, f_wanted, f_weighing, f_found, f_lightest, f_heaviest, a_nodeLabel, a_nodeValue, a_edgesFrom, a_edgesTo, a_edgesOfType, a_edgeWeight, a_patternMode, a_spotSet, a_linkSet, a_spotLabels, a_spotLeast, a_spotGreatest, a_linkStart, a_linkEnd, a_linkTypes, a_linkKind, a_spotNodes, a_typedEdges, a_wayTargets, a_placed, a_linkEdges, a_taken, a_picked) r := by
  have s4 : s 4 < 24 := gx_SB24 hSB (by omega) (by omega)
  have s5 : s 5 < 24 := gx_SB24 hSB (by omega) (by omega)
  have s6 : s 6 < 24 := gx_SB24 hSB (by omega) (by omega)
  have t0 : a_taken 0 = nI (s 4) := hTK 0 (by omega)
  have t1 : a_taken 1 = nI (s 5) := hTK 1 (by omega)
  have t2 : a_taken 2 = nI (s 6) := hTK 2 (by omega)
  refine ⟨by rw [t0]; exact vp_in_nI s4 (by decide), by rw [t1]; exact vp_in_nI s5 (by decide), by rw [t2]; exact vp_in_nI s6 (by decide), nm_r (e' := (a_edgeWeight (s 4) + a_edgeWeight (s 5)) + a_edgeWeight (s 6)) (by rw [t0, t1, t2, nI_clamp (by omega), nI_clamp (by omega), nI_clamp (by omega)]) ?_⟩
  have key : ∀ acc : gx_A, acc = (gx_fold f_wanted f_weighing a_edgeWeight (f_found, f_lightest, f_heaviest, a_picked) (gq_E pr (gp_ok pr l1 la lb sp wy ed dn de) 1 s)) → acc.1 = f_found ∧ acc.2.2.2 = a_picked := by
    intro acc e
    have : ∀ (L : List (Nat → Nat)) (a : gx_A), ((gx_fold f_wanted f_weighing a_edgeWeight a L)).1 = a.1 ∧ ((gx_fold f_wanted f_weighing a_edgeWeight a L)).2.2.2 = a.2.2.2 := by
      intro L
      induction L with
      | nil => intro a; exact ⟨rfl, rfl⟩
      | cons t L ih =>
        intro a
        have := ih (gx_tick f_wanted f_weighing a_edgeWeight a t)
        show (gx_fold _ _ _ (gx_tick f_wanted f_weighing a_edgeWeight a t) L).1 = _ ∧ (gx_fold _ _ _ (gx_tick f_wanted f_weighing a_edgeWeight a t) L).2.2.2 = _
        rw [this.1, this.2]
        unfold gx_tick
        rw [if_neg hwe]
        exact ⟨rfl, rfl⟩
    rw [e]
    exact this _ _
  refine loop_0 (fun n i (z : Int32 × Int32) => wX_weighMatches_38 post r ((a_edgeWeight (s 4) + a_edgeWeight (s 5)) + a_edgeWeight (s 6)) f_nodeSet f_edgeSet f_sought f_wanted f_weighing f_found a_nodeLabel a_nodeValue a_edgesFrom a_edgesTo a_edgesOfType a_edgeWeight a_patternMode a_spotSet a_linkSet a_spotLabels a_spotLeast a_spotGreatest a_linkStart a_linkEnd a_linkTypes a_linkKind a_spotNodes a_typedEdges a_wayTargets a_placed a_linkEdges a_taken a_picked n (nI i) z.1 z.2) (fun i z => (f_found, z.1, z.2, a_picked) = (gx_fold f_wanted f_weighing a_edgeWeight (f_found, f_lightest, f_heaviest, a_picked) (gq_scan (gq_f pr (gp_ok pr l1 la lb sp wy ed dn de) 7 s) 0 i))) 24 (f_lightest, f_heaviest) rfl (fun n z I => ?_) (fun n i z hi I ih => ?_)
  · refine br_t (nI_le (a := 24) (by omega) (by decide)) (h (f_found, z.1, z.2, a_picked) ?_)
    rw [I]
    exact congrArg _ (gq_Ex (p := 7) (by omega) (by decide) (by decide) s).symm
  · obtain ⟨li, he⟩ := z
    have step : ∀ l2 h2 : Int32, (f_found, l2, h2, a_picked) = gx_fold f_wanted f_weighing a_edgeWeight (f_found, li, he, a_picked) (gq_f pr (gp_ok pr l1 la lb sp wy ed dn de) 7 s i) → wX_weighMatches_38 post r ((a_edgeWeight (s 4) + a_edgeWeight (s 5)) + a_edgeWeight (s 6)) f_nodeSet f_edgeSet f_sought f_wanted f_weighing f_found a_nodeLabel a_nodeValue a_edgesFrom a_edgesTo a_edgesOfType a_edgeWeight a_patternMode a_spotSet a_linkSet a_spotLabels a_spotLeast a_spotGreatest a_linkStart a_linkEnd a_linkTypes a_linkKind a_spotNodes a_typedEdges a_wayTargets a_placed a_linkEdges a_taken a_picked n (nI (i + 1)) l2 h2 := by
      intro l2 h2 e
      refine ih (l2, h2) ?_
      rw [gq_scan_add i 1 0, gx_fapp, ← I, Nat.zero_add]
      show _ = gx_fold _ _ _ _ (gq_f pr (gp_ok pr l1 la lb sp wy ed dn de) 7 s i ++ [])
      rw [List.append_nil]
      exact e
    refine br_f (nI_ge (b := 24) hi (by decide)) (gx_hasb (by omega) (fun hb => ?_) (fun hb => nm_r (nI_1 i) (step li he ?_)))
    · have o := (hr i hi).mp hb
      have c : (nI i).toNatClampNeg = i := nI_clamp (by omega)
      have ef : gx_fold f_wanted f_weighing a_edgeWeight (f_found, li, he, a_picked) (gq_f pr (gp_ok pr l1 la lb sp wy ed dn de) 7 s i) = (f_found, (if li ≤ (((a_edgeWeight (s 4) + a_edgeWeight (s 5)) + a_edgeWeight (s 6)) + a_edgeWeight i) then li else (((a_edgeWeight (s 4) + a_edgeWeight (s 5)) + a_edgeWeight (s 6)) + a_edgeWeight i)), (if (((a_edgeWeight (s 4) + a_edgeWeight (s 5)) + a_edgeWeight (s 6)) + a_edgeWeight i) ≤ he then he else (((a_edgeWeight (s 4) + a_edgeWeight (s 5)) + a_edgeWeight (s 6)) + a_edgeWeight i)), a_picked) := by
        rw [gq_f1 o]
        show gx_tick _ _ _ _ _ = _
        unfold gx_tick
        rw [if_neg hwe]
        rfl
      refine ⟨vp_in_nI hi (by decide), nm_r (e' := ((a_edgeWeight (s 4) + a_edgeWeight (s 5)) + a_edgeWeight (s 6)) + a_edgeWeight i) (by rw [c]) ?_⟩
      generalize ((a_edgeWeight (s 4) + a_edgeWeight (s 5)) + a_edgeWeight (s 6)) + a_edgeWeight i = w at *
      refine br_c (fun q1 => br_c (fun q2 => nm_r (nI_1 i) (step _ _ ?_)) (fun q2 => nm_r (nI_1 i) (step _ _ ?_))) (fun q1 => br_c (fun q2 => nm_r (nI_1 i) (step _ _ ?_)) (fun q2 => nm_r (nI_1 i) (step _ _ ?_)))
      · rw [ef, if_pos q1, if_pos q2]
      · rw [ef, if_pos q1, if_neg q2]
      · rw [ef, if_neg q1, if_pos q2]
      · rw [ef, if_neg q1, if_neg q2]
    · rw [gq_f0 (fun o => Bool.false_ne_true (hb.symm.trans ((hr i hi).mpr o)))]
      rfl
theorem gx_meet {post : SX → Prop} {s : Nat → Nat} (H : gx_H b pr l1 la lb sp wy ed dn de a_patternMode a_linkSet a_linkStart a_linkEnd a_linkKind a_edgesFrom a_edgesTo a_spotNodes a_typedEdges a_wayTargets) (hPL : gx_PL 4 s a_placed) (hLE : gx_LE pr la lb a_edgesFrom a_edgesTo a_typedEdges 4 s a_linkEdges) (hSB : gx_SB pr 7 s) (hTK : gx_TK 3 s a_taken)
    (h : ∀ tk acc, gx_TK 3 s tk → acc = (gx_fold f_wanted f_weighing a_edgeWeight (f_found, f_lightest, f_heaviest, a_picked) (gq_E pr (gp_ok pr l1 la lb sp wy ed dn de) 1 s)) → post (f_nodeSet, f_edgeSet, nI b, f_wanted, f_weighing, acc.1, acc.2.1, acc.2.2.1, a_nodeLabel, a_nodeValue, a_edgesFrom, a_edgesTo, a_edgesOfType, a_edgeWeight, a_patternMode, a_spotSet, a_linkSet, a_spotLabels, a_spotLeast, a_spotGreatest, a_linkStart, a_linkEnd, a_linkTypes, a_linkKind, a_spotNodes, a_typedEdges, a_wayTargets, a_placed, a_linkEdges, tk, acc.2.2.2)) : wpX_meetMatches post (f_nodeSet, f_edgeSet, nI b, f_wanted, f_weighing, f_found, f_lightest, f_heaviest, a_nodeLabel, a_nodeValue, a_edgesFrom, a_edgesTo, a_edgesOfType, a_edgeWeight, a_patternMode, a_spotSet, a_linkSet, a_spotLabels, a_spotLeast, a_spotGreatest, a_linkStart, a_linkEnd, a_linkTypes, a_linkKind, a_spotNodes, a_typedEdges, a_wayTargets, a_placed, a_linkEdges, a_taken, a_picked) := by
  refine gx_free (j := 3) (s := s) (by omega) H hLE ⟨fun q hq => hSB q (by omega), hSB⟩ hTK (fun r hr => ?_)
  refine br_c (fun hwe => br_c (fun hwa => ?_) (fun hwa => ?_)) (fun hwe => ?_)
  · refine gx_size (nm_e (h a_taken (f_found + nI (gc_n (bt r) 24), f_lightest, f_heaviest, a_picked) hTK ?_))
    subst hwe hwa
    rw [gx_fcnt, gq_Ex (p := 7) (N := 24) (by omega) (by decide) (by decide) s, gx_scan1 (P := fun e => bif decide (e < 24) then bt r e else gq_b (gq_okx pr (gp_ok pr l1 la lb sp wy ed dn de) 7 s e))]
    · have e : gc_n (fun e => bif decide (e < 24) then bt r e else gq_b (gq_okx pr (gp_ok pr l1 la lb sp wy ed dn de) 7 s e)) 24 = gc_n (bt r) 24 := gc_eq 24 (fun i hi => by
        show (bif decide (i < 24) then bt r i else _) = _
        rw [decide_eq_true hi]
        rfl)
      rw [e]
    · intro c
      unfold gq_f
      have : (bif decide (c < 24) then bt r c else gq_b (gq_okx pr (gp_ok pr l1 la lb sp wy ed dn de) 7 s c)) = gq_b (gq_okx pr (gp_ok pr l1 la lb sp wy ed dn de) 7 s c) := by
        by_cases z : c < 24
        · rw [decide_eq_true z]
          show bt r c = _
          rw [Bool.eq_iff_iff, hr c z, gq_bi]
        · rw [decide_eq_false z]; rfl
      rw [this]
      cases gq_b (gq_okx pr (gp_ok pr l1 la lb sp wy ed dn de) 7 s c) <;> rfl
  · exact gx_pass hwa hwe hr hPL h hTK
  · exact gx_weighM hwe hr hSB (fun acc e => h a_taken acc hTK e) hTK
end GXE
end
section
/-! the component's search: all matches in their order -/
section GXW
variable {b : Nat} {pr l1 : Nat → Prop} {la lb : Nat → Nat} {sp : Nat → Nat → Prop} {wy : Nat → Nat → Nat → Prop} {ed : Nat → Nat → Nat → Nat → Prop} {dn de : Prop} {f_nodeSet f_edgeSet f_wanted f_weighing f_found f_lightest f_heaviest : Int32} {a_nodeLabel a_nodeValue a_edgesFrom a_edgesTo a_edgesOfType a_edgeWeight a_patternMode a_spotSet a_linkSet a_spotLabels a_spotLeast a_spotGreatest a_linkStart a_linkEnd a_linkTypes a_linkKind a_spotNodes a_typedEdges a_wayTargets a_placed a_linkEdges a_taken a_picked : Nat → Int32}
/-- the loops over the edges of the links 2, 1, 0 -/
theorem gx_w78 {post : SX → Prop} {s : Nat → Nat} {J8 J41 : Int32 → Int32 → Int32 → Int32 → Int32 → Int32 → Int32 → Int32 → Int32 → (Nat → Int32) → (Nat → Int32) → (Nat → Int32) → (Nat → Int32) → (Nat → Int32) → (Nat → Int32) → (Nat → Int32) → (Nat → Int32) → (Nat → Int32) → (Nat → Int32) → (Nat → Int32) → (Nat → Int32) → (Nat → Int32) → (Nat → Int32) → (Nat → Int32) → (Nat → Int32) → (Nat → Int32) → (Nat → Int32) → (Nat → Int32) → (Nat → Int32) → (Nat → Int32) → (Nat → Int32) → (Nat → Int32) → Prop} {x1 x2 x3 x4 x5 : Int32} (H : gx_H b pr l1 la lb sp wy ed dn de a_patternMode a_linkSet a_linkStart a_linkEnd a_linkKind a_edgesFrom a_edgesTo a_spotNodes a_typedEdges a_wayTargets) (hPL : gx_PL 4 s a_placed) (hLE : gx_LE pr la lb a_edgesFrom a_edgesTo a_typedEdges 4 s a_linkEdges) (hSB : gx_SB pr 6 s)
    (hr : ∀ e, e < 24 → (bt x5 e = true ↔ gq_okx pr (gp_ok pr l1 la lb sp wy ed dn de) 6 s e)) (acc0 : gx_A)
    (hJ : ∀ tk acc, gx_TK 2 s tk → acc = (gx_fold f_wanted f_weighing a_edgeWeight acc0 (gq_E pr (gp_ok pr l1 la lb sp wy ed dn de) 2 s)) → J41 (x4 + 1) f_nodeSet f_edgeSet (nI b) f_wanted f_weighing acc.1 acc.2.1 acc.2.2.1 a_nodeLabel a_nodeValue a_edgesFrom a_edgesTo a_edgesOfType a_edgeWeight a_patternMode a_spotSet a_linkSet a_spotLabels a_spotLeast a_spotGreatest a_linkStart a_linkEnd a_linkTypes a_linkKind a_spotNodes a_typedEdges a_wayTargets a_placed a_linkEdges tk acc.2.2.2) (hTK : gx_TK 2 s a_taken) :
    ∃ n, wX_walkEdges_78 post J8 J41 x1 x2 x3 x4 x5 n 0 f_nodeSet f_edgeSet (nI b) f_wanted f_weighing acc0.1 acc0.2.1 acc0.2.2.1 a_nodeLabel a_nodeValue a_edgesFrom a_edgesTo a_edgesOfType a_edgeWeight a_patternMode a_spotSet a_linkSet a_spotLabels a_spotLeast a_spotGreatest a_linkStart a_linkEnd a_linkTypes a_linkKind a_spotNodes a_typedEdges a_wayTargets a_placed a_linkEdges a_taken acc0.2.2.2 := by
  refine loop_0 (fun n i (z : gx_A × (Nat → Int32)) => wX_walkEdges_78 post J8 J41 x1 x2 x3 x4 x5 n (nI i) f_nodeSet f_edgeSet (nI b) f_wanted f_weighing z.1.1 z.1.2.1 z.1.2.2.1 a_nodeLabel a_nodeValue a_edgesFrom a_edgesTo a_edgesOfType a_edgeWeight a_patternMode a_spotSet a_linkSet a_spotLabels a_spotLeast a_spotGreatest a_linkStart a_linkEnd a_linkTypes a_linkKind a_spotNodes a_typedEdges a_wayTargets a_placed a_linkEdges z.2 z.1.2.2.2) (fun i z => gx_TK 2 s z.2 ∧ z.1 = (gx_fold f_wanted f_weighing a_edgeWeight acc0 (gq_scan (gq_f pr (gp_ok pr l1 la lb sp wy ed dn de) 6 s) 0 i))) 24 (acc0, a_taken) ⟨hTK, rfl⟩ (fun n z I => ?_) (fun n i z hi I ih => ?_)
  · refine br_t (nI_le (a := 24) (by omega) (by decide)) (nm_e (hJ z.2 z.1 I.1 ?_))
    rw [I.2]
    exact congrArg _ (gq_Ex (p := 6) (by omega) (by decide) (by decide) s).symm
  · obtain ⟨a, tk⟩ := z
    obtain ⟨I1, I2⟩ := I
    have step : ∀ acc tk', gx_TK 2 s tk' → acc = (gx_fold f_wanted f_weighing a_edgeWeight a (gq_f pr (gp_ok pr l1 la lb sp wy ed dn de) 6 s i)) → wX_walkEdges_78 post J8 J41 x1 x2 x3 x4 x5 n (nI (i + 1)) f_nodeSet f_edgeSet (nI b) f_wanted f_weighing acc.1 acc.2.1 acc.2.2.1 a_nodeLabel a_nodeValue a_edgesFrom a_edgesTo a_edgesOfType a_edgeWeight a_patternMode a_spotSet a_linkSet a_spotLabels a_spotLeast a_spotGreatest a_linkStart a_linkEnd a_linkTypes a_linkKind a_spotNodes a_typedEdges a_wayTargets a_placed a_linkEdges tk' acc.2.2.2 := by
      intro acc tk' h1 h2
      refine ih (acc, tk') ⟨h1, ?_⟩
      rw [gq_scan_add i 1 0, gx_fapp, ← I2, Nat.zero_add]
      show acc = gx_fold _ _ _ _ (gq_f pr (gp_ok pr l1 la lb sp wy ed dn de) 6 s i ++ [])
      rw [List.append_nil]
      exact h2
    refine br_f (nI_ge (b := 24) hi (by decide)) (gx_hasb (by omega) (fun hb => nm_e ?_) (fun hb => nm_r (nI_1 i) (step a tk I1 ?_)))
    · have o := (hr i hi).mp hb
      refine gx_meet (s := gq_up s 6 i) H (gx_PL4 (by omega) hPL) (gx_LE4 (by omega) H.1 hLE) (gx_SBc hSB o) (gx_TKu (i := 2) I1) (fun tk' acc h1 h2 => ?_)
      refine nm_r (nI_1 i) (step acc tk' (gx_TKk (i := 2) h1) ?_)
      rw [gq_f1 o]
      exact h2
    · rw [gq_f0 (fun o => Bool.false_ne_true (hb.symm.trans ((hr i hi).mpr o)))]
      rfl
theorem gx_w41 {post : SX → Prop} {s : Nat → Nat} {J8 : Int32 → Int32 → Int32 → Int32 → Int32 → Int32 → Int32 → Int32 → Int32 → (Nat → Int32) → (Nat → Int32) → (Nat → Int32) → (Nat → Int32) → (Nat → Int32) → (Nat → Int32) → (Nat → Int32) → (Nat → Int32) → (Nat → Int32) → (Nat → Int32) → (Nat → Int32) → (Nat → Int32) → (Nat → Int32) → (Nat → Int32) → (Nat → Int32) → (Nat → Int32) → (Nat → Int32) → (Nat → Int32) → (Nat → Int32) → (Nat → Int32) → (Nat → Int32) → (Nat → Int32) → (Nat → Int32) → Prop} {x1 x2 x3 : Int32} (H : gx_H b pr l1 la lb sp wy ed dn de a_patternMode a_linkSet a_linkStart a_linkEnd a_linkKind a_edgesFrom a_edgesTo a_spotNodes a_typedEdges a_wayTargets) (hPL : gx_PL 4 s a_placed) (hLE : gx_LE pr la lb a_edgesFrom a_edgesTo a_typedEdges 4 s a_linkEdges) (hSB : gx_SB pr 5 s)
    (hr : ∀ e, e < 24 → (bt x3 e = true ↔ gq_okx pr (gp_ok pr l1 la lb sp wy ed dn de) 5 s e)) (acc0 : gx_A)
    (hJ : ∀ tk acc, gx_TK 1 s tk → acc = (gx_fold f_wanted f_weighing a_edgeWeight acc0 (gq_E pr (gp_ok pr l1 la lb sp wy ed dn de) 3 s)) → J8 (x2 + 1) f_nodeSet f_edgeSet (nI b) f_wanted f_weighing acc.1 acc.2.1 acc.2.2.1 a_nodeLabel a_nodeValue a_edgesFrom a_edgesTo a_edgesOfType a_edgeWeight a_patternMode a_spotSet a_linkSet a_spotLabels a_spotLeast a_spotGreatest a_linkStart a_linkEnd a_linkTypes a_linkKind a_spotNodes a_typedEdges a_wayTargets a_placed a_linkEdges tk acc.2.2.2) (hTK : gx_TK 1 s a_taken) :
    ∃ n, wX_walkEdges_41 post J8 x1 x2 x3 n 0 f_nodeSet f_edgeSet (nI b) f_wanted f_weighing acc0.1 acc0.2.1 acc0.2.2.1 a_nodeLabel a_nodeValue a_edgesFrom a_edgesTo a_edgesOfType a_edgeWeight a_patternMode a_spotSet a_linkSet a_spotLabels a_spotLeast a_spotGreatest a_linkStart a_linkEnd a_linkTypes a_linkKind a_spotNodes a_typedEdges a_wayTargets a_placed a_linkEdges a_taken acc0.2.2.2 := by
  refine loop_0 (fun n i (z : gx_A × (Nat → Int32)) => wX_walkEdges_41 post J8 x1 x2 x3 n (nI i) f_nodeSet f_edgeSet (nI b) f_wanted f_weighing z.1.1 z.1.2.1 z.1.2.2.1 a_nodeLabel a_nodeValue a_edgesFrom a_edgesTo a_edgesOfType a_edgeWeight a_patternMode a_spotSet a_linkSet a_spotLabels a_spotLeast a_spotGreatest a_linkStart a_linkEnd a_linkTypes a_linkKind a_spotNodes a_typedEdges a_wayTargets a_placed a_linkEdges z.2 z.1.2.2.2) (fun i z => gx_TK 1 s z.2 ∧ z.1 = (gx_fold f_wanted f_weighing a_edgeWeight acc0 (gq_scan (gq_f pr (gp_ok pr l1 la lb sp wy ed dn de) 5 s) 0 i))) 24 (acc0, a_taken) ⟨hTK, rfl⟩ (fun n z I => ?_) (fun n i z hi I ih => ?_)
  · refine br_t (nI_le (a := 24) (by omega) (by decide)) (nm_e (hJ z.2 z.1 I.1 ?_))
    rw [I.2]
    exact congrArg _ (gq_Ex (p := 5) (by omega) (by decide) (by decide) s).symm
  · obtain ⟨a, tk⟩ := z
    obtain ⟨I1, I2⟩ := I
    have step : ∀ acc tk', gx_TK 1 s tk' → acc = (gx_fold f_wanted f_weighing a_edgeWeight a (gq_f pr (gp_ok pr l1 la lb sp wy ed dn de) 5 s i)) → wX_walkEdges_41 post J8 x1 x2 x3 n (nI (i + 1)) f_nodeSet f_edgeSet (nI b) f_wanted f_weighing acc.1 acc.2.1 acc.2.2.1 a_nodeLabel a_nodeValue a_edgesFrom a_edgesTo a_edgesOfType a_edgeWeight a_patternMode a_spotSet a_linkSet a_spotLabels a_spotLeast a_spotGreatest a_linkStart a_linkEnd a_linkTypes a_linkKind a_spotNodes a_typedEdges a_wayTargets a_placed a_linkEdges tk' acc.2.2.2 := by
      intro acc tk' h1 h2
      refine ih (acc, tk') ⟨h1, ?_⟩
      rw [gq_scan_add i 1 0, gx_fapp, ← I2, Nat.zero_add]
      show acc = gx_fold _ _ _ _ (gq_f pr (gp_ok pr l1 la lb sp wy ed dn de) 5 s i ++ [])
      rw [List.append_nil]
      exact h2
    refine br_f (nI_ge (b := 24) hi (by decide)) (gx_hasb (by omega) (fun hb => nm_e ?_) (fun hb => nm_r (nI_1 i) (step a tk I1 ?_)))
    · have o := (hr i hi).mp hb
      have hSB' := gx_SBc hSB o
      have hLE' := gx_LE4 (p := 5) (c := i) (by omega) H.1 hLE
      refine gx_free (j := 2) (s := gq_up s 5 i) (by omega) H hLE' ⟨fun q hq => hSB' q (by omega), hSB'⟩ (gx_TKu (i := 1) I1) (fun r hr' => ?_)
      refine gx_w78 (s := gq_up s 5 i) H (gx_PL4 (by omega) hPL) hLE' hSB' hr' a (fun tk' acc h1 h2 => ?_) (gx_TKu (i := 1) I1)
      have e := step acc tk' (gx_TKk (i := 1) h1) (by rw [gq_f1 o]; exact h2)
      rw [nI_1 i]
      exact e
    · rw [gq_f0 (fun o => Bool.false_ne_true (hb.symm.trans ((hr i hi).mpr o)))]
      rfl
theorem gx_wE {post : SX → Prop} {s : Nat → Nat} (H : gx_H b pr l1 la lb sp wy ed dn de a_patternMode a_linkSet a_linkStart a_linkEnd a_linkKind a_edgesFrom a_edgesTo a_spotNodes a_typedEdges a_wayTargets) (hPL : gx_PL 4 s a_placed) (hLE : gx_LE pr la lb a_edgesFrom a_edgesTo a_typedEdges 4 s a_linkEdges) (hSB : gx_SB pr 4 s) (acc0 : gx_A)
    (hJ : ∀ tk acc, acc = (gx_fold f_wanted f_weighing a_edgeWeight acc0 (gq_E pr (gp_ok pr l1 la lb sp wy ed dn de) 4 s)) → post (f_nodeSet, f_edgeSet, nI b, f_wanted, f_weighing, acc.1, acc.2.1, acc.2.2.1, a_nodeLabel, a_nodeValue, a_edgesFrom, a_edgesTo, a_edgesOfType, a_edgeWeight, a_patternMode, a_spotSet, a_linkSet, a_spotLabels, a_spotLeast, a_spotGreatest, a_linkStart, a_linkEnd, a_linkTypes, a_linkKind, a_spotNodes, a_typedEdges, a_wayTargets, a_placed, a_linkEdges, tk, acc.2.2.2)) :
    wpX_walkEdges post (f_nodeSet, f_edgeSet, nI b, f_wanted, f_weighing, acc0.1, acc0.2.1, acc0.2.2.1, a_nodeLabel, a_nodeValue, a_edgesFrom, a_edgesTo, a_edgesOfType, a_edgeWeight, a_patternMode, a_spotSet, a_linkSet, a_spotLabels, a_spotLeast, a_spotGreatest, a_linkStart, a_linkEnd, a_linkTypes, a_linkKind, a_spotNodes, a_typedEdges, a_wayTargets, a_placed, a_linkEdges, a_taken, acc0.2.2.2) := by
  refine gx_free (j := 0) (s := s) (by omega) H hLE ⟨hSB, hSB⟩ (fun q hq => absurd hq (Nat.not_lt_zero q)) (fun x1 hr => ?_)
  refine loop_0 (fun n i (z : gx_A × (Nat → Int32)) => wX_walkEdges_8 post x1 n (nI i) f_nodeSet f_edgeSet (nI b) f_wanted f_weighing z.1.1 z.1.2.1 z.1.2.2.1 a_nodeLabel a_nodeValue a_edgesFrom a_edgesTo a_edgesOfType a_edgeWeight a_patternMode a_spotSet a_linkSet a_spotLabels a_spotLeast a_spotGreatest a_linkStart a_linkEnd a_linkTypes a_linkKind a_spotNodes a_typedEdges a_wayTargets a_placed a_linkEdges z.2 z.1.2.2.2) (fun i z => z.1 = (gx_fold f_wanted f_weighing a_edgeWeight acc0 (gq_scan (gq_f pr (gp_ok pr l1 la lb sp wy ed dn de) 4 s) 0 i))) 24 (acc0, a_taken) rfl (fun n z I => ?_) (fun n i z hi I2 ih => ?_)
  · refine br_t (nI_le (a := 24) (by omega) (by decide)) (hJ z.2 z.1 ?_)
    rw [I]
    exact congrArg _ (gq_Ex (p := 4) (by omega) (by decide) (by decide) s).symm
  · obtain ⟨a, tk⟩ := z
    have I1 : gx_TK 0 s tk := fun q hq => absurd hq (Nat.not_lt_zero q)
    have step : ∀ acc tk', acc = (gx_fold f_wanted f_weighing a_edgeWeight a (gq_f pr (gp_ok pr l1 la lb sp wy ed dn de) 4 s i)) → wX_walkEdges_8 post x1 n (nI (i + 1)) f_nodeSet f_edgeSet (nI b) f_wanted f_weighing acc.1 acc.2.1 acc.2.2.1 a_nodeLabel a_nodeValue a_edgesFrom a_edgesTo a_edgesOfType a_edgeWeight a_patternMode a_spotSet a_linkSet a_spotLabels a_spotLeast a_spotGreatest a_linkStart a_linkEnd a_linkTypes a_linkKind a_spotNodes a_typedEdges a_wayTargets a_placed a_linkEdges tk' acc.2.2.2 := by
      intro acc tk' h2
      refine ih (acc, tk') ?_
      rw [gq_scan_add i 1 0, gx_fapp, ← I2, Nat.zero_add]
      show acc = gx_fold _ _ _ _ (gq_f pr (gp_ok pr l1 la lb sp wy ed dn de) 4 s i ++ [])
      rw [List.append_nil]
      exact h2
    refine br_f (nI_ge (b := 24) hi (by decide)) (gx_hasb (by omega) (fun hb => nm_e ?_) (fun hb => nm_r (nI_1 i) (step a tk ?_)))
    · have o := (hr i hi).mp hb
      have hSB' := gx_SBc hSB o
      have hLE' := gx_LE4 (p := 4) (c := i) (by omega) H.1 hLE
      refine gx_free (j := 1) (s := gq_up s 4 i) (by omega) H hLE' ⟨fun q hq => hSB' q (by omega), hSB'⟩ (gx_TKu (i := 0) I1) (fun r hr' => ?_)
      refine gx_w41 (s := gq_up s 4 i) H (gx_PL4 (by omega) hPL) hLE' hSB' hr' a (fun tk' acc h1 h2 => ?_) (gx_TKu (i := 0) I1)
      have e := step acc tk' (by rw [gq_f1 o]; exact h2)
      rw [nI_1 i]
      exact e
    · rw [gq_f0 (fun o => Bool.false_ne_true (hb.symm.trans ((hr i hi).mpr o)))]
      rfl
end GXW
end
section
/-! the component's search: the nodes in their order -/
def gx_Iv (wa : Int32) (D : List (Nat → Nat)) : Prop := wa = (-1) ∨ ∃ k, k < 1000 ∧ wa = nI k ∧ D.length ≤ k
def gx_Fin (wa : Int32) (L D : List (Nat → Nat)) : Prop := (D = L ∧ gx_Iv wa D) ∨ (∃ k rest, k < 1000 ∧ wa = nI k ∧ L = D ++ rest ∧ k < D.length ∧ D.length < 2 ^ 31)
theorem gq_scan_s {α : Type} {f : Nat → List α} {c r : Nat} (h : c < r) : gq_scan f c (r - c) = f c ++ gq_scan f (c + 1) (r - (c + 1)) := by
  rw [show r - c = (r - (c + 1)) + 1 by omega]
  rfl
theorem gx_ffound {wa : Int32} {ew : Nat → Int32} : ∀ (L : List (Nat → Nat)) (a : gx_A), (gx_fold wa 0 ew a L).1 = a.1 + nI L.length
  | [], a => by
    show a.1 = a.1 + nI 0
    rw [nI_0, Int32.add_zero]
  | s :: L, a => by
    show (gx_fold wa 0 ew (gx_tick wa 0 ew a s) L).1 = _
    rw [gx_ffound L]
    have e : (gx_tick wa 0 ew a s).1 = a.1 + 1 := by
      unfold gx_tick
      rw [if_pos rfl]
      split <;> rfl
    rw [e, List.length_cons, Int32.add_assoc, Int32.add_comm 1, nI_1]
section GXN
variable {b : Nat} {pr l1 : Nat → Prop} {la lb : Nat → Nat} {sp : Nat → Nat → Prop} {wy : Nat → Nat → Nat → Prop} {ed : Nat → Nat → Nat → Nat → Prop} {dn de : Prop} {f_nodeSet f_edgeSet f_wanted f_weighing f_found f_lightest f_heaviest : Int32} {a_nodeLabel a_nodeValue a_edgesFrom a_edgesTo a_edgesOfType a_edgeWeight a_patternMode a_spotSet a_linkSet a_spotLabels a_spotLeast a_spotGreatest a_linkStart a_linkEnd a_linkTypes a_linkKind a_spotNodes a_typedEdges a_wayTargets a_placed a_linkEdges a_taken a_picked : Nat → Int32} {L : List (Nat → Nat)} {acc0 : gx_A}
theorem gx_n63 {post : SX → Prop} {J2 J22 J42 : Int32 → Int32 → Int32 → Int32 → Int32 → Int32 → Int32 → Int32 → Int32 → (Nat → Int32) → (Nat → Int32) → (Nat → Int32) → (Nat → Int32) → (Nat → Int32) → (Nat → Int32) → (Nat → Int32) → (Nat → Int32) → (Nat → Int32) → (Nat → Int32) → (Nat → Int32) → (Nat → Int32) → (Nat → Int32) → (Nat → Int32) → (Nat → Int32) → (Nat → Int32) → (Nat → Int32) → (Nat → Int32) → (Nat → Int32) → (Nat → Int32) → (Nat → Int32) → (Nat → Int32) → (Nat → Int32) → Prop} {x1 x2 x3 : Int32} {s : Nat → Nat} {rest : List (Nat → Nat)} (H : gx_H b pr l1 la lb sp wy ed dn de a_patternMode a_linkSet a_linkStart a_linkEnd a_linkKind a_edgesFrom a_edgesTo a_spotNodes a_typedEdges a_wayTargets) (hSB : gx_SB pr 3 s) (h00 : acc0.1 = 0) (hm : f_wanted = (-1) ∨ f_weighing = 0)
    (hF : ∀ pl le tk D, gx_Fin f_wanted L D → post (f_nodeSet, f_edgeSet, nI b, f_wanted, f_weighing, (gx_fold f_wanted f_weighing a_edgeWeight acc0 D).1, (gx_fold f_wanted f_weighing a_edgeWeight acc0 D).2.1, (gx_fold f_wanted f_weighing a_edgeWeight acc0 D).2.2.1, a_nodeLabel, a_nodeValue, a_edgesFrom, a_edgesTo, a_edgesOfType, a_edgeWeight, a_patternMode, a_spotSet, a_linkSet, a_spotLabels, a_spotLeast, a_spotGreatest, a_linkStart, a_linkEnd, a_linkTypes, a_linkKind, a_spotNodes, a_typedEdges, a_wayTargets, pl, le, tk, (gx_fold f_wanted f_weighing a_edgeWeight acc0 D).2.2.2)) (hJ : ∀ pl le tk D, gx_PL 3 s pl → gx_LE pr la lb a_edgesFrom a_edgesTo a_typedEdges 3 s le → L = D ++ rest → gx_Iv f_wanted D → J42 (x3 + 1) f_nodeSet f_edgeSet (nI b) f_wanted f_weighing ((gx_fold f_wanted f_weighing a_edgeWeight acc0 D).1) ((gx_fold f_wanted f_weighing a_edgeWeight acc0 D).2.1) ((gx_fold f_wanted f_weighing a_edgeWeight acc0 D).2.2.1) a_nodeLabel a_nodeValue a_edgesFrom a_edgesTo a_edgesOfType a_edgeWeight a_patternMode a_spotSet a_linkSet a_spotLabels a_spotLeast a_spotGreatest a_linkStart a_linkEnd a_linkTypes a_linkKind a_spotNodes a_typedEdges a_wayTargets pl le tk ((gx_fold f_wanted f_weighing a_edgeWeight acc0 D).2.2.2))
    {D0 : List (Nat → Nat)} (hL : L = D0 ++ (gq_E pr (gp_ok pr l1 la lb sp wy ed dn de) 5 s ++ rest)) (hI : gx_Iv f_wanted D0) (hPL : gx_PL 3 s a_placed) (hLE : gx_LE pr la lb a_edgesFrom a_edgesTo a_typedEdges 3 s a_linkEdges) :
    ∃ n, wX_walkNodes_63 post J2 J22 J42 x1 x2 x3 n 0 f_nodeSet f_edgeSet (nI b) f_wanted f_weighing ((gx_fold f_wanted f_weighing a_edgeWeight acc0 D0).1) ((gx_fold f_wanted f_weighing a_edgeWeight acc0 D0).2.1) ((gx_fold f_wanted f_weighing a_edgeWeight acc0 D0).2.2.1) a_nodeLabel a_nodeValue a_edgesFrom a_edgesTo a_edgesOfType a_edgeWeight a_patternMode a_spotSet a_linkSet a_spotLabels a_spotLeast a_spotGreatest a_linkStart a_linkEnd a_linkTypes a_linkKind a_spotNodes a_typedEdges a_wayTargets a_placed a_linkEdges a_taken ((gx_fold f_wanted f_weighing a_edgeWeight acc0 D0).2.2.2) := by
  rw [show 5 = 8 - 3 from rfl, gq_Ex (N := 16) (by omega) (by decide) (by decide)] at hL
  refine loop_0 (fun n i (z : (Nat → Int32) × (Nat → Int32) × (Nat → Int32) × List (Nat → Nat)) => wX_walkNodes_63 post J2 J22 J42 x1 x2 x3 n (nI i) f_nodeSet f_edgeSet (nI b) f_wanted f_weighing ((gx_fold f_wanted f_weighing a_edgeWeight acc0 z.2.2.2).1) ((gx_fold f_wanted f_weighing a_edgeWeight acc0 z.2.2.2).2.1) ((gx_fold f_wanted f_weighing a_edgeWeight acc0 z.2.2.2).2.2.1) a_nodeLabel a_nodeValue a_edgesFrom a_edgesTo a_edgesOfType a_edgeWeight a_patternMode a_spotSet a_linkSet a_spotLabels a_spotLeast a_spotGreatest a_linkStart a_linkEnd a_linkTypes a_linkKind a_spotNodes a_typedEdges a_wayTargets z.1 z.2.1 z.2.2.1 ((gx_fold f_wanted f_weighing a_edgeWeight acc0 z.2.2.2).2.2.2)) (fun i z => gx_PL 3 s z.1 ∧ gx_LE pr la lb a_edgesFrom a_edgesTo a_typedEdges 3 s z.2.1 ∧ L = z.2.2.2 ++ (gq_scan (gq_f pr (gp_ok pr l1 la lb sp wy ed dn de) 3 s) i (16 - i) ++ rest) ∧ z.2.2.2.length ≤ D0.length + i * 160000) 16 (a_placed, a_linkEdges, a_taken, D0) ⟨hPL, hLE, hL, Nat.le_add_right _ _⟩ (fun n z I => ?_) (fun n i z hi I ih => ?_)
  · obtain ⟨pl, le, tk, D⟩ := z
    obtain ⟨I1, I2, I3, I4⟩ := I
    dsimp only at I1 I2 I3 I4
    have e : L = D ++ rest := I3
    refine br_t (nI_le (a := 16) (by omega) (by decide)) ?_
    rcases hI with hw | ⟨k, hk, ek, hkl⟩
    · exact br_t hw (nm_e (hJ pl le tk D I1 I2 e (Or.inl hw)))
    · have hlen : D.length < 2 ^ 31 := by omega
      have nw : ¬ f_wanted = (-1) := by
        rw [ek]
        intro z
        have := nI_pos (n := k) (by omega)
        rw [z] at this
        exact this (by decide)
      have hwe : f_weighing = 0 := hm.resolve_left nw
      have ef : (gx_fold f_wanted f_weighing a_edgeWeight acc0 D).1 = nI D.length := by rw [hwe, gx_ffound, h00, Int32.zero_add]
      refine br_f nw (br_c (fun q => nm_e (hJ pl le tk D I1 I2 e ?_)) (fun q => hF pl le tk D ?_))
      · rw [ef, ek, nI_leI (by omega) (by omega)] at q
        exact Or.inr ⟨k, hk, ek, q⟩
      · rw [ef, ek, nI_leI (by omega) (by omega)] at q
        exact Or.inr ⟨k, rest, hk, ek, e, by omega, hlen⟩
  · obtain ⟨pl, le, tk, D⟩ := z
    obtain ⟨I1, I2, I3, I4⟩ := I
    dsimp only at I1 I2 I3 I4
    rw [gq_scan_s hi, List.append_assoc] at I3
    refine br_f (nI_ge (b := 16) hi (by decide)) (gx_place (i := 3) (s := s) (by omega) hi H I1 hSB I2 (fun pl' le' h1 h2 h3 h4 => br_f gn_10 ?_) (fun pl' le' h1 h2 h3 => br_t rfl (nm_r (nI_1 i) (ih (pl', le', tk, D) ⟨h1, h2, ?_, Nat.le_trans I4 (by omega)⟩))))
    · rw [h4] at I3
      refine gx_wE (s := gq_up s 3 i) H h1 h3 h2 ((gx_fold f_wanted f_weighing a_edgeWeight acc0 D)) (fun tk' acc ea => ?_)
      rw [← gx_fapp] at ea
      subst ea
      refine nm_r (nI_1 i) (ih (pl', le', tk', D ++ gq_E pr (gp_ok pr l1 la lb sp wy ed dn de) 4 (gq_up s 3 i)) ⟨gx_PLk h1, gx_LEk (gx_LEw (by omega) h3), ?_, ?_⟩)
      · rw [I3, List.append_assoc]
      · have hlen : (gq_E pr (gp_ok pr l1 la lb sp wy ed dn de) 4 (gq_up s 3 i)).length ≤ 160000 := gq_Elen 4 (gq_up s 3 i)
        dsimp only
        rw [List.length_append]
        omega
    · rw [h3, List.nil_append] at I3
      exact I3
theorem gx_n42 {post : SX → Prop} {J2 J22 : Int32 → Int32 → Int32 → Int32 → Int32 → Int32 → Int32 → Int32 → Int32 → (Nat → Int32) → (Nat → Int32) → (Nat → Int32) → (Nat → Int32) → (Nat → Int32) → (Nat → Int32) → (Nat → Int32) → (Nat → Int32) → (Nat → Int32) → (Nat → Int32) → (Nat → Int32) → (Nat → Int32) → (Nat → Int32) → (Nat → Int32) → (Nat → Int32) → (Nat → Int32) → (Nat → Int32) → (Nat → Int32) → (Nat → Int32) → (Nat → Int32) → (Nat → Int32) → (Nat → Int32) → (Nat → Int32) → Prop} {x1 x2 : Int32} {s : Nat → Nat} {rest : List (Nat → Nat)} (H : gx_H b pr l1 la lb sp wy ed dn de a_patternMode a_linkSet a_linkStart a_linkEnd a_linkKind a_edgesFrom a_edgesTo a_spotNodes a_typedEdges a_wayTargets) (hSB : gx_SB pr 2 s) (h00 : acc0.1 = 0) (hm : f_wanted = (-1) ∨ f_weighing = 0)
    (hF : ∀ pl le tk D, gx_Fin f_wanted L D → post (f_nodeSet, f_edgeSet, nI b, f_wanted, f_weighing, (gx_fold f_wanted f_weighing a_edgeWeight acc0 D).1, (gx_fold f_wanted f_weighing a_edgeWeight acc0 D).2.1, (gx_fold f_wanted f_weighing a_edgeWeight acc0 D).2.2.1, a_nodeLabel, a_nodeValue, a_edgesFrom, a_edgesTo, a_edgesOfType, a_edgeWeight, a_patternMode, a_spotSet, a_linkSet, a_spotLabels, a_spotLeast, a_spotGreatest, a_linkStart, a_linkEnd, a_linkTypes, a_linkKind, a_spotNodes, a_typedEdges, a_wayTargets, pl, le, tk, (gx_fold f_wanted f_weighing a_edgeWeight acc0 D).2.2.2)) (hJ : ∀ pl le tk D, gx_PL 2 s pl → gx_LE pr la lb a_edgesFrom a_edgesTo a_typedEdges 2 s le → L = D ++ rest → gx_Iv f_wanted D → J22 (x2 + 1) f_nodeSet f_edgeSet (nI b) f_wanted f_weighing ((gx_fold f_wanted f_weighing a_edgeWeight acc0 D).1) ((gx_fold f_wanted f_weighing a_edgeWeight acc0 D).2.1) ((gx_fold f_wanted f_weighing a_edgeWeight acc0 D).2.2.1) a_nodeLabel a_nodeValue a_edgesFrom a_edgesTo a_edgesOfType a_edgeWeight a_patternMode a_spotSet a_linkSet a_spotLabels a_spotLeast a_spotGreatest a_linkStart a_linkEnd a_linkTypes a_linkKind a_spotNodes a_typedEdges a_wayTargets pl le tk ((gx_fold f_wanted f_weighing a_edgeWeight acc0 D).2.2.2))
    {D0 : List (Nat → Nat)} (hL : L = D0 ++ (gq_E pr (gp_ok pr l1 la lb sp wy ed dn de) 6 s ++ rest)) (hI : gx_Iv f_wanted D0) (hPL : gx_PL 2 s a_placed) (hLE : gx_LE pr la lb a_edgesFrom a_edgesTo a_typedEdges 2 s a_linkEdges) :
    ∃ n, wX_walkNodes_42 post J2 J22 x1 x2 n 0 f_nodeSet f_edgeSet (nI b) f_wanted f_weighing ((gx_fold f_wanted f_weighing a_edgeWeight acc0 D0).1) ((gx_fold f_wanted f_weighing a_edgeWeight acc0 D0).2.1) ((gx_fold f_wanted f_weighing a_edgeWeight acc0 D0).2.2.1) a_nodeLabel a_nodeValue a_edgesFrom a_edgesTo a_edgesOfType a_edgeWeight a_patternMode a_spotSet a_linkSet a_spotLabels a_spotLeast a_spotGreatest a_linkStart a_linkEnd a_linkTypes a_linkKind a_spotNodes a_typedEdges a_wayTargets a_placed a_linkEdges a_taken ((gx_fold f_wanted f_weighing a_edgeWeight acc0 D0).2.2.2) := by
  rw [show 6 = 8 - 2 from rfl, gq_Ex (N := 16) (by omega) (by decide) (by decide)] at hL
  refine loop_0 (fun n i (z : (Nat → Int32) × (Nat → Int32) × (Nat → Int32) × List (Nat → Nat)) => wX_walkNodes_42 post J2 J22 x1 x2 n (nI i) f_nodeSet f_edgeSet (nI b) f_wanted f_weighing ((gx_fold f_wanted f_weighing a_edgeWeight acc0 z.2.2.2).1) ((gx_fold f_wanted f_weighing a_edgeWeight acc0 z.2.2.2).2.1) ((gx_fold f_wanted f_weighing a_edgeWeight acc0 z.2.2.2).2.2.1) a_nodeLabel a_nodeValue a_edgesFrom a_edgesTo a_edgesOfType a_edgeWeight a_patternMode a_spotSet a_linkSet a_spotLabels a_spotLeast a_spotGreatest a_linkStart a_linkEnd a_linkTypes a_linkKind a_spotNodes a_typedEdges a_wayTargets z.1 z.2.1 z.2.2.1 ((gx_fold f_wanted f_weighing a_edgeWeight acc0 z.2.2.2).2.2.2)) (fun i z => gx_PL 2 s z.1 ∧ gx_LE pr la lb a_edgesFrom a_edgesTo a_typedEdges 2 s z.2.1 ∧ L = z.2.2.2 ++ (gq_scan (gq_f pr (gp_ok pr l1 la lb sp wy ed dn de) 2 s) i (16 - i) ++ rest) ∧ gx_Iv f_wanted z.2.2.2) 16 (a_placed, a_linkEdges, a_taken, D0) ⟨hPL, hLE, hL, hI⟩ (fun n z I => ?_) (fun n i z hi I ih => ?_)
  · obtain ⟨pl, le, tk, D⟩ := z
    obtain ⟨I1, I2, I3, I4⟩ := I
    dsimp only at I1 I2 I3 I4
    have e : L = D ++ rest := I3
    exact br_t (nI_le (a := 16) (by omega) (by decide)) (nm_e (hJ pl le tk D I1 I2 e I4))
  · obtain ⟨pl, le, tk, D⟩ := z
    obtain ⟨I1, I2, I3, I4⟩ := I
    dsimp only at I1 I2 I3 I4
    rw [gq_scan_s hi, List.append_assoc] at I3
    refine br_f (nI_ge (b := 16) hi (by decide)) (gx_place (i := 2) (s := s) (by omega) hi H I1 hSB I2 (fun pl' le' h1 h2 h3 h4 => br_f gn_10 ?_) (fun pl' le' h1 h2 h3 => br_t rfl (nm_r (nI_1 i) (ih (pl', le', tk, D) ⟨h1, h2, ?_, I4⟩))))
    · rw [h4] at I3
      refine gx_n63 (s := gq_up s 2 i) (rest := gq_scan (gq_f pr (gp_ok pr l1 la lb sp wy ed dn de) 2 s) (i + 1) (16 - (i + 1)) ++ rest) H h2 h00 hm hF (fun pl2 le2 tk2 D2 k1 k2 k3 k4 => ?_) (D0 := D) I3 I4 h1 h3
      rw [nI_1 i]
      exact ih (pl2, le2, tk2, D2) ⟨gx_PLk k1, gx_LEk (gx_LEw (by omega) k2), k3, k4⟩
    · rw [h3, List.nil_append] at I3
      exact I3
theorem gx_n22 {post : SX → Prop} {J2 : Int32 → Int32 → Int32 → Int32 → Int32 → Int32 → Int32 → Int32 → Int32 → (Nat → Int32) → (Nat → Int32) → (Nat → Int32) → (Nat → Int32) → (Nat → Int32) → (Nat → Int32) → (Nat → Int32) → (Nat → Int32) → (Nat → Int32) → (Nat → Int32) → (Nat → Int32) → (Nat → Int32) → (Nat → Int32) → (Nat → Int32) → (Nat → Int32) → (Nat → Int32) → (Nat → Int32) → (Nat → Int32) → (Nat → Int32) → (Nat → Int32) → (Nat → Int32) → (Nat → Int32) → (Nat → Int32) → Prop} {x1 : Int32} {s : Nat → Nat} {rest : List (Nat → Nat)} (H : gx_H b pr l1 la lb sp wy ed dn de a_patternMode a_linkSet a_linkStart a_linkEnd a_linkKind a_edgesFrom a_edgesTo a_spotNodes a_typedEdges a_wayTargets) (hSB : gx_SB pr 1 s) (h00 : acc0.1 = 0) (hm : f_wanted = (-1) ∨ f_weighing = 0)
    (hF : ∀ pl le tk D, gx_Fin f_wanted L D → post (f_nodeSet, f_edgeSet, nI b, f_wanted, f_weighing, (gx_fold f_wanted f_weighing a_edgeWeight acc0 D).1, (gx_fold f_wanted f_weighing a_edgeWeight acc0 D).2.1, (gx_fold f_wanted f_weighing a_edgeWeight acc0 D).2.2.1, a_nodeLabel, a_nodeValue, a_edgesFrom, a_edgesTo, a_edgesOfType, a_edgeWeight, a_patternMode, a_spotSet, a_linkSet, a_spotLabels, a_spotLeast, a_spotGreatest, a_linkStart, a_linkEnd, a_linkTypes, a_linkKind, a_spotNodes, a_typedEdges, a_wayTargets, pl, le, tk, (gx_fold f_wanted f_weighing a_edgeWeight acc0 D).2.2.2)) (hJ : ∀ pl le tk D, gx_PL 1 s pl → gx_LE pr la lb a_edgesFrom a_edgesTo a_typedEdges 1 s le → L = D ++ rest → gx_Iv f_wanted D → J2 (x1 + 1) f_nodeSet f_edgeSet (nI b) f_wanted f_weighing ((gx_fold f_wanted f_weighing a_edgeWeight acc0 D).1) ((gx_fold f_wanted f_weighing a_edgeWeight acc0 D).2.1) ((gx_fold f_wanted f_weighing a_edgeWeight acc0 D).2.2.1) a_nodeLabel a_nodeValue a_edgesFrom a_edgesTo a_edgesOfType a_edgeWeight a_patternMode a_spotSet a_linkSet a_spotLabels a_spotLeast a_spotGreatest a_linkStart a_linkEnd a_linkTypes a_linkKind a_spotNodes a_typedEdges a_wayTargets pl le tk ((gx_fold f_wanted f_weighing a_edgeWeight acc0 D).2.2.2))
    {D0 : List (Nat → Nat)} (hL : L = D0 ++ (gq_E pr (gp_ok pr l1 la lb sp wy ed dn de) 7 s ++ rest)) (hI : gx_Iv f_wanted D0) (hPL : gx_PL 1 s a_placed) (hLE : gx_LE pr la lb a_edgesFrom a_edgesTo a_typedEdges 1 s a_linkEdges) :
    ∃ n, wX_walkNodes_22 post J2 x1 n 0 f_nodeSet f_edgeSet (nI b) f_wanted f_weighing ((gx_fold f_wanted f_weighing a_edgeWeight acc0 D0).1) ((gx_fold f_wanted f_weighing a_edgeWeight acc0 D0).2.1) ((gx_fold f_wanted f_weighing a_edgeWeight acc0 D0).2.2.1) a_nodeLabel a_nodeValue a_edgesFrom a_edgesTo a_edgesOfType a_edgeWeight a_patternMode a_spotSet a_linkSet a_spotLabels a_spotLeast a_spotGreatest a_linkStart a_linkEnd a_linkTypes a_linkKind a_spotNodes a_typedEdges a_wayTargets a_placed a_linkEdges a_taken ((gx_fold f_wanted f_weighing a_edgeWeight acc0 D0).2.2.2) := by
  rw [show 7 = 8 - 1 from rfl, gq_Ex (N := 16) (by omega) (by decide) (by decide)] at hL
  refine loop_0 (fun n i (z : (Nat → Int32) × (Nat → Int32) × (Nat → Int32) × List (Nat → Nat)) => wX_walkNodes_22 post J2 x1 n (nI i) f_nodeSet f_edgeSet (nI b) f_wanted f_weighing ((gx_fold f_wanted f_weighing a_edgeWeight acc0 z.2.2.2).1) ((gx_fold f_wanted f_weighing a_edgeWeight acc0 z.2.2.2).2.1) ((gx_fold f_wanted f_weighing a_edgeWeight acc0 z.2.2.2).2.2.1) a_nodeLabel a_nodeValue a_edgesFrom a_edgesTo a_edgesOfType a_edgeWeight a_patternMode a_spotSet a_linkSet a_spotLabels a_spotLeast a_spotGreatest a_linkStart a_linkEnd a_linkTypes a_linkKind a_spotNodes a_typedEdges a_wayTargets z.1 z.2.1 z.2.2.1 ((gx_fold f_wanted f_weighing a_edgeWeight acc0 z.2.2.2).2.2.2)) (fun i z => gx_PL 1 s z.1 ∧ gx_LE pr la lb a_edgesFrom a_edgesTo a_typedEdges 1 s z.2.1 ∧ L = z.2.2.2 ++ (gq_scan (gq_f pr (gp_ok pr l1 la lb sp wy ed dn de) 1 s) i (16 - i) ++ rest) ∧ gx_Iv f_wanted z.2.2.2) 16 (a_placed, a_linkEdges, a_taken, D0) ⟨hPL, hLE, hL, hI⟩ (fun n z I => ?_) (fun n i z hi I ih => ?_)
  · obtain ⟨pl, le, tk, D⟩ := z
    obtain ⟨I1, I2, I3, I4⟩ := I
    dsimp only at I1 I2 I3 I4
    have e : L = D ++ rest := I3
    exact br_t (nI_le (a := 16) (by omega) (by decide)) (nm_e (hJ pl le tk D I1 I2 e I4))
  · obtain ⟨pl, le, tk, D⟩ := z
    obtain ⟨I1, I2, I3, I4⟩ := I
    dsimp only at I1 I2 I3 I4
    rw [gq_scan_s hi, List.append_assoc] at I3
    refine br_f (nI_ge (b := 16) hi (by decide)) (gx_place (i := 1) (s := s) (by omega) hi H I1 hSB I2 (fun pl' le' h1 h2 h3 h4 => br_f gn_10 ?_) (fun pl' le' h1 h2 h3 => br_t rfl (nm_r (nI_1 i) (ih (pl', le', tk, D) ⟨h1, h2, ?_, I4⟩))))
    · rw [h4] at I3
      refine gx_n42 (s := gq_up s 1 i) (rest := gq_scan (gq_f pr (gp_ok pr l1 la lb sp wy ed dn de) 1 s) (i + 1) (16 - (i + 1)) ++ rest) H h2 h00 hm hF (fun pl2 le2 tk2 D2 k1 k2 k3 k4 => ?_) (D0 := D) I3 I4 h1 h3
      rw [nI_1 i]
      exact ih (pl2, le2, tk2, D2) ⟨gx_PLk k1, gx_LEk (gx_LEw (by omega) k2), k3, k4⟩
    · rw [h3, List.nil_append] at I3
      exact I3
theorem gx_n2 {post : SX → Prop}  {s : Nat → Nat} {rest : List (Nat → Nat)} (H : gx_H b pr l1 la lb sp wy ed dn de a_patternMode a_linkSet a_linkStart a_linkEnd a_linkKind a_edgesFrom a_edgesTo a_spotNodes a_typedEdges a_wayTargets) (hSB : gx_SB pr 0 s) (h00 : acc0.1 = 0) (hm : f_wanted = (-1) ∨ f_weighing = 0)
    (hF : ∀ pl le tk D, gx_Fin f_wanted L D → post (f_nodeSet, f_edgeSet, nI b, f_wanted, f_weighing, (gx_fold f_wanted f_weighing a_edgeWeight acc0 D).1, (gx_fold f_wanted f_weighing a_edgeWeight acc0 D).2.1, (gx_fold f_wanted f_weighing a_edgeWeight acc0 D).2.2.1, a_nodeLabel, a_nodeValue, a_edgesFrom, a_edgesTo, a_edgesOfType, a_edgeWeight, a_patternMode, a_spotSet, a_linkSet, a_spotLabels, a_spotLeast, a_spotGreatest, a_linkStart, a_linkEnd, a_linkTypes, a_linkKind, a_spotNodes, a_typedEdges, a_wayTargets, pl, le, tk, (gx_fold f_wanted f_weighing a_edgeWeight acc0 D).2.2.2)) 
    {D0 : List (Nat → Nat)} (hL : L = D0 ++ (gq_E pr (gp_ok pr l1 la lb sp wy ed dn de) 8 s ++ rest)) (hI : gx_Iv f_wanted D0) (hPL : gx_PL 0 s a_placed) (hLE : gx_LE pr la lb a_edgesFrom a_edgesTo a_typedEdges 0 s a_linkEdges) (hrest : rest = []) :
    ∃ n, wX_walkNodes_2 post n 0 f_nodeSet f_edgeSet (nI b) f_wanted f_weighing ((gx_fold f_wanted f_weighing a_edgeWeight acc0 D0).1) ((gx_fold f_wanted f_weighing a_edgeWeight acc0 D0).2.1) ((gx_fold f_wanted f_weighing a_edgeWeight acc0 D0).2.2.1) a_nodeLabel a_nodeValue a_edgesFrom a_edgesTo a_edgesOfType a_edgeWeight a_patternMode a_spotSet a_linkSet a_spotLabels a_spotLeast a_spotGreatest a_linkStart a_linkEnd a_linkTypes a_linkKind a_spotNodes a_typedEdges a_wayTargets a_placed a_linkEdges a_taken ((gx_fold f_wanted f_weighing a_edgeWeight acc0 D0).2.2.2) := by
  rw [show 8 = 8 - 0 from rfl, gq_Ex (N := 16) (by omega) (by decide) (by decide)] at hL
  refine loop_0 (fun n i (z : (Nat → Int32) × (Nat → Int32) × (Nat → Int32) × List (Nat → Nat)) => wX_walkNodes_2 post n (nI i) f_nodeSet f_edgeSet (nI b) f_wanted f_weighing ((gx_fold f_wanted f_weighing a_edgeWeight acc0 z.2.2.2).1) ((gx_fold f_wanted f_weighing a_edgeWeight acc0 z.2.2.2).2.1) ((gx_fold f_wanted f_weighing a_edgeWeight acc0 z.2.2.2).2.2.1) a_nodeLabel a_nodeValue a_edgesFrom a_edgesTo a_edgesOfType a_edgeWeight a_patternMode a_spotSet a_linkSet a_spotLabels a_spotLeast a_spotGreatest a_linkStart a_linkEnd a_linkTypes a_linkKind a_spotNodes a_typedEdges a_wayTargets z.1 z.2.1 z.2.2.1 ((gx_fold f_wanted f_weighing a_edgeWeight acc0 z.2.2.2).2.2.2)) (fun i z => gx_PL 0 s z.1 ∧ gx_LE pr la lb a_edgesFrom a_edgesTo a_typedEdges 0 s z.2.1 ∧ L = z.2.2.2 ++ (gq_scan (gq_f pr (gp_ok pr l1 la lb sp wy ed dn de) 0 s) i (16 - i) ++ rest) ∧ gx_Iv f_wanted z.2.2.2) 16 (a_placed, a_linkEdges, a_taken, D0) ⟨hPL, hLE, hL, hI⟩ (fun n z I => ?_) (fun n i z hi I ih => ?_)
  · obtain ⟨pl, le, tk, D⟩ := z
    obtain ⟨I1, I2, I3, I4⟩ := I
    dsimp only at I1 I2 I3 I4
    have e : L = D ++ rest := I3
    rw [hrest, List.append_nil] at e
    exact br_t (nI_le (a := 16) (by omega) (by decide)) (hF pl le tk D (Or.inl ⟨e.symm, I4⟩))
  · obtain ⟨pl, le, tk, D⟩ := z
    obtain ⟨I1, I2, I3, I4⟩ := I
    dsimp only at I1 I2 I3 I4
    rw [gq_scan_s hi, List.append_assoc] at I3
    refine br_f (nI_ge (b := 16) hi (by decide)) (gx_place (i := 0) (s := s) (by omega) hi H I1 hSB I2 (fun pl' le' h1 h2 h3 h4 => br_f gn_10 ?_) (fun pl' le' h1 h2 h3 => br_t rfl (nm_r (nI_1 i) (ih (pl', le', tk, D) ⟨h1, h2, ?_, I4⟩))))
    · rw [h4] at I3
      refine gx_n22 (s := gq_up s 0 i) (rest := gq_scan (gq_f pr (gp_ok pr l1 la lb sp wy ed dn de) 0 s) (i + 1) (16 - (i + 1)) ++ rest) H h2 h00 hm hF (fun pl2 le2 tk2 D2 k1 k2 k3 k4 => ?_) (D0 := D) I3 I4 h1 h3
      rw [nI_1 i]
      exact ih (pl2, le2, tk2, D2) ⟨gx_PLk k1, gx_LEk (gx_LEw (by omega) k2), k3, k4⟩
    · rw [h3, List.nil_append] at I3
      exact I3
theorem gx_walk {post : SX → Prop} {s : Nat → Nat} (H : gx_H b pr l1 la lb sp wy ed dn de a_patternMode a_linkSet a_linkStart a_linkEnd a_linkKind a_edgesFrom a_edgesTo a_spotNodes a_typedEdges a_wayTargets) (h00 : acc0.1 = 0) (hm : f_wanted = (-1) ∨ (f_weighing = 0 ∧ ∃ k, k < 1000 ∧ f_wanted = nI k)) (hLE : gx_LE pr la lb a_edgesFrom a_edgesTo a_typedEdges 0 s a_linkEdges)
    (hF : ∀ pl le tk D, gx_Fin f_wanted (gq_E pr (gp_ok pr l1 la lb sp wy ed dn de) 8 s) D → post (f_nodeSet, f_edgeSet, nI b, f_wanted, f_weighing, (gx_fold f_wanted f_weighing a_edgeWeight acc0 D).1, (gx_fold f_wanted f_weighing a_edgeWeight acc0 D).2.1, (gx_fold f_wanted f_weighing a_edgeWeight acc0 D).2.2.1, a_nodeLabel, a_nodeValue, a_edgesFrom, a_edgesTo, a_edgesOfType, a_edgeWeight, a_patternMode, a_spotSet, a_linkSet, a_spotLabels, a_spotLeast, a_spotGreatest, a_linkStart, a_linkEnd, a_linkTypes, a_linkKind, a_spotNodes, a_typedEdges, a_wayTargets, pl, le, tk, (gx_fold f_wanted f_weighing a_edgeWeight acc0 D).2.2.2)) : wpX_walkNodes post (f_nodeSet, f_edgeSet, nI b, f_wanted, f_weighing, acc0.1, acc0.2.1, acc0.2.2.1, a_nodeLabel, a_nodeValue, a_edgesFrom, a_edgesTo, a_edgesOfType, a_edgeWeight, a_patternMode, a_spotSet, a_linkSet, a_spotLabels, a_spotLeast, a_spotGreatest, a_linkStart, a_linkEnd, a_linkTypes, a_linkKind, a_spotNodes, a_typedEdges, a_wayTargets, a_placed, a_linkEdges, a_taken, acc0.2.2.2) := by
  refine gx_n2 (s := s) (rest := []) H (fun q hq => absurd hq (Nat.not_lt_zero q)) h00 (hm.imp id And.left) hF (D0 := []) ?_ ?_ (fun q hq => absurd hq (Nat.not_lt_zero q)) hLE rfl
  · rw [List.append_nil, List.nil_append]
  · rcases hm with h | ⟨_, k, hk, e⟩
    · exact Or.inl h
    · exact Or.inr ⟨k, hk, e, Nat.zero_le k⟩
end GXN
end
section
/-! what a search looks for, out of the reference's arrays -/
def gp_pr (b : Nat) (pat : Nat → Int32) (p : Nat) : Prop := (p < 4 ∧ pat (33 * b + 1 + p) = 1) ∨ (4 ≤ p ∧ p < 8 ∧ pat (33 * b + 17 + (p - 4)) = 1 ∧ pat (33 * b + 29 + (p - 4)) = 0)
def gp_l1 (b : Nat) (pat : Nat → Int32) (j : Nat) : Prop := pat (33 * b + 17 + j) = 1 ∧ pat (33 * b + 29 + j) = 1
def gp_la (b : Nat) (pat : Nat → Int32) (j : Nat) : Nat := (pat (33 * b + 21 + j)).toNatClampNeg % 4
def gp_lb (b : Nat) (pat : Nat → Int32) (j : Nat) : Nat := (pat (33 * b + 21 + j)).toNatClampNeg / 4 % 4
def gp_sp (b : Nat) (pat nT lab val : Nat → Int32) (i n : Nat) : Prop := nT n = 1 ∧ ((pat (33 * b + 5 + i) >>> (lab n &&& 31)) &&& 1) = 1 ∧ ¬ val n < pat (33 * b + 9 + i) ∧ ¬ pat (33 * b + 13 + i) < val n
def gp_wy (b : Nat) (pat eT fr to wh : Nat → Int32) (j a c : Nat) : Prop := (((gw_ways eT fr to wh (pat (33 * b + 25 + j)) a 3).1 >>> (nI c &&& 31)) &&& 1) = 1
def gp_ed (b : Nat) (pat eT fr to wh : Nat → Int32) (j e a c : Nat) : Prop := (eT e = 1 ∧ ((pat (33 * b + 25 + j) >>> ((wh e - wh e / 3 * 3) &&& 31)) &&& 1) = 1) ∧ fr e = nI a ∧ to e = nI c
def gp_dn (b : Nat) (pat : Nat → Int32) : Prop := pat (33 * b) - pat (33 * b) / 2 * 2 = 1
def gp_de (b : Nat) (pat : Nat → Int32) : Prop := ¬ pat (33 * b) < 2
theorem gp_pr4 {b : Nat} {pat : Nat → Int32} {i : Nat} (hi : i < 4) : gp_pr b pat i ↔ pat (33 * b + 1 + i) = 1 := by
  unfold gp_pr
  constructor
  · rintro (h | h)
    · exact h.2
    · omega
  · exact fun h => Or.inl ⟨hi, h⟩
theorem gp_pr8 {b : Nat} {pat : Nat → Int32} {j : Nat} (hj : j < 4) : gp_pr b pat (4 + j) ↔ pat (33 * b + 17 + j) = 1 ∧ pat (33 * b + 29 + j) = 0 := by
  unfold gp_pr
  rw [show 4 + j - 4 = j by omega]
  constructor
  · rintro (h | h)
    · omega
    · exact h.2.2
  · exact fun h => Or.inr ⟨by omega, by omega, h⟩
theorem gp_lab {b : Nat} {pat : Nat → Int32} {j ab : Nat} (hab : ab < 16) (e : pat (33 * b + 21 + j) = nI ab) : gp_la b pat j = ab % 4 ∧ gp_lb b pat j = ab / 4 := by
  unfold gp_la gp_lb
  rw [e, nI_clamp (by omega)]
  exact ⟨rfl, by omega⟩
theorem gp_mode {b : Nat} {pat : Nat → Int32} (h : ∃ m, m < 4 ∧ pat (33 * b) = nI m) : ((pat (33 * b) &&& 1) = 0 ↔ ¬ gp_dn b pat) ∧ ((pat (33 * b) &&& 2) = 0 ↔ ¬ gp_de b pat) := by
  obtain ⟨m, hm, e⟩ := h
  unfold gp_dn gp_de
  rw [e]
  have : ∀ m, m < 4 → (((nI m &&& 1) = 0 ↔ ¬ nI m - nI m / 2 * 2 = 1) ∧ ((nI m &&& 2) = 0 ↔ ¬ ¬ nI m < 2)) := by decide +kernel
  exact this m hm
theorem gp_links {b j : Nat} {pm ss ls sl so sg lst len lty lki pat : Nat → Int32} (hP : gr_P b pm ss ls sl so sg lst len lty lki pat) (hj : j < 4) (h : gp_pr b pat (4 + j) ∨ gp_l1 b pat j) :
    lst (4 * b + j) = nI (gp_la b pat j) ∧ len (4 * b + j) = nI (gp_lb b pat j) ∧ gp_pr b pat (gp_la b pat j) ∧ gp_pr b pat (gp_lb b pat j) ∧ lty (4 * b + j) = pat (33 * b + 25 + j) ∧ lki (4 * b + j) = pat (33 * b + 29 + j) ∧ pat (33 * b + 21 + j) = nI (gp_la b pat j + 4 * gp_lb b pat j) := by
  have h1 : pat (33 * b + 17 + j) = 1 := h.elim (fun z => ((gp_pr8 hj).mp z).1) (fun z => z.1)
  obtain ⟨ab, hab, q1, q2, q3, q4, q5, q6, q7, q8⟩ := (hP.2.2.2 j hj).2.2 h1
  obtain ⟨e1, e2⟩ := gp_lab hab q1
  rw [e1, e2]
  exact ⟨q2, q3, (gp_pr4 (by omega)).mpr q7, (gp_pr4 (by omega)).mpr q8, q4, q5, by rw [q1]; congr 1; omega⟩
section GXS
variable {b : Nat} {f_nodeSet f_edgeSet f_wanted f_weighing f_found f_lightest f_heaviest : Int32} {a_nodeLabel a_nodeValue a_edgesFrom a_edgesTo a_edgesOfType a_edgeWeight a_patternMode a_spotSet a_linkSet a_spotLabels a_spotLeast a_spotGreatest a_linkStart a_linkEnd a_linkTypes a_linkKind a_spotNodes a_typedEdges a_wayTargets a_placed a_linkEdges a_taken a_picked : Nat → Int32} {a_nodeThere a_edgeThere a_froms a_tos a_whats a_patterns : Nat → Int32}
theorem gx_prep {post : SX → Prop} {i : Nat} (hb : b < 2) (hi : i < 4) (hE : gr_E f_edgeSet a_edgesFrom a_edgesTo a_edgesOfType a_edgeWeight a_edgeThere a_froms a_tos a_whats)
    (h : ∀ r wT, gr_B r a_edgeThere (fun e => ((a_linkTypes (4 * b + i) >>> ((a_whats e - a_whats e / 3 * 3) &&& 31)) &&& 1) = 1) → (a_linkKind (4 * b + i) = 1 → ∀ a, a < 12 → wT (16 * i + a) = (gw_ways a_edgeThere a_froms a_tos a_whats (a_linkTypes (4 * b + i)) a 3).1) → (∀ c, c < 16 * i → wT c = a_wayTargets c) → post (f_nodeSet, f_edgeSet, nI b, f_wanted, f_weighing, f_found, f_lightest, f_heaviest, a_nodeLabel, a_nodeValue, a_edgesFrom, a_edgesTo, a_edgesOfType, a_edgeWeight, a_patternMode, a_spotSet, a_linkSet, a_spotLabels, a_spotLeast, a_spotGreatest, a_linkStart, a_linkEnd, a_linkTypes, a_linkKind, a_spotNodes, upd a_typedEdges i r, wT, a_placed, a_linkEdges, a_taken, a_picked)) :
    wpX_prepareLink post (f_nodeSet, f_edgeSet, nI b, f_wanted, f_weighing, f_found, f_lightest, f_heaviest, a_nodeLabel, a_nodeValue, a_edgesFrom, a_edgesTo, a_edgesOfType, a_edgeWeight, a_patternMode, a_spotSet, a_linkSet, a_spotLabels, a_spotLeast, a_spotGreatest, a_linkStart, a_linkEnd, a_linkTypes, a_linkKind, a_spotNodes, a_typedEdges, a_wayTargets, a_placed, a_linkEdges, a_taken, a_picked) (nI i) := by
  have c : (nI (4 * b + i)).toNatClampNeg = 4 * b + i := nI_clamp (by omega)
  have ci : (nI i).toNatClampNeg = i := nI_clamp (by omega)
  have w : vp_in (nI (4 * b + i)) 8 := vp_in_nI (by omega) (by decide)
  refine nm_r gx_ix ⟨w, ?_⟩
  rw [c]
  refine gx_ewt (fun r hr => ⟨vp_in_nI hi (by decide), nm_r (e' := upd a_typedEdges i r) (by rw [ci]) ⟨w, ?_⟩⟩)
  have ht := gw_typed hE hr
  refine br_c (fun z => ?_) (fun z => h r a_wayTargets ht (fun y => absurd y z) (fun _ _ => rfl))
  refine loop_0 (fun n q wT => wX_prepareLink_40 post (nI i) r f_nodeSet f_edgeSet (nI b) f_wanted f_weighing f_found f_lightest f_heaviest n (nI q) a_nodeLabel a_nodeValue a_edgesFrom a_edgesTo a_edgesOfType a_edgeWeight a_patternMode a_spotSet a_linkSet a_spotLabels a_spotLeast a_spotGreatest a_linkStart a_linkEnd a_linkTypes a_linkKind a_spotNodes (upd a_typedEdges i r) wT a_placed a_linkEdges a_taken a_picked) (fun q wT => (∀ a, a < q → wT (16 * i + a) = (gw_ways a_edgeThere a_froms a_tos a_whats (a_linkTypes (4 * b + i)) a 3).1) ∧ (∀ c, c < 16 * i → wT c = a_wayTargets c)) 12 a_wayTargets ⟨fun a ha => absurd ha (Nat.not_lt_zero a), fun _ _ => rfl⟩ (fun n wT I => br_t (nI_le (a := 12) (by omega) (by decide)) (h r wT ht (fun _ => I.1) I.2)) (fun n q wT hq I ih => ?_)
  have cq : (nI (16 * i + q)).toNatClampNeg = 16 * i + q := nI_clamp (by omega)
  refine br_f (nI_ge (b := 12) hq (by decide)) (gx_targets (k := 3) hE ht (by omega) ⟨by rw [gx_ix16]; exact vp_in_nI (by omega) (by decide), nm_r (e' := upd wT (16 * i + q) (gw_ways a_edgeThere a_froms a_tos a_whats (a_linkTypes (4 * b + i)) q 3).1) (by rw [gx_ix16, cq]) (nm_r (nI_1 q) (ih _ ⟨fun a ha => ?_, fun c hc => ?_⟩))⟩)
  · by_cases e : a = q
    · subst e; exact pk_us
    · rw [pk_un (by omega)]; exact I.1 a (by omega)
  · rw [pk_un (by omega)]; exact I.2 c hc
theorem gx_start {post : SX → Prop} {f_sought : Int32} (hb : b < 2) (hN : gr_N f_nodeSet a_nodeThere) (hL : gr_L a_nodeLabel) (hE : gr_E f_edgeSet a_edgesFrom a_edgesTo a_edgesOfType a_edgeWeight a_edgeThere a_froms a_tos a_whats) (hP : gr_P b a_patternMode a_spotSet a_linkSet a_spotLabels a_spotLeast a_spotGreatest a_linkStart a_linkEnd a_linkTypes a_linkKind a_patterns)
    (h : ∀ spN tyE wT le, gx_H b (gp_pr b a_patterns) (gp_l1 b a_patterns) (gp_la b a_patterns) (gp_lb b a_patterns) (gp_sp b a_patterns a_nodeThere a_nodeLabel a_nodeValue) (gp_wy b a_patterns a_edgeThere a_froms a_tos a_whats) (gp_ed b a_patterns a_edgeThere a_froms a_tos a_whats) (gp_dn b a_patterns) (gp_de b a_patterns) a_patternMode a_linkSet a_linkStart a_linkEnd a_linkKind a_edgesFrom a_edgesTo spN tyE wT → (∀ s, gx_LE (gp_pr b a_patterns) (gp_la b a_patterns) (gp_lb b a_patterns) a_edgesFrom a_edgesTo tyE 0 s le) → post (f_nodeSet, f_edgeSet, nI b, (-1), 0, 0, 1000, (-1), a_nodeLabel, a_nodeValue, a_edgesFrom, a_edgesTo, a_edgesOfType, a_edgeWeight, a_patternMode, a_spotSet, a_linkSet, a_spotLabels, a_spotLeast, a_spotGreatest, a_linkStart, a_linkEnd, a_linkTypes, a_linkKind, spN, tyE, wT, a_placed, le, a_taken, a_picked)) : wpX_startSearch post (f_nodeSet, f_edgeSet, f_sought, f_wanted, f_weighing, f_found, f_lightest, f_heaviest, a_nodeLabel, a_nodeValue, a_edgesFrom, a_edgesTo, a_edgesOfType, a_edgeWeight, a_patternMode, a_spotSet, a_linkSet, a_spotLabels, a_spotLeast, a_spotGreatest, a_linkStart, a_linkEnd, a_linkTypes, a_linkKind, a_spotNodes, a_typedEdges, a_wayTargets, a_placed, a_linkEdges, a_taken, a_picked) (nI b) := by
  have cb : (nI b).toNatClampNeg = b := nI_clamp (by omega)
  have wb : vp_in (nI b) 2 := vp_in_nI hb (by decide)
  refine loop_0 (fun n i spN => wX_startSearch_34 post (nI b) f_nodeSet f_edgeSet (nI b) ((-1)) 0 0 1000 ((-1)) n (nI i) a_nodeLabel a_nodeValue a_edgesFrom a_edgesTo a_edgesOfType a_edgeWeight a_patternMode a_spotSet a_linkSet a_spotLabels a_spotLeast a_spotGreatest a_linkStart a_linkEnd a_linkTypes a_linkKind spN a_typedEdges a_wayTargets a_placed a_linkEdges a_taken a_picked) (fun i spN => ∀ q, q < i → ∀ n, n < 16 → (bt (spN q) n = true ↔ (gp_pr b a_patterns q ∧ n < 12 ∧ gp_sp b a_patterns a_nodeThere a_nodeLabel a_nodeValue q n) ∨ (¬ gp_pr b a_patterns q ∧ n = 12 + q))) 4 a_spotNodes (fun q hq => absurd hq (Nat.not_lt_zero q)) (fun n spN IS => br_t (nI_le (a := 4) (by omega) (by decide)) ?_) (fun n i spN hi I ih => ?_)
  · refine loop_0 (fun n i (z : (Nat → Int32) × (Nat → Int32) × (Nat → Int32)) => wX_startSearch_84 post (nI b) n (nI i) f_nodeSet f_edgeSet (nI b) ((-1)) 0 0 1000 ((-1)) a_nodeLabel a_nodeValue a_edgesFrom a_edgesTo a_edgesOfType a_edgeWeight a_patternMode a_spotSet a_linkSet a_spotLabels a_spotLeast a_spotGreatest a_linkStart a_linkEnd a_linkTypes a_linkKind spN z.1 z.2.1 a_placed z.2.2 a_taken a_picked)
      (fun i z => (∀ q, q < i → ¬ gp_pr b a_patterns (4 + q) → z.2.2 q = (1 : Int32) <<< (nI (20 + q) &&& 31)) ∧ (∀ q, q < i → gp_pr b a_patterns (4 + q) → gr_B (z.1 q) a_edgeThere (fun e => ((a_patterns (33 * b + 25 + q) >>> ((a_whats e - a_whats e / 3 * 3) &&& 31)) &&& 1) = 1)) ∧ (∀ q, q < i → gp_l1 b a_patterns q → ∀ a, a < 12 → z.2.1 (16 * q + a) = (gw_ways a_edgeThere a_froms a_tos a_whats (a_patterns (33 * b + 25 + q)) a 3).1))
      4 (a_typedEdges, a_wayTargets, a_linkEdges) ⟨fun q hq => absurd hq (Nat.not_lt_zero q), fun q hq => absurd hq (Nat.not_lt_zero q), fun q hq => absurd hq (Nat.not_lt_zero q)⟩ (fun n z I => br_t (nI_le (a := 4) (by omega) (by decide)) (h spN z.1 z.2.1 z.2.2 ?_ ?_)) (fun n i z hi I ih => ?_)
    · obtain ⟨I1, I2, I3⟩ := I
      refine ⟨fun j => ⟨Nat.mod_lt _ (by decide), Nat.mod_lt _ (by decide)⟩, IS, fun j hj => ?_, fun j hj hl => ?_, fun j hj hp => ?_, fun j hj hl => ?_, fun j hj hl a ha c hc => ?_, fun j hj hp a ha c hc e he => ?_, ?_, ?_, hb⟩
      · rw [(hP.2.2.2 j hj).2.1, gp_pr8 hj]
        constructor
        · intro z
          obtain ⟨ab, hab, q1, q2, q3, q4, q5, q6, q7, q8⟩ := (hP.2.2.2 j hj).2.2 z
          exact q6.elim (fun y => Or.inl ⟨z, y⟩) (fun y => Or.inr ⟨z, y⟩)
        · rintro (z | z)
          · exact z.1
          · exact z.1
      · obtain ⟨q1, q2, q3, q4, _⟩ := gp_links hP hj hl
        exact ⟨q1, q2, q3, q4⟩
      · obtain ⟨_, _, _, _, _, q6, _⟩ := gp_links hP hj (Or.inl hp)
        rw [q6, ((gp_pr8 hj).mp hp).2]
        decide
      · obtain ⟨_, _, _, _, _, q6, _⟩ := gp_links hP hj (Or.inr hl)
        rw [q6, hl.2]
      · rw [I3 j hj hl a ha]
        exact (gb_bit1 _ (by omega)).symm
      · rw [b_and, b_and, Bool.and_eq_true, Bool.and_eq_true, hE.2.2.1 a ha e he, hE.2.2.2.1 c hc e he, I2 j hj hp e he]
        unfold gp_ed
        constructor
        · rintro ⟨⟨⟨z1, z2, z3⟩, ⟨_, _, z4⟩⟩, ⟨_, _, z5⟩⟩
          exact ⟨z1, ⟨z2, z5⟩, z3, z4⟩
        · rintro ⟨z1, ⟨z2, z5⟩, z3, z4⟩
          exact ⟨⟨⟨z1, z2, z3⟩, ⟨z1, z2, z4⟩⟩, ⟨z1, z2, z5⟩⟩
      · rw [hP.1]; exact (gp_mode hP.2.1).1
      · rw [hP.1]; exact (gp_mode hP.2.1).2
    · exact fun s j hj => ⟨fun hp => I.1 j hj hp, fun _ ha _ => absurd ha (Nat.not_lt_zero _)⟩
    · obtain ⟨tyE, wT, le⟩ := z
      obtain ⟨I1, I2, I3⟩ := I
      dsimp only at I1 I2 I3
      have ci : (nI i).toNatClampNeg = i := nI_clamp (by omega)
      have e20 : (20 : Int32) + nI i = nI (20 + i) := nI_add 20 i
      refine br_f (nI_ge (b := 4) hi (by decide)) ⟨vp_in_nI hi (by decide), nm_r (e' := upd le i ((1 : Int32) <<< (nI (20 + i) &&& 31))) (by rw [ci, e20]) ⟨wb, ?_⟩⟩
      have J1 : ∀ q, q < i + 1 → ¬ gp_pr b a_patterns (4 + q) → upd le i ((1 : Int32) <<< (nI (20 + i) &&& 31)) q = (1 : Int32) <<< (nI (20 + q) &&& 31) := fun q hq hp => by
        by_cases e : q = i
        · subst e; exact pk_us
        · rw [pk_un e]; exact I1 q (by omega) hp
      rw [cb]
      refine gx_hasb (by omega) (fun hbit => ?_) (fun hbit => nm_r (nI_1 i) (ih (tyE, wT, _) ⟨J1, fun q hq hp => ?_, fun q hq hl => ?_⟩))
      · have h17 := (hP.2.2.2 i hi).2.1.mp hbit
        have hl : gp_pr b a_patterns (4 + i) ∨ gp_l1 b a_patterns i := by
          obtain ⟨ab, hab, q1, q2, q3, q4, q5, q6, q7, q8⟩ := (hP.2.2.2 i hi).2.2 h17
          rw [gp_pr8 hi]
          exact q6.elim (fun y => Or.inl ⟨h17, y⟩) (fun y => Or.inr ⟨h17, y⟩)
        obtain ⟨_, _, _, _, q5, q6, _⟩ := gp_links hP hi hl
        refine gx_prep hb hi hE (fun r wT' k1 k2 k3 => nm_r (nI_1 i) (ih (upd tyE i r, wT', _) ⟨J1, fun q hq hp => ?_, fun q hq hl1 a ha => ?_⟩))
        · dsimp only
          by_cases e : q = i
          · subst e; rw [pk_us]; rw [q5] at k1; exact k1
          · rw [pk_un e]; exact I2 q (by omega) hp
        · dsimp only
          by_cases e : q = i
          · subst e; rw [k2 (by rw [q6, hl1.2]) a ha, q5]
          · rw [k3 _ (by omega)]; exact I3 q (by omega) hl1 a ha
      · have nl : ¬ a_patterns (33 * b + 17 + i) = 1 := fun z => Bool.false_ne_true (hbit.symm.trans ((hP.2.2.2 i hi).2.1.mpr z))
        by_cases e : q = i
        · subst e; exact absurd ((gp_pr8 hi).mp hp).1 nl
        · exact I2 q (by omega) hp
      · have nl : ¬ a_patterns (33 * b + 17 + i) = 1 := fun z => Bool.false_ne_true (hbit.symm.trans ((hP.2.2.2 i hi).2.1.mpr z))
        by_cases e : q = i
        · subst e; exact absurd hl.1 nl
        · exact I3 q (by omega) hl
  · have ci : (nI i).toNatClampNeg = i := nI_clamp (by omega)
    have S := hP.2.2.1 i hi
    refine br_f (nI_ge (b := 4) hi (by decide)) ⟨wb, ?_⟩
    rw [cb]
    have fin : ∀ r : Int32, (∀ n, n < 16 → (bt r n = true ↔ (gp_pr b a_patterns i ∧ n < 12 ∧ gp_sp b a_patterns a_nodeThere a_nodeLabel a_nodeValue i n) ∨ (¬ gp_pr b a_patterns i ∧ n = 12 + i))) → wX_startSearch_34 post (nI b) f_nodeSet f_edgeSet (nI b) ((-1)) 0 0 1000 ((-1)) n (nI (i + 1)) a_nodeLabel a_nodeValue a_edgesFrom a_edgesTo a_edgesOfType a_edgeWeight a_patternMode a_spotSet a_linkSet a_spotLabels a_spotLeast a_spotGreatest a_linkStart a_linkEnd a_linkTypes a_linkKind (upd spN i r) a_typedEdges a_wayTargets a_placed a_linkEdges a_taken a_picked := by
      intro r hr
      refine ih _ (fun q hq => ?_)
      by_cases e : q = i
      · subst e; rw [pk_us]; exact hr
      · rw [pk_un e]; exact I q (by omega)
    refine gx_hasb (by omega) (fun hbit => ?_) (fun hbit => ?_)
    · have p1 := S.2.1.mp hbit
      have pi : gp_pr b a_patterns i := (gp_pr4 hi).mpr p1
      obtain ⟨s1, s2, s3⟩ := S.2.2 p1
      rw [gx_ix]
      refine gx_fit (p := 4 * b + i) (by omega) hL (fun r hr => ⟨vp_in_nI hi (by decide), nm_r (e' := upd spN i r) (by rw [ci]) (nm_r (nI_1 i) (fin r (fun m hm => ?_)))⟩)
      rw [hr m (by omega)]
      unfold gp_sp
      rw [s1, s2, s3]
      constructor
      · rintro ⟨t, ht, rfl, z1, z2⟩
        exact Or.inl ⟨pi, ht, ((hN.2 m (by omega)).mp z1).2, z2⟩
      · rintro (⟨_, z1, z2, z3⟩ | ⟨z1, _⟩)
        · exact ⟨m, z1, rfl, (hN.2 m (by omega)).mpr ⟨z1, z2⟩, z3⟩
        · exact absurd pi z1
    · have np : ¬ gp_pr b a_patterns i := fun z => Bool.false_ne_true (hbit.symm.trans (S.2.1.mpr ((gp_pr4 hi).mp z)))
      have e12 : (12 : Int32) + nI i = nI (12 + i) := nI_add 12 i
      refine ⟨vp_in_nI hi (by decide), nm_r (e' := upd spN i ((1 : Int32) <<< (nI (12 + i) &&& 31))) (by rw [ci, e12]) (nm_r (nI_1 i) (fin _ (fun m hm => ?_)))⟩
      rw [gb_sb (by omega) (by omega), decide_eq_true_iff]
      exact ⟨fun z => Or.inr ⟨np, z⟩, fun z => z.elim (fun y => absurd y.1 np) (fun y => y.2)⟩
end GXS
end
section
/-! the reference's search -/
def gy_P (b : Nat) (pat : Nat → Int32) : Prop :=
  b < 2 ∧ (∃ m, m < 4 ∧ pat (33 * b) = nI m) ∧ (∀ j, j < 4 → (gp_pr b pat (4 + j) ∨ gp_l1 b pat j) → pat (33 * b + 21 + j) = nI (gp_la b pat j + 4 * gp_lb b pat j) ∧ gp_pr b pat (gp_la b pat j) ∧ gp_pr b pat (gp_lb b pat j))
def gy_CH (pr : Nat → Prop) (p : Nat) (s : Nat → Nat) (ch : Nat → Int32) : Prop := ∀ q, q < p → pr q → ch (gq_rk pr q) = nI (s q)
def gy_PT (pr : Nat → Prop) (pt : Nat → Int32) : Prop := ∀ q, q < 8 → pr q → pt (gq_rk pr q) = nI q
theorem gp_la4 {b : Nat} {pat : Nat → Int32} (j : Nat) : gp_la b pat j < 4 ∧ gp_lb b pat j < 4 := ⟨Nat.mod_lt _ (by decide), Nat.mod_lt _ (by decide)⟩
theorem gp_loc {pr l1 : Nat → Prop} {la lb : Nat → Nat} {sp : Nat → Nat → Prop} {wy : Nat → Nat → Nat → Prop} {ed : Nat → Nat → Nat → Nat → Prop} {dn de : Prop} (hl : ∀ j, la j < 4 ∧ lb j < 4) : gq_loc (gp_ok pr l1 la lb sp wy ed dn de) := by
  have one : ∀ p (s t : Nat → Nat) c, (∀ q, q < p → s q = t q) → ((gp_ok pr l1 la lb sp wy ed dn de) p s c → (gp_ok pr l1 la lb sp wy ed dn de) p t c) := by
    intro p s t c h o
    have up : ∀ q, q ≤ p → gq_up s p c q = gq_up t p c q := fun q hq => by
      by_cases e : q = p
      · subst e; rw [gq_us, gq_us]
      · rw [gq_un e, gq_un e, h q (by omega)]
    refine ⟨fun hp => ?_, fun hp => ?_⟩
    · obtain ⟨o1, o2, o3⟩ := o.1 hp
      refine ⟨o1, fun d q hq hpr => ?_, fun j hj hl1 ha hb hab => ?_⟩
      · rw [← h q hq]; exact o2 d q hq hpr
      · rw [← up _ ha, ← up _ hb]; exact o3 j hj hl1 ha hb hab
    · obtain ⟨o1, o2⟩ := o.2 hp
      have := hl (p - 4)
      refine ⟨?_, fun d q hq hq4 hpr => ?_⟩
      · rw [← h _ (by omega), ← h _ (by omega)]; exact o1
      · rw [← h q hq]; exact o2 d q hq hq4 hpr
  exact fun p s t c h => ⟨one p s t c h, one p t s c (fun q hq => (h q hq).symm)⟩
section GYS
variable {b : Nat} {f_many : Int32} {a_nodeThere a_labels a_values a_edgeThere a_froms a_tos a_whats a_patterns a_parts a_chosen : Nat → Int32}
theorem gy_at {post : Int32 → Prop} (hb : b < 2) {c : Nat} (hc : c < 33) (h : post (a_patterns (33 * b + c))) : wpY_at post (nI (33 * b), f_many, a_nodeThere, a_labels, a_values, a_edgeThere, a_froms, a_tos, a_whats, a_patterns, a_parts, a_chosen) (nI c) := by
  have e : nI (33 * b) + nI c = nI (33 * b + c) := nI_add _ _
  refine ⟨by rw [e]; exact vp_in_nI (by omega) (by decide), ?_⟩
  rw [e, nI_clamp (by omega)]
  exact h
theorem gy_at2 {post : Int32 → Prop} (hb : b < 2) (d c : Nat) (hc : d + c < 33) (h : post (a_patterns (33 * b + d + c))) : wpY_at post (nI (33 * b), f_many, a_nodeThere, a_labels, a_values, a_edgeThere, a_froms, a_tos, a_whats, a_patterns, a_parts, a_chosen) (nI d + nI c) := by
  rw [nI_add]
  refine gy_at hb hc ?_
  rw [← Nat.add_assoc]
  exact h
theorem gy_isLink {post : Int32 → Prop} (hb : b < 2) {j : Nat} (hj : j < 4) {kd : Int32} (h1 : a_patterns (33 * b + 17 + j) = 1 ∧ a_patterns (33 * b + 29 + j) = kd → post 1) (h0 : ¬ (a_patterns (33 * b + 17 + j) = 1 ∧ a_patterns (33 * b + 29 + j) = kd) → post 0) : wpY_isLink post (nI (33 * b), f_many, a_nodeThere, a_labels, a_values, a_edgeThere, a_froms, a_tos, a_whats, a_patterns, a_parts, a_chosen) (nI j) kd := by
  unfold wpY_isLink
  refine gy_at2 hb 17 j (by omega) (br_c (fun z => ?_) (fun z => h0 (fun w => z w.1)))
  exact gy_at2 hb 29 j (by omega) (br_c (fun y => h1 ⟨z, y⟩) (fun y => h0 (fun w => y w.2)))
/-- order: which part stands at which place -/
theorem gy_order {post : SY → Prop} (hb : b < 2) (h : ∀ pt, gy_PT (gp_pr b a_patterns) pt → post (nI (33 * b), nI (gq_rk (gp_pr b a_patterns) 8), a_nodeThere, a_labels, a_values, a_edgeThere, a_froms, a_tos, a_whats, a_patterns, pt, a_chosen)) : wpY_order post (nI (33 * b), f_many, a_nodeThere, a_labels, a_values, a_edgeThere, a_froms, a_tos, a_whats, a_patterns, a_parts, a_chosen) := by
  have put : ∀ (p : Nat) (pt : Nat → Int32), p < 8 → (∀ q, q < p → gp_pr b a_patterns q → pt (gq_rk (gp_pr b a_patterns) q) = nI q) → gp_pr b a_patterns p → ∀ q, q < p + 1 → gp_pr b a_patterns q → upd pt (gq_rk (gp_pr b a_patterns) p) (nI p) (gq_rk (gp_pr b a_patterns) q) = nI q := by
    intro p pt hp I hpr q hq hq'
    by_cases e : q = p
    · subst e; exact pk_us
    · rw [pk_un (fun z => e (gq_rk_inj hq' hpr z))]; exact I q (by omega) hq'
  refine loop_0 (fun n i (z : Int32 × (Nat → Int32)) => wY_order_7 post (nI (33 * b)) n (nI i) z.1 a_nodeThere a_labels a_values a_edgeThere a_froms a_tos a_whats a_patterns z.2 a_chosen) (fun i z => z.1 = nI (gq_rk (gp_pr b a_patterns) i) ∧ ∀ q, q < i → gp_pr b a_patterns q → z.2 (gq_rk (gp_pr b a_patterns) q) = nI q) 4 (0, a_parts) ⟨rfl, fun q hq => absurd hq (Nat.not_lt_zero q)⟩ (fun n z I => br_t (nI_le (a := 4) (by omega) (by decide)) ?_) (fun n i z hi I ih => ?_)
  · obtain ⟨mn, pt⟩ := z
    refine loop_0 (fun n i (z : Int32 × (Nat → Int32)) => wY_order_51 post (nI (33 * b)) n (nI i) z.1 a_nodeThere a_labels a_values a_edgeThere a_froms a_tos a_whats a_patterns z.2 a_chosen) (fun i z => z.1 = nI (gq_rk (gp_pr b a_patterns) (4 + i)) ∧ ∀ q, q < 4 + i → gp_pr b a_patterns q → z.2 (gq_rk (gp_pr b a_patterns) q) = nI q) 4 (mn, pt) I (fun n z I => br_t (nI_le (a := 4) (by omega) (by decide)) ?_) (fun n i z hi I ih => ?_)
    · rw [I.1]
      exact h z.2 I.2
    · obtain ⟨mn, pt⟩ := z
      obtain ⟨I1, I2⟩ := I
      dsimp only at I1 I2
      subst I1
      have hr : gq_rk (gp_pr b a_patterns) (4 + i) < 8 := Nat.lt_of_le_of_lt (gq_rk_id _) (by omega)
      have cr : (nI (gq_rk (gp_pr b a_patterns) (4 + i))).toNatClampNeg = gq_rk (gp_pr b a_patterns) (4 + i) := nI_clamp (by omega)
      refine br_f (nI_ge (b := 4) hi (by decide)) (gy_isLink hb hi (fun z => br_f gn_10 ⟨vp_in_nI hr (by decide), nm_r (e' := upd pt (gq_rk (gp_pr b a_patterns) (4 + i)) (nI (4 + i))) (by rw [cr, show (4 : Int32) + nI i = nI (4 + i) from nI_add 4 i]) (nm_r (nI_1 _) (nm_r (nI_1 i) (ih (_, upd pt (gq_rk (gp_pr b a_patterns) (4 + i)) (nI (4 + i))) ⟨?_, ?_⟩)))⟩) (fun z => br_t rfl (nm_r (nI_1 i) (ih (_, pt) ⟨?_, fun q hq hq' => ?_⟩))))
      · have hp := (gp_pr8 hi).mpr z
        show nI (gq_rk (gp_pr b a_patterns) (4 + i) + 1) = nI (gq_rk (gp_pr b a_patterns) (4 + i + 1))
        rw [gq_rk1 hp]
      · exact put (4 + i) pt (by omega) I2 ((gp_pr8 hi).mpr z)
      · show nI (gq_rk (gp_pr b a_patterns) (4 + i)) = nI (gq_rk (gp_pr b a_patterns) (4 + i + 1))
        rw [gq_rk0 (fun y => z ((gp_pr8 hi).mp y))]
      · by_cases e : q = 4 + i
        · subst e; exact absurd ((gp_pr8 hi).mp hq') z
        · exact I2 q (by omega) hq'
  · obtain ⟨mn, pt⟩ := z
    obtain ⟨I1, I2⟩ := I
    dsimp only at I1 I2
    subst I1
    have hr : gq_rk (gp_pr b a_patterns) i < 8 := Nat.lt_of_le_of_lt (gq_rk_id _) (by omega)
    have cr : (nI (gq_rk (gp_pr b a_patterns) i)).toNatClampNeg = gq_rk (gp_pr b a_patterns) i := nI_clamp (by omega)
    refine br_f (nI_ge (b := 4) hi (by decide)) (gy_at2 hb 1 i (by omega) (br_c (fun z => ⟨vp_in_nI hr (by decide), nm_r (e' := upd pt (gq_rk (gp_pr b a_patterns) i) (nI i)) (by rw [cr]) (nm_r (nI_1 _) (nm_r (nI_1 i) (ih (_, upd pt (gq_rk (gp_pr b a_patterns) i) (nI i)) ⟨?_, ?_⟩)))⟩) (fun z => nm_r (nI_1 i) (ih (_, pt) ⟨?_, fun q hq hq' => ?_⟩))))
    · show nI (gq_rk (gp_pr b a_patterns) i + 1) = nI (gq_rk (gp_pr b a_patterns) (i + 1))
      rw [gq_rk1 ((gp_pr4 hi).mpr z)]
    · exact put i pt (by omega) I2 ((gp_pr4 hi).mpr z)
    · show nI (gq_rk (gp_pr b a_patterns) i) = nI (gq_rk (gp_pr b a_patterns) (i + 1))
      rw [gq_rk0 (fun y => z ((gp_pr4 hi).mp y))]
    · by_cases e : q = i
      · subst e; exact absurd ((gp_pr4 hi).mp hq') z
      · exact I2 q (by omega) hq'
section GYL
variable {pr : Nat → Prop} {f_base : Int32}
/-- place: where a part stands -/
theorem gy_pl {post : Int32 → Prop} {q t : Nat} (hPT : gy_PT pr a_parts) (hq : q < 8) (ht : (pr q ∧ t = gq_rk pr q) ∨ (¬ pr q ∧ t = gq_rk pr 8)) (h : post (nI t)) : wpY_place post (f_base, nI (gq_rk pr 8), a_nodeThere, a_labels, a_values, a_edgeThere, a_froms, a_tos, a_whats, a_patterns, a_parts, a_chosen) (nI q) := by
  have h8 : gq_rk pr 8 ≤ 8 := gq_rk_id 8
  have t8 : t ≤ gq_rk pr 8 := by
    rcases ht with ⟨_, e⟩ | ⟨_, e⟩
    · rw [e]; exact gq_rk_mono (by omega)
    · omega
  refine loop_0 (fun n i (_ : Unit) => wY_place_2 post (nI q) f_base (nI (gq_rk pr 8)) a_nodeThere a_labels a_values a_edgeThere a_froms a_tos a_whats a_patterns a_parts a_chosen n (nI i)) (fun _ _ => True) t () trivial (fun n s _ => ?_) (fun n i s hi _ ih => ?_)
  · by_cases e : gq_rk pr 8 ≤ t
    · exact br_t (nI_le e (by omega)) h
    · rcases ht with ⟨hp, et⟩ | ⟨hp, et⟩
      · refine br_f (nI_ge (by omega) (by omega)) ⟨vp_in_nI (by omega) (by decide), br_t ?_ h⟩
        rw [nI_clamp (by omega), et]
        exact hPT q hq hp
      · omega
  · refine br_f (nI_ge (by omega) (by omega)) ⟨vp_in_nI (by omega) (by decide), br_f ?_ (nm_r (nI_1 i) (ih () trivial))⟩
    rw [nI_clamp (by omega)]
    obtain ⟨p', hp8, hp', er⟩ := gq_rk_sur (pr := pr) 8 i (by omega)
    rw [← er, hPT p' hp8 hp', nI_eq (by omega) (by omega)]
    intro z
    subst z
    rcases ht with ⟨_, et⟩ | ⟨hp, _⟩
    · omega
    · exact hp hp'
theorem gy_taken {post : Int32 → Prop} {p c : Nat} {s : Nat → Nat} (hPT : gy_PT pr a_parts) (hp8 : p < 8) (hp : pr p) (hCH : gy_CH pr p s a_chosen) (hc : a_chosen (gq_rk pr p) = nI c) (hs : ∀ q, q < p → pr q → s q < 100) (hc1 : c < 100)
    (h1 : ∀ q, q < p → pr q → q / 4 = p / 4 → s q = c → post 1) (h0 : (∀ q, q < p → pr q → q / 4 = p / 4 → s q ≠ c) → post 0) : wpY_taken post (f_base, nI (gq_rk pr 8), a_nodeThere, a_labels, a_values, a_edgeThere, a_froms, a_tos, a_whats, a_patterns, a_parts, a_chosen) (nI (gq_rk pr p)) := by
  have hr : gq_rk pr p < 8 := Nat.lt_of_le_of_lt (gq_rk_id p) hp8
  have cr : (nI (gq_rk pr p)).toNatClampNeg = gq_rk pr p := nI_clamp (by omega)
  refine loop_0 (fun n k x => wY_taken_4 post (nI (gq_rk pr p)) f_base (nI (gq_rk pr 8)) a_nodeThere a_labels a_values a_edgeThere a_froms a_tos a_whats a_patterns a_parts a_chosen n x (nI k)) (fun k x => (x = 1 ∧ ∃ q, q < p ∧ pr q ∧ q / 4 = p / 4 ∧ s q = c) ∨ (x = 0 ∧ ∀ q, q < p → pr q → gq_rk pr q < k → q / 4 = p / 4 → s q ≠ c)) (gq_rk pr p) 0 (Or.inr ⟨rfl, fun q _ _ z => absurd z (Nat.not_lt_zero _)⟩) (fun n x I => ?_) (fun n k x hk I ih => ?_)
  · refine br_t (nI_le (Nat.le_refl _) (by omega)) ?_
    rcases I with ⟨e, q, a1, a2, a3, a4⟩ | ⟨e, z⟩
    · rw [e]; exact ⟨gn_n1, h1 q a1 a2 a3 a4⟩
    · rw [e]; exact ⟨gn_n0, h0 (fun q a1 a2 a3 => z q a1 a2 (gq_rk_lt a2 a1) a3)⟩
  · refine br_f (nI_ge hk (by omega)) ?_
    rcases I with ⟨e, z⟩ | ⟨e, z⟩
    · subst e
      exact br_f gn_10 (nm_r (nI_1 k) (ih _ (Or.inl ⟨rfl, z⟩)))
    · subst e
      have wk : vp_in (nI k) 8 := vp_in_nI (by omega) (by decide)
      have wp : vp_in (nI (gq_rk pr p)) 8 := vp_in_nI hr (by decide)
      have ck : (nI k).toNatClampNeg = k := nI_clamp (by omega)
      obtain ⟨q, hq8, hq, er⟩ := gq_rk_sur (pr := pr) 8 k (by have := gq_rk_mono (pr := pr) (show p ≤ 8 by omega); omega)
      have hqp : q < p := by
        rcases Nat.lt_or_ge q p with y | y
        · exact y
        · have := gq_rk_mono (pr := pr) y; omega
      have pk : a_parts (nI k).toNatClampNeg / 4 = nI (q / 4) := by rw [ck, ← er, hPT q hq8 hq]; exact pk_div (a := q) (d := 4) (by omega) (by decide) (by decide)
      have pp : a_parts (nI (gq_rk pr p)).toNatClampNeg / 4 = nI (p / 4) := by rw [cr, hPT p hp8 hp]; exact pk_div (a := p) (d := 4) (by omega) (by decide) (by decide)
      have more : ¬ (q / 4 = p / 4 ∧ s q = c) → ∀ q', q' < p → pr q' → gq_rk pr q' < k + 1 → q' / 4 = p / 4 → s q' ≠ c := by
        intro no q' b1 b2 b3 b4 b5
        by_cases y : gq_rk pr q' < k
        · exact z q' b1 b2 y b4 b5
        · have : q' = q := gq_rk_inj b2 hq (by omega)
          subst this
          exact no ⟨b4, b5⟩
      refine br_t rfl ⟨wk, gn_d4, wp, gn_d4, ?_⟩
      rw [pk, pp]
      refine pk_eq (q / 4) (p / 4) (fun e4 => ⟨wk, wp, ?_⟩) (fun e4 => nm_r (nI_1 k) (ih _ (Or.inr ⟨rfl, more (fun y => e4 y.1)⟩)))
      have := hs q hqp hq
      rw [ck, cr, ← er, hCH q hqp hq, hc, er]
      exact pk_eq (s q) c (fun es => nm_r (nI_1 k) (ih _ (Or.inl ⟨rfl, q, hqp, hq, e4, es⟩))) (fun es => nm_r (nI_1 k) (ih _ (Or.inr ⟨rfl, more (fun y => es y.2)⟩)))
end GYL
theorem gy_waysAt {post : Int32 → Prop} {p : Nat} {s : Nat → Nat} (hP : gy_P b a_patterns) (hT : ∀ e, a_edgeThere e = 0 ∨ a_edgeThere e = 1) (hPT : gy_PT (gp_pr b a_patterns) a_parts) (hp4 : p < 4) (hp : gp_pr b a_patterns p) (hCH : gy_CH (gp_pr b a_patterns) (p + 1) s a_chosen)
    (h1 : (∀ j, j < 4 → gp_l1 b a_patterns j → gp_la b a_patterns j ≤ p → gp_lb b a_patterns j ≤ p → (gp_la b a_patterns j = p ∨ gp_lb b a_patterns j = p) → gp_wy b a_patterns a_edgeThere a_froms a_tos a_whats j (s (gp_la b a_patterns j)) (s (gp_lb b a_patterns j))) → post 1)
    (h0 : ∀ j, j < 4 → gp_l1 b a_patterns j → gp_la b a_patterns j ≤ p → gp_lb b a_patterns j ≤ p → (gp_la b a_patterns j = p ∨ gp_lb b a_patterns j = p) → ¬ gp_wy b a_patterns a_edgeThere a_froms a_tos a_whats j (s (gp_la b a_patterns j)) (s (gp_lb b a_patterns j)) → post 0) :
    wpY_waysAt post (nI (33 * b), nI (gq_rk (gp_pr b a_patterns) 8), a_nodeThere, a_labels, a_values, a_edgeThere, a_froms, a_tos, a_whats, a_patterns, a_parts, a_chosen) (nI (gq_rk (gp_pr b a_patterns) p)) := by
  obtain ⟨hb, _, hK⟩ := hP
  have rk8 : ∀ q, q < 4 → gq_rk (gp_pr b a_patterns) q < 8 := fun q hq => Nat.lt_of_le_of_lt (gq_rk_id q) (by omega)
  refine loop_0 (fun n j x => wY_waysAt_4 post (nI (gq_rk (gp_pr b a_patterns) p)) (nI (33 * b)) (nI (gq_rk (gp_pr b a_patterns) 8)) a_nodeThere a_labels a_values a_edgeThere a_froms a_tos a_whats a_patterns a_parts a_chosen n x (nI j)) (fun j x => (x = 1 ∧ ∀ q, q < j → gp_l1 b a_patterns q → gp_la b a_patterns q ≤ p → gp_lb b a_patterns q ≤ p → (gp_la b a_patterns q = p ∨ gp_lb b a_patterns q = p) → gp_wy b a_patterns a_edgeThere a_froms a_tos a_whats q (s (gp_la b a_patterns q)) (s (gp_lb b a_patterns q))) ∨ (x = 0 ∧ post 0)) 4 1 (Or.inl ⟨rfl, fun q hq => absurd hq (Nat.not_lt_zero q)⟩) (fun n x I => ?_) (fun n j x hj I ih => ?_)
  · refine br_t (nI_le (a := 4) (by omega) (by decide)) ?_
    rcases I with ⟨e, z⟩ | ⟨e, z⟩
    · rw [e]; exact ⟨gn_n1, h1 z⟩
    · rw [e]; exact ⟨gn_n0, z⟩
  · refine br_f (nI_ge (b := 4) hj (by decide)) ?_
    rcases I with ⟨e, z⟩ | ⟨e, z⟩
    · subst e
      have more : (gp_l1 b a_patterns j → gp_la b a_patterns j ≤ p → gp_lb b a_patterns j ≤ p → (gp_la b a_patterns j = p ∨ gp_lb b a_patterns j = p) → gp_wy b a_patterns a_edgeThere a_froms a_tos a_whats j (s (gp_la b a_patterns j)) (s (gp_lb b a_patterns j))) → wY_waysAt_4 post (nI (gq_rk (gp_pr b a_patterns) p)) (nI (33 * b)) (nI (gq_rk (gp_pr b a_patterns) 8)) a_nodeThere a_labels a_values a_edgeThere a_froms a_tos a_whats a_patterns a_parts a_chosen n 1 (nI (j + 1)) := by
        intro w
        refine ih _ (Or.inl ⟨rfl, fun q hq => ?_⟩)
        by_cases e : q = j
        · subst e; exact w
        · exact z q (by omega)
      refine br_f gn_10 (gy_isLink hb hj (fun hl => br_f gn_10 ?_) (fun hl => br_t rfl (nm_r (nI_1 j) (more (fun w => absurd w hl)))))
      obtain ⟨eab, pa, pb⟩ := hK j hj (Or.inr hl)
      obtain ⟨la4, lb4⟩ := gp_la4 (b := b) (pat := a_patterns) j
      have er : nI (gp_la b a_patterns j + 4 * gp_lb b a_patterns j) - nI (gp_la b a_patterns j + 4 * gp_lb b a_patterns j) / 4 * 4 = nI (gp_la b a_patterns j) := by
        have := pk_rem (a := gp_la b a_patterns j + 4 * gp_lb b a_patterns j) (d := 4) (by omega) (by decide) (by decide)
        rw [show (gp_la b a_patterns j + 4 * gp_lb b a_patterns j) % 4 = gp_la b a_patterns j by omega] at this
        exact this
      have ed : nI (gp_la b a_patterns j + 4 * gp_lb b a_patterns j) / 4 = nI (gp_lb b a_patterns j) := by
        have := pk_div (a := gp_la b a_patterns j + 4 * gp_lb b a_patterns j) (d := 4) (by omega) (by decide) (by decide)
        rw [show (gp_la b a_patterns j + 4 * gp_lb b a_patterns j) / 4 = gp_lb b a_patterns j by omega] at this
        exact this
      refine gy_at2 hb 21 j (by omega) ⟨gn_d4, ?_⟩
      rw [eab, er]
      refine gy_pl hPT (by omega) (Or.inl ⟨pa, rfl⟩) ?_
      refine gy_at2 hb 21 j (by omega) ⟨gn_d4, ?_⟩
      rw [eab, ed]
      refine gy_pl hPT (by omega) (Or.inl ⟨pb, rfl⟩) ?_
      have ra := rk8 _ la4
      have rb := rk8 _ lb4
      have rp := rk8 _ hp4
      have skip : (¬ (gp_la b a_patterns j ≤ p ∧ gp_lb b a_patterns j ≤ p ∧ (gp_la b a_patterns j = p ∨ gp_lb b a_patterns j = p))) → wY_waysAt_82 post (wY_waysAt_4 post (nI (gq_rk (gp_pr b a_patterns) p)) (nI (33 * b)) (nI (gq_rk (gp_pr b a_patterns) 8)) a_nodeThere a_labels a_values a_edgeThere a_froms a_tos a_whats a_patterns a_parts a_chosen n) (nI (gq_rk (gp_pr b a_patterns) p)) (nI j) (nI (gq_rk (gp_pr b a_patterns) (gp_la b a_patterns j))) (nI (gq_rk (gp_pr b a_patterns) (gp_lb b a_patterns j))) (nI (33 * b)) (nI (gq_rk (gp_pr b a_patterns) 8)) a_nodeThere a_labels a_values a_edgeThere a_froms a_tos a_whats a_patterns a_parts a_chosen := fun no =>
        br_t rfl (nm_r (nI_1 j) (more (fun _ w1 w2 w3 => absurd ⟨w1, w2, w3⟩ no)))
      have test : gp_la b a_patterns j ≤ p → gp_lb b a_patterns j ≤ p → (gp_la b a_patterns j = p ∨ gp_lb b a_patterns j = p) → wY_waysAt_78 post (wY_waysAt_4 post (nI (gq_rk (gp_pr b a_patterns) p)) (nI (33 * b)) (nI (gq_rk (gp_pr b a_patterns) 8)) a_nodeThere a_labels a_values a_edgeThere a_froms a_tos a_whats a_patterns a_parts a_chosen n) (nI (gq_rk (gp_pr b a_patterns) p)) (nI j) (nI (gq_rk (gp_pr b a_patterns) (gp_la b a_patterns j))) (nI (gq_rk (gp_pr b a_patterns) (gp_lb b a_patterns j))) (nI (33 * b)) (nI (gq_rk (gp_pr b a_patterns) 8)) a_nodeThere a_labels a_values a_edgeThere a_froms a_tos a_whats a_patterns a_parts a_chosen := by
        intro w1 w2 w3
        have ca : a_chosen (nI (gq_rk (gp_pr b a_patterns) (gp_la b a_patterns j))).toNatClampNeg = nI (s (gp_la b a_patterns j)) := by rw [nI_clamp (by omega)]; exact hCH _ (by omega) pa
        have cb : a_chosen (nI (gq_rk (gp_pr b a_patterns) (gp_lb b a_patterns j))).toNatClampNeg = nI (s (gp_lb b a_patterns j)) := by rw [nI_clamp (by omega)]; exact hCH _ (by omega) pb
        refine br_f gn_10 ⟨vp_in_nI ra (by decide), gy_at2 hb 25 j (by omega) ?_⟩
        rw [ca]
        refine gy_ways (k := 3) hT (by omega) ⟨vp_in_nI rb (by decide), ?_⟩
        rw [cb]
        exact br_c (fun y => nm_r (nI_1 j) (more (fun _ _ _ _ => y))) (fun y => nm_r (nI_1 j) (ih _ (Or.inr ⟨rfl, h0 j hj hl w1 w2 w3 y⟩)))
      refine pk_lt (gq_rk (gp_pr b a_patterns) p) (gq_rk (gp_pr b a_patterns) (gp_la b a_patterns j)) (fun q => skip (fun w => ?_)) (fun q => pk_lt (gq_rk (gp_pr b a_patterns) p) (gq_rk (gp_pr b a_patterns) (gp_lb b a_patterns j)) (fun r => skip (fun w => ?_)) (fun r => ?_))
      · have := gq_rk_mono (pr := (gp_pr b a_patterns)) w.1; omega
      · have := gq_rk_mono (pr := (gp_pr b a_patterns)) w.2.1; omega
      · have a1 := (gq_rk_le pa hp).mp q
        have a2 := (gq_rk_le pb hp).mp r
        refine pk_eq (gq_rk (gp_pr b a_patterns) (gp_la b a_patterns j)) (gq_rk (gp_pr b a_patterns) p) (fun q2 => test a1 a2 (Or.inl (gq_rk_inj pa hp q2))) (fun q2 => pk_eq (gq_rk (gp_pr b a_patterns) (gp_lb b a_patterns j)) (gq_rk (gp_pr b a_patterns) p) (fun q3 => test a1 a2 (Or.inr (gq_rk_inj pb hp q3))) (fun q3 => skip (fun w => ?_)))
        rcases w.2.2 with y | y
        · exact q2 (by rw [y])
        · exact q3 (by rw [y])
    · subst e
      exact br_t rfl ⟨gn_n0, z⟩
end GYS
end
section
/-! the reference's search: a part fits, is raised; the search goes on -/
theorem gy_CHu {pr : Nat → Prop} {p c : Nat} {s : Nat → Nat} {ch : Nat → Int32} (h : gy_CH pr p s ch) (hc : ch (gq_rk pr p) = nI c) : gy_CH pr (p + 1) (gq_up s p c) ch := fun q hq hp => by
  by_cases e : q = p
  · subst e; rw [gq_us]; exact hc
  · rw [gq_un e]; exact h q (by omega) hp
theorem gy_CHk {pr : Nat → Prop} {p : Nat} {s : Nat → Nat} {ch : Nat → Int32} {x : Int32} (h : gy_CH pr p s ch) : gy_CH pr p s (upd ch (gq_rk pr p) x) := fun q hq hp => by
  rw [pk_un (Nat.ne_of_lt (gq_rk_lt hp hq))]; exact h q hq hp
section GYA
variable {b : Nat} {a_nodeThere a_labels a_values a_edgeThere a_froms a_tos a_whats a_patterns a_parts a_chosen : Nat → Int32}
theorem gy_fits {post : Int32 → Prop} {p c : Nat} {s : Nat → Nat} (hP : gy_P b a_patterns) (hT : ∀ e, a_edgeThere e = 0 ∨ a_edgeThere e = 1) (hNT : ∀ n, a_nodeThere n = 0 ∨ a_nodeThere n = 1) (hPT : gy_PT (gp_pr b a_patterns) a_parts) (hp8 : p < 8) (hp : gp_pr b a_patterns p) (hCH : gy_CH (gp_pr b a_patterns) p s a_chosen) (hc : a_chosen (gq_rk (gp_pr b a_patterns) p) = nI c) (hs : ∀ q, q < p → gp_pr b a_patterns q → s q < gq_lim q) (hcl : c < gq_lim p)
    (h1 : (gp_ok (gp_pr b a_patterns) (gp_l1 b a_patterns) (gp_la b a_patterns) (gp_lb b a_patterns) (gp_sp b a_patterns a_nodeThere a_labels a_values) (gp_wy b a_patterns a_edgeThere a_froms a_tos a_whats) (gp_ed b a_patterns a_edgeThere a_froms a_tos a_whats) (gp_dn b a_patterns) (gp_de b a_patterns)) p s c → post 1) (h0 : ¬ (gp_ok (gp_pr b a_patterns) (gp_l1 b a_patterns) (gp_la b a_patterns) (gp_lb b a_patterns) (gp_sp b a_patterns a_nodeThere a_labels a_values) (gp_wy b a_patterns a_edgeThere a_froms a_tos a_whats) (gp_ed b a_patterns a_edgeThere a_froms a_tos a_whats) (gp_dn b a_patterns) (gp_de b a_patterns)) p s c → post 0) : wpY_fits post (nI (33 * b), nI (gq_rk (gp_pr b a_patterns) 8), a_nodeThere, a_labels, a_values, a_edgeThere, a_froms, a_tos, a_whats, a_patterns, a_parts, a_chosen) (nI (gq_rk (gp_pr b a_patterns) p)) := by
  have hP' := hP
  obtain ⟨hb, hm, hK⟩ := hP'
  have hr : gq_rk (gp_pr b a_patterns) p < 8 := Nat.lt_of_le_of_lt (gq_rk_id p) hp8
  have cr : (nI (gq_rk (gp_pr b a_patterns) p)).toNatClampNeg = gq_rk (gp_pr b a_patterns) p := nI_clamp (by omega)
  have wr : vp_in (nI (gq_rk (gp_pr b a_patterns) p)) 8 := vp_in_nI hr (by decide)
  have c20 : c < 20 := Nat.lt_of_lt_of_le hcl (gq_lim20 p)
  have cc : (nI c).toNatClampNeg = c := nI_clamp (by omega)
  have hs100 : ∀ q, q < p → gp_pr b a_patterns q → s q < 100 := fun q hq hpq => by
    have := hs q hq hpq
    have := gq_lim20 q
    omega
  refine ⟨wr, nm_r (e' := nI p) (by rw [cr]; exact hPT p hp8 hp) ⟨wr, nm_r (e' := nI c) (by rw [cr]; exact hc) ?_⟩⟩
  by_cases h4 : 4 ≤ p
  · obtain ⟨j, rfl⟩ : ∃ j, p = 4 + j := ⟨p - 4, by omega⟩
    have hj : j < 4 := by omega
    rw [gq_lim8] at hcl
    obtain ⟨eab, pa, pb⟩ := hK j hj (Or.inl hp)
    obtain ⟨la4, lb4⟩ := gp_la4 (b := b) (pat := a_patterns) j
    have er : nI (gp_la b a_patterns j + 4 * gp_lb b a_patterns j) - nI (gp_la b a_patterns j + 4 * gp_lb b a_patterns j) / 4 * 4 = nI (gp_la b a_patterns j) := by
      have := pk_rem (a := gp_la b a_patterns j + 4 * gp_lb b a_patterns j) (d := 4) (by omega) (by decide) (by decide)
      rw [show (gp_la b a_patterns j + 4 * gp_lb b a_patterns j) % 4 = gp_la b a_patterns j by omega] at this
      exact this
    have ed : nI (gp_la b a_patterns j + 4 * gp_lb b a_patterns j) / 4 = nI (gp_lb b a_patterns j) := by
      have := pk_div (a := gp_la b a_patterns j + 4 * gp_lb b a_patterns j) (d := 4) (by omega) (by decide) (by decide)
      rw [show (gp_la b a_patterns j + 4 * gp_lb b a_patterns j) / 4 = gp_lb b a_patterns j by omega] at this
      exact this
    have oki : (gp_ok (gp_pr b a_patterns) (gp_l1 b a_patterns) (gp_la b a_patterns) (gp_lb b a_patterns) (gp_sp b a_patterns a_nodeThere a_labels a_values) (gp_wy b a_patterns a_edgeThere a_froms a_tos a_whats) (gp_ed b a_patterns a_edgeThere a_froms a_tos a_whats) (gp_dn b a_patterns) (gp_de b a_patterns)) (4 + j) s c ↔ gp_ed b a_patterns a_edgeThere a_froms a_tos a_whats j c (s (gp_la b a_patterns j)) (s (gp_lb b a_patterns j)) ∧ (gp_de b a_patterns → ∀ q, q < 4 + j → 4 ≤ q → gp_pr b a_patterns q → s q ≠ c) := by
      unfold gp_ok
      rw [show 4 + j - 4 = j by omega]
      exact ⟨fun z => z.2 (by omega), fun z => ⟨fun y => by omega, fun _ => z⟩⟩
    have ra : gq_rk (gp_pr b a_patterns) (gp_la b a_patterns j) < 8 := Nat.lt_of_le_of_lt (gq_rk_id _) (by omega)
    have rb : gq_rk (gp_pr b a_patterns) (gp_lb b a_patterns j) < 8 := Nat.lt_of_le_of_lt (gq_rk_id _) (by omega)
    have bad : ¬ gp_ed b a_patterns a_edgeThere a_froms a_tos a_whats j c (s (gp_la b a_patterns j)) (s (gp_lb b a_patterns j)) → wY_fits_211 post (nI (gq_rk (gp_pr b a_patterns) (4 + j))) (nI (33 * b)) (nI (gq_rk (gp_pr b a_patterns) 8)) a_nodeThere a_labels a_values a_edgeThere a_froms a_tos a_whats a_patterns a_parts a_chosen := fun no =>
      br_t rfl (h0 (fun z => no (oki.mp z).1))
    have wc : vp_in (nI c) 20 := vp_in_nI hcl (by decide)
    refine br_t (nI_le (a := 4) (by omega) (by omega)) (nm_r (e' := nI j) (by
      have := pk_sub (a := 4 + j) (b := 4) (by omega)
      rw [show 4 + j - 4 = j by omega] at this
      exact this) ?_)
    refine gy_at2 hb 25 j (by omega) (gy_typed hcl hT (fun ty => br_f gn_10 ⟨wc, ?_⟩) (fun ty => br_t rfl (bad (fun z => ty z.1))))
    refine gy_at2 hb 21 j (by omega) ⟨gn_d4, ?_⟩
    rw [eab, er, cc]
    refine gy_pl hPT (by omega) (Or.inl ⟨pa, rfl⟩) ⟨vp_in_nI ra (by decide), ?_⟩
    rw [nI_clamp (n := gq_rk (gp_pr b a_patterns) (gp_la b a_patterns j)) (by omega), hCH _ (by omega) pa]
    refine br_c (fun f1 => ⟨wc, ?_⟩) (fun f1 => bad (fun z => f1 z.2.1))
    refine gy_at2 hb 21 j (by omega) ⟨gn_d4, ?_⟩
    rw [eab, ed]
    refine gy_pl hPT (by omega) (Or.inl ⟨pb, rfl⟩) ⟨vp_in_nI rb (by decide), ?_⟩
    rw [nI_clamp (n := gq_rk (gp_pr b a_patterns) (gp_lb b a_patterns j)) (by omega), hCH _ (by omega) pb]
    refine br_c (fun f2 => br_f gn_10 (gy_at (c := 0) hb (by omega) (br_c (fun g => h1 (oki.mpr ⟨⟨ty, f1, f2⟩, fun d => absurd g d⟩)) (fun g => ?_)))) (fun f2 => bad (fun z => f2 z.2.2))
    refine gy_taken hPT hp8 hp hCH hc hs100 (by omega) (fun q q1 q2 q3 q4 => br_f gn_10 (h0 (fun z => (oki.mp z).2 g q q1 (by omega) q2 q4))) (fun q => br_t rfl (h1 (oki.mpr ⟨⟨ty, f1, f2⟩, fun _ q' q1 q2 q3 => q q' q1 q3 (by omega)⟩)))
  · have h4 : p < 4 := by omega
    rw [gq_lim4 h4] at hcl
    have wc : vp_in (nI c) 12 := vp_in_nI hcl (by decide)
    have oki : (gp_ok (gp_pr b a_patterns) (gp_l1 b a_patterns) (gp_la b a_patterns) (gp_lb b a_patterns) (gp_sp b a_patterns a_nodeThere a_labels a_values) (gp_wy b a_patterns a_edgeThere a_froms a_tos a_whats) (gp_ed b a_patterns a_edgeThere a_froms a_tos a_whats) (gp_dn b a_patterns) (gp_de b a_patterns)) p s c ↔ gp_sp b a_patterns a_nodeThere a_labels a_values p c ∧ (gp_dn b a_patterns → ∀ q, q < p → gp_pr b a_patterns q → s q ≠ c) ∧ (∀ j, j < 4 → gp_l1 b a_patterns j → gp_la b a_patterns j ≤ p → gp_lb b a_patterns j ≤ p → (gp_la b a_patterns j = p ∨ gp_lb b a_patterns j = p) → gp_wy b a_patterns a_edgeThere a_froms a_tos a_whats j (gq_up s p c (gp_la b a_patterns j)) (gq_up s p c (gp_lb b a_patterns j))) := by
      unfold gp_ok
      exact ⟨fun z => z.1 h4, fun z => ⟨fun _ => z, fun y => by omega⟩⟩
    have bad : ¬ gp_sp b a_patterns a_nodeThere a_labels a_values p c → wY_fits_86 post (nI (gq_rk (gp_pr b a_patterns) p)) (nI (33 * b)) (nI (gq_rk (gp_pr b a_patterns) 8)) a_nodeThere a_labels a_values a_edgeThere a_froms a_tos a_whats a_patterns a_parts a_chosen := fun no =>
      br_t rfl (h0 (fun z => no (oki.mp z).1))
    have last : gp_sp b a_patterns a_nodeThere a_labels a_values p c → (gp_dn b a_patterns → ∀ q, q < p → gp_pr b a_patterns q → s q ≠ c) → wY_fits_113 post (nI (gq_rk (gp_pr b a_patterns) p)) (nI (33 * b)) (nI (gq_rk (gp_pr b a_patterns) 8)) a_nodeThere a_labels a_values a_edgeThere a_froms a_tos a_whats a_patterns a_parts a_chosen := fun g1 g2 => by
      unfold wY_fits_113
      exact gy_waysAt hP hT hPT h4 hp (gy_CHu hCH hc) (fun w => br_f gn_10 (h1 (oki.mpr ⟨g1, g2, w⟩))) (fun j j1 j2 j3 j4 j5 j6 => br_t rfl (h0 (fun z => j6 ((oki.mp z).2.2 j j1 j2 j3 j4 j5))))
    refine br_f (nI_ge (b := 4) h4 (by decide)) ⟨wc, ?_⟩
    rw [cc]
    rcases hNT c with t | t
    · exact br_t t (bad (fun z => gn_10 (z.1.symm.trans t)))
    refine br_f (fun z => gn_10 (t.symm.trans z)) (gy_at2 hb 5 p (by omega) ⟨wc, br_c (fun g1 => ⟨wc, gy_at2 hb 9 p (by omega) (br_c (fun g2 => bad (fun z => z.2.2.1 g2)) (fun g2 => ⟨wc, gy_at2 hb 13 p (by omega) (br_c (fun g3 => bad (fun z => z.2.2.2 g3)) (fun g3 => ?_))⟩))⟩) (fun g1 => bad (fun z => g1 z.2.1))⟩)
    have g : gp_sp b a_patterns a_nodeThere a_labels a_values p c := ⟨t, g1, g2, g3⟩
    refine br_f gn_10 (gy_at (c := 0) hb (by omega) ⟨gn_d2, br_c (fun d => ?_) (fun d => last g (fun z => absurd z d))⟩)
    refine gy_taken hPT hp8 hp hCH hc hs100 (by omega) (fun q q1 q2 q3 q4 => br_f gn_10 (h0 (fun z => (oki.mp z).2.1 d q q1 q2 q4))) (fun q => br_t rfl (last g (fun _ q' q1 q2 => q q' q1 q2 (by omega))))
theorem gy_r28 {post : Int32 → SY → Prop} {p c0 : Nat} {s : Nat → Nat} (hP : gy_P b a_patterns) (hT : ∀ e, a_edgeThere e = 0 ∨ a_edgeThere e = 1) (hNT : ∀ n, a_nodeThere n = 0 ∨ a_nodeThere n = 1) (hPT : gy_PT (gp_pr b a_patterns) a_parts) (hp8 : p < 8) (hp : gp_pr b a_patterns p) (hs : ∀ q, q < p → gp_pr b a_patterns q → s q < gq_lim q)
    (h0 : (∀ i, c0 ≤ i → i < gq_lim p → ¬ (gp_ok (gp_pr b a_patterns) (gp_l1 b a_patterns) (gp_la b a_patterns) (gp_lb b a_patterns) (gp_sp b a_patterns a_nodeThere a_labels a_values) (gp_wy b a_patterns a_edgeThere a_froms a_tos a_whats) (gp_ed b a_patterns a_edgeThere a_froms a_tos a_whats) (gp_dn b a_patterns) (gp_de b a_patterns)) p s i) → ∀ ch, gy_CH (gp_pr b a_patterns) p s ch → post 0 (nI (33 * b), nI (gq_rk (gp_pr b a_patterns) 8), a_nodeThere, a_labels, a_values, a_edgeThere, a_froms, a_tos, a_whats, a_patterns, a_parts, ch))
    (h1 : ∀ c, c0 ≤ c → c < gq_lim p → (∀ i, c0 ≤ i → i < c → ¬ (gp_ok (gp_pr b a_patterns) (gp_l1 b a_patterns) (gp_la b a_patterns) (gp_lb b a_patterns) (gp_sp b a_patterns a_nodeThere a_labels a_values) (gp_wy b a_patterns a_edgeThere a_froms a_tos a_whats) (gp_ed b a_patterns a_edgeThere a_froms a_tos a_whats) (gp_dn b a_patterns) (gp_de b a_patterns)) p s i) → (gp_ok (gp_pr b a_patterns) (gp_l1 b a_patterns) (gp_la b a_patterns) (gp_lb b a_patterns) (gp_sp b a_patterns a_nodeThere a_labels a_values) (gp_wy b a_patterns a_edgeThere a_froms a_tos a_whats) (gp_ed b a_patterns a_edgeThere a_froms a_tos a_whats) (gp_dn b a_patterns) (gp_de b a_patterns)) p s c → ∀ ch, gy_CH (gp_pr b a_patterns) (p + 1) (gq_up s p c) ch → post 1 (nI (33 * b), nI (gq_rk (gp_pr b a_patterns) 8), a_nodeThere, a_labels, a_values, a_edgeThere, a_froms, a_tos, a_whats, a_patterns, a_parts, ch)) :
    ∀ r n c ch, c + r = gq_lim p → r < n → c0 ≤ c → (∀ i, c0 ≤ i → i < c → ¬ (gp_ok (gp_pr b a_patterns) (gp_l1 b a_patterns) (gp_la b a_patterns) (gp_lb b a_patterns) (gp_sp b a_patterns a_nodeThere a_labels a_values) (gp_wy b a_patterns a_edgeThere a_froms a_tos a_whats) (gp_ed b a_patterns a_edgeThere a_froms a_tos a_whats) (gp_dn b a_patterns) (gp_de b a_patterns)) p s i) → gy_CH (gp_pr b a_patterns) p s ch → ch (gq_rk (gp_pr b a_patterns) p) = nI c → wY_raise_28 post (nI (gq_rk (gp_pr b a_patterns) p)) (nI (gq_lim p)) (nI (33 * b)) (nI (gq_rk (gp_pr b a_patterns) 8)) n a_nodeThere a_labels a_values a_edgeThere a_froms a_tos a_whats a_patterns a_parts ch := by
  have hr : gq_rk (gp_pr b a_patterns) p < 8 := Nat.lt_of_le_of_lt (gq_rk_id p) hp8
  have cr : (nI (gq_rk (gp_pr b a_patterns) p)).toNatClampNeg = gq_rk (gp_pr b a_patterns) p := nI_clamp (by omega)
  have wr : vp_in (nI (gq_rk (gp_pr b a_patterns) p)) 8 := vp_in_nI hr (by decide)
  have l20 := gq_lim20 p
  intro r
  induction r with
  | zero =>
    intro n c ch e hn hc0 hno hCH hc
    obtain ⟨m, rfl⟩ : ∃ m, n = m + 1 := ⟨n - 1, by omega⟩
    obtain rfl : c = gq_lim p := by omega
    have le : nI (gq_lim p) ≤ ch (nI (gq_rk (gp_pr b a_patterns) p)).toNatClampNeg := by rw [cr, hc]; exact nI_le (Nat.le_refl _) (by omega)
    exact ⟨wr, br_t le ⟨wr, br_t le (h0 hno ch hCH)⟩⟩
  | succ r ih =>
    intro n c ch e hn hc0 hno hCH hc
    obtain ⟨m, rfl⟩ : ∃ m, n = m + 1 := ⟨n - 1, by omega⟩
    have nle : ¬ nI (gq_lim p) ≤ ch (nI (gq_rk (gp_pr b a_patterns) p)).toNatClampNeg := by rw [cr, hc]; exact nI_ge (by omega) (by omega)
    refine ⟨wr, br_f nle (gy_fits hP hT hNT hPT hp8 hp hCH hc hs (by omega) (fun o => br_f gn_10 ⟨wr, br_f nle (h1 c hc0 (by omega) hno o ch (gy_CHu hCH hc))⟩) (fun o => br_t rfl ⟨wr, wr, nm_r (e' := upd ch (gq_rk (gp_pr b a_patterns) p) (nI (c + 1))) (by rw [cr, hc, nI_1]) (ih m (c + 1) _ (by omega) (by omega) (by omega) (fun i i1 i2 => ?_) (gy_CHk hCH) pk_us)⟩))⟩
    by_cases z : i = c
    · subst z; exact o
    · exact hno i i1 (by omega)
theorem gy_raise {post : Int32 → SY → Prop} {p c0 : Nat} {s : Nat → Nat} (hP : gy_P b a_patterns) (hT : ∀ e, a_edgeThere e = 0 ∨ a_edgeThere e = 1) (hNT : ∀ n, a_nodeThere n = 0 ∨ a_nodeThere n = 1) (hPT : gy_PT (gp_pr b a_patterns) a_parts) (hp8 : p < 8) (hp : gp_pr b a_patterns p) (hs : ∀ q, q < p → gp_pr b a_patterns q → s q < gq_lim q) (hc0 : c0 ≤ gq_lim p) (hCH : gy_CH (gp_pr b a_patterns) p s a_chosen) (hc : a_chosen (gq_rk (gp_pr b a_patterns) p) + 1 = nI c0)
    (h0 : (∀ i, c0 ≤ i → i < gq_lim p → ¬ (gp_ok (gp_pr b a_patterns) (gp_l1 b a_patterns) (gp_la b a_patterns) (gp_lb b a_patterns) (gp_sp b a_patterns a_nodeThere a_labels a_values) (gp_wy b a_patterns a_edgeThere a_froms a_tos a_whats) (gp_ed b a_patterns a_edgeThere a_froms a_tos a_whats) (gp_dn b a_patterns) (gp_de b a_patterns)) p s i) → ∀ ch, gy_CH (gp_pr b a_patterns) p s ch → post 0 (nI (33 * b), nI (gq_rk (gp_pr b a_patterns) 8), a_nodeThere, a_labels, a_values, a_edgeThere, a_froms, a_tos, a_whats, a_patterns, a_parts, ch))
    (h1 : ∀ c, c0 ≤ c → c < gq_lim p → (∀ i, c0 ≤ i → i < c → ¬ (gp_ok (gp_pr b a_patterns) (gp_l1 b a_patterns) (gp_la b a_patterns) (gp_lb b a_patterns) (gp_sp b a_patterns a_nodeThere a_labels a_values) (gp_wy b a_patterns a_edgeThere a_froms a_tos a_whats) (gp_ed b a_patterns a_edgeThere a_froms a_tos a_whats) (gp_dn b a_patterns) (gp_de b a_patterns)) p s i) → (gp_ok (gp_pr b a_patterns) (gp_l1 b a_patterns) (gp_la b a_patterns) (gp_lb b a_patterns) (gp_sp b a_patterns a_nodeThere a_labels a_values) (gp_wy b a_patterns a_edgeThere a_froms a_tos a_whats) (gp_ed b a_patterns a_edgeThere a_froms a_tos a_whats) (gp_dn b a_patterns) (gp_de b a_patterns)) p s c → ∀ ch, gy_CH (gp_pr b a_patterns) (p + 1) (gq_up s p c) ch → post 1 (nI (33 * b), nI (gq_rk (gp_pr b a_patterns) 8), a_nodeThere, a_labels, a_values, a_edgeThere, a_froms, a_tos, a_whats, a_patterns, a_parts, ch)) : wpY_raise post (nI (33 * b), nI (gq_rk (gp_pr b a_patterns) 8), a_nodeThere, a_labels, a_values, a_edgeThere, a_froms, a_tos, a_whats, a_patterns, a_parts, a_chosen) (nI (gq_rk (gp_pr b a_patterns) p)) := by
  have hr : gq_rk (gp_pr b a_patterns) p < 8 := Nat.lt_of_le_of_lt (gq_rk_id p) hp8
  have cr : (nI (gq_rk (gp_pr b a_patterns) p)).toNatClampNeg = gq_rk (gp_pr b a_patterns) p := nI_clamp (by omega)
  have wr : vp_in (nI (gq_rk (gp_pr b a_patterns) p)) 8 := vp_in_nI hr (by decide)
  have main : wY_raise_17 post (nI (gq_rk (gp_pr b a_patterns) p)) (nI (gq_lim p)) (nI (33 * b)) (nI (gq_rk (gp_pr b a_patterns) 8)) a_nodeThere a_labels a_values a_edgeThere a_froms a_tos a_whats a_patterns a_parts a_chosen :=
    ⟨wr, wr, nm_r (e' := upd a_chosen (gq_rk (gp_pr b a_patterns) p) (nI c0)) (by rw [cr, hc]) ⟨(gq_lim p - c0) + 1, gy_r28 hP hT hNT hPT hp8 hp hs h0 h1 (gq_lim p - c0) _ c0 _ (by omega) (by omega) (Nat.le_refl _) (fun i i1 i2 => by omega) (gy_CHk hCH) pk_us⟩⟩
  refine ⟨wr, ?_⟩
  rw [cr, hPT p hp8 hp]
  by_cases h4 : 4 ≤ p
  · obtain ⟨j, rfl⟩ : ∃ j, p = 4 + j := ⟨p - 4, by omega⟩
    rw [gq_lim8] at main
    exact br_t (nI_le (a := 4) h4 (by omega)) main
  · rw [gq_lim4 (by omega)] at main
    exact br_f (nI_ge (b := 4) (by omega) (by decide)) main
end GYA
end
section
/-! the reference's search: from match to match -/
section GYM
variable {b : Nat} {a_nodeThere a_labels a_values a_edgeThere a_froms a_tos a_whats a_patterns a_parts a_chosen : Nat → Int32}
theorem gy_adv {post : Int32 → SY → Prop} (hP : gy_P b a_patterns) (hT : ∀ e, a_edgeThere e = 0 ∨ a_edgeThere e = 1) (hNT : ∀ n, a_nodeThere n = 0 ∨ a_nodeThere n = 1) (hPT : gy_PT (gp_pr b a_patterns) a_parts) {L : List (Nat → Nat)} (h0 : L = [] → ∀ ch, post 0 (nI (33 * b), nI (gq_rk (gp_pr b a_patterns) 8), a_nodeThere, a_labels, a_values, a_edgeThere, a_froms, a_tos, a_whats, a_patterns, a_parts, ch))
    (h1 : ∀ m ms, L = m :: ms → gx_SB (gp_pr b a_patterns) 8 m → gq_R (gp_pr b a_patterns) (gp_ok (gp_pr b a_patterns) (gp_l1 b a_patterns) (gp_la b a_patterns) (gp_lb b a_patterns) (gp_sp b a_patterns a_nodeThere a_labels a_values) (gp_wy b a_patterns a_edgeThere a_froms a_tos a_whats) (gp_ed b a_patterns a_edgeThere a_froms a_tos a_whats) (gp_dn b a_patterns) (gp_de b a_patterns)) m 8 = ms → ∀ ch, gy_CH (gp_pr b a_patterns) 8 m ch → post 1 (nI (33 * b), nI (gq_rk (gp_pr b a_patterns) 8), a_nodeThere, a_labels, a_values, a_edgeThere, a_froms, a_tos, a_whats, a_patterns, a_parts, ch)) :
    ∀ M n p c s ch, gq_W (gp_pr b a_patterns) s p + (23 - c) * 24 ^ (8 - p) ≤ M → M < n → p < 8 → gp_pr b a_patterns p → c ≤ gq_lim p → gx_SB (gp_pr b a_patterns) p s → (∀ q, q < 8 → ¬ gp_pr b a_patterns q → s q = gq_st q) → gy_CH (gp_pr b a_patterns) p s ch → ch (gq_rk (gp_pr b a_patterns) p) + 1 = nI c → gq_T (gp_pr b a_patterns) (gp_ok (gp_pr b a_patterns) (gp_l1 b a_patterns) (gp_la b a_patterns) (gp_lb b a_patterns) (gp_sp b a_patterns a_nodeThere a_labels a_values) (gp_wy b a_patterns a_edgeThere a_froms a_tos a_whats) (gp_ed b a_patterns a_edgeThere a_froms a_tos a_whats) (gp_dn b a_patterns) (gp_de b a_patterns)) s p c = L → wY_advance_2 post n (nI (gq_rk (gp_pr b a_patterns) p)) (nI (33 * b)) (nI (gq_rk (gp_pr b a_patterns) 8)) a_nodeThere a_labels a_values a_edgeThere a_froms a_tos a_whats a_patterns a_parts ch := by
  have r8 : gq_rk (gp_pr b a_patterns) 8 ≤ 8 := gq_rk_id 8
  have hl : gq_loc (gp_ok (gp_pr b a_patterns) (gp_l1 b a_patterns) (gp_la b a_patterns) (gp_lb b a_patterns) (gp_sp b a_patterns a_nodeThere a_labels a_values) (gp_wy b a_patterns a_edgeThere a_froms a_tos a_whats) (gp_ed b a_patterns a_edgeThere a_froms a_tos a_whats) (gp_dn b a_patterns) (gp_de b a_patterns)) := gp_loc gp_la4
  intro M
  induction M with
  | zero =>
    intro n p c s ch hM hn hp8 hp hc
    exfalso
    have e := gq_lim20 p
    have : 0 < (23 - c) * 24 ^ (8 - p) := Nat.mul_pos (by omega) (Nat.pow_pos (by decide))
    omega
  | succ M ih =>
    intro n p c s ch hM hn hp8 hp hc hSB hst hCH hch hL
    obtain ⟨n, rfl⟩ : ∃ m, n = m + 2 := ⟨n - 2, by omega⟩
    have l20 := gq_lim20 p
    have hpos : 0 < 24 ^ (8 - p) := Nat.pow_pos (by decide)
    have hrp := gq_rk_lt hp hp8
    refine br_f (nI_pos (by omega)) (br_f (nI_ge hrp (by omega)) ?_)
    refine gy_raise hP hT hNT hPT hp8 hp (fun q hq hpq => (hSB q hq).1 hpq) hc hCH hch (fun no ch' hCH' => br_t rfl ?_) (fun c' a1 a2 a3 a4 ch' hCH' => br_f gn_10 ?_)
    · have eR : gq_R (gp_pr b a_patterns) (gp_ok (gp_pr b a_patterns) (gp_l1 b a_patterns) (gp_la b a_patterns) (gp_lb b a_patterns) (gp_sp b a_patterns a_nodeThere a_labels a_values) (gp_wy b a_patterns a_edgeThere a_froms a_tos a_whats) (gp_ed b a_patterns a_edgeThere a_froms a_tos a_whats) (gp_dn b a_patterns) (gp_de b a_patterns)) s p = L := by rw [← gq_miss no]; exact hL
      rcases gq_down (pr := (gp_pr b a_patterns)) (ok := (gp_ok (gp_pr b a_patterns) (gp_l1 b a_patterns) (gp_la b a_patterns) (gp_lb b a_patterns) (gp_sp b a_patterns a_nodeThere a_labels a_values) (gp_wy b a_patterns a_edgeThere a_froms a_tos a_whats) (gp_ed b a_patterns a_edgeThere a_froms a_tos a_whats) (gp_dn b a_patterns) (gp_de b a_patterns))) (s := s) p with ⟨z1, z2⟩ | ⟨q, q1, q2, q3, q4, q5⟩
      · rw [z1]
        refine nm_r (e' := (-1)) (by decide) ?_
        exact br_t (by decide) (br_t (by decide) (h0 (eR.symm.trans z2) ch'))
      · rw [← q3]
        refine nm_r (pk_m1 _) ?_
        have sq := (hSB q q1).1 q2
        refine ih (n + 1) q (s q + 1) s ch' ?_ (by omega) (by omega) q2 (by omega) (fun r hr => hSB r (by omega)) hst (fun r hr => hCH' r (by omega)) ?_ (by rw [← q4]; exact eR)
        · rw [show 23 - (s q + 1) = 22 - s q by omega, ← q5]
          have : 0 < (23 - c) * 24 ^ (8 - p) := Nat.mul_pos (by omega) hpos
          omega
        · rw [hCH' q q1 q2, nI_1]
    · have hSB' : gx_SB (gp_pr b a_patterns) (p + 1) (gq_up s p c') := gx_SBu hSB ⟨fun _ => a2, fun z => absurd hp z⟩
      have hst' : ∀ q, q < 8 → ¬ gp_pr b a_patterns q → gq_up s p c' q = gq_st q := fun q hq hn => by
        rw [gq_un (fun e => hn (by rw [e]; exact hp))]; exact hst q hq hn
      have eT := gq_hit (pr := (gp_pr b a_patterns)) hl hp8 hp a1 a2 a3 a4
      rw [hL] at eT
      refine nm_r (nI_1 _) ?_
      rw [← gq_rk1 hp]
      rcases gq_next (pr := (gp_pr b a_patterns)) (ok := (gp_ok (gp_pr b a_patterns) (gp_l1 b a_patterns) (gp_la b a_patterns) (gp_lb b a_patterns) (gp_sp b a_patterns a_nodeThere a_labels a_values) (gp_wy b a_patterns a_edgeThere a_froms a_tos a_whats) (gp_ed b a_patterns a_edgeThere a_froms a_tos a_whats) (gp_dn b a_patterns) (gp_de b a_patterns))) hst' (8 - (p + 1)) (p + 1) (by omega) with ⟨q, q1, q2, q3, q4, q5, q6⟩ | ⟨z1, z2⟩
      · rw [← q4]
        have hrq := gq_rk_lt q3 q2
        refine br_f (nI_ge hrq (by omega)) ⟨vp_in_nI (by omega) (by decide), nm_r (e' := upd ch' (gq_rk (gp_pr b a_patterns) q) (-1)) (by rw [nI_clamp (by omega)]) ?_⟩
        have none : ∀ r, r < q → gp_pr b a_patterns r → r < p + 1 := fun r hr hr' => by
          rcases Nat.lt_or_ge r (p + 1) with y | y
          · exact y
          · have := gq_rk_lt hr' hr
            have := gq_rk_mono (pr := (gp_pr b a_patterns)) y
            omega
        refine ih (n + 1) q 0 (gq_up s p c') _ ?_ (by omega) q2 q3 (Nat.zero_le _) (fun r hr => ⟨fun hr' => (hSB' r (none r hr hr')).1 hr', fun hr' => hst' r (by omega) hr'⟩) hst' (gy_CHk (fun r hr hr' => hCH' r (none r hr hr') hr')) (by rw [pk_us]; decide) (by rw [← q5]; exact eT.symm)
        rw [q6, gq_W1 hp, gq_us, gq_Wc (t := s) p (fun r hr => gq_un (by omega))]
        have := gq_mu (p := p) (q := q) (c := c) (c' := c') (W := gq_W (gp_pr b a_patterns) s p) (B := 0) (by omega) q2 a1 (by omega)
        omega
      · rw [z1]
        have ge : nI (gq_rk (gp_pr b a_patterns) 8) ≤ nI (gq_rk (gp_pr b a_patterns) 8) := nI_le (Nat.le_refl _) (by omega)
        have pos : ¬ nI (gq_rk (gp_pr b a_patterns) 8) < 0 := nI_pos (by omega)
        have none : ∀ r, r < 8 → gp_pr b a_patterns r → r < p + 1 := fun r hr hr' => by
          rcases Nat.lt_or_ge r (p + 1) with y | y
          · exact y
          · have := gq_rk_lt hr' hr
            have := gq_rk_mono (pr := (gp_pr b a_patterns)) y
            omega
        exact br_t ge (br_f pos (br_t ge (br_f pos (h1 (gq_up s p c') _ (eT.trans z2) (fun r hr => ⟨fun hr' => (hSB' r (none r hr hr')).1 hr', fun hr' => hst' r hr hr'⟩) rfl ch' (fun r hr hr' => hCH' r (none r hr hr') hr')))))
theorem gy_next {post : Int32 → SY → Prop} (hP : gy_P b a_patterns) (hT : ∀ e, a_edgeThere e = 0 ∨ a_edgeThere e = 1) (hNT : ∀ n, a_nodeThere n = 0 ∨ a_nodeThere n = 1) (hPT : gy_PT (gp_pr b a_patterns) a_parts) {m : Nat → Nat} {ms : List (Nat → Nat)} (hSB : gx_SB (gp_pr b a_patterns) 8 m) (hR : gq_R (gp_pr b a_patterns) (gp_ok (gp_pr b a_patterns) (gp_l1 b a_patterns) (gp_la b a_patterns) (gp_lb b a_patterns) (gp_sp b a_patterns a_nodeThere a_labels a_values) (gp_wy b a_patterns a_edgeThere a_froms a_tos a_whats) (gp_ed b a_patterns a_edgeThere a_froms a_tos a_whats) (gp_dn b a_patterns) (gp_de b a_patterns)) m 8 = ms) (hCH : gy_CH (gp_pr b a_patterns) 8 m a_chosen) (h0 : ms = [] → ∀ ch, post 0 (nI (33 * b), nI (gq_rk (gp_pr b a_patterns) 8), a_nodeThere, a_labels, a_values, a_edgeThere, a_froms, a_tos, a_whats, a_patterns, a_parts, ch))
    (h1 : ∀ m' ms', ms = m' :: ms' → gx_SB (gp_pr b a_patterns) 8 m' → gq_R (gp_pr b a_patterns) (gp_ok (gp_pr b a_patterns) (gp_l1 b a_patterns) (gp_la b a_patterns) (gp_lb b a_patterns) (gp_sp b a_patterns a_nodeThere a_labels a_values) (gp_wy b a_patterns a_edgeThere a_froms a_tos a_whats) (gp_ed b a_patterns a_edgeThere a_froms a_tos a_whats) (gp_dn b a_patterns) (gp_de b a_patterns)) m' 8 = ms' → ∀ ch, gy_CH (gp_pr b a_patterns) 8 m' ch → post 1 (nI (33 * b), nI (gq_rk (gp_pr b a_patterns) 8), a_nodeThere, a_labels, a_values, a_edgeThere, a_froms, a_tos, a_whats, a_patterns, a_parts, ch)) : wpY_next post (nI (33 * b), nI (gq_rk (gp_pr b a_patterns) 8), a_nodeThere, a_labels, a_values, a_edgeThere, a_froms, a_tos, a_whats, a_patterns, a_parts, a_chosen) := by
  have r8 : gq_rk (gp_pr b a_patterns) 8 ≤ 8 := gq_rk_id 8
  rcases gq_down (pr := (gp_pr b a_patterns)) (ok := (gp_ok (gp_pr b a_patterns) (gp_l1 b a_patterns) (gp_la b a_patterns) (gp_lb b a_patterns) (gp_sp b a_patterns a_nodeThere a_labels a_values) (gp_wy b a_patterns a_edgeThere a_froms a_tos a_whats) (gp_ed b a_patterns a_edgeThere a_froms a_tos a_whats) (gp_dn b a_patterns) (gp_de b a_patterns))) (s := m) 8 with ⟨z1, z2⟩ | ⟨q, q1, q2, q3, q4, q5⟩
  · exact br_t (by rw [z1]; decide) (h0 (hR.symm.trans z2) a_chosen)
  · have sq := (hSB q q1).1 q2
    refine br_f (nI_nle (by omega) (by omega)) ?_
    rw [show nI (gq_rk (gp_pr b a_patterns) 8) - 1 = nI (gq_rk (gp_pr b a_patterns) q) by rw [← q3]; exact nI_pred _]
    refine ⟨_, gy_adv (post := fun r u => match u with | (f_base, f_many, a_nodeThere, a_labels, a_values, a_edgeThere, a_froms, a_tos, a_whats, a_patterns, a_parts, a_chosen) => (((r = 0 → (post 0 (f_base, f_many, a_nodeThere, a_labels, a_values, a_edgeThere, a_froms, a_tos, a_whats, a_patterns, a_parts, a_chosen))) ∧ (¬ r = 0 → (post 1 (f_base, f_many, a_nodeThere, a_labels, a_values, a_edgeThere, a_froms, a_tos, a_whats, a_patterns, a_parts, a_chosen)))))) hP hT hNT hPT (L := ms) (fun e ch => br_t rfl (h0 e ch)) (fun m' ms' e k1 k2 ch k3 => br_f gn_10 (h1 m' ms' e k1 k2 ch k3)) _ _ q (m q + 1) m a_chosen (Nat.le_refl _) (Nat.lt_succ_self _) q1 q2 (by omega) (fun r hr => hSB r (by omega)) (fun r hr hr' => (hSB r hr).2 hr') (fun r hr => hCH r (by omega)) (by rw [hCH q q1 q2, nI_1]) (by rw [← q4]; exact hR)⟩
theorem gy_first {post : Int32 → SY → Prop} {f_base f_many : Int32} (hP : gy_P b a_patterns) (hT : ∀ e, a_edgeThere e = 0 ∨ a_edgeThere e = 1) (hNT : ∀ n, a_nodeThere n = 0 ∨ a_nodeThere n = 1) (h0 : gq_E (gp_pr b a_patterns) (gp_ok (gp_pr b a_patterns) (gp_l1 b a_patterns) (gp_la b a_patterns) (gp_lb b a_patterns) (gp_sp b a_patterns a_nodeThere a_labels a_values) (gp_wy b a_patterns a_edgeThere a_froms a_tos a_whats) (gp_ed b a_patterns a_edgeThere a_froms a_tos a_whats) (gp_dn b a_patterns) (gp_de b a_patterns)) 8 gq_st = [] → ∀ pt ch, post 0 (nI (33 * b), nI (gq_rk (gp_pr b a_patterns) 8), a_nodeThere, a_labels, a_values, a_edgeThere, a_froms, a_tos, a_whats, a_patterns, pt, ch))
    (h1 : ∀ m ms, gq_E (gp_pr b a_patterns) (gp_ok (gp_pr b a_patterns) (gp_l1 b a_patterns) (gp_la b a_patterns) (gp_lb b a_patterns) (gp_sp b a_patterns a_nodeThere a_labels a_values) (gp_wy b a_patterns a_edgeThere a_froms a_tos a_whats) (gp_ed b a_patterns a_edgeThere a_froms a_tos a_whats) (gp_dn b a_patterns) (gp_de b a_patterns)) 8 gq_st = m :: ms → gx_SB (gp_pr b a_patterns) 8 m → gq_R (gp_pr b a_patterns) (gp_ok (gp_pr b a_patterns) (gp_l1 b a_patterns) (gp_la b a_patterns) (gp_lb b a_patterns) (gp_sp b a_patterns a_nodeThere a_labels a_values) (gp_wy b a_patterns a_edgeThere a_froms a_tos a_whats) (gp_ed b a_patterns a_edgeThere a_froms a_tos a_whats) (gp_dn b a_patterns) (gp_de b a_patterns)) m 8 = ms → ∀ pt ch, gy_PT (gp_pr b a_patterns) pt → gy_CH (gp_pr b a_patterns) 8 m ch → post 1 (nI (33 * b), nI (gq_rk (gp_pr b a_patterns) 8), a_nodeThere, a_labels, a_values, a_edgeThere, a_froms, a_tos, a_whats, a_patterns, pt, ch)) : wpY_first post (f_base, f_many, a_nodeThere, a_labels, a_values, a_edgeThere, a_froms, a_tos, a_whats, a_patterns, a_parts, a_chosen) (nI b) := by
  unfold wpY_first
  refine nm_r (e' := nI (33 * b)) (show nI 33 * nI b = _ from pk_mul 33 b) ?_
  refine gy_order hP.1 (fun pt hPT => nm_e ?_)
  have r8 : gq_rk (gp_pr b a_patterns) 8 ≤ 8 := gq_rk_id 8
  rcases gq_next (pr := (gp_pr b a_patterns)) (ok := (gp_ok (gp_pr b a_patterns) (gp_l1 b a_patterns) (gp_la b a_patterns) (gp_lb b a_patterns) (gp_sp b a_patterns a_nodeThere a_labels a_values) (gp_wy b a_patterns a_edgeThere a_froms a_tos a_whats) (gp_ed b a_patterns a_edgeThere a_froms a_tos a_whats) (gp_dn b a_patterns) (gp_de b a_patterns))) (s := gq_st) (fun _ _ _ => rfl) 8 0 rfl with ⟨q, q1, q2, q3, q4, q5, q6⟩ | ⟨z1, z2⟩
  · have hrq := gq_rk_lt q3 q2
    have q4' : gq_rk (gp_pr b a_patterns) q = 0 := q4
    have none : ∀ r, r < q → ¬ gp_pr b a_patterns r := fun r hr hr' => by
      have := gq_rk_lt hr' hr
      omega
    have hL : gq_T (gp_pr b a_patterns) (gp_ok (gp_pr b a_patterns) (gp_l1 b a_patterns) (gp_la b a_patterns) (gp_lb b a_patterns) (gp_sp b a_patterns a_nodeThere a_labels a_values) (gp_wy b a_patterns a_edgeThere a_froms a_tos a_whats) (gp_ed b a_patterns a_edgeThere a_froms a_tos a_whats) (gp_dn b a_patterns) (gp_de b a_patterns)) gq_st q 0 = gq_E (gp_pr b a_patterns) (gp_ok (gp_pr b a_patterns) (gp_l1 b a_patterns) (gp_la b a_patterns) (gp_lb b a_patterns) (gp_sp b a_patterns a_nodeThere a_labels a_values) (gp_wy b a_patterns a_edgeThere a_froms a_tos a_whats) (gp_ed b a_patterns a_edgeThere a_froms a_tos a_whats) (gp_dn b a_patterns) (gp_de b a_patterns)) 8 gq_st := q5.symm.trans (List.append_nil _)
    refine br_f (nI_ne0 (by omega) (by omega)) ?_
    have key := gy_adv (post := fun r u => match u with | (f_base, f_many, a_nodeThere, a_labels, a_values, a_edgeThere, a_froms, a_tos, a_whats, a_patterns, a_parts, a_chosen) => (((r = 0 → (post 0 (f_base, f_many, a_nodeThere, a_labels, a_values, a_edgeThere, a_froms, a_tos, a_whats, a_patterns, a_parts, a_chosen))) ∧ (¬ r = 0 → (post 1 (f_base, f_many, a_nodeThere, a_labels, a_values, a_edgeThere, a_froms, a_tos, a_whats, a_patterns, a_parts, a_chosen)))))) hP hT hNT hPT (L := gq_E (gp_pr b a_patterns) (gp_ok (gp_pr b a_patterns) (gp_l1 b a_patterns) (gp_la b a_patterns) (gp_lb b a_patterns) (gp_sp b a_patterns a_nodeThere a_labels a_values) (gp_wy b a_patterns a_edgeThere a_froms a_tos a_whats) (gp_ed b a_patterns a_edgeThere a_froms a_tos a_whats) (gp_dn b a_patterns) (gp_de b a_patterns)) 8 gq_st) (fun e ch => br_t rfl (h0 e pt ch)) (fun m' ms' e k1 k2 ch k3 => br_f gn_10 (h1 m' ms' e k1 k2 pt ch hPT k3)) _ _ q 0 gq_st (upd a_chosen 0 (-1)) (Nat.le_refl _) (Nat.lt_succ_self _) q2 q3 (Nat.zero_le _) (fun r hr => ⟨fun hr' => absurd hr' (none r hr), fun _ => rfl⟩) (fun _ _ _ => rfl) (fun r hr hr' => absurd hr' (none r hr)) (by rw [q4']; exact (by decide : (-1 : Int32) + 1 = nI 0)) hL
    rw [q4'] at key
    exact ⟨_, key⟩
  · have z1' : gq_rk (gp_pr b a_patterns) 8 = 0 := z1.symm
    have z2' : gq_E (gp_pr b a_patterns) (gp_ok (gp_pr b a_patterns) (gp_l1 b a_patterns) (gp_la b a_patterns) (gp_lb b a_patterns) (gp_sp b a_patterns a_nodeThere a_labels a_values) (gp_wy b a_patterns a_edgeThere a_froms a_tos a_whats) (gp_ed b a_patterns a_edgeThere a_froms a_tos a_whats) (gp_dn b a_patterns) (gp_de b a_patterns)) 8 gq_st = gq_st :: gq_R (gp_pr b a_patterns) (gp_ok (gp_pr b a_patterns) (gp_l1 b a_patterns) (gp_la b a_patterns) (gp_lb b a_patterns) (gp_sp b a_patterns a_nodeThere a_labels a_values) (gp_wy b a_patterns a_edgeThere a_froms a_tos a_whats) (gp_ed b a_patterns a_edgeThere a_froms a_tos a_whats) (gp_dn b a_patterns) (gp_de b a_patterns)) gq_st 8 := (List.append_nil _).symm.trans z2
    have none : ∀ r, r < 8 → ¬ gp_pr b a_patterns r := fun r hr hr' => by
      have := gq_rk_lt hr' hr
      omega
    refine br_t (by rw [z1']; rfl) (h1 gq_st _ z2' (fun r hr => ⟨fun hr' => absurd hr' (none r hr), fun _ => rfl⟩) rfl pt _ hPT (fun r hr hr' => absurd hr' (none r hr)))
theorem gy_m8 {post : Int32 → SY → Prop} (hP : gy_P b a_patterns) (hT : ∀ e, a_edgeThere e = 0 ∨ a_edgeThere e = 1) (hNT : ∀ n, a_nodeThere n = 0 ∨ a_nodeThere n = 1) (hPT : gy_PT (gp_pr b a_patterns) a_parts) : ∀ (ms : List (Nat → Nat)) (m : Nat → Nat) (k : Nat) (ch : Nat → Int32), gx_SB (gp_pr b a_patterns) 8 m → gq_R (gp_pr b a_patterns) (gp_ok (gp_pr b a_patterns) (gp_l1 b a_patterns) (gp_la b a_patterns) (gp_lb b a_patterns) (gp_sp b a_patterns a_nodeThere a_labels a_values) (gp_wy b a_patterns a_edgeThere a_froms a_tos a_whats) (gp_ed b a_patterns a_edgeThere a_froms a_tos a_whats) (gp_dn b a_patterns) (gp_de b a_patterns)) m 8 = ms → gy_CH (gp_pr b a_patterns) 8 m ch → (∀ ch, post (nI (k + 1 + ms.length)) (nI (33 * b), nI (gq_rk (gp_pr b a_patterns) 8), a_nodeThere, a_labels, a_values, a_edgeThere, a_froms, a_tos, a_whats, a_patterns, a_parts, ch)) → wY_matches_8 post (ms.length + 2) (nI k) 1 (nI (33 * b)) (nI (gq_rk (gp_pr b a_patterns) 8)) a_nodeThere a_labels a_values a_edgeThere a_froms a_tos a_whats a_patterns a_parts ch := by
  intro ms
  induction ms with
  | nil =>
    intro m k ch hSB hR hCH h
    refine br_f gn_10 (nm_r (nI_1 k) ?_)
    exact gy_next hP hT hNT hPT hSB hR hCH (fun e ch' => br_t rfl (h ch')) (fun m' ms' e k1 k2 ch' k3 => nomatch e)
  | cons a ms ih =>
    intro m k ch hSB hR hCH h
    refine br_f gn_10 (nm_r (nI_1 k) ?_)
    refine gy_next hP hT hNT hPT hSB hR hCH (fun e ch' => nomatch e) (fun m' ms' e k1 k2 ch' k3 => ?_)
    obtain ⟨rfl, rfl⟩ := List.cons.inj e
    refine ih _ (k + 1) ch' k1 k2 k3 (fun ch => ?_)
    have := h ch
    rw [List.length_cons, show k + 1 + (ms.length + 1) = k + 1 + 1 + ms.length by omega] at this
    exact this
theorem gy_matches {post : Int32 → SY → Prop} {f_base f_many : Int32} (hP : gy_P b a_patterns) (hT : ∀ e, a_edgeThere e = 0 ∨ a_edgeThere e = 1) (hNT : ∀ n, a_nodeThere n = 0 ∨ a_nodeThere n = 1) (h : ∀ bs mn pt ch, post (nI (gq_E (gp_pr b a_patterns) (gp_ok (gp_pr b a_patterns) (gp_l1 b a_patterns) (gp_la b a_patterns) (gp_lb b a_patterns) (gp_sp b a_patterns a_nodeThere a_labels a_values) (gp_wy b a_patterns a_edgeThere a_froms a_tos a_whats) (gp_ed b a_patterns a_edgeThere a_froms a_tos a_whats) (gp_dn b a_patterns) (gp_de b a_patterns)) 8 gq_st).length) (bs, mn, a_nodeThere, a_labels, a_values, a_edgeThere, a_froms, a_tos, a_whats, a_patterns, pt, ch)) : wpY_matches post (f_base, f_many, a_nodeThere, a_labels, a_values, a_edgeThere, a_froms, a_tos, a_whats, a_patterns, a_parts, a_chosen) (nI b) := by
  unfold wpY_matches
  refine gy_first hP hT hNT (fun e pt ch => ⟨1, br_t rfl ?_⟩) (fun m ms e k1 k2 pt ch k3 k4 => ⟨ms.length + 2, ?_⟩)
  · have := h (nI (33 * b)) (nI (gq_rk (gp_pr b a_patterns) 8)) pt ch
    rw [e] at this
    exact this
  · refine gy_m8 (post := post) hP hT hNT k3 ms m 0 ch k1 k2 k4 (fun ch => ?_)
    have := h (nI (33 * b)) (nI (gq_rk (gp_pr b a_patterns) 8)) pt ch
    rw [e, List.length_cons, Nat.add_comm] at this
    rw [Nat.zero_add]
    exact this
/-- part: k matches on -/
theorem gy_p38 {post : Int32 → SY → Prop} {k : Nat} {x2 : Int32} (hk : k < 1000) (hP : gy_P b a_patterns) (hT : ∀ e, a_edgeThere e = 0 ∨ a_edgeThere e = 1) (hNT : ∀ n, a_nodeThere n = 0 ∨ a_nodeThere n = 1) (hPT : gy_PT (gp_pr b a_patterns) a_parts) : ∀ (d : Nat) (ms : List (Nat → Nat)) (m : Nat → Nat) (i : Nat) (ch : Nat → Int32), i + d = k → gx_SB (gp_pr b a_patterns) 8 m → gq_R (gp_pr b a_patterns) (gp_ok (gp_pr b a_patterns) (gp_l1 b a_patterns) (gp_la b a_patterns) (gp_lb b a_patterns) (gp_sp b a_patterns a_nodeThere a_labels a_values) (gp_wy b a_patterns a_edgeThere a_froms a_tos a_whats) (gp_ed b a_patterns a_edgeThere a_froms a_tos a_whats) (gp_dn b a_patterns) (gp_de b a_patterns)) m 8 = ms → gy_CH (gp_pr b a_patterns) 8 m ch →
    ((m :: ms).length ≤ d → ∀ ch, post (-1) (nI (33 * b), nI (gq_rk (gp_pr b a_patterns) 8), a_nodeThere, a_labels, a_values, a_edgeThere, a_froms, a_tos, a_whats, a_patterns, a_parts, ch)) → (∀ m', (m :: ms)[d]? = some m' → gx_SB (gp_pr b a_patterns) 8 m' → ∀ ch, gy_CH (gp_pr b a_patterns) 8 m' ch → wY_part_59 post x2 1 (nI (33 * b)) (nI (gq_rk (gp_pr b a_patterns) 8)) a_nodeThere a_labels a_values a_edgeThere a_froms a_tos a_whats a_patterns a_parts ch) → wY_part_38 post (nI k) x2 (d + 1) 1 (nI i) (nI (33 * b)) (nI (gq_rk (gp_pr b a_patterns) 8)) a_nodeThere a_labels a_values a_edgeThere a_froms a_tos a_whats a_patterns a_parts ch
  | 0, ms, m, i, ch, hi, hSB, hR, hCH, h0, h1 => br_t (nI_le (by omega) (by omega)) (h1 m rfl hSB ch hCH)
  | d + 1, ms, m, i, ch, hi, hSB, hR, hCH, h0, h1 => by
    refine br_f (nI_ge (by omega) (by omega)) (br_f gn_10 ?_)
    refine gy_next hP hT hNT hPT hSB hR hCH (fun e ch' => nm_r (nI_1 i) ?_) (fun m' ms' e k1 k2 ch' k3 => nm_r (nI_1 i) ?_)
    · subst e
      have fin : wY_part_59 post x2 0 (nI (33 * b)) (nI (gq_rk (gp_pr b a_patterns) 8)) a_nodeThere a_labels a_values a_edgeThere a_froms a_tos a_whats a_patterns a_parts ch' := br_t rfl (br_t rfl (h0 (Nat.succ_le_succ (Nat.zero_le d)) ch'))
      exact br_c (fun _ => fin) (fun _ => br_t rfl fin)
    · subst e
      exact gy_p38 hk hP hT hNT hPT d ms' m' (i + 1) ch' (by omega) k1 k2 k3 (fun z ch => h0 (Nat.succ_le_succ z) ch) (fun m'' e => h1 m'' e)
/-- the weight of a match -/
noncomputable def gy_ws (pr : Nat → Prop) (wh : Nat → Int32) (m : Nat → Nat) : Nat → Int32
  | 0 => 0
  | p + 1 => bif gq_b (pr p ∧ 4 ≤ p) then gy_ws pr wh m p + wh (m p) / 3 else gy_ws pr wh m p
theorem gy_wt {post : Int32 → Prop} {m : Nat → Nat} (hPT : gy_PT (gp_pr b a_patterns) a_parts) (hSB : gx_SB (gp_pr b a_patterns) 8 m) (hCH : gy_CH (gp_pr b a_patterns) 8 m a_chosen) (h : post (gy_ws (gp_pr b a_patterns) a_whats m 8)) : wpY_weight post (nI (33 * b), nI (gq_rk (gp_pr b a_patterns) 8), a_nodeThere, a_labels, a_values, a_edgeThere, a_froms, a_tos, a_whats, a_patterns, a_parts, a_chosen) := by
  have r8 : gq_rk (gp_pr b a_patterns) 8 ≤ 8 := gq_rk_id 8
  have all : ∀ d p n, p + d = 8 → d < n → wY_weight_4 post (nI (33 * b)) (nI (gq_rk (gp_pr b a_patterns) 8)) a_nodeThere a_labels a_values a_edgeThere a_froms a_tos a_whats a_patterns a_parts a_chosen n (gy_ws (gp_pr b a_patterns) a_whats m p) (nI (gq_rk (gp_pr b a_patterns) p)) := by
    intro d
    induction d with
    | zero =>
      intro p n hp hn
      obtain ⟨n, rfl⟩ : ∃ m, n = m + 1 := ⟨n - 1, by omega⟩
      obtain rfl : p = 8 := by omega
      exact br_t (nI_le (Nat.le_refl _) (by omega)) h
    | succ d ih =>
      intro p n hp hn
      obtain ⟨n, rfl⟩ : ∃ m, n = m + 1 := ⟨n - 1, by omega⟩
      by_cases hpr : gp_pr b a_patterns p
      · have hr := gq_rk_lt hpr (show p < 8 by omega)
        have wr : vp_in (nI (gq_rk (gp_pr b a_patterns) p)) 8 := vp_in_nI (by omega) (by decide)
        have cr : (nI (gq_rk (gp_pr b a_patterns) p)).toNatClampNeg = gq_rk (gp_pr b a_patterns) p := nI_clamp (by omega)
        have e1 : nI (gq_rk (gp_pr b a_patterns) p) + 1 = nI (gq_rk (gp_pr b a_patterns) (p + 1)) := by rw [gq_rk1 hpr, nI_1]
        refine br_f (nI_ge hr (by omega)) ⟨wr, ?_⟩
        rw [cr, hPT p (by omega) hpr]
        have nxt := ih (p + 1) n (by omega) (by omega)
        by_cases h4 : p < 4
        · have e2 : gy_ws (gp_pr b a_patterns) a_whats m (p + 1) = gy_ws (gp_pr b a_patterns) a_whats m p := by
            show (bif gq_b (gp_pr b a_patterns p ∧ 4 ≤ p) then _ else _) = _
            rw [gq_bf (fun z => by omega)]; rfl
          rw [e2] at nxt
          exact br_t (nI_lt (b := 4) h4 (by decide)) (nm_r e1 nxt)
        · have e2 : gy_ws (gp_pr b a_patterns) a_whats m (p + 1) = gy_ws (gp_pr b a_patterns) a_whats m p + a_whats (m p) / 3 := by
            show (bif gq_b (gp_pr b a_patterns p ∧ 4 ≤ p) then _ else _) = _
            rw [gq_bt ⟨hpr, by omega⟩]; rfl
          rw [e2] at nxt
          have hm := (hSB p (by omega)).1 hpr
          have hl := gq_lim20 p
          have cm : (nI (m p)).toNatClampNeg = m p := nI_clamp (by omega)
          refine br_f (nI_nlt (b := 4) (by omega) (by omega)) ⟨wr, ?_⟩
          rw [hCH p (by omega) hpr]
          exact ⟨vp_in_nI (by omega) (by decide), gn_d3, nm_r (by rw [cm]) (nm_r e1 nxt)⟩
      · have e1 : gq_rk (gp_pr b a_patterns) (p + 1) = gq_rk (gp_pr b a_patterns) p := gq_rk0 hpr
        have e2 : gy_ws (gp_pr b a_patterns) a_whats m (p + 1) = gy_ws (gp_pr b a_patterns) a_whats m p := by
          show (bif gq_b (gp_pr b a_patterns p ∧ 4 ≤ p) then _ else _) = _
          rw [gq_bf (fun z => hpr z.1)]; rfl
        have nxt := ih (p + 1) (n + 1) (by omega) (by omega)
        rw [e1, e2] at nxt
        exact nxt
  exact ⟨9, all 8 0 9 (by omega) (by omega)⟩
/-- what weigh keeps from match to match -/
def gy_keep (w0 : Int32) (e w : Int32) : Int32 := if e < 0 then w else if w0 = 0 then (if e ≤ w then e else w) else (if w ≤ e then e else w)
theorem gy_w25 {post : Int32 → SY → Prop} {w0 : Int32} (hP : gy_P b a_patterns) (hT : ∀ e, a_edgeThere e = 0 ∨ a_edgeThere e = 1) (hNT : ∀ n, a_nodeThere n = 0 ∨ a_nodeThere n = 1) (hPT : gy_PT (gp_pr b a_patterns) a_parts) : ∀ (ms : List (Nat → Nat)) (m : Nat → Nat) (e : Int32) (ch : Nat → Int32), gx_SB (gp_pr b a_patterns) 8 m → gq_R (gp_pr b a_patterns) (gp_ok (gp_pr b a_patterns) (gp_l1 b a_patterns) (gp_la b a_patterns) (gp_lb b a_patterns) (gp_sp b a_patterns a_nodeThere a_labels a_values) (gp_wy b a_patterns a_edgeThere a_froms a_tos a_whats) (gp_ed b a_patterns a_edgeThere a_froms a_tos a_whats) (gp_dn b a_patterns) (gp_de b a_patterns)) m 8 = ms → gy_CH (gp_pr b a_patterns) 8 m ch →
    (∀ ch, post ((m :: ms).foldl (fun e m => gy_keep w0 e (gy_ws (gp_pr b a_patterns) a_whats m 8)) e) (nI (33 * b), nI (gq_rk (gp_pr b a_patterns) 8), a_nodeThere, a_labels, a_values, a_edgeThere, a_froms, a_tos, a_whats, a_patterns, a_parts, ch)) → wY_weigh_25 post w0 (ms.length + 2) e 1 (nI (33 * b)) (nI (gq_rk (gp_pr b a_patterns) 8)) a_nodeThere a_labels a_values a_edgeThere a_froms a_tos a_whats a_patterns a_parts ch := by
  intro ms
  have step : ∀ (n : Nat) (m : Nat → Nat) (e : Int32) (ch : Nat → Int32), gx_SB (gp_pr b a_patterns) 8 m → gy_CH (gp_pr b a_patterns) 8 m ch → wY_weigh_64 post (wY_weigh_25 post w0 n) w0 (gy_keep w0 e (gy_ws (gp_pr b a_patterns) a_whats m 8)) (nI (33 * b)) (nI (gq_rk (gp_pr b a_patterns) 8)) a_nodeThere a_labels a_values a_edgeThere a_froms a_tos a_whats a_patterns a_parts ch → wY_weigh_25 post w0 (n + 1) e 1 (nI (33 * b)) (nI (gq_rk (gp_pr b a_patterns) 8)) a_nodeThere a_labels a_values a_edgeThere a_froms a_tos a_whats a_patterns a_parts ch := by
    intro n m e ch hSB hCH go
    refine br_f gn_10 (gy_wt hPT hSB hCH ?_)
    unfold gy_keep at go
    refine br_c (fun z => ?_) (fun z => br_c (fun y => br_c (fun x => ?_) (fun x => ?_)) (fun y => br_c (fun x => ?_) (fun x => ?_)))
    · rw [if_pos z] at go; exact go
    · rw [if_neg z, if_pos y, if_pos x] at go; exact go
    · rw [if_neg z, if_pos y, if_neg x] at go; exact go
    · rw [if_neg z, if_neg y, if_pos x] at go; exact go
    · rw [if_neg z, if_neg y, if_neg x] at go; exact go
  induction ms with
  | nil =>
    intro m e ch hSB hR hCH h
    refine step _ m e ch hSB hCH ?_
    unfold wY_weigh_64
    exact gy_next hP hT hNT hPT hSB hR hCH (fun e ch' => br_t rfl (h ch')) (fun m' ms' e k1 k2 ch' k3 => nomatch e)
  | cons a ms ih =>
    intro m e ch hSB hR hCH h
    refine step _ m e ch hSB hCH ?_
    unfold wY_weigh_64
    refine gy_next hP hT hNT hPT hSB hR hCH (fun e ch' => nomatch e) (fun m' ms' e k1 k2 ch' k3 => ?_)
    obtain ⟨rfl, rfl⟩ := List.cons.inj e
    exact ih _ _ ch' k1 k2 k3 h
end GYM
end
section
/-! both sides against the list of matches -/
theorem gr_gy {b : Nat} {pm ss ls sl so sg lst len lty lki pat : Nat → Int32} (hb : b < 2) (hP : gr_P b pm ss ls sl so sg lst len lty lki pat) : gy_P b pat :=
  ⟨hb, hP.2.1, fun j hj h => by
    obtain ⟨_, _, q3, q4, _, _, q7⟩ := gp_links hP hj h
    exact ⟨q7, q3, q4⟩⟩
theorem gx_fin1 {L D : List (Nat → Nat)} (h : gx_Fin (-1) L D) : D = L := by
  rcases h with h | ⟨k, rest, hk, e, _⟩
  · exact h.1
  · exfalso
    have := nI_pos (n := k) (by omega)
    rw [← e] at this
    exact this (by decide)
theorem gx_fin2 {L D : List (Nat → Nat)} {k : Nat} (hk : k < 1000) (h : gx_Fin (nI k) L D) : (D = L ∧ D.length ≤ k) ∨ (∃ rest, L = D ++ rest ∧ k < D.length ∧ D.length < 2 ^ 31) := by
  rcases h with ⟨e, h⟩ | ⟨k', rest, hk', e, h1, h2, h3⟩
  · rcases h with h | ⟨k', hk', e', h⟩
    · exfalso
      have := nI_pos (n := k) (by omega)
      rw [h] at this
      exact this (by decide)
    · rw [nI_eq (by omega) (by omega)] at e'
      subst e'
      exact Or.inl ⟨e, h⟩
  · rw [nI_eq (by omega) (by omega)] at e
    subst e
    exact Or.inr ⟨rest, h1, h2, h3⟩
theorem gx_tick2 {wa : Int32} {ew : Nat → Int32} {a : gx_A} {s : Nat → Nat} (hw : ¬ wa = (-1)) : gx_tick wa 0 ew a s = (a.1 + 1, a.2.1, a.2.2.1, if a.1 = wa then gx_pick s a.2.2.2 8 else a.2.2.2) := by
  unfold gx_tick
  rw [if_pos rfl, if_neg hw]
theorem gx_fp1 {k : Nat} {ew : Nat → Int32} (hw : ¬ nI k = (-1)) : ∀ (D : List (Nat → Nat)) (a : gx_A) (i : Nat), a.1 = nI i → k < i → i + D.length < 2 ^ 31 → (gx_fold (nI k) 0 ew a D).2.2.2 = a.2.2.2
  | [], a, i, _, _, _ => rfl
  | s :: D, a, i, ea, hi, hl => by
    rw [List.length_cons] at hl
    show (gx_fold (nI k) 0 ew (gx_tick (nI k) 0 ew a s) D).2.2.2 = _
    rw [gx_fp1 hw D _ (i + 1) (by rw [gx_tick2 hw]; show a.1 + 1 = _; rw [ea, nI_1]) (by omega) (by omega), gx_tick2 hw]
    show (if a.1 = nI k then _ else _) = _
    rw [ea, if_neg (fun z => by rw [nI_eq (by omega) (by omega)] at z; omega)]
theorem gx_fp2 {k : Nat} {ew : Nat → Int32} (hw : ¬ nI k = (-1)) : ∀ (D : List (Nat → Nat)) (a : gx_A) (i : Nat), a.1 = nI i → i ≤ k → k < i + D.length → i + D.length < 2 ^ 31 → ∃ m, D[k - i]? = some m ∧ ∀ q, q < 8 → (gx_fold (nI k) 0 ew a D).2.2.2 q = nI (m q)
  | [], a, i, _, h1, h2, _ => by
    rw [List.length_nil] at h2
    omega
  | s :: D, a, i, ea, h1, h2, hl => by
    rw [List.length_cons] at hl h2
    have e1 : (gx_tick (nI k) 0 ew a s).1 = nI (i + 1) := by rw [gx_tick2 hw]; show a.1 + 1 = _; rw [ea, nI_1]
    by_cases z : i = k
    · subst z
      refine ⟨s, by rw [Nat.sub_self]; rfl, fun q hq => ?_⟩
      show (gx_fold (nI i) 0 ew (gx_tick (nI i) 0 ew a s) D).2.2.2 q = _
      rw [gx_fp1 hw D _ (i + 1) e1 (by omega) (by omega), gx_tick2 hw]
      show (if a.1 = nI i then gx_pick s a.2.2.2 8 else a.2.2.2) q = _
      rw [if_pos ea]
      exact if_pos hq
    · obtain ⟨m, hm1, hm2⟩ := gx_fp2 hw D (gx_tick (nI k) 0 ew a s) (i + 1) e1 (by omega) (by omega) (by omega)
      refine ⟨m, ?_, hm2⟩
      rw [show k - i = (k - (i + 1)) + 1 by omega, List.getElem?_cons_succ]
      exact hm1
/-! leaves -/
theorem gq_scan_mem {α : Type} {f : Nat → List α} {m : α} : ∀ r c, m ∈ gq_scan f c r → ∃ i, c ≤ i ∧ i < c + r ∧ m ∈ f i
  | 0, _, h => nomatch h
  | r + 1, c, h => by
    rcases List.mem_append.mp (show m ∈ f c ++ gq_scan f (c + 1) r from h) with z | z
    · exact ⟨c, by omega, by omega, z⟩
    · obtain ⟨i, h1, h2, h3⟩ := gq_scan_mem r (c + 1) z
      exact ⟨i, by omega, by omega, h3⟩
theorem gq_Emem {pr : Nat → Prop} {ok : Nat → (Nat → Nat) → Nat → Prop} : ∀ d s, d ≤ 8 → gx_SB pr (8 - d) s → ∀ m, m ∈ gq_E pr ok d s → gx_SB pr 8 m
  | 0, s, _, hs, m, h => by
    rw [List.mem_singleton.mp (show m ∈ [s] from h)]
    exact hs
  | d + 1, s, hd, hs, m, h => by
    have e : 8 - d = (7 - d) + 1 := by omega
    rw [show d + 1 = 8 - (7 - d) by omega] at h
    rw [show 8 - (d + 1) = 7 - d by omega] at hs
    by_cases hp : pr (7 - d)
    · rw [gq_Ep (by omega) hp] at h
      obtain ⟨c, _, hc, hm⟩ := gq_scan_mem _ _ h
      by_cases o : ok (7 - d) s c
      · rw [gq_g1 o, show 7 - (7 - d) = d by omega] at hm
        refine gq_Emem d _ (by omega) ?_ m hm
        rw [e]
        exact gx_SBu hs ⟨fun _ => by omega, fun z => absurd hp z⟩
      · rw [gq_g0 o] at hm
        exact nomatch hm
    · rw [gq_En (by omega) hp, show 7 - (7 - d) = d by omega] at h
      refine gq_Emem d _ (by omega) ?_ m h
      rw [e]
      exact gx_SBu hs ⟨fun z => absurd z hp, fun _ => rfl⟩
/-! weights -/
theorem gz_t {es : Int32} {eF eO eY ew eT fr to wh : Nat → Int32} {pr : Nat → Prop} {m : Nat → Nat} {q : Nat} (hE : gr_E es eF eO eY ew eT fr to wh) (hSB : gx_SB pr 8 m) (h4 : 4 ≤ q) (h8 : q < 8) : gy_ws pr wh m (q + 1) = gy_ws pr wh m q + ew (m q) ∧ ∃ v, v ≤ 20 ∧ ew (m q) = nI v := by
  obtain ⟨hD, _, _, _, _, h6, h7⟩ := hE
  by_cases hp : pr q
  · have hm := (hSB q h8).1 hp
    have := gq_lim20 q
    have e := h6 (m q) (by omega)
    constructor
    · show (bif gq_b (pr q ∧ 4 ≤ q) then _ else _) = _
      rw [gq_bt ⟨hp, h4⟩, e]
      rfl
    · obtain ⟨w, hw, ew'⟩ := hD.2.2.2 (m q)
      refine ⟨w / 3, by omega, ?_⟩
      rw [e, ew']
      exact pk_div (a := w) (d := 3) (by omega) (by decide) (by decide)
  · have hm := (hSB q h8).2 hp
    have hst : gq_st q = 16 + q := if_neg (by omega)
    rw [hst] at hm
    have e := h7 (m q) (by omega) (by omega)
    constructor
    · show (bif gq_b (pr q ∧ 4 ≤ q) then _ else _) = _
      rw [gq_bf (fun z => hp z.1), e, Int32.add_zero]
      rfl
    · exact ⟨0, by omega, e⟩
theorem gz_t0 {wh : Nat → Int32} {pr : Nat → Prop} {m : Nat → Nat} : ∀ q, q ≤ 4 → gy_ws pr wh m q = 0
  | 0, _ => rfl
  | q + 1, h => by
    show (bif gq_b (pr q ∧ 4 ≤ q) then _ else _) = _
    rw [gq_bf (fun z => by omega)]
    exact gz_t0 q (by omega)
theorem gz_w {es : Int32} {eF eO eY ew eT fr to wh : Nat → Int32} {pr : Nat → Prop} {m : Nat → Nat} (hE : gr_E es eF eO eY ew eT fr to wh) (hSB : gx_SB pr 8 m) : gx_wt ew m = gy_ws pr wh m 8 ∧ ∃ v, v ≤ 80 ∧ gx_wt ew m = nI v := by
  obtain ⟨a4, v4, l4, b4⟩ := gz_t hE hSB (q := 4) (by omega) (by omega)
  obtain ⟨a5, v5, l5, b5⟩ := gz_t hE hSB (q := 5) (by omega) (by omega)
  obtain ⟨a6, v6, l6, b6⟩ := gz_t hE hSB (q := 6) (by omega) (by omega)
  obtain ⟨a7, v7, l7, b7⟩ := gz_t hE hSB (q := 7) (by omega) (by omega)
  constructor
  · rw [a7, a6, a5, a4, gz_t0 4 (by omega), Int32.zero_add]
    rfl
  · refine ⟨v4 + v5 + v6 + v7, by omega, ?_⟩
    unfold gx_wt
    rw [b4, b5, b6, b7, nI_add, nI_add, nI_add]
theorem gz_keep {w0 : Int32} {e w : Nat} (he : e < 2 ^ 31) (hw : w < 2 ^ 31) : gy_keep w0 (nI e) (nI w) = (if w0 = 0 then (if nI e ≤ nI w then nI e else nI w) else (if nI w ≤ nI e then nI e else nI w)) ∧ ∃ v, v < 2 ^ 31 ∧ gy_keep w0 (nI e) (nI w) = nI v := by
  have h0 : gy_keep w0 (nI e) (nI w) = (if w0 = 0 then (if nI e ≤ nI w then nI e else nI w) else (if nI w ≤ nI e then nI e else nI w)) := by
    unfold gy_keep
    rw [if_neg (nI_pos he)]
  refine ⟨h0, ?_⟩
  rw [h0]
  split
  · split
    · exact ⟨e, he, rfl⟩
    · exact ⟨w, hw, rfl⟩
  · split
    · exact ⟨e, he, rfl⟩
    · exact ⟨w, hw, rfl⟩
theorem gz_fold {ew : Nat → Int32} {g : (Nat → Nat) → Int32} : ∀ (L : List (Nat → Nat)) (f : Int32) (pk : Nat → Int32) (l h : Nat), (∀ m, m ∈ L → gx_wt ew m = g m ∧ ∃ v, v ≤ 80 ∧ gx_wt ew m = nI v) → l < 2 ^ 31 → h < 2 ^ 31 →
    (gx_fold (-1) 1 ew (f, nI l, nI h, pk) L).2.1 = L.foldl (fun e m => gy_keep 0 e (g m)) (nI l) ∧ (gx_fold (-1) 1 ew (f, nI l, nI h, pk) L).2.2.1 = L.foldl (fun e m => gy_keep 1 e (g m)) (nI h) ∧ ∃ v, v < 2 ^ 31 ∧ (gx_fold (-1) 1 ew (f, nI l, nI h, pk) L).2.2.1 = nI v
  | [], f, pk, l, h, _, hl, hh => ⟨rfl, rfl, h, hh, rfl⟩
  | m :: L, f, pk, l, h, hm, hl, hh => by
    obtain ⟨e, v, hv, ev⟩ := hm m (List.mem_cons_self)
    have egv : g m = nI v := e.symm.trans ev
    obtain ⟨k0, l', hl', el'⟩ := gz_keep (w0 := 0) (e := l) (w := v) hl (by omega)
    obtain ⟨k1, h', hh', eh'⟩ := gz_keep (w0 := 1) (e := h) (w := v) hh (by omega)
    rw [if_pos rfl] at k0
    rw [if_neg gn_10] at k1
    have et : gx_tick (-1) 1 ew (f, nI l, nI h, pk) m = (f, nI l', nI h', pk) := by
      unfold gx_tick
      rw [if_neg gn_10, ev, ← el', ← eh', k0, k1]
    have ih := gz_fold (g := g) L f pk l' h' (fun m' hm' => hm m' (List.mem_cons_of_mem _ hm')) hl' hh'
    show (gx_fold (-1) 1 ew (gx_tick (-1) 1 ew (f, nI l, nI h, pk) m) L).2.1 = L.foldl _ (gy_keep 0 (nI l) (g m)) ∧ (gx_fold (-1) 1 ew (gx_tick (-1) 1 ew (f, nI l, nI h, pk) m) L).2.2.1 = L.foldl _ (gy_keep 1 (nI h) (g m)) ∧ ∃ v, v < 2 ^ 31 ∧ (gx_fold (-1) 1 ew (gx_tick (-1) 1 ew (f, nI l, nI h, pk) m) L).2.2.1 = nI v
    rw [et, egv, el', eh']
    exact ih
theorem gz_first {ew : Nat → Int32} {g : (Nat → Nat) → Int32} {m : Nat → Nat} {L : List (Nat → Nat)} {f : Int32} {pk : Nat → Int32} (hm : ∀ m', m' ∈ m :: L → gx_wt ew m' = g m' ∧ ∃ v, v ≤ 80 ∧ gx_wt ew m' = nI v) :
    (gx_fold (-1) 1 ew (f, 1000, (-1), pk) (m :: L)).2.1 = (m :: L).foldl (fun e m => gy_keep 0 e (g m)) (-1) ∧ (gx_fold (-1) 1 ew (f, 1000, (-1), pk) (m :: L)).2.2.1 = (m :: L).foldl (fun e m => gy_keep 1 e (g m)) (-1) ∧ ¬ (gx_fold (-1) 1 ew (f, 1000, (-1), pk) (m :: L)).2.2.1 = (-1) := by
  obtain ⟨e, v, hv, ev⟩ := hm m (List.mem_cons_self)
  have egv : g m = nI v := e.symm.trans ev
  have et : gx_tick (-1) 1 ew (f, 1000, (-1), pk) m = (f, nI v, nI v, pk) := by
    unfold gx_tick
    rw [if_neg gn_10, ev]
    show (f, (if (1000 : Int32) ≤ nI v then (1000 : Int32) else nI v), (if nI v ≤ (-1 : Int32) then (-1 : Int32) else nI v), pk) = _
    have n1 : ¬ (1000 : Int32) ≤ nI v := nI_ge (b := 1000) (by omega) (by decide)
    have n2 : ¬ nI v ≤ (-1 : Int32) := fun z => nI_pos (n := v) (by omega) (Int32.lt_of_le_of_lt z (by decide))
    rw [if_neg n1, if_neg n2]
  have k0 : ∀ w0, gy_keep w0 (-1) (g m) = nI v := fun w0 => by
    unfold gy_keep
    rw [if_pos (by decide), egv]
  obtain ⟨i1, i2, u, hu, i3⟩ := gz_fold (ew := ew) (g := g) L f pk v v (fun m' hm' => hm m' (List.mem_cons_of_mem _ hm')) (by omega) (by omega)
  show (gx_fold (-1) 1 ew (gx_tick (-1) 1 ew (f, 1000, (-1), pk) m) L).2.1 = L.foldl _ (gy_keep 0 (-1) (g m)) ∧ (gx_fold (-1) 1 ew (gx_tick (-1) 1 ew (f, 1000, (-1), pk) m) L).2.2.1 = L.foldl _ (gy_keep 1 (-1) (g m)) ∧ ¬ (gx_fold (-1) 1 ew (gx_tick (-1) 1 ew (f, 1000, (-1), pk) m) L).2.2.1 = (-1)
  rw [et, k0, k0]
  refine ⟨i1, i2, ?_⟩
  rw [i3]
  intro z
  have := nI_pos hu
  rw [z] at this
  exact this (by decide)
/-! keeping the pattern -/
section GZK
variable {f_nodeSet f_edgeSet f_sought f_wanted f_weighing f_found f_lightest f_heaviest : Int32} {a_nodeLabel a_nodeValue a_edgesFrom a_edgesTo a_edgesOfType a_edgeWeight a_patternMode a_spotSet a_linkSet a_spotLabels a_spotLeast a_spotGreatest a_linkStart a_linkEnd a_linkTypes a_linkKind a_spotNodes a_typedEdges a_wayTargets a_placed a_linkEdges a_taken a_picked : Nat → Int32}
theorem gx_copy {post : SX → Prop} (h : ∀ pm ss ls sl so sg lst len lty lki, pm 0 = a_patternMode 0 → pm 1 = a_patternMode 0 → ss 0 = a_spotSet 0 → ss 1 = a_spotSet 0 → ls 0 = a_linkSet 0 → ls 1 = a_linkSet 0 →
    (∀ i, i < 4 → sl i = a_spotLabels i ∧ so i = a_spotLeast i ∧ sg i = a_spotGreatest i) → (∀ i, i < 4 → sl (4 + i) = a_spotLabels i ∧ so (4 + i) = a_spotLeast i ∧ sg (4 + i) = a_spotGreatest i) →
    (∀ i, i < 4 → lst i = a_linkStart i ∧ len i = a_linkEnd i ∧ lty i = a_linkTypes i ∧ lki i = a_linkKind i) → (∀ i, i < 4 → lst (4 + i) = a_linkStart i ∧ len (4 + i) = a_linkEnd i ∧ lty (4 + i) = a_linkTypes i ∧ lki (4 + i) = a_linkKind i) →
    post (f_nodeSet, f_edgeSet, f_sought, f_wanted, f_weighing, f_found, f_lightest, f_heaviest, a_nodeLabel, a_nodeValue, a_edgesFrom, a_edgesTo, a_edgesOfType, a_edgeWeight, pm, ss, ls, sl, so, sg, lst, len, lty, lki, a_spotNodes, a_typedEdges, a_wayTargets, a_placed, a_linkEdges, a_taken, a_picked)) : wpX_copyHandToKept post (f_nodeSet, f_edgeSet, f_sought, f_wanted, f_weighing, f_found, f_lightest, f_heaviest, a_nodeLabel, a_nodeValue, a_edgesFrom, a_edgesTo, a_edgesOfType, a_edgeWeight, a_patternMode, a_spotSet, a_linkSet, a_spotLabels, a_spotLeast, a_spotGreatest, a_linkStart, a_linkEnd, a_linkTypes, a_linkKind, a_spotNodes, a_typedEdges, a_wayTargets, a_placed, a_linkEdges, a_taken, a_picked) := by
  refine nm_e (nm_e (nm_e ?_))
  refine loop_0 (fun n i (z : (Nat → Int32) × (Nat → Int32) × (Nat → Int32)) => wX_copyHandToKept_38 post f_nodeSet f_edgeSet f_sought f_wanted f_weighing f_found f_lightest f_heaviest n (nI i) a_nodeLabel a_nodeValue a_edgesFrom a_edgesTo a_edgesOfType a_edgeWeight (upd a_patternMode 1 (a_patternMode 0)) (upd a_spotSet 1 (a_spotSet 0)) (upd a_linkSet 1 (a_linkSet 0)) z.1 z.2.1 z.2.2 a_linkStart a_linkEnd a_linkTypes a_linkKind a_spotNodes a_typedEdges a_wayTargets a_placed a_linkEdges a_taken a_picked)
    (fun i z => (∀ q, q < 4 → z.1 q = a_spotLabels q ∧ z.2.1 q = a_spotLeast q ∧ z.2.2 q = a_spotGreatest q) ∧ (∀ q, q < i → z.1 (4 + q) = a_spotLabels q ∧ z.2.1 (4 + q) = a_spotLeast q ∧ z.2.2 (4 + q) = a_spotGreatest q)) 4 (a_spotLabels, a_spotLeast, a_spotGreatest) ⟨fun _ _ => ⟨rfl, rfl, rfl⟩, fun q hq => absurd hq (Nat.not_lt_zero q)⟩ (fun n z I => br_t (nI_le (a := 4) (by omega) (by decide)) ?_) (fun n i z hi I ih => ?_)
  · refine loop_0 (fun n i (y : (Nat → Int32) × (Nat → Int32) × (Nat → Int32) × (Nat → Int32)) => wX_copyHandToKept_99 post f_nodeSet f_edgeSet f_sought f_wanted f_weighing f_found f_lightest f_heaviest n (nI i) a_nodeLabel a_nodeValue a_edgesFrom a_edgesTo a_edgesOfType a_edgeWeight (upd a_patternMode 1 (a_patternMode 0)) (upd a_spotSet 1 (a_spotSet 0)) (upd a_linkSet 1 (a_linkSet 0)) z.1 z.2.1 z.2.2 y.1 y.2.1 y.2.2.1 y.2.2.2 a_spotNodes a_typedEdges a_wayTargets a_placed a_linkEdges a_taken a_picked)
      (fun i y => (∀ q, q < 4 → y.1 q = a_linkStart q ∧ y.2.1 q = a_linkEnd q ∧ y.2.2.1 q = a_linkTypes q ∧ y.2.2.2 q = a_linkKind q) ∧ (∀ q, q < i → y.1 (4 + q) = a_linkStart q ∧ y.2.1 (4 + q) = a_linkEnd q ∧ y.2.2.1 (4 + q) = a_linkTypes q ∧ y.2.2.2 (4 + q) = a_linkKind q)) 4 (a_linkStart, a_linkEnd, a_linkTypes, a_linkKind) ⟨fun _ _ => ⟨rfl, rfl, rfl, rfl⟩, fun q hq => absurd hq (Nat.not_lt_zero q)⟩ (fun n y Iy => br_t (nI_le (a := 4) (by omega) (by decide)) (h _ _ _ z.1 z.2.1 z.2.2 y.1 y.2.1 y.2.2.1 y.2.2.2 (pk_un (by omega)) pk_us (pk_un (by omega)) pk_us (pk_un (by omega)) pk_us I.1 I.2 Iy.1 Iy.2)) (fun n i y hi Iy ih => ?_)
    obtain ⟨y1, y2, y3, y4⟩ := y
    obtain ⟨J1, J2⟩ := Iy
    dsimp only at J1 J2
    have c : (nI i).toNatClampNeg = i := nI_clamp (by omega)
    have e0 : (0 : Int32) + nI i = nI i := Int32.zero_add _
    have e4 : (4 : Int32) + nI i = nI (4 + i) := nI_add 4 i
    have c4 : (nI (4 + i)).toNatClampNeg = 4 + i := nI_clamp (by omega)
    have w0 : vp_in (0 + nI i) 8 := by rw [e0]; exact vp_in_nI (by omega) (by decide)
    have w4 : vp_in (4 + nI i) 8 := by rw [e4]; exact vp_in_nI (by omega) (by decide)
    refine br_f (nI_ge (b := 4) hi (by decide)) ⟨w0, w4, nm_r (e' := upd y1 (4 + i) (y1 i)) (by rw [e0, e4, c, c4]) ⟨w0, w4, nm_r (e' := upd y2 (4 + i) (y2 i)) (by rw [e0, e4, c, c4]) ⟨w0, w4, nm_r (e' := upd y3 (4 + i) (y3 i)) (by rw [e0, e4, c, c4]) ⟨w0, w4, nm_r (e' := upd y4 (4 + i) (y4 i)) (by rw [e0, e4, c, c4]) (nm_r (nI_1 i) (ih (upd y1 (4 + i) (y1 i), upd y2 (4 + i) (y2 i), upd y3 (4 + i) (y3 i), upd y4 (4 + i) (y4 i)) ⟨fun q hq => ?_, fun q hq => ?_⟩))⟩⟩⟩⟩
    · dsimp only
      rw [pk_un (by omega), pk_un (by omega), pk_un (by omega), pk_un (by omega)]; exact J1 q hq
    · dsimp only
      by_cases e : q = i
      · subst e; rw [pk_us, pk_us, pk_us, pk_us]; exact J1 q hi
      · rw [pk_un (by omega), pk_un (by omega), pk_un (by omega), pk_un (by omega)]; exact J2 q (by omega)
  · obtain ⟨y1, y2, y3⟩ := z
    obtain ⟨J1, J2⟩ := I
    dsimp only at J1 J2
    have c : (nI i).toNatClampNeg = i := nI_clamp (by omega)
    have e0 : (0 : Int32) + nI i = nI i := Int32.zero_add _
    have e4 : (4 : Int32) + nI i = nI (4 + i) := nI_add 4 i
    have c4 : (nI (4 + i)).toNatClampNeg = 4 + i := nI_clamp (by omega)
    have w0 : vp_in (0 + nI i) 8 := by rw [e0]; exact vp_in_nI (by omega) (by decide)
    have w4 : vp_in (4 + nI i) 8 := by rw [e4]; exact vp_in_nI (by omega) (by decide)
    refine br_f (nI_ge (b := 4) hi (by decide)) ⟨w0, w4, nm_r (e' := upd y1 (4 + i) (y1 i)) (by rw [e0, e4, c, c4]) ⟨w0, w4, nm_r (e' := upd y2 (4 + i) (y2 i)) (by rw [e0, e4, c, c4]) ⟨w0, w4, nm_r (e' := upd y3 (4 + i) (y3 i)) (by rw [e0, e4, c, c4]) (nm_r (nI_1 i) (ih (upd y1 (4 + i) (y1 i), upd y2 (4 + i) (y2 i), upd y3 (4 + i) (y3 i)) ⟨fun q hq => ?_, fun q hq => ?_⟩))⟩⟩⟩
    · dsimp only
      rw [pk_un (by omega), pk_un (by omega), pk_un (by omega)]; exact J1 q hq
    · dsimp only
      by_cases e : q = i
      · subst e; rw [pk_us, pk_us, pk_us]; exact J1 q hi
      · rw [pk_un (by omega), pk_un (by omega), pk_un (by omega)]; exact J2 q (by omega)
theorem gx_isPart {post : Int32 → Prop} {a_patterns : Nat → Int32} (v : Int32) (hP : gr_P 0 a_patternMode a_spotSet a_linkSet a_spotLabels a_spotLeast a_spotGreatest a_linkStart a_linkEnd a_linkTypes a_linkKind a_patterns) (h0 : (¬ ∃ q, q < 8 ∧ v = nI q ∧ gp_pr 0 a_patterns q) → post 0) (h1 : ∀ q, q < 8 → v = nI q → gp_pr 0 a_patterns q → post 1) : wpX_isPart post (f_nodeSet, f_edgeSet, f_sought, f_wanted, f_weighing, f_found, f_lightest, f_heaviest, a_nodeLabel, a_nodeValue, a_edgesFrom, a_edgesTo, a_edgesOfType, a_edgeWeight, a_patternMode, a_spotSet, a_linkSet, a_spotLabels, a_spotLeast, a_spotGreatest, a_linkStart, a_linkEnd, a_linkTypes, a_linkKind, a_spotNodes, a_typedEdges, a_wayTargets, a_placed, a_linkEdges, a_taken, a_picked) v := by
  by_cases n0 : v < 0
  · refine br_t n0 (h0 ?_)
    rintro ⟨q, hq, rfl, _⟩
    exact nI_pos (by omega) n0
  obtain ⟨q, hq, rfl⟩ := nI_of n0
  have no : ¬ gp_pr 0 a_patterns q → ¬ ∃ r, r < 8 ∧ nI q = nI r ∧ gp_pr 0 a_patterns r := by
    rintro z ⟨r, hr, e, y⟩
    rw [nI_eq hq (by omega)] at e
    subst e
    exact z y
  refine br_f n0 ?_
  by_cases h8 : q < 8
  · refine br_t (nI_lt (b := 8) h8 (by decide)) ?_
    by_cases h4 : 4 ≤ q
    · obtain ⟨j, rfl⟩ : ∃ j, q = 4 + j := ⟨q - 4, by omega⟩
      have hj : j < 4 := by omega
      refine br_t (nI_le (a := 4) h4 hq) ?_
      have e4 : nI (4 + j) - 4 = nI j := by
        have := pk_sub (a := 4 + j) (b := 4) (by omega)
        rw [show 4 + j - 4 = j by omega] at this
        exact this
      rw [e4]
      have K := hP.2.2.2 j hj
      have ei : (0 : Int32) * 4 + nI j = nI (4 * 0 + j) := gx_ix (b := 0)
      have w : vp_in (0 * 4 + nI j) 8 := by rw [ei]; exact vp_in_nI (by omega) (by decide)
      refine ⟨vp_in_nI (n := 0) (by omega) (by decide), ?_⟩
      refine gx_hasb (by omega) (fun hb => ⟨w, ?_⟩) (fun hb => ⟨gn_n0, h0 (no (fun z => ?_))⟩)
      · have k17 := K.2.1.mp hb
        obtain ⟨ab, hab, q1, q2, q3, q4, q5, q6, q7, q8⟩ := K.2.2 k17
        rw [ei, nI_clamp (by omega), q5]
        exact br_c (fun z => ⟨gn_n1, h1 (4 + j) h8 rfl ((gp_pr8 hj).mpr ⟨k17, z⟩)⟩) (fun z => ⟨gn_n0, h0 (no (fun y => z ((gp_pr8 hj).mp y).2))⟩)
      · exact Bool.false_ne_true (hb.symm.trans (K.2.1.mpr ((gp_pr8 hj).mp z).1))
    · refine br_f (nI_ge (b := 4) (by omega) (by decide)) ?_
      have S := hP.2.2.1 q (by omega)
      refine gx_has (by omega) (fun hb => ⟨gn_n1, h1 q h8 rfl ((gp_pr4 (by omega)).mpr (S.2.1.mp hb))⟩) (fun hb => ⟨gn_n0, h0 (no (fun z => ?_))⟩)
      exact Bool.false_ne_true (hb.symm.trans (S.2.1.mpr ((gp_pr4 (by omega)).mp z)))
  · refine br_f (nI_nlt (b := 8) (by omega) hq) (h0 (no (fun z => ?_)))
    unfold gp_pr at z
    omega
end GZK
def gy_kp (pat : Nat → Int32) (i : Nat) : Nat → Int32 := fun c => if 33 ≤ c ∧ c < 33 + i then pat (c - 33) else pat c
section GZY
variable {f_base f_many : Int32} {a_nodeThere a_labels a_values a_edgeThere a_froms a_tos a_whats a_patterns a_parts a_chosen : Nat → Int32}
theorem gy_keepc {post : Int32 → SY → Prop} (h : wpY_kept post (f_base, f_many, a_nodeThere, a_labels, a_values, a_edgeThere, a_froms, a_tos, a_whats, gy_kp a_patterns 33, a_parts, a_chosen)) : wpY_keep post (f_base, f_many, a_nodeThere, a_labels, a_values, a_edgeThere, a_froms, a_tos, a_whats, a_patterns, a_parts, a_chosen) := by
  refine loop_0 (fun n i pat => wY_keep_2 post f_base f_many n (nI i) a_nodeThere a_labels a_values a_edgeThere a_froms a_tos a_whats pat a_parts a_chosen) (fun i pat => pat = gy_kp a_patterns i) 33 a_patterns (funext fun c => (if_neg (by omega)).symm) (fun n pat I => ?_) (fun n i pat hi I ih => ?_)
  · subst I
    exact br_t (nI_le (a := 33) (by omega) (by decide)) h
  · subst I
    have c : (nI i).toNatClampNeg = i := nI_clamp (by omega)
    have e : (33 : Int32) + nI i = nI (33 + i) := nI_add 33 i
    have c2 : (nI (33 + i)).toNatClampNeg = 33 + i := nI_clamp (by omega)
    refine br_f (nI_ge (b := 33) hi (by decide)) ⟨vp_in_nI (by omega) (by decide), by rw [e]; exact vp_in_nI (by omega) (by decide), nm_r (e' := gy_kp a_patterns (i + 1)) ?_ (nm_r (nI_1 i) (ih _ rfl))⟩
    rw [e, c2, c]
    funext q
    by_cases z : q = 33 + i
    · subst z
      rw [pk_us]
      unfold gy_kp
      rw [if_neg (by omega), if_pos (by omega), show 33 + i - 33 = i by omega]
    · rw [pk_un z]
      unfold gy_kp
      by_cases y : 33 ≤ q ∧ q < 33 + i
      · rw [if_pos y, if_pos (by omega)]
      · rw [if_neg y, if_neg (by omega)]
end GZY
end
section
/-! the methods that search -/
theorem gz_sb0 {pr : Nat → Prop} {s : Nat → Nat} : gx_SB pr 0 s := fun q hq => absurd hq (Nat.not_lt_zero q)
theorem i_vc_count {k : Nat} {u : SX} {v : SY} (I : i_Rel k u v) (hk : k + 5 ≤ 2560) : wpX_count (fun r u' => wpY_count (fun r' v' => r' = r ∧ i_Rel (k + 5) u' v') v) u := by
  obtain ⟨f_nodeSet, f_edgeSet, f_sought, f_wanted, f_weighing, f_found, f_lightest, f_heaviest, a_nodeLabel, a_nodeValue, a_edgesFrom, a_edgesTo, a_edgesOfType, a_edgeWeight, a_patternMode, a_spotSet, a_linkSet, a_spotLabels, a_spotLeast, a_spotGreatest, a_linkStart, a_linkEnd, a_linkTypes, a_linkKind, a_spotNodes, a_typedEdges, a_wayTargets, a_placed, a_linkEdges, a_taken, a_picked⟩ := u
  obtain ⟨f_base, f_many, a_nodeThere, a_labels, a_values, a_edgeThere, a_froms, a_tos, a_whats, a_patterns, a_parts, a_chosen⟩ := v
  obtain ⟨hN, ⟨e1, e2, hL⟩, hE, hP0, hP1⟩ := I
  subst e1 e2
  unfold wpX_count wpY_count
  refine gx_start (b := 0) (by omega) hN hL hE hP0 (fun spN tyE wT le H hLE => ?_)
  refine gx_walk (b := 0) (s := gq_st) (acc0 := (0, 1000, (-1), a_picked)) H rfl (Or.inl rfl) (hLE gq_st) (fun pl le tk D hF => ?_)
  have e := gx_fin1 hF
  subst e
  refine gy_matches (b := 0) (gr_gy (by omega) hP0) hE.1.1 hN.1 (fun bs mn pt ch => ⟨?_, hN, ⟨rfl, rfl, hL⟩, hE, hP0, hP1⟩)
  rw [gx_fcnt]
  exact (Int32.zero_add _).symm
theorem i_vc_kept {k : Nat} {u : SX} {v : SY} (I : i_Rel k u v) (hk : k + 5 ≤ 2560) : wpX_kept (fun r u' => wpY_kept (fun r' v' => r' = r ∧ i_Rel (k + 5) u' v') v) u := by
  obtain ⟨f_nodeSet, f_edgeSet, f_sought, f_wanted, f_weighing, f_found, f_lightest, f_heaviest, a_nodeLabel, a_nodeValue, a_edgesFrom, a_edgesTo, a_edgesOfType, a_edgeWeight, a_patternMode, a_spotSet, a_linkSet, a_spotLabels, a_spotLeast, a_spotGreatest, a_linkStart, a_linkEnd, a_linkTypes, a_linkKind, a_spotNodes, a_typedEdges, a_wayTargets, a_placed, a_linkEdges, a_taken, a_picked⟩ := u
  obtain ⟨f_base, f_many, a_nodeThere, a_labels, a_values, a_edgeThere, a_froms, a_tos, a_whats, a_patterns, a_parts, a_chosen⟩ := v
  obtain ⟨hN, ⟨e1, e2, hL⟩, hE, hP0, hP1⟩ := I
  subst e1 e2
  unfold wpX_kept wpY_kept
  refine gx_start (b := 1) (by omega) hN hL hE hP1 (fun spN tyE wT le H hLE => ?_)
  refine gx_walk (b := 1) (s := gq_st) (acc0 := (0, 1000, (-1), a_picked)) H rfl (Or.inl rfl) (hLE gq_st) (fun pl le tk D hF => ?_)
  have e := gx_fin1 hF
  subst e
  refine gy_matches (b := 1) (gr_gy (by omega) hP1) hE.1.1 hN.1 (fun bs mn pt ch => ⟨?_, hN, ⟨rfl, rfl, hL⟩, hE, hP0, hP1⟩)
  rw [gx_fcnt]
  exact (Int32.zero_add _).symm
theorem i_vc_keep {k : Nat} {u : SX} {v : SY} (I : i_Rel k u v) (hk : k + 5 ≤ 2560) : wpX_keep (fun r u' => wpY_keep (fun r' v' => r' = r ∧ i_Rel (k + 5) u' v') v) u := by
  obtain ⟨f_nodeSet, f_edgeSet, f_sought, f_wanted, f_weighing, f_found, f_lightest, f_heaviest, a_nodeLabel, a_nodeValue, a_edgesFrom, a_edgesTo, a_edgesOfType, a_edgeWeight, a_patternMode, a_spotSet, a_linkSet, a_spotLabels, a_spotLeast, a_spotGreatest, a_linkStart, a_linkEnd, a_linkTypes, a_linkKind, a_spotNodes, a_typedEdges, a_wayTargets, a_placed, a_linkEdges, a_taken, a_picked⟩ := u
  obtain ⟨f_base, f_many, a_nodeThere, a_labels, a_values, a_edgeThere, a_froms, a_tos, a_whats, a_patterns, a_parts, a_chosen⟩ := v
  obtain ⟨hN, ⟨e1, e2, hL⟩, hE, hP0, hP1⟩ := I
  subst e1 e2
  unfold wpX_keep
  refine gx_copy (fun pm ss ls sl so sg lst len lty lki a1 a2 a3 a4 a5 a6 a7 a8 a9 a10 => ?_)
  have mk0 : ∀ pat : Nat → Int32, (∀ c, c < 33 → pat c = a_patterns c) → gr_P 0 pm ss ls sl so sg lst len lty lki pat := fun pat hp =>
    gr_Pc hP0 a1 a3 a5 (fun i hi => by rw [show 4 * 0 + i = i by omega]; exact a7 i hi) (fun i hi => by rw [show 4 * 0 + i = i by omega]; exact a9 i hi) (fun c hc => by rw [show 33 * 0 + c = c by omega]; exact hp c hc)
  have mk1 : ∀ pat : Nat → Int32, (∀ c, c < 33 → pat (33 + c) = a_patterns c) → gr_P 1 pm ss ls sl so sg lst len lty lki pat := fun pat hp =>
    gr_Pc hP0 a2 a4 a6 (fun i hi => by rw [show 4 * 0 + i = i by omega, show 4 * 1 + i = 4 + i by omega]; exact a8 i hi) (fun i hi => by rw [show 4 * 0 + i = i by omega, show 4 * 1 + i = 4 + i by omega]; exact a10 i hi) (fun c hc => by rw [show 33 * 0 + c = c by omega, show 33 * 1 + c = 33 + c by omega]; exact hp c hc)
  have p0a : ∀ c, c < 33 → gy_kp a_patterns 33 c = a_patterns c := fun c hc => if_neg (by omega)
  have p0b : ∀ c, c < 33 → gy_kp a_patterns 33 (33 + c) = a_patterns c := fun c hc => by
    unfold gy_kp
    rw [if_pos (by omega), show 33 + c - 33 = c by omega]
  refine gx_start (b := 1) (a_patterns := gy_kp a_patterns 33) (by omega) hN hL hE (mk1 _ p0b) (fun spN tyE wT le H hLE => ?_)
  refine gx_walk (b := 1) (s := gq_st) (acc0 := (0, 1000, (-1), a_picked)) H rfl (Or.inl rfl) (hLE gq_st) (fun pl le tk D hF => ?_)
  have e := gx_fin1 hF
  subst e
  refine gy_keepc ?_
  unfold wpY_kept
  refine gy_matches (b := 1) (gr_gy (by omega) (mk1 _ p0b)) hE.1.1 hN.1 (fun bs mn pt ch => ⟨?_, hN, ⟨rfl, rfl, hL⟩, hE, mk0 _ p0a, mk1 _ p0b⟩)
  rw [gx_fcnt]
  exact (Int32.zero_add _).symm
theorem gy_off {post : Int32 → SY → Prop} {f_base f_many : Int32} {a_nodeThere a_labels a_values a_edgeThere a_froms a_tos a_whats a_patterns a_parts a_chosen : Nat → Int32} {x1 x2 : Int32} (h : post (-1) (f_base, f_many, a_nodeThere, a_labels, a_values, a_edgeThere, a_froms, a_tos, a_whats, a_patterns, a_parts, a_chosen)) : ∃ n, wY_part_38 post x1 x2 n 0 0 f_base f_many a_nodeThere a_labels a_values a_edgeThere a_froms a_tos a_whats a_patterns a_parts a_chosen := by
  have fin : wY_part_59 post x2 0 f_base f_many a_nodeThere a_labels a_values a_edgeThere a_froms a_tos a_whats a_patterns a_parts a_chosen := br_t rfl (br_t rfl h)
  exact ⟨1, br_c (fun _ => fin) (fun _ => br_t rfl fin)⟩
/-- the reference's part, for a k and a part within -/
theorem gy_part {post : Int32 → SY → Prop} {f_base f_many : Int32} {a_nodeThere a_labels a_values a_edgeThere a_froms a_tos a_whats a_patterns a_parts a_chosen : Nat → Int32} {k q : Nat} (hk : k < 1000) (hq : q < 8) (hP : gy_P 0 a_patterns) (hT : ∀ e, a_edgeThere e = 0 ∨ a_edgeThere e = 1) (hNT : ∀ n, a_nodeThere n = 0 ∨ a_nodeThere n = 1)
    (h0 : ((gq_E (gp_pr 0 a_patterns) (gp_ok (gp_pr 0 a_patterns) (gp_l1 0 a_patterns) (gp_la 0 a_patterns) (gp_lb 0 a_patterns) (gp_sp 0 a_patterns a_nodeThere a_labels a_values) (gp_wy 0 a_patterns a_edgeThere a_froms a_tos a_whats) (gp_ed 0 a_patterns a_edgeThere a_froms a_tos a_whats) (gp_dn 0 a_patterns) (gp_de 0 a_patterns)) 8 gq_st).length ≤ k ∨ ¬ gp_pr 0 a_patterns q) → ∀ bs mn pt ch, post (-1) (bs, mn, a_nodeThere, a_labels, a_values, a_edgeThere, a_froms, a_tos, a_whats, a_patterns, pt, ch))
    (h1 : ∀ m, (gq_E (gp_pr 0 a_patterns) (gp_ok (gp_pr 0 a_patterns) (gp_l1 0 a_patterns) (gp_la 0 a_patterns) (gp_lb 0 a_patterns) (gp_sp 0 a_patterns a_nodeThere a_labels a_values) (gp_wy 0 a_patterns a_edgeThere a_froms a_tos a_whats) (gp_ed 0 a_patterns a_edgeThere a_froms a_tos a_whats) (gp_dn 0 a_patterns) (gp_de 0 a_patterns)) 8 gq_st)[k]? = some m → gp_pr 0 a_patterns q → ∀ bs mn pt ch, post (nI (m q)) (bs, mn, a_nodeThere, a_labels, a_values, a_edgeThere, a_froms, a_tos, a_whats, a_patterns, pt, ch)) : wpY_part post (f_base, f_many, a_nodeThere, a_labels, a_values, a_edgeThere, a_froms, a_tos, a_whats, a_patterns, a_parts, a_chosen) (nI k) (nI q) := by
  unfold wpY_part
  refine br_f (nI_pos (by omega)) (br_f (nI_nlt (a := 999) (by omega) (by decide)) (br_f (nI_pos (by omega)) (br_f (nI_nlt (a := 7) (by omega) (by decide)) ?_)))
  refine gy_first (b := 0) hP hT hNT (fun e pt ch => br_t rfl (gy_off (h0 (Or.inl (by rw [e]; exact Nat.zero_le k)) _ _ pt ch))) (fun m ms e k1 k2 pt ch k3 k4 => br_f gn_10 ⟨k + 1, ?_⟩)
  refine gy_p38 (b := 0) hk hP hT hNT k3 k ms m 0 ch (by omega) k1 k2 k4 (fun z ch' => h0 (Or.inl (by rw [e]; exact z)) _ _ pt ch') (fun m' em k1' ch' k4' => br_f gn_10 ?_)
  have r8 : gq_rk (gp_pr 0 a_patterns) 8 ≤ 8 := gq_rk_id 8
  by_cases hp : gp_pr 0 a_patterns q
  · have hr := gq_rk_lt hp hq
    refine gy_pl k3 hq (Or.inl ⟨hp, rfl⟩) (br_f gn_10 (br_f (nI_ge hr (by omega)) ⟨vp_in_nI (by omega) (by decide), ?_⟩))
    rw [nI_clamp (by omega), k4' q hq hp]
    exact h1 m' (by rw [e]; exact em) hp _ _ pt ch'
  · exact gy_pl k3 hq (Or.inr ⟨hp, rfl⟩) (br_f gn_10 (br_t (nI_le (Nat.le_refl _) (by omega)) (h0 (Or.inr hp) _ _ pt ch')))
theorem i_vc_part {k : Nat} {u : SX} {v : SY} (I : i_Rel k u v) (hk : k + 5 ≤ 2560) (v1 : Int32) (v2 : Int32) : wpX_part (fun r u' => wpY_part (fun r' v' => r' = r ∧ i_Rel (k + 5) u' v') v v1 v2) u v1 v2 := by
  obtain ⟨f_nodeSet, f_edgeSet, f_sought, f_wanted, f_weighing, f_found, f_lightest, f_heaviest, a_nodeLabel, a_nodeValue, a_edgesFrom, a_edgesTo, a_edgesOfType, a_edgeWeight, a_patternMode, a_spotSet, a_linkSet, a_spotLabels, a_spotLeast, a_spotGreatest, a_linkStart, a_linkEnd, a_linkTypes, a_linkKind, a_spotNodes, a_typedEdges, a_wayTargets, a_placed, a_linkEdges, a_taken, a_picked⟩ := u
  obtain ⟨f_base, f_many, a_nodeThere, a_labels, a_values, a_edgeThere, a_froms, a_tos, a_whats, a_patterns, a_parts, a_chosen⟩ := v
  have J := I
  obtain ⟨hN, ⟨e1, e2, hL⟩, hE, hP0, hP1⟩ := I
  subst e1 e2
  unfold wpX_part
  by_cases n0 : v1 < 0
  · exact br_t n0 (br_t n0 (gy_off ⟨rfl, J⟩))
  refine br_f n0 ?_
  by_cases n1 : 999 < v1
  · exact br_t n1 (br_f n0 (br_t n1 (gy_off ⟨rfl, J⟩)))
  obtain ⟨i, hi, rfl⟩ := nI_of n0
  have hi3 : i < 1000 := by
    rcases Nat.lt_or_ge i 1000 with z | z
    · exact z
    · exact absurd (nI_lt (a := 999) (by omega) hi) n1
  have hY := gr_gy (by omega) hP0
  refine br_f n1 (gx_isPart v2 hP0 (fun no => br_t rfl ?_) (fun q hq eq hp => br_f gn_10 ?_))
  · by_cases m0 : v2 < 0
    · exact br_f n0 (br_f n1 (br_t m0 (gy_off ⟨rfl, J⟩)))
    by_cases m1 : 7 < v2
    · exact br_f n0 (br_f n1 (br_f m0 (br_t m1 (gy_off ⟨rfl, J⟩))))
    obtain ⟨q, hq, rfl⟩ := nI_of m0
    have hq8 : q < 8 := by
      rcases Nat.lt_or_ge q 8 with z | z
      · exact z
      · exact absurd (nI_lt (a := 7) (by omega) hq) m1
    exact gy_part hi3 hq8 hY hE.1.1 hN.1 (fun _ bs mn pt ch => ⟨rfl, J⟩) (fun m _ hp => absurd ⟨q, hq8, rfl, hp⟩ no)
  · subst eq
    refine gx_start (b := 0) (by omega) hN hL hE hP0 (fun spN tyE wT le H hLE => ?_)
    refine gx_walk (b := 0) (s := gq_st) (acc0 := (0, 1000, (-1), a_picked)) H rfl (Or.inr ⟨rfl, i, hi3, rfl⟩) (hLE gq_st) (fun pl le tk D hF => ?_)
    have nw : ¬ nI i = (-1) := fun z => by
      have := nI_pos (n := i) hi
      rw [z] at this
      exact this (by decide)
    have ef : (gx_fold (nI i) 0 a_edgeWeight (0, 1000, (-1), a_picked) D).1 = nI D.length := by rw [gx_ffound]; exact Int32.zero_add _
    rcases gx_fin2 hi3 hF with ⟨eD, hle⟩ | ⟨rest, eD, hlt, hlen⟩
    · refine br_t (by rw [ef]; exact nI_le hle (by omega)) ?_
      refine gy_part hi3 hq hY hE.1.1 hN.1 (fun _ bs mn pt ch => ⟨rfl, J⟩) (fun m em _ => ?_)
      exfalso
      rw [← eD, List.getElem?_eq_none hle] at em
      exact nomatch em
    · refine br_f (by rw [ef]; exact nI_ge hlt (by omega)) ⟨vp_in_nI hq (by decide), ?_⟩
      obtain ⟨m, em, hm⟩ := gx_fp2 (ew := a_edgeWeight) nw D (0, 1000, (-1), a_picked) 0 rfl (Nat.zero_le i) (by omega) (by omega)
      rw [Nat.sub_zero] at em
      rw [nI_clamp (by omega), hm q hq]
      refine gy_part hi3 hq hY hE.1.1 hN.1 (fun z bs mn pt ch => ?_) (fun m' em' _ bs mn pt ch => ⟨?_, J⟩)
      · exfalso
        rcases z with z | z
        · rw [eD, List.length_append] at z
          omega
        · exact z hp
      · rw [eD, List.getElem?_append_left hlt, em] at em'
        cases em'
        rfl
theorem gz_neg {w : Int32} (h : w < 0) : ¬ w = 0 ∧ ¬ w = 1 := ⟨fun z => by subst z; exact absurd h (by decide), fun z => by subst z; exact absurd h (by decide)⟩
theorem gz_big {w : Int32} (h : ¬ w ≤ 1) : ¬ w = 0 ∧ ¬ w = 1 := ⟨fun z => h (by rw [z]; decide), fun z => h (by rw [z]; decide)⟩
theorem i_vc_weigh {k : Nat} {u : SX} {v : SY} (I : i_Rel k u v) (hk : k + 5 ≤ 2560) (v1 : Int32) : wpX_weigh (fun r u' => wpY_weigh (fun r' v' => r' = r ∧ i_Rel (k + 5) u' v') v v1) u v1 := by
  obtain ⟨f_nodeSet, f_edgeSet, f_sought, f_wanted, f_weighing, f_found, f_lightest, f_heaviest, a_nodeLabel, a_nodeValue, a_edgesFrom, a_edgesTo, a_edgesOfType, a_edgeWeight, a_patternMode, a_spotSet, a_linkSet, a_spotLabels, a_spotLeast, a_spotGreatest, a_linkStart, a_linkEnd, a_linkTypes, a_linkKind, a_spotNodes, a_typedEdges, a_wayTargets, a_placed, a_linkEdges, a_taken, a_picked⟩ := u
  obtain ⟨f_base, f_many, a_nodeThere, a_labels, a_values, a_edgeThere, a_froms, a_tos, a_whats, a_patterns, a_parts, a_chosen⟩ := v
  have J := I
  obtain ⟨hN, ⟨e1, e2, hL⟩, hE, hP0, hP1⟩ := I
  subst e1 e2
  unfold wpX_weigh
  by_cases n0 : v1 < 0
  · exact br_t n0 (br_f (gz_neg n0).1 (br_f (gz_neg n0).2 ⟨1, br_t rfl ⟨rfl, J⟩⟩))
  refine br_f n0 ?_
  by_cases n1 : v1 ≤ 1
  · have hY := gr_gy (by omega) hP0
    refine br_t n1 (gx_start (b := 0) (by omega) hN hL hE hP0 (fun spN tyE wT le H hLE => ?_))
    refine gx_walk (b := 0) (s := gq_st) (acc0 := (0, 1000, (-1), a_picked)) H rfl (Or.inl rfl) (hLE gq_st) (fun pl le tk D hF => ?_)
    have e := gx_fin1 hF
    subst e
    have hmem := gq_Emem (pr := gp_pr 0 a_patterns) (ok := gp_ok (gp_pr 0 a_patterns) (gp_l1 0 a_patterns) (gp_la 0 a_patterns) (gp_lb 0 a_patterns) (gp_sp 0 a_patterns a_nodeThere a_nodeLabel a_nodeValue) (gp_wy 0 a_patterns a_edgeThere a_froms a_tos a_whats) (gp_ed 0 a_patterns a_edgeThere a_froms a_tos a_whats) (gp_dn 0 a_patterns) (gp_de 0 a_patterns)) 8 gq_st (Nat.le_refl 8) gz_sb0
    have hw : ∀ m, m ∈ gq_E (gp_pr 0 a_patterns) (gp_ok (gp_pr 0 a_patterns) (gp_l1 0 a_patterns) (gp_la 0 a_patterns) (gp_lb 0 a_patterns) (gp_sp 0 a_patterns a_nodeThere a_nodeLabel a_nodeValue) (gp_wy 0 a_patterns a_edgeThere a_froms a_tos a_whats) (gp_ed 0 a_patterns a_edgeThere a_froms a_tos a_whats) (gp_dn 0 a_patterns) (gp_de 0 a_patterns)) 8 gq_st → gx_wt a_edgeWeight m = gy_ws (gp_pr 0 a_patterns) a_whats m 8 ∧ ∃ v, v ≤ 80 ∧ gx_wt a_edgeWeight m = nI v := fun m hm => gz_w hE (hmem m hm)
    have main : ∀ r : Int32, (∀ m ms, gq_E (gp_pr 0 a_patterns) (gp_ok (gp_pr 0 a_patterns) (gp_l1 0 a_patterns) (gp_la 0 a_patterns) (gp_lb 0 a_patterns) (gp_sp 0 a_patterns a_nodeThere a_nodeLabel a_nodeValue) (gp_wy 0 a_patterns a_edgeThere a_froms a_tos a_whats) (gp_ed 0 a_patterns a_edgeThere a_froms a_tos a_whats) (gp_dn 0 a_patterns) (gp_de 0 a_patterns)) 8 gq_st = m :: ms → (m :: ms).foldl (fun e m => gy_keep v1 e (gy_ws (gp_pr 0 a_patterns) a_whats m 8)) (-1) = r) →
        (gq_E (gp_pr 0 a_patterns) (gp_ok (gp_pr 0 a_patterns) (gp_l1 0 a_patterns) (gp_la 0 a_patterns) (gp_lb 0 a_patterns) (gp_sp 0 a_patterns a_nodeThere a_nodeLabel a_nodeValue) (gp_wy 0 a_patterns a_edgeThere a_froms a_tos a_whats) (gp_ed 0 a_patterns a_edgeThere a_froms a_tos a_whats) (gp_dn 0 a_patterns) (gp_de 0 a_patterns)) 8 gq_st = [] → (-1) = r) →
        ∀ u' : SX, (∀ bs mn pt ch, i_Rel (k + 5) u' (bs, mn, a_nodeThere, a_nodeLabel, a_nodeValue, a_edgeThere, a_froms, a_tos, a_whats, a_patterns, pt, ch)) → wpY_weigh (fun r' v' => r' = r ∧ i_Rel (k + 5) u' v') (f_base, f_many, a_nodeThere, a_nodeLabel, a_nodeValue, a_edgeThere, a_froms, a_tos, a_whats, a_patterns, a_parts, a_chosen) v1 := by
      intro r hr1 hr0 u' hu
      have go : wY_weigh_11 (fun r' v' => r' = r ∧ i_Rel (k + 5) u' v') v1 (-1) f_base f_many a_nodeThere a_nodeLabel a_nodeValue a_edgeThere a_froms a_tos a_whats a_patterns a_parts a_chosen := by
        unfold wY_weigh_11
        refine gy_first (b := 0) hY hE.1.1 hN.1 (fun e pt ch => br_t rfl ⟨1, br_t rfl ⟨hr0 e, hu _ _ pt ch⟩⟩) (fun m ms e k1 k2 pt ch k3 k4 => br_f gn_10 ⟨ms.length + 2, ?_⟩)
        exact gy_w25 (b := 0) hY hE.1.1 hN.1 k3 ms m (-1) ch k1 k2 k4 (fun ch' => ⟨hr1 m ms e, hu _ _ pt ch'⟩)
      by_cases z : v1 = 0
      · exact br_t z go
      · exact br_f z (br_t (gr_01 n0 n1 z) go)
    rcases hL' : gq_E (gp_pr 0 a_patterns) (gp_ok (gp_pr 0 a_patterns) (gp_l1 0 a_patterns) (gp_la 0 a_patterns) (gp_lb 0 a_patterns) (gp_sp 0 a_patterns a_nodeThere a_nodeLabel a_nodeValue) (gp_wy 0 a_patterns a_edgeThere a_froms a_tos a_whats) (gp_ed 0 a_patterns a_edgeThere a_froms a_tos a_whats) (gp_dn 0 a_patterns) (gp_de 0 a_patterns)) 8 gq_st with _ | ⟨m, ms⟩
    · refine br_t rfl ?_
      exact main (-1) (fun m ms e => nomatch hL'.symm.trans e) (fun _ => rfl) _ (fun bs mn pt ch => ⟨hN, ⟨rfl, rfl, hL⟩, hE, hP0, hP1⟩)
    · rw [hL'] at hw
      obtain ⟨w1, w2, w3⟩ := gz_first (f := 0) (pk := a_picked) hw
      refine br_f w3 (br_c (fun z => ?_) (fun z => ?_))
      · refine main _ (fun m' ms' e => ?_) (fun e => nomatch hL'.symm.trans e) _ (fun bs mn pt ch => ⟨hN, ⟨rfl, rfl, hL⟩, hE, hP0, hP1⟩)
        rw [← e, hL', z]
        exact w1.symm
      · refine main _ (fun m' ms' e => ?_) (fun e => nomatch hL'.symm.trans e) _ (fun bs mn pt ch => ⟨hN, ⟨rfl, rfl, hL⟩, hE, hP0, hP1⟩)
        rw [← e, hL', gr_01 n0 n1 z]
        exact w2.symm
  · exact br_f n1 (br_f (gz_big n1).1 (br_f (gz_big n1).2 ⟨1, br_t rfl ⟨rfl, J⟩⟩))
end
