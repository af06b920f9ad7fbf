/-! the list of matches: a search over eight parts -/
def gq_scan {α : Type} (f : Nat → List α) : Nat → Nat → List α
  | _, 0 => []
  | c, r + 1 => f c ++ gq_scan f (c + 1) r
theorem gq_scan_nil {α : Type} {f : Nat → List α} : ∀ r c, (∀ i, c ≤ i → i < c + r → f i = []) → gq_scan f c r = []
  | 0, _, _ => rfl
  | r + 1, c, h => by
    show f c ++ gq_scan f (c + 1) r = []
    rw [h c (by omega) (by omega), gq_scan_nil r (c + 1) (fun i h1 h2 => h i (by omega) (by omega))]
    rfl
theorem gq_scan_congr {α : Type} {f g : Nat → List α} : ∀ r c, (∀ i, c ≤ i → i < c + r → f i = g i) → gq_scan f c r = gq_scan g c r
  | 0, _, _ => rfl
  | r + 1, c, h => by
    show f c ++ gq_scan f (c + 1) r = g c ++ gq_scan g (c + 1) r
    rw [h c (by omega) (by omega), gq_scan_congr r (c + 1) (fun i h1 h2 => h i (by omega) (by omega))]
theorem gq_scan_add {α : Type} {f : Nat → List α} : ∀ r t c, gq_scan f c (r + t) = gq_scan f c r ++ gq_scan f (c + r) t
  | 0, t, c => by rw [Nat.zero_add]; rfl
  | r + 1, t, c => by
    rw [show r + 1 + t = (r + t) + 1 by omega]
    show f c ++ gq_scan f (c + 1) (r + t) = (f c ++ gq_scan f (c + 1) r) ++ _
    rw [gq_scan_add r t (c + 1), List.append_assoc, show c + 1 + r = c + (r + 1) by omega]
theorem gq_scan_len {α : Type} {f : Nat → List α} {B : Nat} (h : ∀ i, (f i).length ≤ B) : ∀ r c, (gq_scan f c r).length ≤ r * B
  | 0, _ => Nat.zero_le _
  | r + 1, c => by
    show (f c ++ gq_scan f (c + 1) r).length ≤ _
    rw [List.length_append, Nat.succ_mul]
    have h1 := h c
    have h2 := gq_scan_len h r (c + 1)
    omega
theorem gq_scan_hit {α : Type} {f : Nat → List α} {c k r : Nat} (h : ∀ i, c ≤ i → i < c + k → f i = []) (hr : k < r) : gq_scan f c r = f (c + k) ++ gq_scan f (c + k + 1) (r - k - 1) := by
  obtain ⟨t, rfl⟩ : ∃ t, r = k + (t + 1) := ⟨r - k - 1, by omega⟩
  rw [gq_scan_add k (t + 1) c, gq_scan_nil k c h, List.nil_append, show k + (t + 1) - k - 1 = t by omega]
  rfl
def gq_up (s : Nat → Nat) (p c : Nat) : Nat → Nat := fun q => if q = p then c else s q
theorem gq_us {s : Nat → Nat} {p c : Nat} : gq_up s p c p = c := if_pos rfl
theorem gq_un {s : Nat → Nat} {p c q : Nat} (h : q ≠ p) : gq_up s p c q = s q := if_neg h
theorem gq_uid {s : Nat → Nat} {p c : Nat} (h : s p = c) : gq_up s p c = s := by
  funext q
  by_cases e : q = p
  · subst e; rw [gq_us, h]
  · exact gq_un e
theorem gq_uu {s : Nat → Nat} {p c d : Nat} : gq_up (gq_up s p c) p d = gq_up s p d := by
  funext q
  by_cases e : q = p
  · subst e; rw [gq_us, gq_us]
  · rw [gq_un e, gq_un e, gq_un e]
def gq_lim (p : Nat) : Nat := if p < 4 then 12 else 20
def gq_st (p : Nat) : Nat := if p < 4 then 12 + p else 16 + p
theorem gq_lim20 (p : Nat) : gq_lim p ≤ 20 := by unfold gq_lim; split <;> omega
noncomputable def gq_E (pr : Nat → Prop) (ok : Nat → (Nat → Nat) → Nat → Prop) : Nat → (Nat → Nat) → List (Nat → Nat)
  | 0, s => [s]
  | d + 1, s => bif gq_b (pr (7 - d)) then gq_scan (fun c => bif gq_b (ok (7 - d) s c) then gq_E pr ok d (gq_up s (7 - d) c) else []) 0 (gq_lim (7 - d)) else gq_E pr ok d (gq_up s (7 - d) (gq_st (7 - d)))
noncomputable def gq_g (pr : Nat → Prop) (ok : Nat → (Nat → Nat) → Nat → Prop) (p : Nat) (s : Nat → Nat) (c : Nat) : List (Nat → Nat) :=
  bif gq_b (ok p s c) then gq_E pr ok (7 - p) (gq_up s p c) else []
def gq_okx (pr : Nat → Prop) (ok : Nat → (Nat → Nat) → Nat → Prop) (p : Nat) (s : Nat → Nat) (c : Nat) : Prop :=
  (pr p ∧ c < gq_lim p ∧ ok p s c) ∨ (¬ pr p ∧ c = gq_st p)
noncomputable def gq_f (pr : Nat → Prop) (ok : Nat → (Nat → Nat) → Nat → Prop) (p : Nat) (s : Nat → Nat) (c : Nat) : List (Nat → Nat) :=
  bif gq_b (gq_okx pr ok p s c) then gq_E pr ok (7 - p) (gq_up s p c) else []
section GQ
variable {pr : Nat → Prop} {ok : Nat → (Nat → Nat) → Nat → Prop}
theorem gq_g1 {p : Nat} {s : Nat → Nat} {c : Nat} (h : ok p s c) : gq_g pr ok p s c = gq_E pr ok (7 - p) (gq_up s p c) := by
  unfold gq_g; rw [gq_bt h]; rfl
theorem gq_g0 {p : Nat} {s : Nat → Nat} {c : Nat} (h : ¬ ok p s c) : gq_g pr ok p s c = [] := by
  unfold gq_g; rw [gq_bf h]; rfl
theorem gq_f1 {p : Nat} {s : Nat → Nat} {c : Nat} (h : gq_okx pr ok p s c) : gq_f pr ok p s c = gq_E pr ok (7 - p) (gq_up s p c) := by
  unfold gq_f; rw [gq_bt h]; rfl
theorem gq_f0 {p : Nat} {s : Nat → Nat} {c : Nat} (h : ¬ gq_okx pr ok p s c) : gq_f pr ok p s c = [] := by
  unfold gq_f; rw [gq_bf h]; rfl
theorem gq_Ep {p : Nat} (hp : p < 8) (h : pr p) (s : Nat → Nat) : gq_E pr ok (8 - p) s = gq_scan (gq_g pr ok p s) 0 (gq_lim p) := by
  obtain ⟨d, rfl⟩ : ∃ d, p = 7 - d := ⟨7 - p, by omega⟩
  rcases Nat.lt_or_ge d 8 with hd | hd
  · rw [show 8 - (7 - d) = d + 1 by omega]
    show (bif gq_b (pr (7 - d)) then _ else _) = _
    rw [gq_bt h]
    show gq_scan _ 0 _ = _
    refine gq_scan_congr _ _ (fun i _ _ => ?_)
    unfold gq_g
    rw [show 7 - (7 - d) = d by omega]
  · have e : 7 - d = 0 := by omega
    rw [e] at h ⊢
    show (bif gq_b (pr (7 - 7)) then _ else _) = _
    rw [gq_bt h]
    rfl
theorem gq_En {p : Nat} (hp : p < 8) (h : ¬ pr p) (s : Nat → Nat) : gq_E pr ok (8 - p) s = gq_E pr ok (7 - p) (gq_up s p (gq_st p)) := by
  have e : 8 - p = (7 - p) + 1 := by omega
  rw [e]
  show (bif gq_b (pr (7 - (7 - p))) then _ else _) = _
  rw [show 7 - (7 - p) = p by omega, gq_bf h]
  rfl
theorem gq_Ex {p N : Nat} (hp : p < 8) (h1 : gq_lim p ≤ N) (h2 : gq_st p < N) (s : Nat → Nat) : gq_E pr ok (8 - p) s = gq_scan (gq_f pr ok p s) 0 N := by
  by_cases h : pr p
  · rw [gq_Ep hp h]
    obtain ⟨t, rfl⟩ : ∃ t, N = gq_lim p + t := ⟨N - gq_lim p, by omega⟩
    rw [gq_scan_add]
    have e2 : gq_scan (gq_f pr ok p s) (0 + gq_lim p) t = [] := by
      refine gq_scan_nil _ _ (fun i i1 i2 => gq_f0 ?_)
      rintro (⟨_, hc, _⟩ | ⟨hn, _⟩)
      · omega
      · exact hn h
    rw [e2, List.append_nil]
    refine gq_scan_congr _ _ (fun i i1 i2 => ?_)
    by_cases o : ok p s i
    · rw [gq_g1 o, gq_f1 (Or.inl ⟨h, by omega, o⟩)]
    · rw [gq_g0 o, gq_f0]
      rintro (⟨_, _, hc⟩ | ⟨hn, _⟩)
      · exact o hc
      · exact hn h
  · rw [gq_En hp h]
    have n0 : ∀ i, i ≠ gq_st p → gq_f pr ok p s i = [] := by
      intro i hi
      apply gq_f0
      rintro (⟨hh, _⟩ | ⟨_, hc⟩)
      · exact h hh
      · exact hi hc
    rw [gq_scan_hit (k := gq_st p) (fun i _ _ => n0 i (by omega)) h2, Nat.zero_add, gq_f1 (Or.inr ⟨h, rfl⟩), gq_scan_nil _ _ (fun i _ _ => n0 i (by omega)), List.append_nil]
theorem gq_Elen : ∀ d s, (gq_E pr ok d s).length ≤ 20 ^ d
  | 0, s => Nat.le_refl 1
  | d + 1, s => by
    show (bif gq_b (pr (7 - d)) then _ else _ : List (Nat → Nat)).length ≤ _
    have hp : 0 < 20 ^ d := Nat.pow_pos (by decide)
    rw [Nat.pow_succ]
    cases gq_b (pr (7 - d))
    · show (gq_E pr ok d _).length ≤ _
      exact Nat.le_trans (gq_Elen d _) (by omega)
    · show (gq_scan _ 0 _).length ≤ _
      refine Nat.le_trans (gq_scan_len (B := 20 ^ d) (fun i => ?_) _ _) ?_
      · show (bif gq_b (ok (7 - d) s i) then gq_E pr ok d (gq_up s (7 - d) i) else []).length ≤ _
        cases gq_b (ok (7 - d) s i)
        · exact Nat.zero_le _
        · exact gq_Elen d _
      · rw [Nat.mul_comm]
        exact Nat.mul_le_mul_left _ (gq_lim20 _)
theorem gq_flen {p : Nat} {s : Nat → Nat} (c : Nat) : (gq_f pr ok p s c).length ≤ 20 ^ (7 - p) := by
  unfold gq_f
  cases gq_b (gq_okx pr ok p s c)
  · exact Nat.zero_le _
  · exact gq_Elen _ _
theorem gq_prune {q a b va vb : Nat} (hq : q ≤ 7) (hpr : pr q) (hno : ∀ s : Nat → Nat, s a = va → s b = vb → ∀ c, c < gq_lim q → ¬ ok q s c) :
    ∀ d s, d ≤ 8 → 8 - d ≤ q → a < 8 - d → b < 8 - d → s a = va → s b = vb → gq_E pr ok d s = []
  | 0, s, _, h, _, _, _, _ => by omega
  | d + 1, s, h8, h, ha, hb, ea, eb => by
    have ih : ∀ c, 8 - d ≤ q → gq_E pr ok d (gq_up s (7 - d) c) = [] := fun c hd =>
      gq_prune hq hpr hno d (gq_up s (7 - d) c) (by omega) hd (by omega) (by omega) (by rw [gq_un (by omega), ea]) (by rw [gq_un (by omega), eb])
    rw [show d + 1 = 8 - (7 - d) by omega]
    by_cases e : 7 - d = q
    · rw [e, gq_Ep (by omega) hpr]
      exact gq_scan_nil _ _ (fun c _ hc => gq_g0 (hno s ea eb c (by omega)))
    · by_cases hp : pr (7 - d)
      · rw [gq_Ep (by omega) hp]
        refine gq_scan_nil _ _ (fun c _ hc => ?_)
        by_cases o : ok (7 - d) s c
        · rw [gq_g1 o, show 7 - (7 - d) = d by omega, ih c (by omega)]
        · exact gq_g0 o
      · rw [gq_En (by omega) hp, show 7 - (7 - d) = d by omega, ih _ (by omega)]
/-! ranks -/
noncomputable def gq_rk (pr : Nat → Prop) : Nat → Nat
  | 0 => 0
  | p + 1 => gq_rk pr p + (bif gq_b (pr p) then 1 else 0)
theorem gq_rk1 {p : Nat} (h : pr p) : gq_rk pr (p + 1) = gq_rk pr p + 1 := by
  show gq_rk pr p + (bif gq_b (pr p) then 1 else 0) = _
  rw [gq_bt h]; rfl
theorem gq_rk0 {p : Nat} (h : ¬ pr p) : gq_rk pr (p + 1) = gq_rk pr p := by
  show gq_rk pr p + (bif gq_b (pr p) then 1 else 0) = _
  rw [gq_bf h]; rfl
theorem gq_rkm {p : Nat} : ∀ d, gq_rk pr p ≤ gq_rk pr (p + d)
  | 0 => Nat.le_refl _
  | d + 1 => Nat.le_trans (gq_rkm d) (Nat.le_add_right _ _)
theorem gq_rk_mono {p q : Nat} (h : p ≤ q) : gq_rk pr p ≤ gq_rk pr q := by
  obtain ⟨d, rfl⟩ : ∃ d, q = p + d := ⟨q - p, by omega⟩
  exact gq_rkm d
theorem gq_rk_lt {p q : Nat} (hp : pr p) (h : p < q) : gq_rk pr p < gq_rk pr q := by
  have := gq_rk_mono (pr := pr) (show p + 1 ≤ q from h)
  rw [gq_rk1 hp] at this
  omega
theorem gq_rk_inj {p q : Nat} (hp : pr p) (hq : pr q) (h : gq_rk pr p = gq_rk pr q) : p = q := by
  rcases Nat.lt_trichotomy p q with z | z | z
  · have := gq_rk_lt hp z; omega
  · exact z
  · have := gq_rk_lt hq z; omega
theorem gq_rk_le {p q : Nat} (hp : pr p) (hq : pr q) : gq_rk pr p ≤ gq_rk pr q ↔ p ≤ q := by
  constructor
  · intro h
    rcases Nat.lt_or_ge q p with z | z
    · have := gq_rk_lt hq z; omega
    · exact z
  · exact gq_rk_mono
theorem gq_rk_id (p : Nat) : gq_rk pr p ≤ p := by
  induction p with
  | zero => exact Nat.le_refl 0
  | succ p ih =>
    show gq_rk pr p + (bif gq_b (pr p) then 1 else 0) ≤ _
    cases gq_b (pr p)
    · exact Nat.le_succ_of_le ih
    · exact Nat.succ_le_succ ih
theorem gq_rk_sur : ∀ q l, l < gq_rk pr q → ∃ p, p < q ∧ pr p ∧ gq_rk pr p = l
  | 0, l, h => absurd h (Nat.not_lt_zero l)
  | q + 1, l, h => by
    by_cases hq : pr q
    · rw [gq_rk1 hq] at h
      rcases Nat.lt_or_ge l (gq_rk pr q) with z | z
      · obtain ⟨p, h1, h2, h3⟩ := gq_rk_sur q l z
        exact ⟨p, by omega, h2, h3⟩
      · exact ⟨q, by omega, hq, by omega⟩
    · rw [gq_rk0 hq] at h
      obtain ⟨p, h1, h2, h3⟩ := gq_rk_sur q l h
      exact ⟨p, by omega, h2, h3⟩
/-! what is still to come -/
noncomputable def gq_R (pr : Nat → Prop) (ok : Nat → (Nat → Nat) → Nat → Prop) (s : Nat → Nat) : Nat → List (Nat → Nat)
  | 0 => []
  | p + 1 => (bif gq_b (pr p) then gq_scan (gq_g pr ok p s) (s p + 1) (gq_lim p - (s p + 1)) else []) ++ gq_R pr ok s p
noncomputable def gq_T (pr : Nat → Prop) (ok : Nat → (Nat → Nat) → Nat → Prop) (s : Nat → Nat) (p c : Nat) : List (Nat → Nat) :=
  gq_scan (gq_g pr ok p s) c (gq_lim p - c) ++ gq_R pr ok s p
noncomputable def gq_W (pr : Nat → Prop) (s : Nat → Nat) : Nat → Nat
  | 0 => 0
  | p + 1 => gq_W pr s p + (bif gq_b (pr p) then (22 - s p) * 24 ^ (8 - p) else 0)
theorem gq_R1 {s : Nat → Nat} {p : Nat} (h : pr p) : gq_R pr ok s (p + 1) = gq_T pr ok s p (s p + 1) := by
  show (bif gq_b (pr p) then _ else _) ++ _ = _
  rw [gq_bt h]; rfl
theorem gq_R0 {s : Nat → Nat} {p : Nat} (h : ¬ pr p) : gq_R pr ok s (p + 1) = gq_R pr ok s p := by
  show (bif gq_b (pr p) then _ else _) ++ _ = _
  rw [gq_bf h]; rfl
theorem gq_W1 {s : Nat → Nat} {p : Nat} (h : pr p) : gq_W pr s (p + 1) = gq_W pr s p + (22 - s p) * 24 ^ (8 - p) := by
  show _ + (bif gq_b (pr p) then _ else _) = _
  rw [gq_bt h]; rfl
theorem gq_W0 {s : Nat → Nat} {p : Nat} (h : ¬ pr p) : gq_W pr s (p + 1) = gq_W pr s p := by
  show _ + (bif gq_b (pr p) then _ else _) = _
  rw [gq_bf h]; rfl
theorem gq_T0 {s : Nat → Nat} {p : Nat} (hp : p < 8) (h : pr p) : gq_T pr ok s p 0 = gq_E pr ok (8 - p) s ++ gq_R pr ok s p := by
  rw [gq_Ep hp h]; rfl
theorem gq_down {s : Nat → Nat} : ∀ p, (gq_rk pr p = 0 ∧ gq_R pr ok s p = []) ∨ ∃ q, q < p ∧ pr q ∧ gq_rk pr q + 1 = gq_rk pr p ∧ gq_R pr ok s p = gq_T pr ok s q (s q + 1) ∧ gq_W pr s p = gq_W pr s q + (22 - s q) * 24 ^ (8 - q)
  | 0 => Or.inl ⟨rfl, rfl⟩
  | p + 1 => by
    by_cases h : pr p
    · exact Or.inr ⟨p, by omega, h, (gq_rk1 h).symm, gq_R1 h, gq_W1 h⟩
    · rw [gq_rk0 h, gq_R0 h, gq_W0 h]
      rcases gq_down (s := s) p with z | ⟨q, h1, h2, h3, h4, h5⟩
      · exact Or.inl z
      · exact Or.inr ⟨q, by omega, h2, h3, h4, h5⟩
theorem gq_next {s : Nat → Nat} (hs : ∀ q, q < 8 → ¬ pr q → s q = gq_st q) : ∀ d p, p + d = 8 →
    (∃ q, p ≤ q ∧ q < 8 ∧ pr q ∧ gq_rk pr q = gq_rk pr p ∧ gq_E pr ok (8 - p) s ++ gq_R pr ok s p = gq_T pr ok s q 0 ∧ gq_W pr s q = gq_W pr s p) ∨
    (gq_rk pr p = gq_rk pr 8 ∧ gq_E pr ok (8 - p) s ++ gq_R pr ok s p = s :: gq_R pr ok s 8)
  | 0, p, h => by
    obtain rfl : p = 8 := by omega
    exact Or.inr ⟨rfl, rfl⟩
  | d + 1, p, h => by
    by_cases hp : pr p
    · exact Or.inl ⟨p, Nat.le_refl p, by omega, hp, rfl, (gq_T0 (by omega) hp).symm, rfl⟩
    · have e : gq_E pr ok (8 - p) s ++ gq_R pr ok s p = gq_E pr ok (8 - (p + 1)) s ++ gq_R pr ok s (p + 1) := by
        rw [gq_En (by omega) hp, gq_uid (hs p (by omega) hp), gq_R0 hp, show 8 - (p + 1) = 7 - p by omega]
      rw [e, ← gq_rk0 hp, ← gq_W0 (s := s) hp]
      rcases gq_next hs d (p + 1) (by omega) with ⟨q, h1, h2, h3, h4, h5, h6⟩ | z
      · exact Or.inl ⟨q, by omega, h2, h3, h4, h5, h6⟩
      · exact Or.inr z
theorem gq_Wc {s t : Nat → Nat} : ∀ p, (∀ q, q < p → s q = t q) → gq_W pr s p = gq_W pr t p
  | 0, _ => rfl
  | p + 1, h => by
    show _ + (bif gq_b (pr p) then (22 - s p) * _ else _) = _ + (bif gq_b (pr p) then (22 - t p) * _ else _)
    rw [gq_Wc p (fun q hq => h q (by omega)), h p (by omega)]
/-- ok looks at the parts ahead alone -/
def gq_loc (ok : Nat → (Nat → Nat) → Nat → Prop) : Prop := ∀ p (s t : Nat → Nat) c, (∀ q, q < p → s q = t q) → (ok p s c ↔ ok p t c)
theorem gq_Ec (hl : gq_loc ok) : ∀ d (s t : Nat → Nat), d ≤ 8 → (∀ q, (q < 8 - d ∨ 8 ≤ q) → s q = t q) → gq_E pr ok d s = gq_E pr ok d t
  | 0, s, t, _, h => by
    have : s = t := funext fun q => h q (by omega)
    rw [this]
  | d + 1, s, t, hd, h => by
    have ih : ∀ c, gq_E pr ok d (gq_up s (7 - d) c) = gq_E pr ok d (gq_up t (7 - d) c) := fun c => by
      refine gq_Ec hl d _ _ (by omega) (fun q hq => ?_)
      by_cases e : q = 7 - d
      · subst e; rw [gq_us, gq_us]
      · rw [gq_un e, gq_un e, h q (by omega)]
    rw [show d + 1 = 8 - (7 - d) by omega]
    by_cases hp : pr (7 - d)
    · rw [gq_Ep (by omega) hp, gq_Ep (by omega) hp]
      refine gq_scan_congr _ _ (fun c _ _ => ?_)
      have o := hl (7 - d) s t c (fun q hq => h q (by omega))
      by_cases os : ok (7 - d) s c
      · rw [gq_g1 os, gq_g1 (o.mp os), show 7 - (7 - d) = d by omega, ih c]
      · rw [gq_g0 os, gq_g0 (fun z => os (o.mpr z))]
    · rw [gq_En (by omega) hp, gq_En (by omega) hp, show 7 - (7 - d) = d by omega, ih]
theorem gq_gc (hl : gq_loc ok) {p : Nat} (hp : p < 8) {s t : Nat → Nat} (h : ∀ q, (q < p ∨ 8 ≤ q) → s q = t q) (c : Nat) : gq_g pr ok p s c = gq_g pr ok p t c := by
  have o := hl p s t c (fun q hq => h q (by omega))
  have e : gq_E pr ok (7 - p) (gq_up s p c) = gq_E pr ok (7 - p) (gq_up t p c) := by
    refine gq_Ec hl _ _ _ (by omega) (fun q hq => ?_)
    by_cases e : q = p
    · subst e; rw [gq_us, gq_us]
    · rw [gq_un e, gq_un e, h q (by omega)]
  by_cases os : ok p s c
  · rw [gq_g1 os, gq_g1 (o.mp os), e]
  · rw [gq_g0 os, gq_g0 (fun z => os (o.mpr z))]
theorem gq_Rc (hl : gq_loc ok) {s t : Nat → Nat} : ∀ p, p ≤ 8 → (∀ q, (q < p ∨ 8 ≤ q) → s q = t q) → gq_R pr ok s p = gq_R pr ok t p
  | 0, _, _ => rfl
  | p + 1, hp, h => by
    have e := gq_Rc hl (s := s) (t := t) p (by omega) (fun q hq => h q (by omega))
    by_cases c : pr p
    · rw [gq_R1 c, gq_R1 c]
      unfold gq_T
      rw [e, h p (by omega), gq_scan_congr _ _ (fun i _ _ => gq_gc hl (by omega) (fun q hq => h q (by omega)) i)]
    · rw [gq_R0 c, gq_R0 c, e]
/-- a raise that finds c' -/
theorem gq_hit (hl : gq_loc ok) {p c c' : Nat} {s : Nat → Nat} (hp : p < 8) (hpr : pr p) (h1 : c ≤ c') (h2 : c' < gq_lim p) (hn : ∀ i, c ≤ i → i < c' → ¬ ok p s i) (ho : ok p s c') :
    gq_T pr ok s p c = gq_E pr ok (8 - (p + 1)) (gq_up s p c') ++ gq_R pr ok (gq_up s p c') (p + 1) := by
  rw [gq_R1 hpr]
  unfold gq_T
  rw [gq_us, gq_scan_hit (k := c' - c) (fun i i1 i2 => gq_g0 (hn i i1 (by omega))) (by omega), show c + (c' - c) = c' by omega, gq_g1 ho, List.append_assoc, show 8 - (p + 1) = 7 - p by omega,
    gq_Rc hl (s := gq_up s p c') (t := s) p (by omega) (fun q hq => gq_un (by omega)), show gq_lim p - c - (c' - c) - 1 = gq_lim p - (c' + 1) by omega,
    gq_scan_congr (f := gq_g pr ok p (gq_up s p c')) _ _ (fun i _ _ => gq_gc hl hp (fun q hq => gq_un (by omega)) i)]
theorem gq_miss {p c : Nat} {s : Nat → Nat} (hn : ∀ i, c ≤ i → i < gq_lim p → ¬ ok p s i) : gq_T pr ok s p c = gq_R pr ok s p := by
  unfold gq_T
  rw [gq_scan_nil _ _ (fun i i1 i2 => gq_g0 (hn i i1 (by omega)))]
  rfl
theorem gq_mu {p q c c' W B : Nat} (hpq : p < q) (hq : q < 8) (h1 : c ≤ c') (h2 : c' < 20) : W + (22 - c') * 24 ^ (8 - p) + 23 * 24 ^ (8 - q) < W + (23 - c) * 24 ^ (8 - p) := by
  have e : 24 ^ (8 - p) = 24 ^ (q - p) * 24 ^ (8 - q) := by rw [← Nat.pow_add]; congr 1; omega
  have e2 : 24 ≤ 24 ^ (q - p) := by
    rw [show q - p = (q - p - 1) + 1 by omega, Nat.pow_succ]
    have : 0 < 24 ^ (q - p - 1) := Nat.pow_pos (by decide)
    omega
  have e3 : 24 * 24 ^ (8 - q) ≤ 24 ^ (8 - p) := by rw [e]; exact Nat.mul_le_mul_right _ e2
  have e4 : 0 < 24 ^ (8 - q) := Nat.pow_pos (by decide)
  have e5 : (22 - c' + 1) * 24 ^ (8 - p) ≤ (23 - c) * 24 ^ (8 - p) := Nat.mul_le_mul_right _ (by omega)
  rw [Nat.succ_mul] at e5
  omega
end GQ
