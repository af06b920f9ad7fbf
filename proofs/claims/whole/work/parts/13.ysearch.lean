/-! the reference's search -/
def gy_P (b : Nat) (pat : Nat → Int32) : Prop :=
  b < 2 ∧ (∃ m, m < 4 ∧ pat (33 * b) = nI m) ∧ (∀ j, j < 4 → (gp_pr b pat (4 + j) ∨ gp_l1 b pat j) → pat (33 * b + 21 + j) = nI (gp_la b pat j + 4 * gp_lb b pat j) ∧ gp_pr b pat (gp_la b pat j) ∧ gp_pr b pat (gp_lb b pat j))
def gy_CH (pr : Nat → Prop) (p : Nat) (s : Nat → Nat) (ch : Nat → Int32) : Prop := ∀ q, q < p → pr q → ch (gq_rk pr q) = nI (s q)
def gy_PT (pr : Nat → Prop) (pt : Nat → Int32) : Prop := ∀ q, q < 8 → pr q → pt (gq_rk pr q) = nI q
theorem gp_la4 {b : Nat} {pat : Nat → Int32} (j : Nat) : gp_la b pat j < 4 ∧ gp_lb b pat j < 4 := ⟨Nat.mod_lt _ (by decide), Nat.mod_lt _ (by decide)⟩
theorem gp_loc {pr l1 : Nat → Prop} {la lb : Nat → Nat} {sp : Nat → Nat → Prop} {wy : Nat → Nat → Nat → Prop} {ed : Nat → Nat → Nat → Nat → Prop} {dn de : Prop} (hl : ∀ j, la j < 4 ∧ lb j < 4) : gq_loc (gp_ok pr l1 la lb sp wy ed dn de) := by
  have one : ∀ p (s t : Nat → Nat) c, (∀ q, q < p → s q = t q) → ((gp_ok pr l1 la lb sp wy ed dn de) p s c → (gp_ok pr l1 la lb sp wy ed dn de) p t c) := by
    intro p s t c h o
    have up : ∀ q, q ≤ p → gq_up s p c q = gq_up t p c q := fun q hq => by
      by_cases e : q = p
      · subst e; rw [gq_us, gq_us]
      · rw [gq_un e, gq_un e, h q (by omega)]
    refine ⟨fun hp => ?_, fun hp => ?_⟩
    · obtain ⟨o1, o2, o3⟩ := o.1 hp
      refine ⟨o1, fun d q hq hpr => ?_, fun j hj hl1 ha hb hab => ?_⟩
      · rw [← h q hq]; exact o2 d q hq hpr
      · rw [← up _ ha, ← up _ hb]; exact o3 j hj hl1 ha hb hab
    · obtain ⟨o1, o2⟩ := o.2 hp
      have := hl (p - 4)
      refine ⟨?_, fun d q hq hq4 hpr => ?_⟩
      · rw [← h _ (by omega), ← h _ (by omega)]; exact o1
      · rw [← h q hq]; exact o2 d q hq hq4 hpr
  exact fun p s t c h => ⟨one p s t c h, one p t s c (fun q hq => (h q hq).symm)⟩
section GYS
variable {b : Nat} {f_many : Int32} {a_nodeThere a_labels a_values a_edgeThere a_froms a_tos a_whats a_patterns a_parts a_chosen : Nat → Int32}
theorem gy_at {post : Int32 → Prop} (hb : b < 2) {c : Nat} (hc : c < 33) (h : post (a_patterns (33 * b + c))) : wpY_at post (nI (33 * b), f_many, a_nodeThere, a_labels, a_values, a_edgeThere, a_froms, a_tos, a_whats, a_patterns, a_parts, a_chosen) (nI c) := by
  have e : nI (33 * b) + nI c = nI (33 * b + c) := nI_add _ _
  refine ⟨by rw [e]; exact vp_in_nI (by omega) (by decide), ?_⟩
  rw [e, nI_clamp (by omega)]
  exact h
theorem gy_at2 {post : Int32 → Prop} (hb : b < 2) (d c : Nat) (hc : d + c < 33) (h : post (a_patterns (33 * b + d + c))) : wpY_at post (nI (33 * b), f_many, a_nodeThere, a_labels, a_values, a_edgeThere, a_froms, a_tos, a_whats, a_patterns, a_parts, a_chosen) (nI d + nI c) := by
  rw [nI_add]
  refine gy_at hb hc ?_
  rw [← Nat.add_assoc]
  exact h
theorem gy_isLink {post : Int32 → Prop} (hb : b < 2) {j : Nat} (hj : j < 4) {kd : Int32} (h1 : a_patterns (33 * b + 17 + j) = 1 ∧ a_patterns (33 * b + 29 + j) = kd → post 1) (h0 : ¬ (a_patterns (33 * b + 17 + j) = 1 ∧ a_patterns (33 * b + 29 + j) = kd) → post 0) : wpY_isLink post (nI (33 * b), f_many, a_nodeThere, a_labels, a_values, a_edgeThere, a_froms, a_tos, a_whats, a_patterns, a_parts, a_chosen) (nI j) kd := by
  unfold wpY_isLink
  refine gy_at2 hb 17 j (by omega) (br_c (fun z => ?_) (fun z => h0 (fun w => z w.1)))
  exact gy_at2 hb 29 j (by omega) (br_c (fun y => h1 ⟨z, y⟩) (fun y => h0 (fun w => y w.2)))
/-- order: which part stands at which place -/
theorem gy_order {post : SY → Prop} (hb : b < 2) (h : ∀ pt, gy_PT (gp_pr b a_patterns) pt → post (nI (33 * b), nI (gq_rk (gp_pr b a_patterns) 8), a_nodeThere, a_labels, a_values, a_edgeThere, a_froms, a_tos, a_whats, a_patterns, pt, a_chosen)) : wpY_order post (nI (33 * b), f_many, a_nodeThere, a_labels, a_values, a_edgeThere, a_froms, a_tos, a_whats, a_patterns, a_parts, a_chosen) := by
  have put : ∀ (p : Nat) (pt : Nat → Int32), p < 8 → (∀ q, q < p → gp_pr b a_patterns q → pt (gq_rk (gp_pr b a_patterns) q) = nI q) → gp_pr b a_patterns p → ∀ q, q < p + 1 → gp_pr b a_patterns q → upd pt (gq_rk (gp_pr b a_patterns) p) (nI p) (gq_rk (gp_pr b a_patterns) q) = nI q := by
    intro p pt hp I hpr q hq hq'
    by_cases e : q = p
    · subst e; exact pk_us
    · rw [pk_un (fun z => e (gq_rk_inj hq' hpr z))]; exact I q (by omega) hq'
  refine loop_0 (fun n i (z : Int32 × (Nat → Int32)) => wY_order_7 post (nI (33 * b)) n (nI i) z.1 a_nodeThere a_labels a_values a_edgeThere a_froms a_tos a_whats a_patterns z.2 a_chosen) (fun i z => z.1 = nI (gq_rk (gp_pr b a_patterns) i) ∧ ∀ q, q < i → gp_pr b a_patterns q → z.2 (gq_rk (gp_pr b a_patterns) q) = nI q) 4 (0, a_parts) ⟨rfl, fun q hq => absurd hq (Nat.not_lt_zero q)⟩ (fun n z I => br_t (nI_le (a := 4) (by omega) (by decide)) ?_) (fun n i z hi I ih => ?_)
  · obtain ⟨mn, pt⟩ := z
    refine loop_0 (fun n i (z : Int32 × (Nat → Int32)) => wY_order_51 post (nI (33 * b)) n (nI i) z.1 a_nodeThere a_labels a_values a_edgeThere a_froms a_tos a_whats a_patterns z.2 a_chosen) (fun i z => z.1 = nI (gq_rk (gp_pr b a_patterns) (4 + i)) ∧ ∀ q, q < 4 + i → gp_pr b a_patterns q → z.2 (gq_rk (gp_pr b a_patterns) q) = nI q) 4 (mn, pt) I (fun n z I => br_t (nI_le (a := 4) (by omega) (by decide)) ?_) (fun n i z hi I ih => ?_)
    · rw [I.1]
      exact h z.2 I.2
    · obtain ⟨mn, pt⟩ := z
      obtain ⟨I1, I2⟩ := I
      dsimp only at I1 I2
      subst I1
      have hr : gq_rk (gp_pr b a_patterns) (4 + i) < 8 := Nat.lt_of_le_of_lt (gq_rk_id _) (by omega)
      have cr : (nI (gq_rk (gp_pr b a_patterns) (4 + i))).toNatClampNeg = gq_rk (gp_pr b a_patterns) (4 + i) := nI_clamp (by omega)
      refine br_f (nI_ge (b := 4) hi (by decide)) (gy_isLink hb hi (fun z => br_f gn_10 ⟨vp_in_nI hr (by decide), nm_r (e' := upd pt (gq_rk (gp_pr b a_patterns) (4 + i)) (nI (4 + i))) (by rw [cr, show (4 : Int32) + nI i = nI (4 + i) from nI_add 4 i]) (nm_r (nI_1 _) (nm_r (nI_1 i) (ih (_, upd pt (gq_rk (gp_pr b a_patterns) (4 + i)) (nI (4 + i))) ⟨?_, ?_⟩)))⟩) (fun z => br_t rfl (nm_r (nI_1 i) (ih (_, pt) ⟨?_, fun q hq hq' => ?_⟩))))
      · have hp := (gp_pr8 hi).mpr z
        show nI (gq_rk (gp_pr b a_patterns) (4 + i) + 1) = nI (gq_rk (gp_pr b a_patterns) (4 + i + 1))
        rw [gq_rk1 hp]
      · exact put (4 + i) pt (by omega) I2 ((gp_pr8 hi).mpr z)
      · show nI (gq_rk (gp_pr b a_patterns) (4 + i)) = nI (gq_rk (gp_pr b a_patterns) (4 + i + 1))
        rw [gq_rk0 (fun y => z ((gp_pr8 hi).mp y))]
      · by_cases e : q = 4 + i
        · subst e; exact absurd ((gp_pr8 hi).mp hq') z
        · exact I2 q (by omega) hq'
  · obtain ⟨mn, pt⟩ := z
    obtain ⟨I1, I2⟩ := I
    dsimp only at I1 I2
    subst I1
    have hr : gq_rk (gp_pr b a_patterns) i < 8 := Nat.lt_of_le_of_lt (gq_rk_id _) (by omega)
    have cr : (nI (gq_rk (gp_pr b a_patterns) i)).toNatClampNeg = gq_rk (gp_pr b a_patterns) i := nI_clamp (by omega)
    refine br_f (nI_ge (b := 4) hi (by decide)) (gy_at2 hb 1 i (by omega) (br_c (fun z => ⟨vp_in_nI hr (by decide), nm_r (e' := upd pt (gq_rk (gp_pr b a_patterns) i) (nI i)) (by rw [cr]) (nm_r (nI_1 _) (nm_r (nI_1 i) (ih (_, upd pt (gq_rk (gp_pr b a_patterns) i) (nI i)) ⟨?_, ?_⟩)))⟩) (fun z => nm_r (nI_1 i) (ih (_, pt) ⟨?_, fun q hq hq' => ?_⟩))))
    · show nI (gq_rk (gp_pr b a_patterns) i + 1) = nI (gq_rk (gp_pr b a_patterns) (i + 1))
      rw [gq_rk1 ((gp_pr4 hi).mpr z)]
    · exact put i pt (by omega) I2 ((gp_pr4 hi).mpr z)
    · show nI (gq_rk (gp_pr b a_patterns) i) = nI (gq_rk (gp_pr b a_patterns) (i + 1))
      rw [gq_rk0 (fun y => z ((gp_pr4 hi).mp y))]
    · by_cases e : q = i
      · subst e; exact absurd ((gp_pr4 hi).mp hq') z
      · exact I2 q (by omega) hq'
section GYL
variable {pr : Nat → Prop} {f_base : Int32}
/-- place: where a part stands -/
theorem gy_pl {post : Int32 → Prop} {q t : Nat} (hPT : gy_PT pr a_parts) (hq : q < 8) (ht : (pr q ∧ t = gq_rk pr q) ∨ (¬ pr q ∧ t = gq_rk pr 8)) (h : post (nI t)) : wpY_place post (f_base, nI (gq_rk pr 8), a_nodeThere, a_labels, a_values, a_edgeThere, a_froms, a_tos, a_whats, a_patterns, a_parts, a_chosen) (nI q) := by
  have h8 : gq_rk pr 8 ≤ 8 := gq_rk_id 8
  have t8 : t ≤ gq_rk pr 8 := by
    rcases ht with ⟨_, e⟩ | ⟨_, e⟩
    · rw [e]; exact gq_rk_mono (by omega)
    · omega
  refine loop_0 (fun n i (_ : Unit) => wY_place_2 post (nI q) f_base (nI (gq_rk pr 8)) a_nodeThere a_labels a_values a_edgeThere a_froms a_tos a_whats a_patterns a_parts a_chosen n (nI i)) (fun _ _ => True) t () trivial (fun n s _ => ?_) (fun n i s hi _ ih => ?_)
  · by_cases e : gq_rk pr 8 ≤ t
    · exact br_t (nI_le e (by omega)) h
    · rcases ht with ⟨hp, et⟩ | ⟨hp, et⟩
      · refine br_f (nI_ge (by omega) (by omega)) ⟨vp_in_nI (by omega) (by decide), br_t ?_ h⟩
        rw [nI_clamp (by omega), et]
        exact hPT q hq hp
      · omega
  · refine br_f (nI_ge (by omega) (by omega)) ⟨vp_in_nI (by omega) (by decide), br_f ?_ (nm_r (nI_1 i) (ih () trivial))⟩
    rw [nI_clamp (by omega)]
    obtain ⟨p', hp8, hp', er⟩ := gq_rk_sur (pr := pr) 8 i (by omega)
    rw [← er, hPT p' hp8 hp', nI_eq (by omega) (by omega)]
    intro z
    subst z
    rcases ht with ⟨_, et⟩ | ⟨hp, _⟩
    · omega
    · exact hp hp'
theorem gy_taken {post : Int32 → Prop} {p c : Nat} {s : Nat → Nat} (hPT : gy_PT pr a_parts) (hp8 : p < 8) (hp : pr p) (hCH : gy_CH pr p s a_chosen) (hc : a_chosen (gq_rk pr p) = nI c) (hs : ∀ q, q < p → pr q → s q < 100) (hc1 : c < 100)
    (h1 : ∀ q, q < p → pr q → q / 4 = p / 4 → s q = c → post 1) (h0 : (∀ q, q < p → pr q → q / 4 = p / 4 → s q ≠ c) → post 0) : wpY_taken post (f_base, nI (gq_rk pr 8), a_nodeThere, a_labels, a_values, a_edgeThere, a_froms, a_tos, a_whats, a_patterns, a_parts, a_chosen) (nI (gq_rk pr p)) := by
  have hr : gq_rk pr p < 8 := Nat.lt_of_le_of_lt (gq_rk_id p) hp8
  have cr : (nI (gq_rk pr p)).toNatClampNeg = gq_rk pr p := nI_clamp (by omega)
  refine loop_0 (fun n k x => wY_taken_4 post (nI (gq_rk pr p)) f_base (nI (gq_rk pr 8)) a_nodeThere a_labels a_values a_edgeThere a_froms a_tos a_whats a_patterns a_parts a_chosen n x (nI k)) (fun k x => (x = 1 ∧ ∃ q, q < p ∧ pr q ∧ q / 4 = p / 4 ∧ s q = c) ∨ (x = 0 ∧ ∀ q, q < p → pr q → gq_rk pr q < k → q / 4 = p / 4 → s q ≠ c)) (gq_rk pr p) 0 (Or.inr ⟨rfl, fun q _ _ z => absurd z (Nat.not_lt_zero _)⟩) (fun n x I => ?_) (fun n k x hk I ih => ?_)
  · refine br_t (nI_le (Nat.le_refl _) (by omega)) ?_
    rcases I with ⟨e, q, a1, a2, a3, a4⟩ | ⟨e, z⟩
    · rw [e]; exact ⟨gn_n1, h1 q a1 a2 a3 a4⟩
    · rw [e]; exact ⟨gn_n0, h0 (fun q a1 a2 a3 => z q a1 a2 (gq_rk_lt a2 a1) a3)⟩
  · refine br_f (nI_ge hk (by omega)) ?_
    rcases I with ⟨e, z⟩ | ⟨e, z⟩
    · subst e
      exact br_f gn_10 (nm_r (nI_1 k) (ih _ (Or.inl ⟨rfl, z⟩)))
    · subst e
      have wk : vp_in (nI k) 8 := vp_in_nI (by omega) (by decide)
      have wp : vp_in (nI (gq_rk pr p)) 8 := vp_in_nI hr (by decide)
      have ck : (nI k).toNatClampNeg = k := nI_clamp (by omega)
      obtain ⟨q, hq8, hq, er⟩ := gq_rk_sur (pr := pr) 8 k (by have := gq_rk_mono (pr := pr) (show p ≤ 8 by omega); omega)
      have hqp : q < p := by
        rcases Nat.lt_or_ge q p with y | y
        · exact y
        · have := gq_rk_mono (pr := pr) y; omega
      have pk : a_parts (nI k).toNatClampNeg / 4 = nI (q / 4) := by rw [ck, ← er, hPT q hq8 hq]; exact pk_div (a := q) (d := 4) (by omega) (by decide) (by decide)
      have pp : a_parts (nI (gq_rk pr p)).toNatClampNeg / 4 = nI (p / 4) := by rw [cr, hPT p hp8 hp]; exact pk_div (a := p) (d := 4) (by omega) (by decide) (by decide)
      have more : ¬ (q / 4 = p / 4 ∧ s q = c) → ∀ q', q' < p → pr q' → gq_rk pr q' < k + 1 → q' / 4 = p / 4 → s q' ≠ c := by
        intro no q' b1 b2 b3 b4 b5
        by_cases y : gq_rk pr q' < k
        · exact z q' b1 b2 y b4 b5
        · have : q' = q := gq_rk_inj b2 hq (by omega)
          subst this
          exact no ⟨b4, b5⟩
      refine br_t rfl ⟨wk, gn_d4, wp, gn_d4, ?_⟩
      rw [pk, pp]
      refine pk_eq (q / 4) (p / 4) (fun e4 => ⟨wk, wp, ?_⟩) (fun e4 => nm_r (nI_1 k) (ih _ (Or.inr ⟨rfl, more (fun y => e4 y.1)⟩)))
      have := hs q hqp hq
      rw [ck, cr, ← er, hCH q hqp hq, hc, er]
      exact pk_eq (s q) c (fun es => nm_r (nI_1 k) (ih _ (Or.inl ⟨rfl, q, hqp, hq, e4, es⟩))) (fun es => nm_r (nI_1 k) (ih _ (Or.inr ⟨rfl, more (fun y => es y.2)⟩)))
end GYL
theorem gy_waysAt {post : Int32 → Prop} {p : Nat} {s : Nat → Nat} (hP : gy_P b a_patterns) (hT : ∀ e, a_edgeThere e = 0 ∨ a_edgeThere e = 1) (hPT : gy_PT (gp_pr b a_patterns) a_parts) (hp4 : p < 4) (hp : gp_pr b a_patterns p) (hCH : gy_CH (gp_pr b a_patterns) (p + 1) s a_chosen)
    (h1 : (∀ j, j < 4 → gp_l1 b a_patterns j → gp_la b a_patterns j ≤ p → gp_lb b a_patterns j ≤ p → (gp_la b a_patterns j = p ∨ gp_lb b a_patterns j = p) → gp_wy b a_patterns a_edgeThere a_froms a_tos a_whats j (s (gp_la b a_patterns j)) (s (gp_lb b a_patterns j))) → post 1)
    (h0 : ∀ j, j < 4 → gp_l1 b a_patterns j → gp_la b a_patterns j ≤ p → gp_lb b a_patterns j ≤ p → (gp_la b a_patterns j = p ∨ gp_lb b a_patterns j = p) → ¬ gp_wy b a_patterns a_edgeThere a_froms a_tos a_whats j (s (gp_la b a_patterns j)) (s (gp_lb b a_patterns j)) → post 0) :
    wpY_waysAt post (nI (33 * b), nI (gq_rk (gp_pr b a_patterns) 8), a_nodeThere, a_labels, a_values, a_edgeThere, a_froms, a_tos, a_whats, a_patterns, a_parts, a_chosen) (nI (gq_rk (gp_pr b a_patterns) p)) := by
  obtain ⟨hb, _, hK⟩ := hP
  have rk8 : ∀ q, q < 4 → gq_rk (gp_pr b a_patterns) q < 8 := fun q hq => Nat.lt_of_le_of_lt (gq_rk_id q) (by omega)
  refine loop_0 (fun n j x => wY_waysAt_4 post (nI (gq_rk (gp_pr b a_patterns) p)) (nI (33 * b)) (nI (gq_rk (gp_pr b a_patterns) 8)) a_nodeThere a_labels a_values a_edgeThere a_froms a_tos a_whats a_patterns a_parts a_chosen n x (nI j)) (fun j x => (x = 1 ∧ ∀ q, q < j → gp_l1 b a_patterns q → gp_la b a_patterns q ≤ p → gp_lb b a_patterns q ≤ p → (gp_la b a_patterns q = p ∨ gp_lb b a_patterns q = p) → gp_wy b a_patterns a_edgeThere a_froms a_tos a_whats q (s (gp_la b a_patterns q)) (s (gp_lb b a_patterns q))) ∨ (x = 0 ∧ post 0)) 4 1 (Or.inl ⟨rfl, fun q hq => absurd hq (Nat.not_lt_zero q)⟩) (fun n x I => ?_) (fun n j x hj I ih => ?_)
  · refine br_t (nI_le (a := 4) (by omega) (by decide)) ?_
    rcases I with ⟨e, z⟩ | ⟨e, z⟩
    · rw [e]; exact ⟨gn_n1, h1 z⟩
    · rw [e]; exact ⟨gn_n0, z⟩
  · refine br_f (nI_ge (b := 4) hj (by decide)) ?_
    rcases I with ⟨e, z⟩ | ⟨e, z⟩
    · subst e
      have more : (gp_l1 b a_patterns j → gp_la b a_patterns j ≤ p → gp_lb b a_patterns j ≤ p → (gp_la b a_patterns j = p ∨ gp_lb b a_patterns j = p) → gp_wy b a_patterns a_edgeThere a_froms a_tos a_whats j (s (gp_la b a_patterns j)) (s (gp_lb b a_patterns j))) → wY_waysAt_4 post (nI (gq_rk (gp_pr b a_patterns) p)) (nI (33 * b)) (nI (gq_rk (gp_pr b a_patterns) 8)) a_nodeThere a_labels a_values a_edgeThere a_froms a_tos a_whats a_patterns a_parts a_chosen n 1 (nI (j + 1)) := by
        intro w
        refine ih _ (Or.inl ⟨rfl, fun q hq => ?_⟩)
        by_cases e : q = j
        · subst e; exact w
        · exact z q (by omega)
      refine br_f gn_10 (gy_isLink hb hj (fun hl => br_f gn_10 ?_) (fun hl => br_t rfl (nm_r (nI_1 j) (more (fun w => absurd w hl)))))
      obtain ⟨eab, pa, pb⟩ := hK j hj (Or.inr hl)
      obtain ⟨la4, lb4⟩ := gp_la4 (b := b) (pat := a_patterns) j
      have er : nI (gp_la b a_patterns j + 4 * gp_lb b a_patterns j) - nI (gp_la b a_patterns j + 4 * gp_lb b a_patterns j) / 4 * 4 = nI (gp_la b a_patterns j) := by
        have := pk_rem (a := gp_la b a_patterns j + 4 * gp_lb b a_patterns j) (d := 4) (by omega) (by decide) (by decide)
        rw [show (gp_la b a_patterns j + 4 * gp_lb b a_patterns j) % 4 = gp_la b a_patterns j by omega] at this
        exact this
      have ed : nI (gp_la b a_patterns j + 4 * gp_lb b a_patterns j) / 4 = nI (gp_lb b a_patterns j) := by
        have := pk_div (a := gp_la b a_patterns j + 4 * gp_lb b a_patterns j) (d := 4) (by omega) (by decide) (by decide)
        rw [show (gp_la b a_patterns j + 4 * gp_lb b a_patterns j) / 4 = gp_lb b a_patterns j by omega] at this
        exact this
      refine gy_at2 hb 21 j (by omega) ⟨gn_d4, ?_⟩
      rw [eab, er]
      refine gy_pl hPT (by omega) (Or.inl ⟨pa, rfl⟩) ?_
      refine gy_at2 hb 21 j (by omega) ⟨gn_d4, ?_⟩
      rw [eab, ed]
      refine gy_pl hPT (by omega) (Or.inl ⟨pb, rfl⟩) ?_
      have ra := rk8 _ la4
      have rb := rk8 _ lb4
      have rp := rk8 _ hp4
      have skip : (¬ (gp_la b a_patterns j ≤ p ∧ gp_lb b a_patterns j ≤ p ∧ (gp_la b a_patterns j = p ∨ gp_lb b a_patterns j = p))) → wY_waysAt_82 post (wY_waysAt_4 post (nI (gq_rk (gp_pr b a_patterns) p)) (nI (33 * b)) (nI (gq_rk (gp_pr b a_patterns) 8)) a_nodeThere a_labels a_values a_edgeThere a_froms a_tos a_whats a_patterns a_parts a_chosen n) (nI (gq_rk (gp_pr b a_patterns) p)) (nI j) (nI (gq_rk (gp_pr b a_patterns) (gp_la b a_patterns j))) (nI (gq_rk (gp_pr b a_patterns) (gp_lb b a_patterns j))) (nI (33 * b)) (nI (gq_rk (gp_pr b a_patterns) 8)) a_nodeThere a_labels a_values a_edgeThere a_froms a_tos a_whats a_patterns a_parts a_chosen := fun no =>
        br_t rfl (nm_r (nI_1 j) (more (fun _ w1 w2 w3 => absurd ⟨w1, w2, w3⟩ no)))
      have test : gp_la b a_patterns j ≤ p → gp_lb b a_patterns j ≤ p → (gp_la b a_patterns j = p ∨ gp_lb b a_patterns j = p) → wY_waysAt_78 post (wY_waysAt_4 post (nI (gq_rk (gp_pr b a_patterns) p)) (nI (33 * b)) (nI (gq_rk (gp_pr b a_patterns) 8)) a_nodeThere a_labels a_values a_edgeThere a_froms a_tos a_whats a_patterns a_parts a_chosen n) (nI (gq_rk (gp_pr b a_patterns) p)) (nI j) (nI (gq_rk (gp_pr b a_patterns) (gp_la b a_patterns j))) (nI (gq_rk (gp_pr b a_patterns) (gp_lb b a_patterns j))) (nI (33 * b)) (nI (gq_rk (gp_pr b a_patterns) 8)) a_nodeThere a_labels a_values a_edgeThere a_froms a_tos a_whats a_patterns a_parts a_chosen := by
        intro w1 w2 w3
        have ca : a_chosen (nI (gq_rk (gp_pr b a_patterns) (gp_la b a_patterns j))).toNatClampNeg = nI (s (gp_la b a_patterns j)) := by rw [nI_clamp (by omega)]; exact hCH _ (by omega) pa
        have cb : a_chosen (nI (gq_rk (gp_pr b a_patterns) (gp_lb b a_patterns j))).toNatClampNeg = nI (s (gp_lb b a_patterns j)) := by rw [nI_clamp (by omega)]; exact hCH _ (by omega) pb
        refine br_f gn_10 ⟨vp_in_nI ra (by decide), gy_at2 hb 25 j (by omega) ?_⟩
        rw [ca]
        refine gy_ways (k := 3) hT (by omega) ⟨vp_in_nI rb (by decide), ?_⟩
        rw [cb]
        exact br_c (fun y => nm_r (nI_1 j) (more (fun _ _ _ _ => y))) (fun y => nm_r (nI_1 j) (ih _ (Or.inr ⟨rfl, h0 j hj hl w1 w2 w3 y⟩)))
      refine pk_lt (gq_rk (gp_pr b a_patterns) p) (gq_rk (gp_pr b a_patterns) (gp_la b a_patterns j)) (fun q => skip (fun w => ?_)) (fun q => pk_lt (gq_rk (gp_pr b a_patterns) p) (gq_rk (gp_pr b a_patterns) (gp_lb b a_patterns j)) (fun r => skip (fun w => ?_)) (fun r => ?_))
      · have := gq_rk_mono (pr := (gp_pr b a_patterns)) w.1; omega
      · have := gq_rk_mono (pr := (gp_pr b a_patterns)) w.2.1; omega
      · have a1 := (gq_rk_le pa hp).mp q
        have a2 := (gq_rk_le pb hp).mp r
        refine pk_eq (gq_rk (gp_pr b a_patterns) (gp_la b a_patterns j)) (gq_rk (gp_pr b a_patterns) p) (fun q2 => test a1 a2 (Or.inl (gq_rk_inj pa hp q2))) (fun q2 => pk_eq (gq_rk (gp_pr b a_patterns) (gp_lb b a_patterns j)) (gq_rk (gp_pr b a_patterns) p) (fun q3 => test a1 a2 (Or.inr (gq_rk_inj pb hp q3))) (fun q3 => skip (fun w => ?_)))
        rcases w.2.2 with y | y
        · exact q2 (by rw [y])
        · exact q3 (by rw [y])
    · subst e
      exact br_t rfl ⟨gn_n0, z⟩
end GYS
