/-! the reference's search: a part fits, is raised; the search goes on -/
theorem gy_CHu {pr : Nat → Prop} {p c : Nat} {s : Nat → Nat} {ch : Nat → Int32} (h : gy_CH pr p s ch) (hc : ch (gq_rk pr p) = nI c) : gy_CH pr (p + 1) (gq_up s p c) ch := fun q hq hp => by
  by_cases e : q = p
  · subst e; rw [gq_us]; exact hc
  · rw [gq_un e]; exact h q (by omega) hp
theorem gy_CHk {pr : Nat → Prop} {p : Nat} {s : Nat → Nat} {ch : Nat → Int32} {x : Int32} (h : gy_CH pr p s ch) : gy_CH pr p s (upd ch (gq_rk pr p) x) := fun q hq hp => by
  rw [pk_un (Nat.ne_of_lt (gq_rk_lt hp hq))]; exact h q hq hp
section GYA
variable {b : Nat} {a_nodeThere a_labels a_values a_edgeThere a_froms a_tos a_whats a_patterns a_parts a_chosen : Nat → Int32}
theorem gy_fits {post : Int32 → Prop} {p c : Nat} {s : Nat → Nat} (hP : gy_P b a_patterns) (hT : ∀ e, a_edgeThere e = 0 ∨ a_edgeThere e = 1) (hNT : ∀ n, a_nodeThere n = 0 ∨ a_nodeThere n = 1) (hPT : gy_PT (gp_pr b a_patterns) a_parts) (hp8 : p < 8) (hp : gp_pr b a_patterns p) (hCH : gy_CH (gp_pr b a_patterns) p s a_chosen) (hc : a_chosen (gq_rk (gp_pr b a_patterns) p) = nI c) (hs : ∀ q, q < p → gp_pr b a_patterns q → s q < gq_lim q) (hcl : c < gq_lim p)
    (h1 : (gp_ok (gp_pr b a_patterns) (gp_l1 b a_patterns) (gp_la b a_patterns) (gp_lb b a_patterns) (gp_sp b a_patterns a_nodeThere a_labels a_values) (gp_wy b a_patterns a_edgeThere a_froms a_tos a_whats) (gp_ed b a_patterns a_edgeThere a_froms a_tos a_whats) (gp_dn b a_patterns) (gp_de b a_patterns)) p s c → post 1) (h0 : ¬ (gp_ok (gp_pr b a_patterns) (gp_l1 b a_patterns) (gp_la b a_patterns) (gp_lb b a_patterns) (gp_sp b a_patterns a_nodeThere a_labels a_values) (gp_wy b a_patterns a_edgeThere a_froms a_tos a_whats) (gp_ed b a_patterns a_edgeThere a_froms a_tos a_whats) (gp_dn b a_patterns) (gp_de b a_patterns)) p s c → post 0) : wpY_fits post (nI (33 * b), nI (gq_rk (gp_pr b a_patterns) 8), a_nodeThere, a_labels, a_values, a_edgeThere, a_froms, a_tos, a_whats, a_patterns, a_parts, a_chosen) (nI (gq_rk (gp_pr b a_patterns) p)) := by
  have hP' := hP
  obtain ⟨hb, hm, hK⟩ := hP'
  have hr : gq_rk (gp_pr b a_patterns) p < 8 := Nat.lt_of_le_of_lt (gq_rk_id p) hp8
  have cr : (nI (gq_rk (gp_pr b a_patterns) p)).toNatClampNeg = gq_rk (gp_pr b a_patterns) p := nI_clamp (by omega)
  have wr : vp_in (nI (gq_rk (gp_pr b a_patterns) p)) 8 := vp_in_nI hr (by decide)
  have c20 : c < 20 := Nat.lt_of_lt_of_le hcl (gq_lim20 p)
  have cc : (nI c).toNatClampNeg = c := nI_clamp (by omega)
  have hs100 : ∀ q, q < p → gp_pr b a_patterns q → s q < 100 := fun q hq hpq => by
    have := hs q hq hpq
    have := gq_lim20 q
    omega
  refine ⟨wr, nm_r (e' := nI p) (by rw [cr]; exact hPT p hp8 hp) ⟨wr, nm_r (e' := nI c) (by rw [cr]; exact hc) ?_⟩⟩
  by_cases h4 : 4 ≤ p
  · obtain ⟨j, rfl⟩ : ∃ j, p = 4 + j := ⟨p - 4, by omega⟩
    have hj : j < 4 := by omega
    rw [gq_lim8] at hcl
    obtain ⟨eab, pa, pb⟩ := hK j hj (Or.inl hp)
    obtain ⟨la4, lb4⟩ := gp_la4 (b := b) (pat := a_patterns) j
    have er : nI (gp_la b a_patterns j + 4 * gp_lb b a_patterns j) - nI (gp_la b a_patterns j + 4 * gp_lb b a_patterns j) / 4 * 4 = nI (gp_la b a_patterns j) := by
      have := pk_rem (a := gp_la b a_patterns j + 4 * gp_lb b a_patterns j) (d := 4) (by omega) (by decide) (by decide)
      rw [show (gp_la b a_patterns j + 4 * gp_lb b a_patterns j) % 4 = gp_la b a_patterns j by omega] at this
      exact this
    have ed : nI (gp_la b a_patterns j + 4 * gp_lb b a_patterns j) / 4 = nI (gp_lb b a_patterns j) := by
      have := pk_div (a := gp_la b a_patterns j + 4 * gp_lb b a_patterns j) (d := 4) (by omega) (by decide) (by decide)
      rw [show (gp_la b a_patterns j + 4 * gp_lb b a_patterns j) / 4 = gp_lb b a_patterns j by omega] at this
      exact this
    have oki : (gp_ok (gp_pr b a_patterns) (gp_l1 b a_patterns) (gp_la b a_patterns) (gp_lb b a_patterns) (gp_sp b a_patterns a_nodeThere a_labels a_values) (gp_wy b a_patterns a_edgeThere a_froms a_tos a_whats) (gp_ed b a_patterns a_edgeThere a_froms a_tos a_whats) (gp_dn b a_patterns) (gp_de b a_patterns)) (4 + j) s c ↔ gp_ed b a_patterns a_edgeThere a_froms a_tos a_whats j c (s (gp_la b a_patterns j)) (s (gp_lb b a_patterns j)) ∧ (gp_de b a_patterns → ∀ q, q < 4 + j → 4 ≤ q → gp_pr b a_patterns q → s q ≠ c) := by
      unfold gp_ok
      rw [show 4 + j - 4 = j by omega]
      exact ⟨fun z => z.2 (by omega), fun z => ⟨fun y => by omega, fun _ => z⟩⟩
    have ra : gq_rk (gp_pr b a_patterns) (gp_la b a_patterns j) < 8 := Nat.lt_of_le_of_lt (gq_rk_id _) (by omega)
    have rb : gq_rk (gp_pr b a_patterns) (gp_lb b a_patterns j) < 8 := Nat.lt_of_le_of_lt (gq_rk_id _) (by omega)
    have bad : ¬ gp_ed b a_patterns a_edgeThere a_froms a_tos a_whats j c (s (gp_la b a_patterns j)) (s (gp_lb b a_patterns j)) → wY_fits_211 post (nI (gq_rk (gp_pr b a_patterns) (4 + j))) (nI (33 * b)) (nI (gq_rk (gp_pr b a_patterns) 8)) a_nodeThere a_labels a_values a_edgeThere a_froms a_tos a_whats a_patterns a_parts a_chosen := fun no =>
      br_t rfl (h0 (fun z => no (oki.mp z).1))
    have wc : vp_in (nI c) 20 := vp_in_nI hcl (by decide)
    refine br_t (nI_le (a := 4) (by omega) (by omega)) (nm_r (e' := nI j) (by
      have := pk_sub (a := 4 + j) (b := 4) (by omega)
      rw [show 4 + j - 4 = j by omega] at this
      exact this) ?_)
    refine gy_at2 hb 25 j (by omega) (gy_typed hcl hT (fun ty => br_f gn_10 ⟨wc, ?_⟩) (fun ty => br_t rfl (bad (fun z => ty z.1))))
    refine gy_at2 hb 21 j (by omega) ⟨gn_d4, ?_⟩
    rw [eab, er, cc]
    refine gy_pl hPT (by omega) (Or.inl ⟨pa, rfl⟩) ⟨vp_in_nI ra (by decide), ?_⟩
    rw [nI_clamp (n := gq_rk (gp_pr b a_patterns) (gp_la b a_patterns j)) (by omega), hCH _ (by omega) pa]
    refine br_c (fun f1 => ⟨wc, ?_⟩) (fun f1 => bad (fun z => f1 z.2.1))
    refine gy_at2 hb 21 j (by omega) ⟨gn_d4, ?_⟩
    rw [eab, ed]
    refine gy_pl hPT (by omega) (Or.inl ⟨pb, rfl⟩) ⟨vp_in_nI rb (by decide), ?_⟩
    rw [nI_clamp (n := gq_rk (gp_pr b a_patterns) (gp_lb b a_patterns j)) (by omega), hCH _ (by omega) pb]
    refine br_c (fun f2 => br_f gn_10 (gy_at (c := 0) hb (by omega) (br_c (fun g => h1 (oki.mpr ⟨⟨ty, f1, f2⟩, fun d => absurd g d⟩)) (fun g => ?_)))) (fun f2 => bad (fun z => f2 z.2.2))
    refine gy_taken hPT hp8 hp hCH hc hs100 (by omega) (fun q q1 q2 q3 q4 => br_f gn_10 (h0 (fun z => (oki.mp z).2 g q q1 (by omega) q2 q4))) (fun q => br_t rfl (h1 (oki.mpr ⟨⟨ty, f1, f2⟩, fun _ q' q1 q2 q3 => q q' q1 q3 (by omega)⟩)))
  · have h4 : p < 4 := by omega
    rw [gq_lim4 h4] at hcl
    have wc : vp_in (nI c) 12 := vp_in_nI hcl (by decide)
    have oki : (gp_ok (gp_pr b a_patterns) (gp_l1 b a_patterns) (gp_la b a_patterns) (gp_lb b a_patterns) (gp_sp b a_patterns a_nodeThere a_labels a_values) (gp_wy b a_patterns a_edgeThere a_froms a_tos a_whats) (gp_ed b a_patterns a_edgeThere a_froms a_tos a_whats) (gp_dn b a_patterns) (gp_de b a_patterns)) p s c ↔ gp_sp b a_patterns a_nodeThere a_labels a_values p c ∧ (gp_dn b a_patterns → ∀ q, q < p → gp_pr b a_patterns q → s q ≠ c) ∧ (∀ j, j < 4 → gp_l1 b a_patterns j → gp_la b a_patterns j ≤ p → gp_lb b a_patterns j ≤ p → (gp_la b a_patterns j = p ∨ gp_lb b a_patterns j = p) → gp_wy b a_patterns a_edgeThere a_froms a_tos a_whats j (gq_up s p c (gp_la b a_patterns j)) (gq_up s p c (gp_lb b a_patterns j))) := by
      unfold gp_ok
      exact ⟨fun z => z.1 h4, fun z => ⟨fun _ => z, fun y => by omega⟩⟩
    have bad : ¬ gp_sp b a_patterns a_nodeThere a_labels a_values p c → wY_fits_86 post (nI (gq_rk (gp_pr b a_patterns) p)) (nI (33 * b)) (nI (gq_rk (gp_pr b a_patterns) 8)) a_nodeThere a_labels a_values a_edgeThere a_froms a_tos a_whats a_patterns a_parts a_chosen := fun no =>
      br_t rfl (h0 (fun z => no (oki.mp z).1))
    have last : gp_sp b a_patterns a_nodeThere a_labels a_values p c → (gp_dn b a_patterns → ∀ q, q < p → gp_pr b a_patterns q → s q ≠ c) → wY_fits_113 post (nI (gq_rk (gp_pr b a_patterns) p)) (nI (33 * b)) (nI (gq_rk (gp_pr b a_patterns) 8)) a_nodeThere a_labels a_values a_edgeThere a_froms a_tos a_whats a_patterns a_parts a_chosen := fun g1 g2 => by
      unfold wY_fits_113
      exact gy_waysAt hP hT hPT h4 hp (gy_CHu hCH hc) (fun w => br_f gn_10 (h1 (oki.mpr ⟨g1, g2, w⟩))) (fun j j1 j2 j3 j4 j5 j6 => br_t rfl (h0 (fun z => j6 ((oki.mp z).2.2 j j1 j2 j3 j4 j5))))
    refine br_f (nI_ge (b := 4) h4 (by decide)) ⟨wc, ?_⟩
    rw [cc]
    rcases hNT c with t | t
    · exact br_t t (bad (fun z => gn_10 (z.1.symm.trans t)))
    refine br_f (fun z => gn_10 (t.symm.trans z)) (gy_at2 hb 5 p (by omega) ⟨wc, br_c (fun g1 => ⟨wc, gy_at2 hb 9 p (by omega) (br_c (fun g2 => bad (fun z => z.2.2.1 g2)) (fun g2 => ⟨wc, gy_at2 hb 13 p (by omega) (br_c (fun g3 => bad (fun z => z.2.2.2 g3)) (fun g3 => ?_))⟩))⟩) (fun g1 => bad (fun z => g1 z.2.1))⟩)
    have g : gp_sp b a_patterns a_nodeThere a_labels a_values p c := ⟨t, g1, g2, g3⟩
    refine br_f gn_10 (gy_at (c := 0) hb (by omega) ⟨gn_d2, br_c (fun d => ?_) (fun d => last g (fun z => absurd z d))⟩)
    refine gy_taken hPT hp8 hp hCH hc hs100 (by omega) (fun q q1 q2 q3 q4 => br_f gn_10 (h0 (fun z => (oki.mp z).2.1 d q q1 q2 q4))) (fun q => br_t rfl (last g (fun _ q' q1 q2 => q q' q1 q2 (by omega))))
theorem gy_r28 {post : Int32 → SY → Prop} {p c0 : Nat} {s : Nat → Nat} (hP : gy_P b a_patterns) (hT : ∀ e, a_edgeThere e = 0 ∨ a_edgeThere e = 1) (hNT : ∀ n, a_nodeThere n = 0 ∨ a_nodeThere n = 1) (hPT : gy_PT (gp_pr b a_patterns) a_parts) (hp8 : p < 8) (hp : gp_pr b a_patterns p) (hs : ∀ q, q < p → gp_pr b a_patterns q → s q < gq_lim q)
    (h0 : (∀ i, c0 ≤ i → i < gq_lim p → ¬ (gp_ok (gp_pr b a_patterns) (gp_l1 b a_patterns) (gp_la b a_patterns) (gp_lb b a_patterns) (gp_sp b a_patterns a_nodeThere a_labels a_values) (gp_wy b a_patterns a_edgeThere a_froms a_tos a_whats) (gp_ed b a_patterns a_edgeThere a_froms a_tos a_whats) (gp_dn b a_patterns) (gp_de b a_patterns)) p s i) → ∀ ch, gy_CH (gp_pr b a_patterns) p s ch → post 0 (nI (33 * b), nI (gq_rk (gp_pr b a_patterns) 8), a_nodeThere, a_labels, a_values, a_edgeThere, a_froms, a_tos, a_whats, a_patterns, a_parts, ch))
    (h1 : ∀ c, c0 ≤ c → c < gq_lim p → (∀ i, c0 ≤ i → i < c → ¬ (gp_ok (gp_pr b a_patterns) (gp_l1 b a_patterns) (gp_la b a_patterns) (gp_lb b a_patterns) (gp_sp b a_patterns a_nodeThere a_labels a_values) (gp_wy b a_patterns a_edgeThere a_froms a_tos a_whats) (gp_ed b a_patterns a_edgeThere a_froms a_tos a_whats) (gp_dn b a_patterns) (gp_de b a_patterns)) p s i) → (gp_ok (gp_pr b a_patterns) (gp_l1 b a_patterns) (gp_la b a_patterns) (gp_lb b a_patterns) (gp_sp b a_patterns a_nodeThere a_labels a_values) (gp_wy b a_patterns a_edgeThere a_froms a_tos a_whats) (gp_ed b a_patterns a_edgeThere a_froms a_tos a_whats) (gp_dn b a_patterns) (gp_de b a_patterns)) p s c → ∀ ch, gy_CH (gp_pr b a_patterns) (p + 1) (gq_up s p c) ch → post 1 (nI (33 * b), nI (gq_rk (gp_pr b a_patterns) 8), a_nodeThere, a_labels, a_values, a_edgeThere, a_froms, a_tos, a_whats, a_patterns, a_parts, ch)) :
    ∀ r n c ch, c + r = gq_lim p → r < n → c0 ≤ c → (∀ i, c0 ≤ i → i < c → ¬ (gp_ok (gp_pr b a_patterns) (gp_l1 b a_patterns) (gp_la b a_patterns) (gp_lb b a_patterns) (gp_sp b a_patterns a_nodeThere a_labels a_values) (gp_wy b a_patterns a_edgeThere a_froms a_tos a_whats) (gp_ed b a_patterns a_edgeThere a_froms a_tos a_whats) (gp_dn b a_patterns) (gp_de b a_patterns)) p s i) → gy_CH (gp_pr b a_patterns) p s ch → ch (gq_rk (gp_pr b a_patterns) p) = nI c → wY_raise_28 post (nI (gq_rk (gp_pr b a_patterns) p)) (nI (gq_lim p)) (nI (33 * b)) (nI (gq_rk (gp_pr b a_patterns) 8)) n a_nodeThere a_labels a_values a_edgeThere a_froms a_tos a_whats a_patterns a_parts ch := by
  have hr : gq_rk (gp_pr b a_patterns) p < 8 := Nat.lt_of_le_of_lt (gq_rk_id p) hp8
  have cr : (nI (gq_rk (gp_pr b a_patterns) p)).toNatClampNeg = gq_rk (gp_pr b a_patterns) p := nI_clamp (by omega)
  have wr : vp_in (nI (gq_rk (gp_pr b a_patterns) p)) 8 := vp_in_nI hr (by decide)
  have l20 := gq_lim20 p
  intro r
  induction r with
  | zero =>
    intro n c ch e hn hc0 hno hCH hc
    obtain ⟨m, rfl⟩ : ∃ m, n = m + 1 := ⟨n - 1, by omega⟩
    obtain rfl : c = gq_lim p := by omega
    have le : nI (gq_lim p) ≤ ch (nI (gq_rk (gp_pr b a_patterns) p)).toNatClampNeg := by rw [cr, hc]; exact nI_le (Nat.le_refl _) (by omega)
    exact ⟨wr, br_t le ⟨wr, br_t le (h0 hno ch hCH)⟩⟩
  | succ r ih =>
    intro n c ch e hn hc0 hno hCH hc
    obtain ⟨m, rfl⟩ : ∃ m, n = m + 1 := ⟨n - 1, by omega⟩
    have nle : ¬ nI (gq_lim p) ≤ ch (nI (gq_rk (gp_pr b a_patterns) p)).toNatClampNeg := by rw [cr, hc]; exact nI_ge (by omega) (by omega)
    refine ⟨wr, br_f nle (gy_fits hP hT hNT hPT hp8 hp hCH hc hs (by omega) (fun o => br_f gn_10 ⟨wr, br_f nle (h1 c hc0 (by omega) hno o ch (gy_CHu hCH hc))⟩) (fun o => br_t rfl ⟨wr, wr, nm_r (e' := upd ch (gq_rk (gp_pr b a_patterns) p) (nI (c + 1))) (by rw [cr, hc, nI_1]) (ih m (c + 1) _ (by omega) (by omega) (by omega) (fun i i1 i2 => ?_) (gy_CHk hCH) pk_us)⟩))⟩
    by_cases z : i = c
    · subst z; exact o
    · exact hno i i1 (by omega)
theorem gy_raise {post : Int32 → SY → Prop} {p c0 : Nat} {s : Nat → Nat} (hP : gy_P b a_patterns) (hT : ∀ e, a_edgeThere e = 0 ∨ a_edgeThere e = 1) (hNT : ∀ n, a_nodeThere n = 0 ∨ a_nodeThere n = 1) (hPT : gy_PT (gp_pr b a_patterns) a_parts) (hp8 : p < 8) (hp : gp_pr b a_patterns p) (hs : ∀ q, q < p → gp_pr b a_patterns q → s q < gq_lim q) (hc0 : c0 ≤ gq_lim p) (hCH : gy_CH (gp_pr b a_patterns) p s a_chosen) (hc : a_chosen (gq_rk (gp_pr b a_patterns) p) + 1 = nI c0)
    (h0 : (∀ i, c0 ≤ i → i < gq_lim p → ¬ (gp_ok (gp_pr b a_patterns) (gp_l1 b a_patterns) (gp_la b a_patterns) (gp_lb b a_patterns) (gp_sp b a_patterns a_nodeThere a_labels a_values) (gp_wy b a_patterns a_edgeThere a_froms a_tos a_whats) (gp_ed b a_patterns a_edgeThere a_froms a_tos a_whats) (gp_dn b a_patterns) (gp_de b a_patterns)) p s i) → ∀ ch, gy_CH (gp_pr b a_patterns) p s ch → post 0 (nI (33 * b), nI (gq_rk (gp_pr b a_patterns) 8), a_nodeThere, a_labels, a_values, a_edgeThere, a_froms, a_tos, a_whats, a_patterns, a_parts, ch))
    (h1 : ∀ c, c0 ≤ c → c < gq_lim p → (∀ i, c0 ≤ i → i < c → ¬ (gp_ok (gp_pr b a_patterns) (gp_l1 b a_patterns) (gp_la b a_patterns) (gp_lb b a_patterns) (gp_sp b a_patterns a_nodeThere a_labels a_values) (gp_wy b a_patterns a_edgeThere a_froms a_tos a_whats) (gp_ed b a_patterns a_edgeThere a_froms a_tos a_whats) (gp_dn b a_patterns) (gp_de b a_patterns)) p s i) → (gp_ok (gp_pr b a_patterns) (gp_l1 b a_patterns) (gp_la b a_patterns) (gp_lb b a_patterns) (gp_sp b a_patterns a_nodeThere a_labels a_values) (gp_wy b a_patterns a_edgeThere a_froms a_tos a_whats) (gp_ed b a_patterns a_edgeThere a_froms a_tos a_whats) (gp_dn b a_patterns) (gp_de b a_patterns)) p s c → ∀ ch, gy_CH (gp_pr b a_patterns) (p + 1) (gq_up s p c) ch → post 1 (nI (33 * b), nI (gq_rk (gp_pr b a_patterns) 8), a_nodeThere, a_labels, a_values, a_edgeThere, a_froms, a_tos, a_whats, a_patterns, a_parts, ch)) : wpY_raise post (nI (33 * b), nI (gq_rk (gp_pr b a_patterns) 8), a_nodeThere, a_labels, a_values, a_edgeThere, a_froms, a_tos, a_whats, a_patterns, a_parts, a_chosen) (nI (gq_rk (gp_pr b a_patterns) p)) := by
  have hr : gq_rk (gp_pr b a_patterns) p < 8 := Nat.lt_of_le_of_lt (gq_rk_id p) hp8
  have cr : (nI (gq_rk (gp_pr b a_patterns) p)).toNatClampNeg = gq_rk (gp_pr b a_patterns) p := nI_clamp (by omega)
  have wr : vp_in (nI (gq_rk (gp_pr b a_patterns) p)) 8 := vp_in_nI hr (by decide)
  have main : wY_raise_17 post (nI (gq_rk (gp_pr b a_patterns) p)) (nI (gq_lim p)) (nI (33 * b)) (nI (gq_rk (gp_pr b a_patterns) 8)) a_nodeThere a_labels a_values a_edgeThere a_froms a_tos a_whats a_patterns a_parts a_chosen :=
    ⟨wr, wr, nm_r (e' := upd a_chosen (gq_rk (gp_pr b a_patterns) p) (nI c0)) (by rw [cr, hc]) ⟨(gq_lim p - c0) + 1, gy_r28 hP hT hNT hPT hp8 hp hs h0 h1 (gq_lim p - c0) _ c0 _ (by omega) (by omega) (Nat.le_refl _) (fun i i1 i2 => by omega) (gy_CHk hCH) pk_us⟩⟩
  refine ⟨wr, ?_⟩
  rw [cr, hPT p hp8 hp]
  by_cases h4 : 4 ≤ p
  · obtain ⟨j, rfl⟩ : ∃ j, p = 4 + j := ⟨p - 4, by omega⟩
    rw [gq_lim8] at main
    exact br_t (nI_le (a := 4) h4 (by omega)) main
  · rw [gq_lim4 (by omega)] at main
    exact br_f (nI_ge (b := 4) (by omega) (by decide)) main
end GYA
