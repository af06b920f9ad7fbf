/-! the reference's search: from match to match -/
section GYM
variable {b : Nat} {a_nodeThere a_labels a_values a_edgeThere a_froms a_tos a_whats a_patterns a_parts a_chosen : Nat → Int32}
theorem gy_adv {post : Int32 → SY → Prop} (hP : gy_P b a_patterns) (hT : ∀ e, a_edgeThere e = 0 ∨ a_edgeThere e = 1) (hNT : ∀ n, a_nodeThere n = 0 ∨ a_nodeThere n = 1) (hPT : gy_PT (gp_pr b a_patterns) a_parts) {L : List (Nat → Nat)} (h0 : L = [] → ∀ ch, post 0 (nI (33 * b), nI (gq_rk (gp_pr b a_patterns) 8), a_nodeThere, a_labels, a_values, a_edgeThere, a_froms, a_tos, a_whats, a_patterns, a_parts, ch))
    (h1 : ∀ m ms, L = m :: ms → gx_SB (gp_pr b a_patterns) 8 m → gq_R (gp_pr b a_patterns) (gp_ok (gp_pr b a_patterns) (gp_l1 b a_patterns) (gp_la b a_patterns) (gp_lb b a_patterns) (gp_sp b a_patterns a_nodeThere a_labels a_values) (gp_wy b a_patterns a_edgeThere a_froms a_tos a_whats) (gp_ed b a_patterns a_edgeThere a_froms a_tos a_whats) (gp_dn b a_patterns) (gp_de b a_patterns)) m 8 = ms → ∀ ch, gy_CH (gp_pr b a_patterns) 8 m ch → post 1 (nI (33 * b), nI (gq_rk (gp_pr b a_patterns) 8), a_nodeThere, a_labels, a_values, a_edgeThere, a_froms, a_tos, a_whats, a_patterns, a_parts, ch)) :
    ∀ M n p c s ch, gq_W (gp_pr b a_patterns) s p + (23 - c) * 24 ^ (8 - p) ≤ M → M < n → p < 8 → gp_pr b a_patterns p → c ≤ gq_lim p → gx_SB (gp_pr b a_patterns) p s → (∀ q, q < 8 → ¬ gp_pr b a_patterns q → s q = gq_st q) → gy_CH (gp_pr b a_patterns) p s ch → ch (gq_rk (gp_pr b a_patterns) p) + 1 = nI c → gq_T (gp_pr b a_patterns) (gp_ok (gp_pr b a_patterns) (gp_l1 b a_patterns) (gp_la b a_patterns) (gp_lb b a_patterns) (gp_sp b a_patterns a_nodeThere a_labels a_values) (gp_wy b a_patterns a_edgeThere a_froms a_tos a_whats) (gp_ed b a_patterns a_edgeThere a_froms a_tos a_whats) (gp_dn b a_patterns) (gp_de b a_patterns)) s p c = L → wY_advance_2 post n (nI (gq_rk (gp_pr b a_patterns) p)) (nI (33 * b)) (nI (gq_rk (gp_pr b a_patterns) 8)) a_nodeThere a_labels a_values a_edgeThere a_froms a_tos a_whats a_patterns a_parts ch := by
  have r8 : gq_rk (gp_pr b a_patterns) 8 ≤ 8 := gq_rk_id 8
  have hl : gq_loc (gp_ok (gp_pr b a_patterns) (gp_l1 b a_patterns) (gp_la b a_patterns) (gp_lb b a_patterns) (gp_sp b a_patterns a_nodeThere a_labels a_values) (gp_wy b a_patterns a_edgeThere a_froms a_tos a_whats) (gp_ed b a_patterns a_edgeThere a_froms a_tos a_whats) (gp_dn b a_patterns) (gp_de b a_patterns)) := gp_loc gp_la4
  intro M
  induction M with
  | zero =>
    intro n p c s ch hM hn hp8 hp hc
    exfalso
    have e := gq_lim20 p
    have : 0 < (23 - c) * 24 ^ (8 - p) := Nat.mul_pos (by omega) (Nat.pow_pos (by decide))
    omega
  | succ M ih =>
    intro n p c s ch hM hn hp8 hp hc hSB hst hCH hch hL
    obtain ⟨n, rfl⟩ : ∃ m, n = m + 2 := ⟨n - 2, by omega⟩
    have l20 := gq_lim20 p
    have hpos : 0 < 24 ^ (8 - p) := Nat.pow_pos (by decide)
    have hrp := gq_rk_lt hp hp8
    refine br_f (nI_pos (by omega)) (br_f (nI_ge hrp (by omega)) ?_)
    refine gy_raise hP hT hNT hPT hp8 hp (fun q hq hpq => (hSB q hq).1 hpq) hc hCH hch (fun no ch' hCH' => br_t rfl ?_) (fun c' a1 a2 a3 a4 ch' hCH' => br_f gn_10 ?_)
    · have eR : gq_R (gp_pr b a_patterns) (gp_ok (gp_pr b a_patterns) (gp_l1 b a_patterns) (gp_la b a_patterns) (gp_lb b a_patterns) (gp_sp b a_patterns a_nodeThere a_labels a_values) (gp_wy b a_patterns a_edgeThere a_froms a_tos a_whats) (gp_ed b a_patterns a_edgeThere a_froms a_tos a_whats) (gp_dn b a_patterns) (gp_de b a_patterns)) s p = L := by rw [← gq_miss no]; exact hL
      rcases gq_down (pr := (gp_pr b a_patterns)) (ok := (gp_ok (gp_pr b a_patterns) (gp_l1 b a_patterns) (gp_la b a_patterns) (gp_lb b a_patterns) (gp_sp b a_patterns a_nodeThere a_labels a_values) (gp_wy b a_patterns a_edgeThere a_froms a_tos a_whats) (gp_ed b a_patterns a_edgeThere a_froms a_tos a_whats) (gp_dn b a_patterns) (gp_de b a_patterns))) (s := s) p with ⟨z1, z2⟩ | ⟨q, q1, q2, q3, q4, q5⟩
      · rw [z1]
        refine nm_r (e' := (-1)) (by decide) ?_
        exact br_t (by decide) (br_t (by decide) (h0 (eR.symm.trans z2) ch'))
      · rw [← q3]
        refine nm_r (pk_m1 _) ?_
        have sq := (hSB q q1).1 q2
        refine ih (n + 1) q (s q + 1) s ch' ?_ (by omega) (by omega) q2 (by omega) (fun r hr => hSB r (by omega)) hst (fun r hr => hCH' r (by omega)) ?_ (by rw [← q4]; exact eR)
        · rw [show 23 - (s q + 1) = 22 - s q by omega, ← q5]
          have : 0 < (23 - c) * 24 ^ (8 - p) := Nat.mul_pos (by omega) hpos
          omega
        · rw [hCH' q q1 q2, nI_1]
    · have hSB' : gx_SB (gp_pr b a_patterns) (p + 1) (gq_up s p c') := gx_SBu hSB ⟨fun _ => a2, fun z => absurd hp z⟩
      have hst' : ∀ q, q < 8 → ¬ gp_pr b a_patterns q → gq_up s p c' q = gq_st q := fun q hq hn => by
        rw [gq_un (fun e => hn (by rw [e]; exact hp))]; exact hst q hq hn
      have eT := gq_hit (pr := (gp_pr b a_patterns)) hl hp8 hp a1 a2 a3 a4
      rw [hL] at eT
      refine nm_r (nI_1 _) ?_
      rw [← gq_rk1 hp]
      rcases gq_next (pr := (gp_pr b a_patterns)) (ok := (gp_ok (gp_pr b a_patterns) (gp_l1 b a_patterns) (gp_la b a_patterns) (gp_lb b a_patterns) (gp_sp b a_patterns a_nodeThere a_labels a_values) (gp_wy b a_patterns a_edgeThere a_froms a_tos a_whats) (gp_ed b a_patterns a_edgeThere a_froms a_tos a_whats) (gp_dn b a_patterns) (gp_de b a_patterns))) hst' (8 - (p + 1)) (p + 1) (by omega) with ⟨q, q1, q2, q3, q4, q5, q6⟩ | ⟨z1, z2⟩
      · rw [← q4]
        have hrq := gq_rk_lt q3 q2
        refine br_f (nI_ge hrq (by omega)) ⟨vp_in_nI (by omega) (by decide), nm_r (e' := upd ch' (gq_rk (gp_pr b a_patterns) q) (-1)) (by rw [nI_clamp (by omega)]) ?_⟩
        have none : ∀ r, r < q → gp_pr b a_patterns r → r < p + 1 := fun r hr hr' => by
          rcases Nat.lt_or_ge r (p + 1) with y | y
          · exact y
          · have := gq_rk_lt hr' hr
            have := gq_rk_mono (pr := (gp_pr b a_patterns)) y
            omega
        refine ih (n + 1) q 0 (gq_up s p c') _ ?_ (by omega) q2 q3 (Nat.zero_le _) (fun r hr => ⟨fun hr' => (hSB' r (none r hr hr')).1 hr', fun hr' => hst' r (by omega) hr'⟩) hst' (gy_CHk (fun r hr hr' => hCH' r (none r hr hr') hr')) (by rw [pk_us]; decide) (by rw [← q5]; exact eT.symm)
        rw [q6, gq_W1 hp, gq_us, gq_Wc (t := s) p (fun r hr => gq_un (by omega))]
        have := gq_mu (p := p) (q := q) (c := c) (c' := c') (W := gq_W (gp_pr b a_patterns) s p) (B := 0) (by omega) q2 a1 (by omega)
        omega
      · rw [z1]
        have ge : nI (gq_rk (gp_pr b a_patterns) 8) ≤ nI (gq_rk (gp_pr b a_patterns) 8) := nI_le (Nat.le_refl _) (by omega)
        have pos : ¬ nI (gq_rk (gp_pr b a_patterns) 8) < 0 := nI_pos (by omega)
        have none : ∀ r, r < 8 → gp_pr b a_patterns r → r < p + 1 := fun r hr hr' => by
          rcases Nat.lt_or_ge r (p + 1) with y | y
          · exact y
          · have := gq_rk_lt hr' hr
            have := gq_rk_mono (pr := (gp_pr b a_patterns)) y
            omega
        exact br_t ge (br_f pos (br_t ge (br_f pos (h1 (gq_up s p c') _ (eT.trans z2) (fun r hr => ⟨fun hr' => (hSB' r (none r hr hr')).1 hr', fun hr' => hst' r hr hr'⟩) rfl ch' (fun r hr hr' => hCH' r (none r hr hr') hr')))))
theorem gy_next {post : Int32 → SY → Prop} (hP : gy_P b a_patterns) (hT : ∀ e, a_edgeThere e = 0 ∨ a_edgeThere e = 1) (hNT : ∀ n, a_nodeThere n = 0 ∨ a_nodeThere n = 1) (hPT : gy_PT (gp_pr b a_patterns) a_parts) {m : Nat → Nat} {ms : List (Nat → Nat)} (hSB : gx_SB (gp_pr b a_patterns) 8 m) (hR : gq_R (gp_pr b a_patterns) (gp_ok (gp_pr b a_patterns) (gp_l1 b a_patterns) (gp_la b a_patterns) (gp_lb b a_patterns) (gp_sp b a_patterns a_nodeThere a_labels a_values) (gp_wy b a_patterns a_edgeThere a_froms a_tos a_whats) (gp_ed b a_patterns a_edgeThere a_froms a_tos a_whats) (gp_dn b a_patterns) (gp_de b a_patterns)) m 8 = ms) (hCH : gy_CH (gp_pr b a_patterns) 8 m a_chosen) (h0 : ms = [] → ∀ ch, post 0 (nI (33 * b), nI (gq_rk (gp_pr b a_patterns) 8), a_nodeThere, a_labels, a_values, a_edgeThere, a_froms, a_tos, a_whats, a_patterns, a_parts, ch))
    (h1 : ∀ m' ms', ms = m' :: ms' → gx_SB (gp_pr b a_patterns) 8 m' → gq_R (gp_pr b a_patterns) (gp_ok (gp_pr b a_patterns) (gp_l1 b a_patterns) (gp_la b a_patterns) (gp_lb b a_patterns) (gp_sp b a_patterns a_nodeThere a_labels a_values) (gp_wy b a_patterns a_edgeThere a_froms a_tos a_whats) (gp_ed b a_patterns a_edgeThere a_froms a_tos a_whats) (gp_dn b a_patterns) (gp_de b a_patterns)) m' 8 = ms' → ∀ ch, gy_CH (gp_pr b a_patterns) 8 m' ch → post 1 (nI (33 * b), nI (gq_rk (gp_pr b a_patterns) 8), a_nodeThere, a_labels, a_values, a_edgeThere, a_froms, a_tos, a_whats, a_patterns, a_parts, ch)) : wpY_next post (nI (33 * b), nI (gq_rk (gp_pr b a_patterns) 8), a_nodeThere, a_labels, a_values, a_edgeThere, a_froms, a_tos, a_whats, a_patterns, a_parts, a_chosen) := by
  have r8 : gq_rk (gp_pr b a_patterns) 8 ≤ 8 := gq_rk_id 8
  rcases gq_down (pr := (gp_pr b a_patterns)) (ok := (gp_ok (gp_pr b a_patterns) (gp_l1 b a_patterns) (gp_la b a_patterns) (gp_lb b a_patterns) (gp_sp b a_patterns a_nodeThere a_labels a_values) (gp_wy b a_patterns a_edgeThere a_froms a_tos a_whats) (gp_ed b a_patterns a_edgeThere a_froms a_tos a_whats) (gp_dn b a_patterns) (gp_de b a_patterns))) (s := m) 8 with ⟨z1, z2⟩ | ⟨q, q1, q2, q3, q4, q5⟩
  · exact br_t (by rw [z1]; decide) (h0 (hR.symm.trans z2) a_chosen)
  · have sq := (hSB q q1).1 q2
    refine br_f (nI_nle (by omega) (by omega)) ?_
    rw [show nI (gq_rk (gp_pr b a_patterns) 8) - 1 = nI (gq_rk (gp_pr b a_patterns) q) by rw [← q3]; exact nI_pred _]
    refine ⟨_, gy_adv (post := fun r u => match u with | (f_base, f_many, a_nodeThere, a_labels, a_values, a_edgeThere, a_froms, a_tos, a_whats, a_patterns, a_parts, a_chosen) => (((r = 0 → (post 0 (f_base, f_many, a_nodeThere, a_labels, a_values, a_edgeThere, a_froms, a_tos, a_whats, a_patterns, a_parts, a_chosen))) ∧ (¬ r = 0 → (post 1 (f_base, f_many, a_nodeThere, a_labels, a_values, a_edgeThere, a_froms, a_tos, a_whats, a_patterns, a_parts, a_chosen)))))) hP hT hNT hPT (L := ms) (fun e ch => br_t rfl (h0 e ch)) (fun m' ms' e k1 k2 ch k3 => br_f gn_10 (h1 m' ms' e k1 k2 ch k3)) _ _ q (m q + 1) m a_chosen (Nat.le_refl _) (Nat.lt_succ_self _) q1 q2 (by omega) (fun r hr => hSB r (by omega)) (fun r hr hr' => (hSB r hr).2 hr') (fun r hr => hCH r (by omega)) (by rw [hCH q q1 q2, nI_1]) (by rw [← q4]; exact hR)⟩
theorem gy_first {post : Int32 → SY → Prop} {f_base f_many : Int32} (hP : gy_P b a_patterns) (hT : ∀ e, a_edgeThere e = 0 ∨ a_edgeThere e = 1) (hNT : ∀ n, a_nodeThere n = 0 ∨ a_nodeThere n = 1) (h0 : gq_E (gp_pr b a_patterns) (gp_ok (gp_pr b a_patterns) (gp_l1 b a_patterns) (gp_la b a_patterns) (gp_lb b a_patterns) (gp_sp b a_patterns a_nodeThere a_labels a_values) (gp_wy b a_patterns a_edgeThere a_froms a_tos a_whats) (gp_ed b a_patterns a_edgeThere a_froms a_tos a_whats) (gp_dn b a_patterns) (gp_de b a_patterns)) 8 gq_st = [] → ∀ pt ch, post 0 (nI (33 * b), nI (gq_rk (gp_pr b a_patterns) 8), a_nodeThere, a_labels, a_values, a_edgeThere, a_froms, a_tos, a_whats, a_patterns, pt, ch))
    (h1 : ∀ m ms, gq_E (gp_pr b a_patterns) (gp_ok (gp_pr b a_patterns) (gp_l1 b a_patterns) (gp_la b a_patterns) (gp_lb b a_patterns) (gp_sp b a_patterns a_nodeThere a_labels a_values) (gp_wy b a_patterns a_edgeThere a_froms a_tos a_whats) (gp_ed b a_patterns a_edgeThere a_froms a_tos a_whats) (gp_dn b a_patterns) (gp_de b a_patterns)) 8 gq_st = m :: ms → gx_SB (gp_pr b a_patterns) 8 m → gq_R (gp_pr b a_patterns) (gp_ok (gp_pr b a_patterns) (gp_l1 b a_patterns) (gp_la b a_patterns) (gp_lb b a_patterns) (gp_sp b a_patterns a_nodeThere a_labels a_values) (gp_wy b a_patterns a_edgeThere a_froms a_tos a_whats) (gp_ed b a_patterns a_edgeThere a_froms a_tos a_whats) (gp_dn b a_patterns) (gp_de b a_patterns)) m 8 = ms → ∀ pt ch, gy_PT (gp_pr b a_patterns) pt → gy_CH (gp_pr b a_patterns) 8 m ch → post 1 (nI (33 * b), nI (gq_rk (gp_pr b a_patterns) 8), a_nodeThere, a_labels, a_values, a_edgeThere, a_froms, a_tos, a_whats, a_patterns, pt, ch)) : wpY_first post (f_base, f_many, a_nodeThere, a_labels, a_values, a_edgeThere, a_froms, a_tos, a_whats, a_patterns, a_parts, a_chosen) (nI b) := by
  unfold wpY_first
  refine nm_r (e' := nI (33 * b)) (show nI 33 * nI b = _ from pk_mul 33 b) ?_
  refine gy_order hP.1 (fun pt hPT => nm_e ?_)
  have r8 : gq_rk (gp_pr b a_patterns) 8 ≤ 8 := gq_rk_id 8
  rcases gq_next (pr := (gp_pr b a_patterns)) (ok := (gp_ok (gp_pr b a_patterns) (gp_l1 b a_patterns) (gp_la b a_patterns) (gp_lb b a_patterns) (gp_sp b a_patterns a_nodeThere a_labels a_values) (gp_wy b a_patterns a_edgeThere a_froms a_tos a_whats) (gp_ed b a_patterns a_edgeThere a_froms a_tos a_whats) (gp_dn b a_patterns) (gp_de b a_patterns))) (s := gq_st) (fun _ _ _ => rfl) 8 0 rfl with ⟨q, q1, q2, q3, q4, q5, q6⟩ | ⟨z1, z2⟩
  · have hrq := gq_rk_lt q3 q2
    have q4' : gq_rk (gp_pr b a_patterns) q = 0 := q4
    have none : ∀ r, r < q → ¬ gp_pr b a_patterns r := fun r hr hr' => by
      have := gq_rk_lt hr' hr
      omega
    have hL : gq_T (gp_pr b a_patterns) (gp_ok (gp_pr b a_patterns) (gp_l1 b a_patterns) (gp_la b a_patterns) (gp_lb b a_patterns) (gp_sp b a_patterns a_nodeThere a_labels a_values) (gp_wy b a_patterns a_edgeThere a_froms a_tos a_whats) (gp_ed b a_patterns a_edgeThere a_froms a_tos a_whats) (gp_dn b a_patterns) (gp_de b a_patterns)) gq_st q 0 = gq_E (gp_pr b a_patterns) (gp_ok (gp_pr b a_patterns) (gp_l1 b a_patterns) (gp_la b a_patterns) (gp_lb b a_patterns) (gp_sp b a_patterns a_nodeThere a_labels a_values) (gp_wy b a_patterns a_edgeThere a_froms a_tos a_whats) (gp_ed b a_patterns a_edgeThere a_froms a_tos a_whats) (gp_dn b a_patterns) (gp_de b a_patterns)) 8 gq_st := q5.symm.trans (List.append_nil _)
    refine br_f (nI_ne0 (by omega) (by omega)) ?_
    have key := gy_adv (post := fun r u => match u with | (f_base, f_many, a_nodeThere, a_labels, a_values, a_edgeThere, a_froms, a_tos, a_whats, a_patterns, a_parts, a_chosen) => (((r = 0 → (post 0 (f_base, f_many, a_nodeThere, a_labels, a_values, a_edgeThere, a_froms, a_tos, a_whats, a_patterns, a_parts, a_chosen))) ∧ (¬ r = 0 → (post 1 (f_base, f_many, a_nodeThere, a_labels, a_values, a_edgeThere, a_froms, a_tos, a_whats, a_patterns, a_parts, a_chosen)))))) hP hT hNT hPT (L := gq_E (gp_pr b a_patterns) (gp_ok (gp_pr b a_patterns) (gp_l1 b a_patterns) (gp_la b a_patterns) (gp_lb b a_patterns) (gp_sp b a_patterns a_nodeThere a_labels a_values) (gp_wy b a_patterns a_edgeThere a_froms a_tos a_whats) (gp_ed b a_patterns a_edgeThere a_froms a_tos a_whats) (gp_dn b a_patterns) (gp_de b a_patterns)) 8 gq_st) (fun e ch => br_t rfl (h0 e pt ch)) (fun m' ms' e k1 k2 ch k3 => br_f gn_10 (h1 m' ms' e k1 k2 pt ch hPT k3)) _ _ q 0 gq_st (upd a_chosen 0 (-1)) (Nat.le_refl _) (Nat.lt_succ_self _) q2 q3 (Nat.zero_le _) (fun r hr => ⟨fun hr' => absurd hr' (none r hr), fun _ => rfl⟩) (fun _ _ _ => rfl) (fun r hr hr' => absurd hr' (none r hr)) (by rw [q4']; exact (by decide : (-1 : Int32) + 1 = nI 0)) hL
    rw [q4'] at key
    exact ⟨_, key⟩
  · have z1' : gq_rk (gp_pr b a_patterns) 8 = 0 := z1.symm
    have z2' : gq_E (gp_pr b a_patterns) (gp_ok (gp_pr b a_patterns) (gp_l1 b a_patterns) (gp_la b a_patterns) (gp_lb b a_patterns) (gp_sp b a_patterns a_nodeThere a_labels a_values) (gp_wy b a_patterns a_edgeThere a_froms a_tos a_whats) (gp_ed b a_patterns a_edgeThere a_froms a_tos a_whats) (gp_dn b a_patterns) (gp_de b a_patterns)) 8 gq_st = gq_st :: gq_R (gp_pr b a_patterns) (gp_ok (gp_pr b a_patterns) (gp_l1 b a_patterns) (gp_la b a_patterns) (gp_lb b a_patterns) (gp_sp b a_patterns a_nodeThere a_labels a_values) (gp_wy b a_patterns a_edgeThere a_froms a_tos a_whats) (gp_ed b a_patterns a_edgeThere a_froms a_tos a_whats) (gp_dn b a_patterns) (gp_de b a_patterns)) gq_st 8 := (List.append_nil _).symm.trans z2
    have none : ∀ r, r < 8 → ¬ gp_pr b a_patterns r := fun r hr hr' => by
      have := gq_rk_lt hr' hr
      omega
    refine br_t (by rw [z1']; rfl) (h1 gq_st _ z2' (fun r hr => ⟨fun hr' => absurd hr' (none r hr), fun _ => rfl⟩) rfl pt _ hPT (fun r hr hr' => absurd hr' (none r hr)))
theorem gy_m8 {post : Int32 → SY → Prop} (hP : gy_P b a_patterns) (hT : ∀ e, a_edgeThere e = 0 ∨ a_edgeThere e = 1) (hNT : ∀ n, a_nodeThere n = 0 ∨ a_nodeThere n = 1) (hPT : gy_PT (gp_pr b a_patterns) a_parts) : ∀ (ms : List (Nat → Nat)) (m : Nat → Nat) (k : Nat) (ch : Nat → Int32), gx_SB (gp_pr b a_patterns) 8 m → gq_R (gp_pr b a_patterns) (gp_ok (gp_pr b a_patterns) (gp_l1 b a_patterns) (gp_la b a_patterns) (gp_lb b a_patterns) (gp_sp b a_patterns a_nodeThere a_labels a_values) (gp_wy b a_patterns a_edgeThere a_froms a_tos a_whats) (gp_ed b a_patterns a_edgeThere a_froms a_tos a_whats) (gp_dn b a_patterns) (gp_de b a_patterns)) m 8 = ms → gy_CH (gp_pr b a_patterns) 8 m ch → (∀ ch, post (nI (k + 1 + ms.length)) (nI (33 * b), nI (gq_rk (gp_pr b a_patterns) 8), a_nodeThere, a_labels, a_values, a_edgeThere, a_froms, a_tos, a_whats, a_patterns, a_parts, ch)) → wY_matches_8 post (ms.length + 2) (nI k) 1 (nI (33 * b)) (nI (gq_rk (gp_pr b a_patterns) 8)) a_nodeThere a_labels a_values a_edgeThere a_froms a_tos a_whats a_patterns a_parts ch := by
  intro ms
  induction ms with
  | nil =>
    intro m k ch hSB hR hCH h
    refine br_f gn_10 (nm_r (nI_1 k) ?_)
    exact gy_next hP hT hNT hPT hSB hR hCH (fun e ch' => br_t rfl (h ch')) (fun m' ms' e k1 k2 ch' k3 => nomatch e)
  | cons a ms ih =>
    intro m k ch hSB hR hCH h
    refine br_f gn_10 (nm_r (nI_1 k) ?_)
    refine gy_next hP hT hNT hPT hSB hR hCH (fun e ch' => nomatch e) (fun m' ms' e k1 k2 ch' k3 => ?_)
    obtain ⟨rfl, rfl⟩ := List.cons.inj e
    refine ih _ (k + 1) ch' k1 k2 k3 (fun ch => ?_)
    have := h ch
    rw [List.length_cons, show k + 1 + (ms.length + 1) = k + 1 + 1 + ms.length by omega] at this
    exact this
theorem gy_matches {post : Int32 → SY → Prop} {f_base f_many : Int32} (hP : gy_P b a_patterns) (hT : ∀ e, a_edgeThere e = 0 ∨ a_edgeThere e = 1) (hNT : ∀ n, a_nodeThere n = 0 ∨ a_nodeThere n = 1) (h : ∀ bs mn pt ch, post (nI (gq_E (gp_pr b a_patterns) (gp_ok (gp_pr b a_patterns) (gp_l1 b a_patterns) (gp_la b a_patterns) (gp_lb b a_patterns) (gp_sp b a_patterns a_nodeThere a_labels a_values) (gp_wy b a_patterns a_edgeThere a_froms a_tos a_whats) (gp_ed b a_patterns a_edgeThere a_froms a_tos a_whats) (gp_dn b a_patterns) (gp_de b a_patterns)) 8 gq_st).length) (bs, mn, a_nodeThere, a_labels, a_values, a_edgeThere, a_froms, a_tos, a_whats, a_patterns, pt, ch)) : wpY_matches post (f_base, f_many, a_nodeThere, a_labels, a_values, a_edgeThere, a_froms, a_tos, a_whats, a_patterns, a_parts, a_chosen) (nI b) := by
  unfold wpY_matches
  refine gy_first hP hT hNT (fun e pt ch => ⟨1, br_t rfl ?_⟩) (fun m ms e k1 k2 pt ch k3 k4 => ⟨ms.length + 2, ?_⟩)
  · have := h (nI (33 * b)) (nI (gq_rk (gp_pr b a_patterns) 8)) pt ch
    rw [e] at this
    exact this
  · refine gy_m8 (post := post) hP hT hNT k3 ms m 0 ch k1 k2 k4 (fun ch => ?_)
    have := h (nI (33 * b)) (nI (gq_rk (gp_pr b a_patterns) 8)) pt ch
    rw [e, List.length_cons, Nat.add_comm] at this
    rw [Nat.zero_add]
    exact this
/-- part: k matches on -/
theorem gy_p38 {post : Int32 → SY → Prop} {k : Nat} {x2 : Int32} (hk : k < 1000) (hP : gy_P b a_patterns) (hT : ∀ e, a_edgeThere e = 0 ∨ a_edgeThere e = 1) (hNT : ∀ n, a_nodeThere n = 0 ∨ a_nodeThere n = 1) (hPT : gy_PT (gp_pr b a_patterns) a_parts) : ∀ (d : Nat) (ms : List (Nat → Nat)) (m : Nat → Nat) (i : Nat) (ch : Nat → Int32), i + d = k → gx_SB (gp_pr b a_patterns) 8 m → gq_R (gp_pr b a_patterns) (gp_ok (gp_pr b a_patterns) (gp_l1 b a_patterns) (gp_la b a_patterns) (gp_lb b a_patterns) (gp_sp b a_patterns a_nodeThere a_labels a_values) (gp_wy b a_patterns a_edgeThere a_froms a_tos a_whats) (gp_ed b a_patterns a_edgeThere a_froms a_tos a_whats) (gp_dn b a_patterns) (gp_de b a_patterns)) m 8 = ms → gy_CH (gp_pr b a_patterns) 8 m ch →
    ((m :: ms).length ≤ d → ∀ ch, post (-1) (nI (33 * b), nI (gq_rk (gp_pr b a_patterns) 8), a_nodeThere, a_labels, a_values, a_edgeThere, a_froms, a_tos, a_whats, a_patterns, a_parts, ch)) → (∀ m', (m :: ms)[d]? = some m' → gx_SB (gp_pr b a_patterns) 8 m' → ∀ ch, gy_CH (gp_pr b a_patterns) 8 m' ch → wY_part_59 post x2 1 (nI (33 * b)) (nI (gq_rk (gp_pr b a_patterns) 8)) a_nodeThere a_labels a_values a_edgeThere a_froms a_tos a_whats a_patterns a_parts ch) → wY_part_38 post (nI k) x2 (d + 1) 1 (nI i) (nI (33 * b)) (nI (gq_rk (gp_pr b a_patterns) 8)) a_nodeThere a_labels a_values a_edgeThere a_froms a_tos a_whats a_patterns a_parts ch
  | 0, ms, m, i, ch, hi, hSB, hR, hCH, h0, h1 => br_t (nI_le (by omega) (by omega)) (h1 m rfl hSB ch hCH)
  | d + 1, ms, m, i, ch, hi, hSB, hR, hCH, h0, h1 => by
    refine br_f (nI_ge (by omega) (by omega)) (br_f gn_10 ?_)
    refine gy_next hP hT hNT hPT hSB hR hCH (fun e ch' => nm_r (nI_1 i) ?_) (fun m' ms' e k1 k2 ch' k3 => nm_r (nI_1 i) ?_)
    · subst e
      have fin : wY_part_59 post x2 0 (nI (33 * b)) (nI (gq_rk (gp_pr b a_patterns) 8)) a_nodeThere a_labels a_values a_edgeThere a_froms a_tos a_whats a_patterns a_parts ch' := br_t rfl (br_t rfl (h0 (Nat.succ_le_succ (Nat.zero_le d)) ch'))
      exact br_c (fun _ => fin) (fun _ => br_t rfl fin)
    · subst e
      exact gy_p38 hk hP hT hNT hPT d ms' m' (i + 1) ch' (by omega) k1 k2 k3 (fun z ch => h0 (Nat.succ_le_succ z) ch) (fun m'' e => h1 m'' e)
/-- the weight of a match -/
noncomputable def gy_ws (pr : Nat → Prop) (wh : Nat → Int32) (m : Nat → Nat) : Nat → Int32
  | 0 => 0
  | p + 1 => bif gq_b (pr p ∧ 4 ≤ p) then gy_ws pr wh m p + wh (m p) / 3 else gy_ws pr wh m p
theorem gy_wt {post : Int32 → Prop} {m : Nat → Nat} (hPT : gy_PT (gp_pr b a_patterns) a_parts) (hSB : gx_SB (gp_pr b a_patterns) 8 m) (hCH : gy_CH (gp_pr b a_patterns) 8 m a_chosen) (h : post (gy_ws (gp_pr b a_patterns) a_whats m 8)) : wpY_weight post (nI (33 * b), nI (gq_rk (gp_pr b a_patterns) 8), a_nodeThere, a_labels, a_values, a_edgeThere, a_froms, a_tos, a_whats, a_patterns, a_parts, a_chosen) := by
  have r8 : gq_rk (gp_pr b a_patterns) 8 ≤ 8 := gq_rk_id 8
  have all : ∀ d p n, p + d = 8 → d < n → wY_weight_4 post (nI (33 * b)) (nI (gq_rk (gp_pr b a_patterns) 8)) a_nodeThere a_labels a_values a_edgeThere a_froms a_tos a_whats a_patterns a_parts a_chosen n (gy_ws (gp_pr b a_patterns) a_whats m p) (nI (gq_rk (gp_pr b a_patterns) p)) := by
    intro d
    induction d with
    | zero =>
      intro p n hp hn
      obtain ⟨n, rfl⟩ : ∃ m, n = m + 1 := ⟨n - 1, by omega⟩
      obtain rfl : p = 8 := by omega
      exact br_t (nI_le (Nat.le_refl _) (by omega)) h
    | succ d ih =>
      intro p n hp hn
      obtain ⟨n, rfl⟩ : ∃ m, n = m + 1 := ⟨n - 1, by omega⟩
      by_cases hpr : gp_pr b a_patterns p
      · have hr := gq_rk_lt hpr (show p < 8 by omega)
        have wr : vp_in (nI (gq_rk (gp_pr b a_patterns) p)) 8 := vp_in_nI (by omega) (by decide)
        have cr : (nI (gq_rk (gp_pr b a_patterns) p)).toNatClampNeg = gq_rk (gp_pr b a_patterns) p := nI_clamp (by omega)
        have e1 : nI (gq_rk (gp_pr b a_patterns) p) + 1 = nI (gq_rk (gp_pr b a_patterns) (p + 1)) := by rw [gq_rk1 hpr, nI_1]
        refine br_f (nI_ge hr (by omega)) ⟨wr, ?_⟩
        rw [cr, hPT p (by omega) hpr]
        have nxt := ih (p + 1) n (by omega) (by omega)
        by_cases h4 : p < 4
        · have e2 : gy_ws (gp_pr b a_patterns) a_whats m (p + 1) = gy_ws (gp_pr b a_patterns) a_whats m p := by
            show (bif gq_b (gp_pr b a_patterns p ∧ 4 ≤ p) then _ else _) = _
            rw [gq_bf (fun z => by omega)]; rfl
          rw [e2] at nxt
          exact br_t (nI_lt (b := 4) h4 (by decide)) (nm_r e1 nxt)
        · have e2 : gy_ws (gp_pr b a_patterns) a_whats m (p + 1) = gy_ws (gp_pr b a_patterns) a_whats m p + a_whats (m p) / 3 := by
            show (bif gq_b (gp_pr b a_patterns p ∧ 4 ≤ p) then _ else _) = _
            rw [gq_bt ⟨hpr, by omega⟩]; rfl
          rw [e2] at nxt
          have hm := (hSB p (by omega)).1 hpr
          have hl := gq_lim20 p
          have cm : (nI (m p)).toNatClampNeg = m p := nI_clamp (by omega)
          refine br_f (nI_nlt (b := 4) (by omega) (by omega)) ⟨wr, ?_⟩
          rw [hCH p (by omega) hpr]
          exact ⟨vp_in_nI (by omega) (by decide), gn_d3, nm_r (by rw [cm]) (nm_r e1 nxt)⟩
      · have e1 : gq_rk (gp_pr b a_patterns) (p + 1) = gq_rk (gp_pr b a_patterns) p := gq_rk0 hpr
        have e2 : gy_ws (gp_pr b a_patterns) a_whats m (p + 1) = gy_ws (gp_pr b a_patterns) a_whats m p := by
          show (bif gq_b (gp_pr b a_patterns p ∧ 4 ≤ p) then _ else _) = _
          rw [gq_bf (fun z => hpr z.1)]; rfl
        have nxt := ih (p + 1) (n + 1) (by omega) (by omega)
        rw [e1, e2] at nxt
        exact nxt
  exact ⟨9, all 8 0 9 (by omega) (by omega)⟩
/-- what weigh keeps from match to match -/
def gy_keep (w0 : Int32) (e w : Int32) : Int32 := if e < 0 then w else if w0 = 0 then (if e ≤ w then e else w) else (if w ≤ e then e else w)
theorem gy_w25 {post : Int32 → SY → Prop} {w0 : Int32} (hP : gy_P b a_patterns) (hT : ∀ e, a_edgeThere e = 0 ∨ a_edgeThere e = 1) (hNT : ∀ n, a_nodeThere n = 0 ∨ a_nodeThere n = 1) (hPT : gy_PT (gp_pr b a_patterns) a_parts) : ∀ (ms : List (Nat → Nat)) (m : Nat → Nat) (e : Int32) (ch : Nat → Int32), gx_SB (gp_pr b a_patterns) 8 m → gq_R (gp_pr b a_patterns) (gp_ok (gp_pr b a_patterns) (gp_l1 b a_patterns) (gp_la b a_patterns) (gp_lb b a_patterns) (gp_sp b a_patterns a_nodeThere a_labels a_values) (gp_wy b a_patterns a_edgeThere a_froms a_tos a_whats) (gp_ed b a_patterns a_edgeThere a_froms a_tos a_whats) (gp_dn b a_patterns) (gp_de b a_patterns)) m 8 = ms → gy_CH (gp_pr b a_patterns) 8 m ch →
    (∀ ch, post ((m :: ms).foldl (fun e m => gy_keep w0 e (gy_ws (gp_pr b a_patterns) a_whats m 8)) e) (nI (33 * b), nI (gq_rk (gp_pr b a_patterns) 8), a_nodeThere, a_labels, a_values, a_edgeThere, a_froms, a_tos, a_whats, a_patterns, a_parts, ch)) → wY_weigh_25 post w0 (ms.length + 2) e 1 (nI (33 * b)) (nI (gq_rk (gp_pr b a_patterns) 8)) a_nodeThere a_labels a_values a_edgeThere a_froms a_tos a_whats a_patterns a_parts ch := by
  intro ms
  have step : ∀ (n : Nat) (m : Nat → Nat) (e : Int32) (ch : Nat → Int32), gx_SB (gp_pr b a_patterns) 8 m → gy_CH (gp_pr b a_patterns) 8 m ch → wY_weigh_64 post (wY_weigh_25 post w0 n) w0 (gy_keep w0 e (gy_ws (gp_pr b a_patterns) a_whats m 8)) (nI (33 * b)) (nI (gq_rk (gp_pr b a_patterns) 8)) a_nodeThere a_labels a_values a_edgeThere a_froms a_tos a_whats a_patterns a_parts ch → wY_weigh_25 post w0 (n + 1) e 1 (nI (33 * b)) (nI (gq_rk (gp_pr b a_patterns) 8)) a_nodeThere a_labels a_values a_edgeThere a_froms a_tos a_whats a_patterns a_parts ch := by
    intro n m e ch hSB hCH go
    refine br_f gn_10 (gy_wt hPT hSB hCH ?_)
    unfold gy_keep at go
    refine br_c (fun z => ?_) (fun z => br_c (fun y => br_c (fun x => ?_) (fun x => ?_)) (fun y => br_c (fun x => ?_) (fun x => ?_)))
    · rw [if_pos z] at go; exact go
    · rw [if_neg z, if_pos y, if_pos x] at go; exact go
    · rw [if_neg z, if_pos y, if_neg x] at go; exact go
    · rw [if_neg z, if_neg y, if_pos x] at go; exact go
    · rw [if_neg z, if_neg y, if_neg x] at go; exact go
  induction ms with
  | nil =>
    intro m e ch hSB hR hCH h
    refine step _ m e ch hSB hCH ?_
    unfold wY_weigh_64
    exact gy_next hP hT hNT hPT hSB hR hCH (fun e ch' => br_t rfl (h ch')) (fun m' ms' e k1 k2 ch' k3 => nomatch e)
  | cons a ms ih =>
    intro m e ch hSB hR hCH h
    refine step _ m e ch hSB hCH ?_
    unfold wY_weigh_64
    refine gy_next hP hT hNT hPT hSB hR hCH (fun e ch' => nomatch e) (fun m' ms' e k1 k2 ch' k3 => ?_)
    obtain ⟨rfl, rfl⟩ := List.cons.inj e
    exact ih _ _ ch' k1 k2 k3 h
end GYM
