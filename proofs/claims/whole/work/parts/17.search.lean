/-! the methods that search -/
theorem gz_sb0 {pr : Nat → Prop} {s : Nat → Nat} : gx_SB pr 0 s := fun q hq => absurd hq (Nat.not_lt_zero q)
theorem i_vc_count {k : Nat} {u : SX} {v : SY} (I : i_Rel k u v) (hk : k + 5 ≤ 2560) : wpX_count (fun r u' => wpY_count (fun r' v' => r' = r ∧ i_Rel (k + 5) u' v') v) u := by
  obtain ⟨f_nodeSet, f_edgeSet, f_sought, f_wanted, f_weighing, f_found, f_lightest, f_heaviest, a_nodeLabel, a_nodeValue, a_edgesFrom, a_edgesTo, a_edgesOfType, a_edgeWeight, a_patternMode, a_spotSet, a_linkSet, a_spotLabels, a_spotLeast, a_spotGreatest, a_linkStart, a_linkEnd, a_linkTypes, a_linkKind, a_spotNodes, a_typedEdges, a_wayTargets, a_placed, a_linkEdges, a_taken, a_picked⟩ := u
  obtain ⟨f_base, f_many, a_nodeThere, a_labels, a_values, a_edgeThere, a_froms, a_tos, a_whats, a_patterns, a_parts, a_chosen⟩ := v
  obtain ⟨hN, ⟨e1, e2, hL⟩, hE, hP0, hP1⟩ := I
  subst e1 e2
  unfold wpX_count wpY_count
  refine gx_start (b := 0) (by omega) hN hL hE hP0 (fun spN tyE wT le H hLE => ?_)
  refine gx_walk (b := 0) (s := gq_st) (acc0 := (0, 1000, (-1), a_picked)) H rfl (Or.inl rfl) (hLE gq_st) (fun pl le tk D hF => ?_)
  have e := gx_fin1 hF
  subst e
  refine gy_matches (b := 0) (gr_gy (by omega) hP0) hE.1.1 hN.1 (fun bs mn pt ch => ⟨?_, hN, ⟨rfl, rfl, hL⟩, hE, hP0, hP1⟩)
  rw [gx_fcnt]
  exact (Int32.zero_add _).symm
theorem i_vc_kept {k : Nat} {u : SX} {v : SY} (I : i_Rel k u v) (hk : k + 5 ≤ 2560) : wpX_kept (fun r u' => wpY_kept (fun r' v' => r' = r ∧ i_Rel (k + 5) u' v') v) u := by
  obtain ⟨f_nodeSet, f_edgeSet, f_sought, f_wanted, f_weighing, f_found, f_lightest, f_heaviest, a_nodeLabel, a_nodeValue, a_edgesFrom, a_edgesTo, a_edgesOfType, a_edgeWeight, a_patternMode, a_spotSet, a_linkSet, a_spotLabels, a_spotLeast, a_spotGreatest, a_linkStart, a_linkEnd, a_linkTypes, a_linkKind, a_spotNodes, a_typedEdges, a_wayTargets, a_placed, a_linkEdges, a_taken, a_picked⟩ := u
  obtain ⟨f_base, f_many, a_nodeThere, a_labels, a_values, a_edgeThere, a_froms, a_tos, a_whats, a_patterns, a_parts, a_chosen⟩ := v
  obtain ⟨hN, ⟨e1, e2, hL⟩, hE, hP0, hP1⟩ := I
  subst e1 e2
  unfold wpX_kept wpY_kept
  refine gx_start (b := 1) (by omega) hN hL hE hP1 (fun spN tyE wT le H hLE => ?_)
  refine gx_walk (b := 1) (s := gq_st) (acc0 := (0, 1000, (-1), a_picked)) H rfl (Or.inl rfl) (hLE gq_st) (fun pl le tk D hF => ?_)
  have e := gx_fin1 hF
  subst e
  refine gy_matches (b := 1) (gr_gy (by omega) hP1) hE.1.1 hN.1 (fun bs mn pt ch => ⟨?_, hN, ⟨rfl, rfl, hL⟩, hE, hP0, hP1⟩)
  rw [gx_fcnt]
  exact (Int32.zero_add _).symm
theorem i_vc_keep {k : Nat} {u : SX} {v : SY} (I : i_Rel k u v) (hk : k + 5 ≤ 2560) : wpX_keep (fun r u' => wpY_keep (fun r' v' => r' = r ∧ i_Rel (k + 5) u' v') v) u := by
  obtain ⟨f_nodeSet, f_edgeSet, f_sought, f_wanted, f_weighing, f_found, f_lightest, f_heaviest, a_nodeLabel, a_nodeValue, a_edgesFrom, a_edgesTo, a_edgesOfType, a_edgeWeight, a_patternMode, a_spotSet, a_linkSet, a_spotLabels, a_spotLeast, a_spotGreatest, a_linkStart, a_linkEnd, a_linkTypes, a_linkKind, a_spotNodes, a_typedEdges, a_wayTargets, a_placed, a_linkEdges, a_taken, a_picked⟩ := u
  obtain ⟨f_base, f_many, a_nodeThere, a_labels, a_values, a_edgeThere, a_froms, a_tos, a_whats, a_patterns, a_parts, a_chosen⟩ := v
  obtain ⟨hN, ⟨e1, e2, hL⟩, hE, hP0, hP1⟩ := I
  subst e1 e2
  unfold wpX_keep
  refine gx_copy (fun pm ss ls sl so sg lst len lty lki a1 a2 a3 a4 a5 a6 a7 a8 a9 a10 => ?_)
  have mk0 : ∀ pat : Nat → Int32, (∀ c, c < 33 → pat c = a_patterns c) → gr_P 0 pm ss ls sl so sg lst len lty lki pat := fun pat hp =>
    gr_Pc hP0 a1 a3 a5 (fun i hi => by rw [show 4 * 0 + i = i by omega]; exact a7 i hi) (fun i hi => by rw [show 4 * 0 + i = i by omega]; exact a9 i hi) (fun c hc => by rw [show 33 * 0 + c = c by omega]; exact hp c hc)
  have mk1 : ∀ pat : Nat → Int32, (∀ c, c < 33 → pat (33 + c) = a_patterns c) → gr_P 1 pm ss ls sl so sg lst len lty lki pat := fun pat hp =>
    gr_Pc hP0 a2 a4 a6 (fun i hi => by rw [show 4 * 0 + i = i by omega, show 4 * 1 + i = 4 + i by omega]; exact a8 i hi) (fun i hi => by rw [show 4 * 0 + i = i by omega, show 4 * 1 + i = 4 + i by omega]; exact a10 i hi) (fun c hc => by rw [show 33 * 0 + c = c by omega, show 33 * 1 + c = 33 + c by omega]; exact hp c hc)
  have p0a : ∀ c, c < 33 → gy_kp a_patterns 33 c = a_patterns c := fun c hc => if_neg (by omega)
  have p0b : ∀ c, c < 33 → gy_kp a_patterns 33 (33 + c) = a_patterns c := fun c hc => by
    unfold gy_kp
    rw [if_pos (by omega), show 33 + c - 33 = c by omega]
  refine gx_start (b := 1) (a_patterns := gy_kp a_patterns 33) (by omega) hN hL hE (mk1 _ p0b) (fun spN tyE wT le H hLE => ?_)
  refine gx_walk (b := 1) (s := gq_st) (acc0 := (0, 1000, (-1), a_picked)) H rfl (Or.inl rfl) (hLE gq_st) (fun pl le tk D hF => ?_)
  have e := gx_fin1 hF
  subst e
  refine gy_keepc ?_
  unfold wpY_kept
  refine gy_matches (b := 1) (gr_gy (by omega) (mk1 _ p0b)) hE.1.1 hN.1 (fun bs mn pt ch => ⟨?_, hN, ⟨rfl, rfl, hL⟩, hE, mk0 _ p0a, mk1 _ p0b⟩)
  rw [gx_fcnt]
  exact (Int32.zero_add _).symm
theorem gy_off {post : Int32 → SY → Prop} {f_base f_many : Int32} {a_nodeThere a_labels a_values a_edgeThere a_froms a_tos a_whats a_patterns a_parts a_chosen : Nat → Int32} {x1 x2 : Int32} (h : post (-1) (f_base, f_many, a_nodeThere, a_labels, a_values, a_edgeThere, a_froms, a_tos, a_whats, a_patterns, a_parts, a_chosen)) : ∃ n, wY_part_38 post x1 x2 n 0 0 f_base f_many a_nodeThere a_labels a_values a_edgeThere a_froms a_tos a_whats a_patterns a_parts a_chosen := by
  have fin : wY_part_59 post x2 0 f_base f_many a_nodeThere a_labels a_values a_edgeThere a_froms a_tos a_whats a_patterns a_parts a_chosen := br_t rfl (br_t rfl h)
  exact ⟨1, br_c (fun _ => fin) (fun _ => br_t rfl fin)⟩
/-- the reference's part, for a k and a part within -/
theorem gy_part {post : Int32 → SY → Prop} {f_base f_many : Int32} {a_nodeThere a_labels a_values a_edgeThere a_froms a_tos a_whats a_patterns a_parts a_chosen : Nat → Int32} {k q : Nat} (hk : k < 1000) (hq : q < 8) (hP : gy_P 0 a_patterns) (hT : ∀ e, a_edgeThere e = 0 ∨ a_edgeThere e = 1) (hNT : ∀ n, a_nodeThere n = 0 ∨ a_nodeThere n = 1)
    (h0 : ((gq_E (gp_pr 0 a_patterns) (gp_ok (gp_pr 0 a_patterns) (gp_l1 0 a_patterns) (gp_la 0 a_patterns) (gp_lb 0 a_patterns) (gp_sp 0 a_patterns a_nodeThere a_labels a_values) (gp_wy 0 a_patterns a_edgeThere a_froms a_tos a_whats) (gp_ed 0 a_patterns a_edgeThere a_froms a_tos a_whats) (gp_dn 0 a_patterns) (gp_de 0 a_patterns)) 8 gq_st).length ≤ k ∨ ¬ gp_pr 0 a_patterns q) → ∀ bs mn pt ch, post (-1) (bs, mn, a_nodeThere, a_labels, a_values, a_edgeThere, a_froms, a_tos, a_whats, a_patterns, pt, ch))
    (h1 : ∀ m, (gq_E (gp_pr 0 a_patterns) (gp_ok (gp_pr 0 a_patterns) (gp_l1 0 a_patterns) (gp_la 0 a_patterns) (gp_lb 0 a_patterns) (gp_sp 0 a_patterns a_nodeThere a_labels a_values) (gp_wy 0 a_patterns a_edgeThere a_froms a_tos a_whats) (gp_ed 0 a_patterns a_edgeThere a_froms a_tos a_whats) (gp_dn 0 a_patterns) (gp_de 0 a_patterns)) 8 gq_st)[k]? = some m → gp_pr 0 a_patterns q → ∀ bs mn pt ch, post (nI (m q)) (bs, mn, a_nodeThere, a_labels, a_values, a_edgeThere, a_froms, a_tos, a_whats, a_patterns, pt, ch)) : wpY_part post (f_base, f_many, a_nodeThere, a_labels, a_values, a_edgeThere, a_froms, a_tos, a_whats, a_patterns, a_parts, a_chosen) (nI k) (nI q) := by
  unfold wpY_part
  refine br_f (nI_pos (by omega)) (br_f (nI_nlt (a := 999) (by omega) (by decide)) (br_f (nI_pos (by omega)) (br_f (nI_nlt (a := 7) (by omega) (by decide)) ?_)))
  refine gy_first (b := 0) hP hT hNT (fun e pt ch => br_t rfl (gy_off (h0 (Or.inl (by rw [e]; exact Nat.zero_le k)) _ _ pt ch))) (fun m ms e k1 k2 pt ch k3 k4 => br_f gn_10 ⟨k + 1, ?_⟩)
  refine gy_p38 (b := 0) hk hP hT hNT k3 k ms m 0 ch (by omega) k1 k2 k4 (fun z ch' => h0 (Or.inl (by rw [e]; exact z)) _ _ pt ch') (fun m' em k1' ch' k4' => br_f gn_10 ?_)
  have r8 : gq_rk (gp_pr 0 a_patterns) 8 ≤ 8 := gq_rk_id 8
  by_cases hp : gp_pr 0 a_patterns q
  · have hr := gq_rk_lt hp hq
    refine gy_pl k3 hq (Or.inl ⟨hp, rfl⟩) (br_f gn_10 (br_f (nI_ge hr (by omega)) ⟨vp_in_nI (by omega) (by decide), ?_⟩))
    rw [nI_clamp (by omega), k4' q hq hp]
    exact h1 m' (by rw [e]; exact em) hp _ _ pt ch'
  · exact gy_pl k3 hq (Or.inr ⟨hp, rfl⟩) (br_f gn_10 (br_t (nI_le (Nat.le_refl _) (by omega)) (h0 (Or.inr hp) _ _ pt ch')))
theorem i_vc_part {k : Nat} {u : SX} {v : SY} (I : i_Rel k u v) (hk : k + 5 ≤ 2560) (v1 : Int32) (v2 : Int32) : wpX_part (fun r u' => wpY_part (fun r' v' => r' = r ∧ i_Rel (k + 5) u' v') v v1 v2) u v1 v2 := by
  obtain ⟨f_nodeSet, f_edgeSet, f_sought, f_wanted, f_weighing, f_found, f_lightest, f_heaviest, a_nodeLabel, a_nodeValue, a_edgesFrom, a_edgesTo, a_edgesOfType, a_edgeWeight, a_patternMode, a_spotSet, a_linkSet, a_spotLabels, a_spotLeast, a_spotGreatest, a_linkStart, a_linkEnd, a_linkTypes, a_linkKind, a_spotNodes, a_typedEdges, a_wayTargets, a_placed, a_linkEdges, a_taken, a_picked⟩ := u
  obtain ⟨f_base, f_many, a_nodeThere, a_labels, a_values, a_edgeThere, a_froms, a_tos, a_whats, a_patterns, a_parts, a_chosen⟩ := v
  have J := I
  obtain ⟨hN, ⟨e1, e2, hL⟩, hE, hP0, hP1⟩ := I
  subst e1 e2
  unfold wpX_part
  by_cases n0 : v1 < 0
  · exact br_t n0 (br_t n0 (gy_off ⟨rfl, J⟩))
  refine br_f n0 ?_
  by_cases n1 : 999 < v1
  · exact br_t n1 (br_f n0 (br_t n1 (gy_off ⟨rfl, J⟩)))
  obtain ⟨i, hi, rfl⟩ := nI_of n0
  have hi3 : i < 1000 := by
    rcases Nat.lt_or_ge i 1000 with z | z
    · exact z
    · exact absurd (nI_lt (a := 999) (by omega) hi) n1
  have hY := gr_gy (by omega) hP0
  refine br_f n1 (gx_isPart v2 hP0 (fun no => br_t rfl ?_) (fun q hq eq hp => br_f gn_10 ?_))
  · by_cases m0 : v2 < 0
    · exact br_f n0 (br_f n1 (br_t m0 (gy_off ⟨rfl, J⟩)))
    by_cases m1 : 7 < v2
    · exact br_f n0 (br_f n1 (br_f m0 (br_t m1 (gy_off ⟨rfl, J⟩))))
    obtain ⟨q, hq, rfl⟩ := nI_of m0
    have hq8 : q < 8 := by
      rcases Nat.lt_or_ge q 8 with z | z
      · exact z
      · exact absurd (nI_lt (a := 7) (by omega) hq) m1
    exact gy_part hi3 hq8 hY hE.1.1 hN.1 (fun _ bs mn pt ch => ⟨rfl, J⟩) (fun m _ hp => absurd ⟨q, hq8, rfl, hp⟩ no)
  · subst eq
    refine gx_start (b := 0) (by omega) hN hL hE hP0 (fun spN tyE wT le H hLE => ?_)
    refine gx_walk (b := 0) (s := gq_st) (acc0 := (0, 1000, (-1), a_picked)) H rfl (Or.inr ⟨rfl, i, hi3, rfl⟩) (hLE gq_st) (fun pl le tk D hF => ?_)
    have nw : ¬ nI i = (-1) := fun z => by
      have := nI_pos (n := i) hi
      rw [z] at this
      exact this (by decide)
    have ef : (gx_fold (nI i) 0 a_edgeWeight (0, 1000, (-1), a_picked) D).1 = nI D.length := by rw [gx_ffound]; exact Int32.zero_add _
    rcases gx_fin2 hi3 hF with ⟨eD, hle⟩ | ⟨rest, eD, hlt, hlen⟩
    · refine br_t (by rw [ef]; exact nI_le hle (by omega)) ?_
      refine gy_part hi3 hq hY hE.1.1 hN.1 (fun _ bs mn pt ch => ⟨rfl, J⟩) (fun m em _ => ?_)
      exfalso
      rw [← eD, List.getElem?_eq_none hle] at em
      exact nomatch em
    · refine br_f (by rw [ef]; exact nI_ge hlt (by omega)) ⟨vp_in_nI hq (by decide), ?_⟩
      obtain ⟨m, em, hm⟩ := gx_fp2 (ew := a_edgeWeight) nw D (0, 1000, (-1), a_picked) 0 rfl (Nat.zero_le i) (by omega) (by omega)
      rw [Nat.sub_zero] at em
      rw [nI_clamp (by omega), hm q hq]
      refine gy_part hi3 hq hY hE.1.1 hN.1 (fun z bs mn pt ch => ?_) (fun m' em' _ bs mn pt ch => ⟨?_, J⟩)
      · exfalso
        rcases z with z | z
        · rw [eD, List.length_append] at z
          omega
        · exact z hp
      · rw [eD, List.getElem?_append_left hlt, em] at em'
        cases em'
        rfl
theorem gz_neg {w : Int32} (h : w < 0) : ¬ w = 0 ∧ ¬ w = 1 := ⟨fun z => by subst z; exact absurd h (by decide), fun z => by subst z; exact absurd h (by decide)⟩
theorem gz_big {w : Int32} (h : ¬ w ≤ 1) : ¬ w = 0 ∧ ¬ w = 1 := ⟨fun z => h (by rw [z]; decide), fun z => h (by rw [z]; decide)⟩
theorem i_vc_weigh {k : Nat} {u : SX} {v : SY} (I : i_Rel k u v) (hk : k + 5 ≤ 2560) (v1 : Int32) : wpX_weigh (fun r u' => wpY_weigh (fun r' v' => r' = r ∧ i_Rel (k + 5) u' v') v v1) u v1 := by
  obtain ⟨f_nodeSet, f_edgeSet, f_sought, f_wanted, f_weighing, f_found, f_lightest, f_heaviest, a_nodeLabel, a_nodeValue, a_edgesFrom, a_edgesTo, a_edgesOfType, a_edgeWeight, a_patternMode, a_spotSet, a_linkSet, a_spotLabels, a_spotLeast, a_spotGreatest, a_linkStart, a_linkEnd, a_linkTypes, a_linkKind, a_spotNodes, a_typedEdges, a_wayTargets, a_placed, a_linkEdges, a_taken, a_picked⟩ := u
  obtain ⟨f_base, f_many, a_nodeThere, a_labels, a_values, a_edgeThere, a_froms, a_tos, a_whats, a_patterns, a_parts, a_chosen⟩ := v
  have J := I
  obtain ⟨hN, ⟨e1, e2, hL⟩, hE, hP0, hP1⟩ := I
  subst e1 e2
  unfold wpX_weigh
  by_cases n0 : v1 < 0
  · exact br_t n0 (br_f (gz_neg n0).1 (br_f (gz_neg n0).2 ⟨1, br_t rfl ⟨rfl, J⟩⟩))
  refine br_f n0 ?_
  by_cases n1 : v1 ≤ 1
  · have hY := gr_gy (by omega) hP0
    refine br_t n1 (gx_start (b := 0) (by omega) hN hL hE hP0 (fun spN tyE wT le H hLE => ?_))
    refine gx_walk (b := 0) (s := gq_st) (acc0 := (0, 1000, (-1), a_picked)) H rfl (Or.inl rfl) (hLE gq_st) (fun pl le tk D hF => ?_)
    have e := gx_fin1 hF
    subst e
    have hmem := gq_Emem (pr := gp_pr 0 a_patterns) (ok := gp_ok (gp_pr 0 a_patterns) (gp_l1 0 a_patterns) (gp_la 0 a_patterns) (gp_lb 0 a_patterns) (gp_sp 0 a_patterns a_nodeThere a_nodeLabel a_nodeValue) (gp_wy 0 a_patterns a_edgeThere a_froms a_tos a_whats) (gp_ed 0 a_patterns a_edgeThere a_froms a_tos a_whats) (gp_dn 0 a_patterns) (gp_de 0 a_patterns)) 8 gq_st (Nat.le_refl 8) gz_sb0
    have hw : ∀ m, m ∈ gq_E (gp_pr 0 a_patterns) (gp_ok (gp_pr 0 a_patterns) (gp_l1 0 a_patterns) (gp_la 0 a_patterns) (gp_lb 0 a_patterns) (gp_sp 0 a_patterns a_nodeThere a_nodeLabel a_nodeValue) (gp_wy 0 a_patterns a_edgeThere a_froms a_tos a_whats) (gp_ed 0 a_patterns a_edgeThere a_froms a_tos a_whats) (gp_dn 0 a_patterns) (gp_de 0 a_patterns)) 8 gq_st → gx_wt a_edgeWeight m = gy_ws (gp_pr 0 a_patterns) a_whats m 8 ∧ ∃ v, v ≤ 80 ∧ gx_wt a_edgeWeight m = nI v := fun m hm => gz_w hE (hmem m hm)
    have main : ∀ r : Int32, (∀ m ms, gq_E (gp_pr 0 a_patterns) (gp_ok (gp_pr 0 a_patterns) (gp_l1 0 a_patterns) (gp_la 0 a_patterns) (gp_lb 0 a_patterns) (gp_sp 0 a_patterns a_nodeThere a_nodeLabel a_nodeValue) (gp_wy 0 a_patterns a_edgeThere a_froms a_tos a_whats) (gp_ed 0 a_patterns a_edgeThere a_froms a_tos a_whats) (gp_dn 0 a_patterns) (gp_de 0 a_patterns)) 8 gq_st = m :: ms → (m :: ms).foldl (fun e m => gy_keep v1 e (gy_ws (gp_pr 0 a_patterns) a_whats m 8)) (-1) = r) →
        (gq_E (gp_pr 0 a_patterns) (gp_ok (gp_pr 0 a_patterns) (gp_l1 0 a_patterns) (gp_la 0 a_patterns) (gp_lb 0 a_patterns) (gp_sp 0 a_patterns a_nodeThere a_nodeLabel a_nodeValue) (gp_wy 0 a_patterns a_edgeThere a_froms a_tos a_whats) (gp_ed 0 a_patterns a_edgeThere a_froms a_tos a_whats) (gp_dn 0 a_patterns) (gp_de 0 a_patterns)) 8 gq_st = [] → (-1) = r) →
        ∀ u' : SX, (∀ bs mn pt ch, i_Rel (k + 5) u' (bs, mn, a_nodeThere, a_nodeLabel, a_nodeValue, a_edgeThere, a_froms, a_tos, a_whats, a_patterns, pt, ch)) → wpY_weigh (fun r' v' => r' = r ∧ i_Rel (k + 5) u' v') (f_base, f_many, a_nodeThere, a_nodeLabel, a_nodeValue, a_edgeThere, a_froms, a_tos, a_whats, a_patterns, a_parts, a_chosen) v1 := by
      intro r hr1 hr0 u' hu
      have go : wY_weigh_11 (fun r' v' => r' = r ∧ i_Rel (k + 5) u' v') v1 (-1) f_base f_many a_nodeThere a_nodeLabel a_nodeValue a_edgeThere a_froms a_tos a_whats a_patterns a_parts a_chosen := by
        unfold wY_weigh_11
        refine gy_first (b := 0) hY hE.1.1 hN.1 (fun e pt ch => br_t rfl ⟨1, br_t rfl ⟨hr0 e, hu _ _ pt ch⟩⟩) (fun m ms e k1 k2 pt ch k3 k4 => br_f gn_10 ⟨ms.length + 2, ?_⟩)
        exact gy_w25 (b := 0) hY hE.1.1 hN.1 k3 ms m (-1) ch k1 k2 k4 (fun ch' => ⟨hr1 m ms e, hu _ _ pt ch'⟩)
      by_cases z : v1 = 0
      · exact br_t z go
      · exact br_f z (br_t (gr_01 n0 n1 z) go)
    rcases hL' : gq_E (gp_pr 0 a_patterns) (gp_ok (gp_pr 0 a_patterns) (gp_l1 0 a_patterns) (gp_la 0 a_patterns) (gp_lb 0 a_patterns) (gp_sp 0 a_patterns a_nodeThere a_nodeLabel a_nodeValue) (gp_wy 0 a_patterns a_edgeThere a_froms a_tos a_whats) (gp_ed 0 a_patterns a_edgeThere a_froms a_tos a_whats) (gp_dn 0 a_patterns) (gp_de 0 a_patterns)) 8 gq_st with _ | ⟨m, ms⟩
    · refine br_t rfl ?_
      exact main (-1) (fun m ms e => nomatch hL'.symm.trans e) (fun _ => rfl) _ (fun bs mn pt ch => ⟨hN, ⟨rfl, rfl, hL⟩, hE, hP0, hP1⟩)
    · rw [hL'] at hw
      obtain ⟨w1, w2, w3⟩ := gz_first (f := 0) (pk := a_picked) hw
      refine br_f w3 (br_c (fun z => ?_) (fun z => ?_))
      · refine main _ (fun m' ms' e => ?_) (fun e => nomatch hL'.symm.trans e) _ (fun bs mn pt ch => ⟨hN, ⟨rfl, rfl, hL⟩, hE, hP0, hP1⟩)
        rw [← e, hL', z]
        exact w1.symm
      · refine main _ (fun m' ms' e => ?_) (fun e => nomatch hL'.symm.trans e) _ (fun bs mn pt ch => ⟨hN, ⟨rfl, rfl, hL⟩, hE, hP0, hP1⟩)
        rw [← e, hL', gr_01 n0 n1 z]
        exact w2.symm
  · exact br_f n1 (br_f (gz_big n1).1 (br_f (gz_big n1).2 ⟨1, br_t rfl ⟨rfl, J⟩⟩))
