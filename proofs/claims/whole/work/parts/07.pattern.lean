/-! the methods on the pattern at hand -/
theorem gu_s {f : Nat → Int32} {k j : Nat} {x : Int32} (h : j = k) : upd f k x j = x := by subst h; exact pk_us
theorem gr_Pc {b b' : Nat} {pm ss ls sl so sg lst len lty lki pat pm' ss' ls' sl' so' sg' lst' len' lty' lki' pat' : Nat → Int32} (h : gr_P b pm ss ls sl so sg lst len lty lki pat)
    (h1 : pm' b' = pm b) (h2 : ss' b' = ss b) (h3 : ls' b' = ls b) (h4 : ∀ i, i < 4 → sl' (4 * b' + i) = sl (4 * b + i) ∧ so' (4 * b' + i) = so (4 * b + i) ∧ sg' (4 * b' + i) = sg (4 * b + i))
    (h5 : ∀ j, j < 4 → lst' (4 * b' + j) = lst (4 * b + j) ∧ len' (4 * b' + j) = len (4 * b + j) ∧ lty' (4 * b' + j) = lty (4 * b + j) ∧ lki' (4 * b' + j) = lki (4 * b + j))
    (h6 : ∀ c, c < 33 → pat' (33 * b' + c) = pat (33 * b + c)) : gr_P b' pm' ss' ls' sl' so' sg' lst' len' lty' lki' pat' := by
  obtain ⟨a1, a2, a3, a4⟩ := h
  have k0 : pat' (33 * b') = pat (33 * b) := h6 0 (by omega)
  have k2 : ∀ d i, d + i < 33 → pat' (33 * b' + d + i) = pat (33 * b + d + i) := fun d i hd => by rw [Nat.add_assoc, Nat.add_assoc]; exact h6 (d + i) hd
  refine ⟨by rw [h1, a1, k0], by rw [k0]; exact a2, fun i hi => ?_, fun j hj => ?_⟩
  · unfold gr_S
    rw [k2 1 i (by omega), k2 5 i (by omega), k2 9 i (by omega), k2 13 i (by omega), h2, (h4 i hi).1, (h4 i hi).2.1, (h4 i hi).2.2]
    exact a3 i hi
  · have z := a4 j hj
    unfold gr_K at z ⊢
    rw [k2 17 j (by omega), k2 21 j (by omega), k2 25 j (by omega), k2 29 j (by omega), h3, (h5 j hj).1, (h5 j hj).2.1, (h5 j hj).2.2.1, (h5 j hj).2.2.2]
    refine ⟨z.1, z.2.1, fun y => ?_⟩
    obtain ⟨ab, hab, q⟩ := z.2.2 y
    refine ⟨ab, hab, ?_⟩
    rw [k2 1 (ab % 4) (by omega), k2 1 (ab / 4) (by omega)]
    exact q
section GYP
variable {f_base f_many : Int32} {a_nodeThere a_labels a_values a_edgeThere a_froms a_tos a_whats a_patterns a_parts a_chosen : Nat → Int32}
theorem gy_begin {post : Int32 → SY → Prop} {v : Int32} (h : ∀ pat : Nat → Int32, pat 0 = v → (∀ c, 0 < c → c < 33 → pat c = 0) → (∀ c, 33 ≤ c → pat c = a_patterns c) → post 1 (f_base, f_many, a_nodeThere, a_labels, a_values, a_edgeThere, a_froms, a_tos, a_whats, pat, a_parts, a_chosen)) : ∃ n, wY_begin_13 post v f_base f_many n 0 a_nodeThere a_labels a_values a_edgeThere a_froms a_tos a_whats a_patterns a_parts a_chosen := by
  refine loop_0 (fun n i (s : Nat → Int32) => wY_begin_13 post v f_base f_many n (nI i) a_nodeThere a_labels a_values a_edgeThere a_froms a_tos a_whats s a_parts a_chosen) (fun i s => (0 < i → s 0 = v) ∧ (∀ c, 0 < c → c < i → s c = 0) ∧ (∀ c, i ≤ c → s c = a_patterns c)) 33 a_patterns ⟨fun z => absurd z (Nat.lt_irrefl 0), fun c _ z => absurd z (Nat.not_lt_zero c), fun _ _ => rfl⟩ (fun n s I => br_t (nI_le (a := 33) (by omega) (by decide)) (h s (I.1 (by omega)) I.2.1 I.2.2)) (fun n i s hi I ih => ?_)
  have c : (nI i).toNatClampNeg = i := nI_clamp (by omega)
  have w : vp_in (nI i) 66 := vp_in_nI (by omega) (by decide)
  refine br_f (nI_ge (b := 33) hi (by decide)) (pk_eq i 0 (fun e => ⟨w, nm_r (e' := upd s i v) (by rw [c]) (nm_r (nI_1 i) (ih _ ⟨fun _ => ?_, fun d d1 d2 => ?_, fun d d1 => ?_⟩))⟩) (fun e => ⟨w, nm_r (e' := upd s i 0) (by rw [c]) (nm_r (nI_1 i) (ih _ ⟨fun _ => ?_, fun d d1 d2 => ?_, fun d d1 => ?_⟩))⟩))
  · exact gu_s e.symm
  · omega
  · rw [pk_un (by omega)]; exact I.2.2 d (by omega)
  · rw [pk_un (by omega)]; exact I.1 (by omega)
  · by_cases q : d = i
    · exact gu_s q
    · rw [pk_un q]; exact I.2.1 d d1 (by omega)
  · rw [pk_un (by omega)]; exact I.2.2 d (by omega)
end GYP
theorem i_vc_begin {k : Nat} {u : SX} {v : SY} (I : i_Rel k u v) (hk : k + 5 ≤ 2560) (v1 : Int32) : wpX_begin (fun r u' => wpY_begin (fun r' v' => r' = r ∧ i_Rel (k + 5) u' v') v v1) u v1 := by
  obtain ⟨f_nodeSet, f_edgeSet, f_sought, f_wanted, f_weighing, f_found, f_lightest, f_heaviest, a_nodeLabel, a_nodeValue, a_edgesFrom, a_edgesTo, a_edgesOfType, a_edgeWeight, a_patternMode, a_spotSet, a_linkSet, a_spotLabels, a_spotLeast, a_spotGreatest, a_linkStart, a_linkEnd, a_linkTypes, a_linkKind, a_spotNodes, a_typedEdges, a_wayTargets, a_placed, a_linkEdges, a_taken, a_picked⟩ := u
  obtain ⟨f_base, f_many, a_nodeThere, a_labels, a_values, a_edgeThere, a_froms, a_tos, a_whats, a_patterns, a_parts, a_chosen⟩ := v
  have J := I
  obtain ⟨hN, hL, hE, hP0, hP1⟩ := I
  unfold wpX_begin wpY_begin
  by_cases n0 : v1 < 0
  · exact br_t n0 (br_t n0 ⟨rfl, J⟩)
  obtain ⟨m, hm, rfl⟩ := nI_of n0
  refine br_f n0 ?_
  by_cases h4 : m < 4
  · have a1 : nI m < 4 := nI_lt (b := 4) h4 (by decide)
    have a2 : nI m ≤ 3 := nI_le (b := 3) (by omega) (by decide)
    refine br_t a1 (nm_e (nm_e (nm_e (br_f n0 (br_t a2 (gy_begin (fun pat p0 p1 p2 => ⟨rfl, hN, hL, hE, ⟨?_, ⟨m, h4, p0⟩, fun i hi => ?_, fun j hj => ?_⟩, ?_⟩)))))))
    · rw [p0]; exact pk_us
    · have z : pat (33 * 0 + 1 + i) = 0 := p1 _ (by omega) (by omega)
      refine ⟨Or.inl z, ?_, fun y => absurd (y.symm.trans z) gn_10⟩
      rw [z, pk_us, b_0]
      exact ⟨fun y => absurd y Bool.false_ne_true, fun y => absurd y.symm gn_10⟩
    · have z : pat (33 * 0 + 17 + j) = 0 := p1 _ (by omega) (by omega)
      refine ⟨Or.inl z, ?_, fun y => absurd (y.symm.trans z) gn_10⟩
      rw [z, pk_us, b_0]
      exact ⟨fun y => absurd y Bool.false_ne_true, fun y => absurd y.symm gn_10⟩
    · exact gr_Pc hP1 (pk_un (by omega)) (pk_un (by omega)) (pk_un (by omega)) (fun _ _ => ⟨rfl, rfl, rfl⟩) (fun _ _ => ⟨rfl, rfl, rfl, rfl⟩) (fun c hc => p2 _ (by omega))
  · have a1 : ¬ nI m < 4 := nI_nlt (b := 4) (by omega) hm
    have a2 : ¬ nI m ≤ 3 := nI_ge (a := 3) (by omega) hm
    exact br_f a1 (br_f n0 (br_f a2 ⟨rfl, J⟩))
theorem gr_Ps {pm ss ls sl so sg lst len lty lki pat : Nat → Int32} {i : Nat} {l lo hi : Int32} (h : gr_P 0 pm ss ls sl so sg lst len lty lki pat) (h4 : i < 4) :
    gr_P 0 pm (upd ss 0 (ss 0 ||| ((1 : Int32) <<< (nI i &&& 31)))) ls (upd sl i l) (upd so i lo) (upd sg i hi) lst len lty lki (upd (upd (upd (upd pat (1 + i) 1) (5 + i) l) (9 + i) lo) (13 + i) hi) := by
  obtain ⟨a1, a2, a3, a4⟩ := h
  have k0 : ∀ c, c ≠ 1 + i → c ≠ 5 + i → c ≠ 9 + i → c ≠ 13 + i → upd (upd (upd (upd pat (1 + i) 1) (5 + i) l) (9 + i) lo) (13 + i) hi c = pat c := fun c c1 c2 c3 c4 => by rw [pk_un c4, pk_un c3, pk_un c2, pk_un c1]
  have k1 : upd (upd (upd (upd pat (1 + i) 1) (5 + i) l) (9 + i) lo) (13 + i) hi (33 * 0 + 1 + i) = 1 := by rw [pk_un (by omega), pk_un (by omega), pk_un (by omega), gu_s (by omega)]
  have k5 : upd (upd (upd (upd pat (1 + i) 1) (5 + i) l) (9 + i) lo) (13 + i) hi (33 * 0 + 5 + i) = l := by rw [pk_un (by omega), pk_un (by omega), gu_s (by omega)]
  have k9 : upd (upd (upd (upd pat (1 + i) 1) (5 + i) l) (9 + i) lo) (13 + i) hi (33 * 0 + 9 + i) = lo := by rw [pk_un (by omega), gu_s (by omega)]
  have k13 : upd (upd (upd (upd pat (1 + i) 1) (5 + i) l) (9 + i) lo) (13 + i) hi (33 * 0 + 13 + i) = hi := by rw [gu_s (by omega)]
  have kk : ∀ x, x < 4 → pat (33 * 0 + 1 + x) = 1 → upd (upd (upd (upd pat (1 + i) 1) (5 + i) l) (9 + i) lo) (13 + i) hi (33 * 0 + 1 + x) = 1 := fun x hx e => by
    by_cases q : x = i
    · subst q; exact k1
    · rw [k0 _ (by omega) (by omega) (by omega) (by omega), e]
  generalize upd (upd (upd (upd pat (1 + i) 1) (5 + i) l) (9 + i) lo) (13 + i) hi = pat' at *
  refine ⟨by rw [k0 _ (by omega) (by omega) (by omega) (by omega)]; exact a1, by rw [k0 _ (by omega) (by omega) (by omega) (by omega)]; exact a2, fun x hx => ?_, fun j hj => ?_⟩
  · by_cases q : x = i
    · subst q
      refine ⟨Or.inr k1, ?_, fun _ => ?_⟩
      · rw [k1, pk_us, b_or, gb_sb (by omega) (by omega), decide_eq_true rfl, Bool.or_true]
        exact ⟨fun _ => rfl, fun _ => rfl⟩
      · rw [k5, k9, k13]
        exact ⟨gu_s (by omega), gu_s (by omega), gu_s (by omega)⟩
    · have z := a3 x hx
      unfold gr_S at z ⊢
      rw [k0 (33 * 0 + 1 + x) (by omega) (by omega) (by omega) (by omega), k0 (33 * 0 + 5 + x) (by omega) (by omega) (by omega) (by omega), k0 (33 * 0 + 9 + x) (by omega) (by omega) (by omega) (by omega), k0 (33 * 0 + 13 + x) (by omega) (by omega) (by omega) (by omega), pk_us, b_or, gb_sb (by omega) (by omega), decide_eq_false q, Bool.or_false, pk_un (by omega), pk_un (by omega), pk_un (by omega)]
      exact z
  · have z := a4 j hj
    unfold gr_K at z ⊢
    rw [k0 (33 * 0 + 17 + j) (by omega) (by omega) (by omega) (by omega), k0 (33 * 0 + 21 + j) (by omega) (by omega) (by omega) (by omega), k0 (33 * 0 + 25 + j) (by omega) (by omega) (by omega) (by omega), k0 (33 * 0 + 29 + j) (by omega) (by omega) (by omega) (by omega)]
    refine ⟨z.1, z.2.1, fun y => ?_⟩
    obtain ⟨ab, hab, q1, q2, q3, q4, q5, q6, q7, q8⟩ := z.2.2 y
    exact ⟨ab, hab, q1, q2, q3, q4, q5, q6, kk _ (by omega) q7, kk _ (by omega) q8⟩
theorem i_vc_spot {k : Nat} {u : SX} {v : SY} (I : i_Rel k u v) (hk : k + 5 ≤ 2560) (v1 : Int32) (v2 : Int32) (v3 : Int32) (v4 : Int32) : wpX_spot (fun r u' => wpY_spot (fun r' v' => r' = r ∧ i_Rel (k + 5) u' v') v v1 v2 v3 v4) u v1 v2 v3 v4 := by
  obtain ⟨f_nodeSet, f_edgeSet, f_sought, f_wanted, f_weighing, f_found, f_lightest, f_heaviest, a_nodeLabel, a_nodeValue, a_edgesFrom, a_edgesTo, a_edgesOfType, a_edgeWeight, a_patternMode, a_spotSet, a_linkSet, a_spotLabels, a_spotLeast, a_spotGreatest, a_linkStart, a_linkEnd, a_linkTypes, a_linkKind, a_spotNodes, a_typedEdges, a_wayTargets, a_placed, a_linkEdges, a_taken, a_picked⟩ := u
  obtain ⟨f_base, f_many, a_nodeThere, a_labels, a_values, a_edgeThere, a_froms, a_tos, a_whats, a_patterns, a_parts, a_chosen⟩ := v
  have J := I
  obtain ⟨hN, hL, hE, hP0, hP1⟩ := I
  unfold wpX_spot wpY_spot
  by_cases n0 : v1 < 0
  · exact br_t n0 (br_t n0 ⟨rfl, J⟩)
  obtain ⟨i, hi, rfl⟩ := nI_of n0
  refine br_f n0 ?_
  by_cases h4 : i < 4
  · have a1 : ¬ (4 : Int32) ≤ nI i := nI_ge (b := 4) h4 (by decide)
    have a2 : ¬ (3 : Int32) < nI i := nI_nlt (a := 3) (by omega) (by decide)
    refine br_f a1 ?_
    by_cases l0 : v2 < 0
    · exact br_t l0 (br_f n0 (br_f a2 (br_t l0 ⟨rfl, J⟩)))
    refine br_f l0 ?_
    by_cases l1 : v2 ≤ 15
    · have c : (nI i).toNatClampNeg = i := nI_clamp hi
      have w : vp_in (nI i) 8 := vp_in_nI (by omega) (by decide)
      have y1 : (1 : Int32) + nI i = nI (1 + i) := nI_add 1 i
      have y5 : (5 : Int32) + nI i = nI (5 + i) := nI_add 5 i
      have y9 : (9 : Int32) + nI i = nI (9 + i) := nI_add 9 i
      have y13 : (13 : Int32) + nI i = nI (13 + i) := nI_add 13 i
      have c1 : (nI (1 + i)).toNatClampNeg = 1 + i := nI_clamp (by omega)
      have c5 : (nI (5 + i)).toNatClampNeg = 5 + i := nI_clamp (by omega)
      have c9 : (nI (9 + i)).toNatClampNeg = 9 + i := nI_clamp (by omega)
      have c13 : (nI (13 + i)).toNatClampNeg = 13 + i := nI_clamp (by omega)
      have w1 : vp_in (1 + nI i) 66 := by rw [y1]; exact vp_in_nI (by omega) (by decide)
      have w5 : vp_in (5 + nI i) 66 := by rw [y5]; exact vp_in_nI (by omega) (by decide)
      have w9 : vp_in (9 + nI i) 66 := by rw [y9]; exact vp_in_nI (by omega) (by decide)
      have w13 : vp_in (13 + nI i) 66 := by rw [y13]; exact vp_in_nI (by omega) (by decide)
      refine br_t l1 (nm_r (e' := nI i) (Int32.zero_add _) (nm_e ⟨w, nm_r (e' := upd a_spotLabels i v2) (by rw [c]) ⟨w, nm_r (e' := upd a_spotLeast i v3) (by rw [c]) ⟨w, nm_r (e' := upd a_spotGreatest i v4) (by rw [c]) ?_⟩⟩⟩))
      refine br_f n0 (br_f a2 (br_f l0 (br_t l1 ⟨w1, nm_r (e' := upd a_patterns (1 + i) 1) (by rw [y1, c1]) ⟨w5, nm_r (e' := upd (upd a_patterns (1 + i) 1) (5 + i) v2) (by rw [y5, c5]) ⟨w9, nm_r (e' := upd (upd (upd a_patterns (1 + i) 1) (5 + i) v2) (9 + i) v3) (by rw [y9, c9]) ⟨w13, nm_r (e' := upd (upd (upd (upd a_patterns (1 + i) 1) (5 + i) v2) (9 + i) v3) (13 + i) v4) (by rw [y13, c13]) ?_⟩⟩⟩⟩)))
      refine ⟨rfl, hN, hL, hE, gr_Ps hP0 h4, gr_Pc hP1 rfl (pk_un (by omega)) rfl (fun x hx => ⟨pk_un (by omega), pk_un (by omega), pk_un (by omega)⟩) (fun _ _ => ⟨rfl, rfl, rfl, rfl⟩) (fun c hc => ?_)⟩
      rw [pk_un (by omega), pk_un (by omega), pk_un (by omega), pk_un (by omega)]
    · exact br_f l1 (br_f n0 (br_f a2 (br_f l0 (br_f l1 ⟨rfl, J⟩))))
  · have a1 : (4 : Int32) ≤ nI i := nI_le (a := 4) (by omega) hi
    have a2 : (3 : Int32) < nI i := nI_lt (a := 3) (by omega) hi
    exact br_t a1 (br_f n0 (br_t a2 ⟨rfl, J⟩))
theorem gr_Pl {pm ss ls sl so sg lst len lty lki pat : Nat → Int32} {j ab : Nat} {ty ki : Int32} (h : gr_P 0 pm ss ls sl so sg lst len lty lki pat) (h4 : j < 4) (hab : ab < 16) (s1 : pat (33 * 0 + 1 + ab % 4) = 1) (s2 : pat (33 * 0 + 1 + ab / 4) = 1) (hki : ki = 0 ∨ ki = 1) :
    gr_P 0 pm ss (upd ls 0 (ls 0 ||| ((1 : Int32) <<< (nI j &&& 31)))) sl so sg (upd lst j (nI (ab % 4))) (upd len j (nI (ab / 4))) (upd lty j ty) (upd lki j ki) (upd (upd (upd (upd pat (17 + j) 1) (21 + j) (nI ab)) (25 + j) ty) (29 + j) ki) := by
  obtain ⟨a1, a2, a3, a4⟩ := h
  have k0 : ∀ c, c ≠ 17 + j → c ≠ 21 + j → c ≠ 25 + j → c ≠ 29 + j → upd (upd (upd (upd pat (17 + j) 1) (21 + j) (nI ab)) (25 + j) ty) (29 + j) ki c = pat c := fun c c1 c2 c3 c4 => by rw [pk_un c4, pk_un c3, pk_un c2, pk_un c1]
  have k1 : upd (upd (upd (upd pat (17 + j) 1) (21 + j) (nI ab)) (25 + j) ty) (29 + j) ki (33 * 0 + 17 + j) = 1 := by rw [pk_un (by omega), pk_un (by omega), pk_un (by omega), gu_s (by omega)]
  have k5 : upd (upd (upd (upd pat (17 + j) 1) (21 + j) (nI ab)) (25 + j) ty) (29 + j) ki (33 * 0 + 21 + j) = nI ab := by rw [pk_un (by omega), pk_un (by omega), gu_s (by omega)]
  have k9 : upd (upd (upd (upd pat (17 + j) 1) (21 + j) (nI ab)) (25 + j) ty) (29 + j) ki (33 * 0 + 25 + j) = ty := by rw [pk_un (by omega), gu_s (by omega)]
  have k13 : upd (upd (upd (upd pat (17 + j) 1) (21 + j) (nI ab)) (25 + j) ty) (29 + j) ki (33 * 0 + 29 + j) = ki := by rw [gu_s (by omega)]
  generalize upd (upd (upd (upd pat (17 + j) 1) (21 + j) (nI ab)) (25 + j) ty) (29 + j) ki = pat' at *
  refine ⟨by rw [k0 _ (by omega) (by omega) (by omega) (by omega)]; exact a1, by rw [k0 _ (by omega) (by omega) (by omega) (by omega)]; exact a2, fun x hx => ?_, fun x hx => ?_⟩
  · have z := a3 x hx
    unfold gr_S at z ⊢
    rw [k0 (33 * 0 + 1 + x) (by omega) (by omega) (by omega) (by omega), k0 (33 * 0 + 5 + x) (by omega) (by omega) (by omega) (by omega), k0 (33 * 0 + 9 + x) (by omega) (by omega) (by omega) (by omega), k0 (33 * 0 + 13 + x) (by omega) (by omega) (by omega) (by omega)]
    exact z
  · by_cases q : x = j
    · subst q
      refine ⟨Or.inr k1, ?_, fun _ => ⟨ab, hab, k5, gu_s (by omega), gu_s (by omega), ?_, ?_, ?_, ?_, ?_⟩⟩
      · rw [k1, pk_us, b_or, gb_sb (by omega) (by omega), decide_eq_true rfl, Bool.or_true]
        exact ⟨fun _ => rfl, fun _ => rfl⟩
      · rw [k9, gu_s (by omega)]
      · rw [k13, gu_s (by omega)]
      · rw [k13]; exact hki
      · rw [k0 _ (by omega) (by omega) (by omega) (by omega), s1]
      · rw [k0 _ (by omega) (by omega) (by omega) (by omega), s2]
    · have z := a4 x hx
      unfold gr_K at z ⊢
      rw [k0 (33 * 0 + 17 + x) (by omega) (by omega) (by omega) (by omega), k0 (33 * 0 + 21 + x) (by omega) (by omega) (by omega) (by omega), k0 (33 * 0 + 25 + x) (by omega) (by omega) (by omega) (by omega), k0 (33 * 0 + 29 + x) (by omega) (by omega) (by omega) (by omega), pk_us, b_or, gb_sb (by omega) (by omega), decide_eq_false q, Bool.or_false]
      refine ⟨z.1, z.2.1, fun y => ?_⟩
      obtain ⟨ab', hab', q⟩ := z.2.2 y
      refine ⟨ab', hab', ?_⟩
      rw [k0 (33 * 0 + 1 + ab' % 4) (by omega) (by omega) (by omega) (by omega), k0 (33 * 0 + 1 + ab' / 4) (by omega) (by omega) (by omega) (by omega), pk_un (by omega), pk_un (by omega), pk_un (by omega), pk_un (by omega)]
      exact q
theorem i_vc_link {k : Nat} {u : SX} {v : SY} (I : i_Rel k u v) (hk : k + 5 ≤ 2560) (v1 : Int32) (v2 : Int32) (v3 : Int32) (v4 : Int32) : wpX_link (fun r u' => wpY_link (fun r' v' => r' = r ∧ i_Rel (k + 5) u' v') v v1 v2 v3 v4) u v1 v2 v3 v4 := by
  obtain ⟨f_nodeSet, f_edgeSet, f_sought, f_wanted, f_weighing, f_found, f_lightest, f_heaviest, a_nodeLabel, a_nodeValue, a_edgesFrom, a_edgesTo, a_edgesOfType, a_edgeWeight, a_patternMode, a_spotSet, a_linkSet, a_spotLabels, a_spotLeast, a_spotGreatest, a_linkStart, a_linkEnd, a_linkTypes, a_linkKind, a_spotNodes, a_typedEdges, a_wayTargets, a_placed, a_linkEdges, a_taken, a_picked⟩ := u
  obtain ⟨f_base, f_many, a_nodeThere, a_labels, a_values, a_edgeThere, a_froms, a_tos, a_whats, a_patterns, a_parts, a_chosen⟩ := v
  have J := I
  obtain ⟨hN, hL, hE, hP0, hP1⟩ := I
  unfold wpX_link wpY_link
  by_cases n0 : v1 < 0
  · exact br_t n0 (br_t n0 ⟨rfl, J⟩)
  obtain ⟨j, hj, rfl⟩ := nI_of n0
  refine br_f n0 ?_
  by_cases h4 : ¬ j < 4
  · have a1 : (4 : Int32) ≤ nI j := nI_le (a := 4) (by omega) hj
    have a2 : (3 : Int32) < nI j := nI_lt (a := 3) (by omega) hj
    exact br_t a1 (br_f n0 (br_t a2 ⟨rfl, J⟩))
  have h4 : j < 4 := by omega
  have a1 : ¬ (4 : Int32) ≤ nI j := nI_ge (b := 4) h4 (by decide)
  have a2 : ¬ (3 : Int32) < nI j := nI_nlt (a := 3) (by omega) (by decide)
  refine br_f a1 ?_
  by_cases l0 : v2 < 0
  · exact br_t l0 (br_f n0 (br_f a2 (br_t l0 ⟨rfl, J⟩)))
  obtain ⟨ab, hab, rfl⟩ := nI_of l0
  refine br_f l0 ?_
  by_cases h16 : ¬ ab < 16
  · have b1 : ¬ nI ab < 16 := nI_nlt (b := 16) (by omega) hab
    have b2 : (15 : Int32) < nI ab := nI_lt (a := 15) (by omega) hab
    exact br_f b1 (br_f n0 (br_f a2 (br_f l0 (br_t b2 ⟨rfl, J⟩))))
  have h16 : ab < 16 := by omega
  have b1 : nI ab < 16 := nI_lt (b := 16) h16 (by decide)
  have b2 : ¬ (15 : Int32) < nI ab := nI_nlt (a := 15) (by omega) (by decide)
  have er : nI ab - nI ab / 4 * 4 = nI (ab % 4) := pk_rem (a := ab) (d := 4) (by omega) (by decide) (by decide)
  have ed : nI ab / 4 = nI (ab / 4) := pk_div (a := ab) (d := 4) (by omega) (by decide) (by decide)
  have y1 : (1 : Int32) + nI (ab % 4) = nI (1 + ab % 4) := nI_add 1 _
  have y2 : (1 : Int32) + nI (ab / 4) = nI (1 + ab / 4) := nI_add 1 _
  have c1 : (nI (1 + ab % 4)).toNatClampNeg = 33 * 0 + 1 + ab % 4 := by rw [nI_clamp (by omega)]
  have c2 : (nI (1 + ab / 4)).toNatClampNeg = 33 * 0 + 1 + ab / 4 := by rw [nI_clamp (by omega)]
  have w1 : vp_in (1 + (nI ab - nI ab / 4 * 4)) 66 := by rw [er, y1]; exact vp_in_nI (by omega) (by decide)
  have w2 : vp_in (1 + nI ab / 4) 66 := by rw [ed, y2]; exact vp_in_nI (by omega) (by decide)
  have S1 := hP0.2.2.1 (ab % 4) (by omega)
  have S2 := hP0.2.2.1 (ab / 4) (by omega)
  refine br_t b1 ⟨gn_d4, nm_r er ⟨gn_d4, nm_r ed ?_⟩⟩
  have z1 : a_patterns (1 + (nI ab - nI ab / 4 * 4)).toNatClampNeg = a_patterns (33 * 0 + 1 + ab % 4) := by rw [er, y1, c1]
  have z2 : a_patterns (1 + nI ab / 4).toNatClampNeg = a_patterns (33 * 0 + 1 + ab / 4) := by rw [ed, y2, c2]
  refine gx_hasb (by omega) (fun hb => ?_) (fun hb => ?_)
  · have p1 := S1.2.1.mp hb
    have p1' : ¬ a_patterns (1 + (nI ab - nI ab / 4 * 4)).toNatClampNeg = 0 := fun z => gn_10 (p1.symm.trans (z1.symm.trans z))
    refine gx_hasb (by omega) (fun hc => ?_) (fun hc => ?_)
    · have p2 := S2.2.1.mp hc
      have p2' : ¬ a_patterns (1 + nI ab / 4).toNatClampNeg = 0 := fun z => gn_10 (p2.symm.trans (z2.symm.trans z))
      by_cases t0 : v3 < 0
      · exact br_t t0 (br_f n0 (br_f a2 (br_f l0 (br_f b2 ⟨gn_d4, w1, br_f p1' ⟨gn_d4, w2, br_f p2' (br_t t0 ⟨rfl, J⟩)⟩⟩))))
      refine br_f t0 ?_
      by_cases t1 : 7 < v3
      · exact br_t t1 (br_f n0 (br_f a2 (br_f l0 (br_f b2 ⟨gn_d4, w1, br_f p1' ⟨gn_d4, w2, br_f p2' (br_f t0 (br_t t1 ⟨rfl, J⟩))⟩⟩))))
      refine br_f t1 ?_
      have main : (v4 = 0 ∨ v4 = 1) → ¬ v4 < 0 → v4 ≤ 1 → wX_link_84 (fun r u' => wpY_link (fun r' v' => r' = r ∧ i_Rel (k + 5) u' v') (f_base, f_many, a_nodeThere, a_labels, a_values, a_edgeThere, a_froms, a_tos, a_whats, a_patterns, a_parts, a_chosen) (nI j) (nI ab) v3 v4) (nI j) v3 v4 (nI (ab % 4)) (nI (ab / 4)) f_nodeSet f_edgeSet f_sought f_wanted f_weighing f_found f_lightest f_heaviest a_nodeLabel a_nodeValue a_edgesFrom a_edgesTo a_edgesOfType a_edgeWeight a_patternMode a_spotSet a_linkSet a_spotLabels a_spotLeast a_spotGreatest a_linkStart a_linkEnd a_linkTypes a_linkKind a_spotNodes a_typedEdges a_wayTargets a_placed a_linkEdges a_taken a_picked := by
        intro hki k0 k1
        have c : (nI j).toNatClampNeg = j := nI_clamp hj
        have w : vp_in (nI j) 8 := vp_in_nI (by omega) (by decide)
        have y17 : (17 : Int32) + nI j = nI (17 + j) := nI_add 17 j
        have y21 : (21 : Int32) + nI j = nI (21 + j) := nI_add 21 j
        have y25 : (25 : Int32) + nI j = nI (25 + j) := nI_add 25 j
        have y29 : (29 : Int32) + nI j = nI (29 + j) := nI_add 29 j
        have c17 : (nI (17 + j)).toNatClampNeg = 17 + j := nI_clamp (by omega)
        have c21 : (nI (21 + j)).toNatClampNeg = 21 + j := nI_clamp (by omega)
        have c25 : (nI (25 + j)).toNatClampNeg = 25 + j := nI_clamp (by omega)
        have c29 : (nI (29 + j)).toNatClampNeg = 29 + j := nI_clamp (by omega)
        have w17 : vp_in (17 + nI j) 66 := by rw [y17]; exact vp_in_nI (by omega) (by decide)
        have w21 : vp_in (21 + nI j) 66 := by rw [y21]; exact vp_in_nI (by omega) (by decide)
        have w25 : vp_in (25 + nI j) 66 := by rw [y25]; exact vp_in_nI (by omega) (by decide)
        have w29 : vp_in (29 + nI j) 66 := by rw [y29]; exact vp_in_nI (by omega) (by decide)
        refine nm_r (e' := nI j) (Int32.zero_add _) (nm_e ⟨w, nm_r (e' := upd a_linkStart j (nI (ab % 4))) (by rw [c]) ⟨w, nm_r (e' := upd a_linkEnd j (nI (ab / 4))) (by rw [c]) ⟨w, nm_r (e' := upd a_linkTypes j v3) (by rw [c]) ⟨w, nm_r (e' := upd a_linkKind j v4) (by rw [c]) ?_⟩⟩⟩⟩)
        refine br_f n0 (br_f a2 (br_f l0 (br_f b2 ⟨gn_d4, w1, br_f p1' ⟨gn_d4, w2, br_f p2' (br_f t0 (br_f t1 (br_f k0 (br_t k1 ⟨w17, nm_r (e' := upd a_patterns (17 + j) 1) (by rw [y17, c17]) ⟨w21, nm_r (e' := upd (upd a_patterns (17 + j) 1) (21 + j) (nI ab)) (by rw [y21, c21]) ⟨w25, nm_r (e' := upd (upd (upd a_patterns (17 + j) 1) (21 + j) (nI ab)) (25 + j) v3) (by rw [y25, c25]) ⟨w29, nm_r (e' := upd (upd (upd (upd a_patterns (17 + j) 1) (21 + j) (nI ab)) (25 + j) v3) (29 + j) v4) (by rw [y29, c29]) ?_⟩⟩⟩⟩))))⟩⟩)))
        refine ⟨rfl, hN, hL, hE, gr_Pl hP0 h4 h16 p1 p2 hki, gr_Pc hP1 rfl rfl (pk_un (by omega)) (fun _ _ => ⟨rfl, rfl, rfl⟩) (fun x hx => ⟨pk_un (by omega), pk_un (by omega), pk_un (by omega), pk_un (by omega)⟩) (fun c hc => ?_)⟩
        rw [pk_un (by omega), pk_un (by omega), pk_un (by omega), pk_un (by omega)]
      by_cases q0 : v4 = 0
      · exact br_t q0 (main (Or.inl q0) (by rw [q0]; decide) (by rw [q0]; decide))
      refine br_f q0 ?_
      by_cases q1 : v4 = 1
      · exact br_t q1 (main (Or.inr q1) (by rw [q1]; decide) (by rw [q1]; decide))
      refine br_f q1 (br_f n0 (br_f a2 (br_f l0 (br_f b2 ⟨gn_d4, w1, br_f p1' ⟨gn_d4, w2, br_f p2' (br_f t0 (br_f t1 (br_c (fun _ => ⟨rfl, J⟩) (fun k0 => br_f (fun k1 => ?_) ⟨rfl, J⟩))))⟩⟩))))
      exact q1 (gr_01 k0 k1 q0)
    · have p2 : a_patterns (33 * 0 + 1 + ab / 4) = 0 := S2.1.resolve_right (fun z => Bool.false_ne_true (hc.symm.trans (S2.2.1.mpr z)))
      exact br_f n0 (br_f a2 (br_f l0 (br_f b2 ⟨gn_d4, w1, br_f p1' ⟨gn_d4, w2, br_t (z2.trans p2) ⟨rfl, J⟩⟩⟩)))
  · have p1 : a_patterns (33 * 0 + 1 + ab % 4) = 0 := S1.1.resolve_right (fun z => Bool.false_ne_true (hb.symm.trans (S1.2.1.mpr z)))
    exact br_f n0 (br_f a2 (br_f l0 (br_f b2 ⟨gn_d4, w1, br_t (z1.trans p1) ⟨rfl, J⟩⟩)))
