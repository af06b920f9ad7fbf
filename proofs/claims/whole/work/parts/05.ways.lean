/-! ways: both sides make the same set -/
def gw_c (eT fr wh : Nat → Int32) (ty set : Int32) (e : Nat) : Prop := (eT e = 1 ∧ ((ty >>> ((wh e - wh e / 3 * 3) &&& 31)) &&& 1) = 1) ∧ ((set >>> (fr e &&& 31)) &&& 1) = 1
noncomputable def gw_step (eT fr to wh : Nat → Int32) (ty set : Int32) : Nat → Int32
  | 0 => 0
  | e + 1 => bif gq_b (gw_c eT fr wh ty set e) then gw_step eT fr to wh ty set e ||| ((1 : Int32) <<< (to e &&& 31)) else gw_step eT fr to wh ty set e
noncomputable def gw_ways (eT fr to wh : Nat → Int32) (ty : Int32) (n : Nat) : Nat → Int32 × Int32
  | 0 => (0, (1 : Int32) <<< (nI n &&& 31))
  | k + 1 => ((gw_ways eT fr to wh ty n k).1 ||| gw_step eT fr to wh ty (gw_ways eT fr to wh ty n k).2 20, gw_step eT fr to wh ty (gw_ways eT fr to wh ty n k).2 20)
theorem gw_acc {eT fr to wh : Nat → Int32} {ty set : Int32} (hD : gr_D eT fr to wh) : ∀ k, ga_acc (fun e i => gw_c eT fr wh ty set e ∧ to e = nI i) k (gw_step eT fr to wh ty set k)
  | 0 => ga_0
  | k + 1 => by
    show ga_acc _ _ (bif gq_b (gw_c eT fr wh ty set k) then _ else _)
    by_cases h : gw_c eT fr wh ty set k
    · rw [gq_bt h]
      obtain ⟨a, ha, ea⟩ := hD.2.2.1 k
      refine ga_or (gw_acc hD k) ?_
      rw [ea]
      refine ga_bit (by omega) (fun i hi => ?_)
      rw [nI_eq (by omega) (by omega)]
      exact ⟨fun z => z.2.symm, fun z => ⟨h, z.symm⟩⟩
    · rw [gq_bf h]
      exact ga_no (gw_acc hD k) (fun i _ z => h z.1)
theorem gw_rem {wh : Nat → Int32} {e : Nat} (h : ∃ w, w < 63 ∧ wh e = nI w) : ∃ t, t < 3 ∧ wh e - wh e / 3 * 3 = nI t := by
  obtain ⟨w, hw, ew⟩ := h
  refine ⟨w % 3, by omega, ?_⟩
  rw [ew]
  exact pk_rem (a := w) (d := 3) (by omega) (by decide) (by decide)
/-- the edges of some types -/
theorem gw_typed {es : Int32} {eF eO eY ew eT fr to wh : Nat → Int32} {ty r : Int32} (hE : gr_E es eF eO eY ew eT fr to wh) (h : ga_acc (fun t i => bt ty t = true ∧ bt (eY t) i = true) 3 r) :
    gr_B r eT (fun e => ((ty >>> ((wh e - wh e / 3 * 3) &&& 31)) &&& 1) = 1) := fun i hi => by
  rw [h i hi]
  obtain ⟨t, ht, et⟩ := gw_rem (hE.1.2.2.2 i)
  dsimp only
  rw [et, gb_bit1 _ (by omega)]
  constructor
  · rintro ⟨t', ht', q1, q2⟩
    obtain ⟨z1, z2, z3⟩ := (hE.2.2.2.2.1 t' ht' i hi).mp q2
    rw [et, nI_eq (by omega) (by omega)] at z3
    rw [z3]
    exact ⟨z1, z2, q1⟩
  · rintro ⟨z1, z2, z3⟩
    exact ⟨t, ht, z3, (hE.2.2.2.2.1 t ht i hi).mpr ⟨z1, z2, et⟩⟩
theorem gw_same {es : Int32} {eF eO eY ew eT fr to wh : Nat → Int32} {ty ed st r : Int32} (hE : gr_E es eF eO eY ew eT fr to wh) (he : gr_B ed eT (fun e => ((ty >>> ((wh e - wh e / 3 * 3) &&& 31)) &&& 1) = 1))
    (h : ga_acc (fun n i => i = n ∧ ∃ e, e < 32 ∧ bt (eO n) e = true ∧ ∃ m, m < 12 ∧ bt st m = true ∧ bt (eF m) e = true ∧ bt ed e = true) 12 r) : r = gw_step eT fr to wh ty st 20 := by
  apply gb_ext
  intro i hi
  rw [h i hi, gw_acc hE.1 20 i hi]
  constructor
  · rintro ⟨n, hn, rfl, e, he32, q1, m, hm, q2, q3, q4⟩
    obtain ⟨a1, a2, a3⟩ := (hE.2.2.2.1 i hn e he32).mp q1
    obtain ⟨b1, b2, b3⟩ := (hE.2.2.1 m hm e he32).mp q3
    obtain ⟨c1, c2, c3⟩ := (he e he32).mp q4
    refine ⟨e, a1, ⟨⟨a2, c3⟩, ?_⟩, a3⟩
    rw [b3, gb_bit1 _ (by omega)]
    exact q2
  · rintro ⟨e, he20, ⟨⟨q1, q2⟩, q3⟩, q4⟩
    obtain ⟨a, ha, ea⟩ := hE.1.2.1 e
    obtain ⟨b, hb, eb⟩ := hE.1.2.2.1 e
    rw [eb, nI_eq (by omega) (by omega)] at q4
    subst q4
    rw [ea, gb_bit1 _ (by omega)] at q3
    exact ⟨b, hb, rfl, e, by omega, (hE.2.2.2.1 b hb e (by omega)).mpr ⟨he20, q1, eb⟩, a, ha, q3, (hE.2.2.1 a ha e (by omega)).mpr ⟨he20, q1, ea⟩, (he e (by omega)).mpr ⟨he20, q1, q2⟩⟩
section GWX
variable {f_nodeSet f_edgeSet f_sought f_wanted f_weighing f_found f_lightest f_heaviest : Int32} {a_nodeLabel a_nodeValue a_edgesFrom a_edgesTo a_edgesOfType a_edgeWeight a_patternMode a_spotSet a_linkSet a_spotLabels a_spotLeast a_spotGreatest a_linkStart a_linkEnd a_linkTypes a_linkKind a_spotNodes a_typedEdges a_wayTargets a_placed a_linkEdges a_taken a_picked : Nat → Int32} {a_edgeThere a_froms a_tos a_whats : Nat → Int32}
theorem gx_targets {post : Int32 → Prop} {ty ed : Int32} {n k : Nat} (hE : gr_E f_edgeSet a_edgesFrom a_edgesTo a_edgesOfType a_edgeWeight a_edgeThere a_froms a_tos a_whats) (he : gr_B ed a_edgeThere (fun e => ((ty >>> ((a_whats e - a_whats e / 3 * 3) &&& 31)) &&& 1) = 1)) (hk : k < 100)
    (h : post (gw_ways a_edgeThere a_froms a_tos a_whats ty n k).1) : wpX_targets post (f_nodeSet, f_edgeSet, f_sought, f_wanted, f_weighing, f_found, f_lightest, f_heaviest, a_nodeLabel, a_nodeValue, a_edgesFrom, a_edgesTo, a_edgesOfType, a_edgeWeight, a_patternMode, a_spotSet, a_linkSet, a_spotLabels, a_spotLeast, a_spotGreatest, a_linkStart, a_linkEnd, a_linkTypes, a_linkKind, a_spotNodes, a_typedEdges, a_wayTargets, a_placed, a_linkEdges, a_taken, a_picked) (nI n) ed (nI k) := by
  refine nm_e (loop_0 (fun f i (s : Int32 × Int32) => wX_targets_11 post ed (nI k) f_nodeSet f_edgeSet f_sought f_wanted f_weighing f_found f_lightest f_heaviest a_nodeLabel a_nodeValue a_edgesFrom a_edgesTo a_edgesOfType a_edgeWeight a_patternMode a_spotSet a_linkSet a_spotLabels a_spotLeast a_spotGreatest a_linkStart a_linkEnd a_linkTypes a_linkKind a_spotNodes a_typedEdges a_wayTargets a_placed a_linkEdges a_taken a_picked f s.1 s.2 (nI (i + 1))) (fun i s => s = gw_ways a_edgeThere a_froms a_tos a_whats ty n i) k (0, (1 : Int32) <<< (nI n &&& 31)) rfl (fun f s I => ?_) (fun f i s hi I ih => ?_))
  · subst I
    exact br_t (nI_lt (by omega) (by omega)) h
  · subst I
    refine br_f (nI_nlt (by omega) (by omega)) ?_
    refine gx_step (fun r hr => ?_)
    have e := gw_same hE he hr
    subst e
    exact nm_e (nm_r (nI_1 (i + 1)) (ih _ rfl))
end GWX
section GWY
variable {f_base f_many : Int32} {a_nodeThere a_labels a_values a_edgeThere a_froms a_tos a_whats a_patterns a_parts a_chosen : Nat → Int32}
theorem gy_typed {post : Int32 → Prop} {ty : Int32} {e : Nat} (he : e < 20) (hT : ∀ e, a_edgeThere e = 0 ∨ a_edgeThere e = 1) (h1 : (a_edgeThere e = 1 ∧ ((ty >>> ((a_whats e - a_whats e / 3 * 3) &&& 31)) &&& 1) = 1) → post 1) (h0 : ¬ (a_edgeThere e = 1 ∧ ((ty >>> ((a_whats e - a_whats e / 3 * 3) &&& 31)) &&& 1) = 1) → post 0) : wpY_typed post (f_base, f_many, a_nodeThere, a_labels, a_values, a_edgeThere, a_froms, a_tos, a_whats, a_patterns, a_parts, a_chosen) (nI e) ty := by
  have c : (nI e).toNatClampNeg = e := nI_clamp (by omega)
  have v : vp_in (nI e) 20 := vp_in_nI he (by decide)
  refine ⟨v, ?_⟩
  rw [c]
  rcases hT e with t | t
  · exact br_t t (h0 (fun z => gn_10 (z.1.symm.trans t)))
  · exact br_f (fun z => gn_10 (t.symm.trans z)) ⟨v, gn_d3, br_c (fun z => h1 ⟨t, z⟩) (fun z => h0 (fun w => z w.2))⟩
theorem gy_step {post : Int32 → Prop} {st ty : Int32} (hT : ∀ e, a_edgeThere e = 0 ∨ a_edgeThere e = 1) (h : post (gw_step a_edgeThere a_froms a_tos a_whats ty st 20)) : wpY_step post (f_base, f_many, a_nodeThere, a_labels, a_values, a_edgeThere, a_froms, a_tos, a_whats, a_patterns, a_parts, a_chosen) st ty := by
  refine loop_0 (fun n i s => wY_step_5 post st ty f_base f_many a_nodeThere a_labels a_values a_edgeThere a_froms a_tos a_whats a_patterns a_parts a_chosen n s (nI i)) (fun i s => s = gw_step a_edgeThere a_froms a_tos a_whats ty st i) 20 0 rfl (fun n s I => ?_) (fun n i s hi I ih => ?_)
  · subst I
    exact br_t (nI_le (a := 20) (by omega) (by decide)) h
  · subst I
    have c : (nI i).toNatClampNeg = i := nI_clamp (by omega)
    have v : vp_in (nI i) 20 := vp_in_nI hi (by decide)
    have e0 : ¬ gw_c a_edgeThere a_froms a_whats ty st i → gw_step a_edgeThere a_froms a_tos a_whats ty st i = gw_step a_edgeThere a_froms a_tos a_whats ty st (i + 1) := fun q => by
      show _ = bif gq_b (gw_c a_edgeThere a_froms a_whats ty st i) then _ else _
      rw [gq_bf q]; rfl
    have e1 : gw_c a_edgeThere a_froms a_whats ty st i → gw_step a_edgeThere a_froms a_tos a_whats ty st i ||| ((1 : Int32) <<< (a_tos i &&& 31)) = gw_step a_edgeThere a_froms a_tos a_whats ty st (i + 1) := fun q => by
      show _ = bif gq_b (gw_c a_edgeThere a_froms a_whats ty st i) then _ else _
      rw [gq_bt q]; rfl
    refine br_f (nI_ge (b := 20) hi (by decide)) (gy_typed hi hT (fun q => br_f gn_10 ⟨v, ?_⟩) (fun q => br_t rfl (nm_r (nI_1 i) (ih _ (e0 (fun z => q z.1))))))
    rw [c]
    exact br_c (fun z => ⟨v, nm_r (e1 ⟨q, z⟩) (nm_r (nI_1 i) (ih _ rfl))⟩) (fun z => nm_r (nI_1 i) (ih _ (e0 (fun w => z w.2))))
theorem gy_ways {post : Int32 → Prop} {ty : Int32} {n k : Nat} (hT : ∀ e, a_edgeThere e = 0 ∨ a_edgeThere e = 1) (hk : k < 100) (h : post (gw_ways a_edgeThere a_froms a_tos a_whats ty n k).1) : wpY_ways post (f_base, f_many, a_nodeThere, a_labels, a_values, a_edgeThere, a_froms, a_tos, a_whats, a_patterns, a_parts, a_chosen) (nI n) ty (nI k) := by
  refine nm_e (loop_0 (fun f i (s : Int32 × Int32) => wY_ways_11 post ty (nI k) f_base f_many a_nodeThere a_labels a_values a_edgeThere a_froms a_tos a_whats a_patterns a_parts a_chosen f s.1 s.2 (nI i)) (fun i s => s = gw_ways a_edgeThere a_froms a_tos a_whats ty n i) k (0, (1 : Int32) <<< (nI n &&& 31)) rfl (fun f s I => ?_) (fun f i s hi I ih => ?_))
  · subst I
    exact br_t (nI_le (by omega) (by omega)) h
  · subst I
    refine br_f (nI_ge hi (by omega)) ?_
    refine gy_step hT ?_
    exact nm_e (nm_r (nI_1 i) (ih _ rfl))
end GWY
