/-! what a search looks for, out of the reference's arrays -/
def gp_pr (b : Nat) (pat : Nat → Int32) (p : Nat) : Prop := (p < 4 ∧ pat (33 * b + 1 + p) = 1) ∨ (4 ≤ p ∧ p < 8 ∧ pat (33 * b + 17 + (p - 4)) = 1 ∧ pat (33 * b + 29 + (p - 4)) = 0)
def gp_l1 (b : Nat) (pat : Nat → Int32) (j : Nat) : Prop := pat (33 * b + 17 + j) = 1 ∧ pat (33 * b + 29 + j) = 1
def gp_la (b : Nat) (pat : Nat → Int32) (j : Nat) : Nat := (pat (33 * b + 21 + j)).toNatClampNeg % 4
def gp_lb (b : Nat) (pat : Nat → Int32) (j : Nat) : Nat := (pat (33 * b + 21 + j)).toNatClampNeg / 4 % 4
def gp_sp (b : Nat) (pat nT lab val : Nat → Int32) (i n : Nat) : Prop := nT n = 1 ∧ ((pat (33 * b + 5 + i) >>> (lab n &&& 31)) &&& 1) = 1 ∧ ¬ val n < pat (33 * b + 9 + i) ∧ ¬ pat (33 * b + 13 + i) < val n
def gp_wy (b : Nat) (pat eT fr to wh : Nat → Int32) (j a c : Nat) : Prop := (((gw_ways eT fr to wh (pat (33 * b + 25 + j)) a 3).1 >>> (nI c &&& 31)) &&& 1) = 1
def gp_ed (b : Nat) (pat eT fr to wh : Nat → Int32) (j e a c : Nat) : Prop := (eT e = 1 ∧ ((pat (33 * b + 25 + j) >>> ((wh e - wh e / 3 * 3) &&& 31)) &&& 1) = 1) ∧ fr e = nI a ∧ to e = nI c
def gp_dn (b : Nat) (pat : Nat → Int32) : Prop := pat (33 * b) - pat (33 * b) / 2 * 2 = 1
def gp_de (b : Nat) (pat : Nat → Int32) : Prop := ¬ pat (33 * b) < 2
theorem gp_pr4 {b : Nat} {pat : Nat → Int32} {i : Nat} (hi : i < 4) : gp_pr b pat i ↔ pat (33 * b + 1 + i) = 1 := by
  unfold gp_pr
  constructor
  · rintro (h | h)
    · exact h.2
    · omega
  · exact fun h => Or.inl ⟨hi, h⟩
theorem gp_pr8 {b : Nat} {pat : Nat → Int32} {j : Nat} (hj : j < 4) : gp_pr b pat (4 + j) ↔ pat (33 * b + 17 + j) = 1 ∧ pat (33 * b + 29 + j) = 0 := by
  unfold gp_pr
  rw [show 4 + j - 4 = j by omega]
  constructor
  · rintro (h | h)
    · omega
    · exact h.2.2
  · exact fun h => Or.inr ⟨by omega, by omega, h⟩
theorem gp_lab {b : Nat} {pat : Nat → Int32} {j ab : Nat} (hab : ab < 16) (e : pat (33 * b + 21 + j) = nI ab) : gp_la b pat j = ab % 4 ∧ gp_lb b pat j = ab / 4 := by
  unfold gp_la gp_lb
  rw [e, nI_clamp (by omega)]
  exact ⟨rfl, by omega⟩
theorem gp_mode {b : Nat} {pat : Nat → Int32} (h : ∃ m, m < 4 ∧ pat (33 * b) = nI m) : ((pat (33 * b) &&& 1) = 0 ↔ ¬ gp_dn b pat) ∧ ((pat (33 * b) &&& 2) = 0 ↔ ¬ gp_de b pat) := by
  obtain ⟨m, hm, e⟩ := h
  unfold gp_dn gp_de
  rw [e]
  have : ∀ m, m < 4 → (((nI m &&& 1) = 0 ↔ ¬ nI m - nI m / 2 * 2 = 1) ∧ ((nI m &&& 2) = 0 ↔ ¬ ¬ nI m < 2)) := by decide +kernel
  exact this m hm
theorem gp_links {b j : Nat} {pm ss ls sl so sg lst len lty lki pat : Nat → Int32} (hP : gr_P b pm ss ls sl so sg lst len lty lki pat) (hj : j < 4) (h : gp_pr b pat (4 + j) ∨ gp_l1 b pat j) :
    lst (4 * b + j) = nI (gp_la b pat j) ∧ len (4 * b + j) = nI (gp_lb b pat j) ∧ gp_pr b pat (gp_la b pat j) ∧ gp_pr b pat (gp_lb b pat j) ∧ lty (4 * b + j) = pat (33 * b + 25 + j) ∧ lki (4 * b + j) = pat (33 * b + 29 + j) ∧ pat (33 * b + 21 + j) = nI (gp_la b pat j + 4 * gp_lb b pat j) := by
  have h1 : pat (33 * b + 17 + j) = 1 := h.elim (fun z => ((gp_pr8 hj).mp z).1) (fun z => z.1)
  obtain ⟨ab, hab, q1, q2, q3, q4, q5, q6, q7, q8⟩ := (hP.2.2.2 j hj).2.2 h1
  obtain ⟨e1, e2⟩ := gp_lab hab q1
  rw [e1, e2]
  exact ⟨q2, q3, (gp_pr4 (by omega)).mpr q7, (gp_pr4 (by omega)).mpr q8, q4, q5, by rw [q1]; congr 1; omega⟩
section GXS
variable {b : Nat} {f_nodeSet f_edgeSet f_wanted f_weighing f_found f_lightest f_heaviest : Int32} {a_nodeLabel a_nodeValue a_edgesFrom a_edgesTo a_edgesOfType a_edgeWeight a_patternMode a_spotSet a_linkSet a_spotLabels a_spotLeast a_spotGreatest a_linkStart a_linkEnd a_linkTypes a_linkKind a_spotNodes a_typedEdges a_wayTargets a_placed a_linkEdges a_taken a_picked : Nat → Int32} {a_nodeThere a_edgeThere a_froms a_tos a_whats a_patterns : Nat → Int32}
theorem gx_prep {post : SX → Prop} {i : Nat} (hb : b < 2) (hi : i < 4) (hE : gr_E f_edgeSet a_edgesFrom a_edgesTo a_edgesOfType a_edgeWeight a_edgeThere a_froms a_tos a_whats)
    (h : ∀ r wT, gr_B r a_edgeThere (fun e => ((a_linkTypes (4 * b + i) >>> ((a_whats e - a_whats e / 3 * 3) &&& 31)) &&& 1) = 1) → (a_linkKind (4 * b + i) = 1 → ∀ a, a < 12 → wT (16 * i + a) = (gw_ways a_edgeThere a_froms a_tos a_whats (a_linkTypes (4 * b + i)) a 3).1) → (∀ c, c < 16 * i → wT c = a_wayTargets c) → post (f_nodeSet, f_edgeSet, nI b, f_wanted, f_weighing, f_found, f_lightest, f_heaviest, a_nodeLabel, a_nodeValue, a_edgesFrom, a_edgesTo, a_edgesOfType, a_edgeWeight, a_patternMode, a_spotSet, a_linkSet, a_spotLabels, a_spotLeast, a_spotGreatest, a_linkStart, a_linkEnd, a_linkTypes, a_linkKind, a_spotNodes, upd a_typedEdges i r, wT, a_placed, a_linkEdges, a_taken, a_picked)) :
    wpX_prepareLink post (f_nodeSet, f_edgeSet, nI b, f_wanted, f_weighing, f_found, f_lightest, f_heaviest, a_nodeLabel, a_nodeValue, a_edgesFrom, a_edgesTo, a_edgesOfType, a_edgeWeight, a_patternMode, a_spotSet, a_linkSet, a_spotLabels, a_spotLeast, a_spotGreatest, a_linkStart, a_linkEnd, a_linkTypes, a_linkKind, a_spotNodes, a_typedEdges, a_wayTargets, a_placed, a_linkEdges, a_taken, a_picked) (nI i) := by
  have c : (nI (4 * b + i)).toNatClampNeg = 4 * b + i := nI_clamp (by omega)
  have ci : (nI i).toNatClampNeg = i := nI_clamp (by omega)
  have w : vp_in (nI (4 * b + i)) 8 := vp_in_nI (by omega) (by decide)
  refine nm_r gx_ix ⟨w, ?_⟩
  rw [c]
  refine gx_ewt (fun r hr => ⟨vp_in_nI hi (by decide), nm_r (e' := upd a_typedEdges i r) (by rw [ci]) ⟨w, ?_⟩⟩)
  have ht := gw_typed hE hr
  refine br_c (fun z => ?_) (fun z => h r a_wayTargets ht (fun y => absurd y z) (fun _ _ => rfl))
  refine loop_0 (fun n q wT => wX_prepareLink_40 post (nI i) r f_nodeSet f_edgeSet (nI b) f_wanted f_weighing f_found f_lightest f_heaviest n (nI q) a_nodeLabel a_nodeValue a_edgesFrom a_edgesTo a_edgesOfType a_edgeWeight a_patternMode a_spotSet a_linkSet a_spotLabels a_spotLeast a_spotGreatest a_linkStart a_linkEnd a_linkTypes a_linkKind a_spotNodes (upd a_typedEdges i r) wT a_placed a_linkEdges a_taken a_picked) (fun q wT => (∀ a, a < q → wT (16 * i + a) = (gw_ways a_edgeThere a_froms a_tos a_whats (a_linkTypes (4 * b + i)) a 3).1) ∧ (∀ c, c < 16 * i → wT c = a_wayTargets c)) 12 a_wayTargets ⟨fun a ha => absurd ha (Nat.not_lt_zero a), fun _ _ => rfl⟩ (fun n wT I => br_t (nI_le (a := 12) (by omega) (by decide)) (h r wT ht (fun _ => I.1) I.2)) (fun n q wT hq I ih => ?_)
  have cq : (nI (16 * i + q)).toNatClampNeg = 16 * i + q := nI_clamp (by omega)
  refine br_f (nI_ge (b := 12) hq (by decide)) (gx_targets (k := 3) hE ht (by omega) ⟨by rw [gx_ix16]; exact vp_in_nI (by omega) (by decide), nm_r (e' := upd wT (16 * i + q) (gw_ways a_edgeThere a_froms a_tos a_whats (a_linkTypes (4 * b + i)) q 3).1) (by rw [gx_ix16, cq]) (nm_r (nI_1 q) (ih _ ⟨fun a ha => ?_, fun c hc => ?_⟩))⟩)
  · by_cases e : a = q
    · subst e; exact pk_us
    · rw [pk_un (by omega)]; exact I.1 a (by omega)
  · rw [pk_un (by omega)]; exact I.2 c hc
theorem gx_start {post : SX → Prop} {f_sought : Int32} (hb : b < 2) (hN : gr_N f_nodeSet a_nodeThere) (hL : gr_L a_nodeLabel) (hE : gr_E f_edgeSet a_edgesFrom a_edgesTo a_edgesOfType a_edgeWeight a_edgeThere a_froms a_tos a_whats) (hP : gr_P b a_patternMode a_spotSet a_linkSet a_spotLabels a_spotLeast a_spotGreatest a_linkStart a_linkEnd a_linkTypes a_linkKind a_patterns)
    (h : ∀ spN tyE wT le, gx_H b (gp_pr b a_patterns) (gp_l1 b a_patterns) (gp_la b a_patterns) (gp_lb b a_patterns) (gp_sp b a_patterns a_nodeThere a_nodeLabel a_nodeValue) (gp_wy b a_patterns a_edgeThere a_froms a_tos a_whats) (gp_ed b a_patterns a_edgeThere a_froms a_tos a_whats) (gp_dn b a_patterns) (gp_de b a_patterns) a_patternMode a_linkSet a_linkStart a_linkEnd a_linkKind a_edgesFrom a_edgesTo spN tyE wT → (∀ s, gx_LE (gp_pr b a_patterns) (gp_la b a_patterns) (gp_lb b a_patterns) a_edgesFrom a_edgesTo tyE 0 s le) → post (f_nodeSet, f_edgeSet, nI b, (-1), 0, 0, 1000, (-1), a_nodeLabel, a_nodeValue, a_edgesFrom, a_edgesTo, a_edgesOfType, a_edgeWeight, a_patternMode, a_spotSet, a_linkSet, a_spotLabels, a_spotLeast, a_spotGreatest, a_linkStart, a_linkEnd, a_linkTypes, a_linkKind, spN, tyE, wT, a_placed, le, a_taken, a_picked)) : wpX_startSearch post (f_nodeSet, f_edgeSet, f_sought, f_wanted, f_weighing, f_found, f_lightest, f_heaviest, a_nodeLabel, a_nodeValue, a_edgesFrom, a_edgesTo, a_edgesOfType, a_edgeWeight, a_patternMode, a_spotSet, a_linkSet, a_spotLabels, a_spotLeast, a_spotGreatest, a_linkStart, a_linkEnd, a_linkTypes, a_linkKind, a_spotNodes, a_typedEdges, a_wayTargets, a_placed, a_linkEdges, a_taken, a_picked) (nI b) := by
  have cb : (nI b).toNatClampNeg = b := nI_clamp (by omega)
  have wb : vp_in (nI b) 2 := vp_in_nI hb (by decide)
  refine loop_0 (fun n i spN => wX_startSearch_34 post (nI b) f_nodeSet f_edgeSet (nI b) ((-1)) 0 0 1000 ((-1)) n (nI i) a_nodeLabel a_nodeValue a_edgesFrom a_edgesTo a_edgesOfType a_edgeWeight a_patternMode a_spotSet a_linkSet a_spotLabels a_spotLeast a_spotGreatest a_linkStart a_linkEnd a_linkTypes a_linkKind spN a_typedEdges a_wayTargets a_placed a_linkEdges a_taken a_picked) (fun i spN => ∀ q, q < i → ∀ n, n < 16 → (bt (spN q) n = true ↔ (gp_pr b a_patterns q ∧ n < 12 ∧ gp_sp b a_patterns a_nodeThere a_nodeLabel a_nodeValue q n) ∨ (¬ gp_pr b a_patterns q ∧ n = 12 + q))) 4 a_spotNodes (fun q hq => absurd hq (Nat.not_lt_zero q)) (fun n spN IS => br_t (nI_le (a := 4) (by omega) (by decide)) ?_) (fun n i spN hi I ih => ?_)
  · refine loop_0 (fun n i (z : (Nat → Int32) × (Nat → Int32) × (Nat → Int32)) => wX_startSearch_84 post (nI b) n (nI i) f_nodeSet f_edgeSet (nI b) ((-1)) 0 0 1000 ((-1)) a_nodeLabel a_nodeValue a_edgesFrom a_edgesTo a_edgesOfType a_edgeWeight a_patternMode a_spotSet a_linkSet a_spotLabels a_spotLeast a_spotGreatest a_linkStart a_linkEnd a_linkTypes a_linkKind spN z.1 z.2.1 a_placed z.2.2 a_taken a_picked)
      (fun i z => (∀ q, q < i → ¬ gp_pr b a_patterns (4 + q) → z.2.2 q = (1 : Int32) <<< (nI (20 + q) &&& 31)) ∧ (∀ q, q < i → gp_pr b a_patterns (4 + q) → gr_B (z.1 q) a_edgeThere (fun e => ((a_patterns (33 * b + 25 + q) >>> ((a_whats e - a_whats e / 3 * 3) &&& 31)) &&& 1) = 1)) ∧ (∀ q, q < i → gp_l1 b a_patterns q → ∀ a, a < 12 → z.2.1 (16 * q + a) = (gw_ways a_edgeThere a_froms a_tos a_whats (a_patterns (33 * b + 25 + q)) a 3).1))
      4 (a_typedEdges, a_wayTargets, a_linkEdges) ⟨fun q hq => absurd hq (Nat.not_lt_zero q), fun q hq => absurd hq (Nat.not_lt_zero q), fun q hq => absurd hq (Nat.not_lt_zero q)⟩ (fun n z I => br_t (nI_le (a := 4) (by omega) (by decide)) (h spN z.1 z.2.1 z.2.2 ?_ ?_)) (fun n i z hi I ih => ?_)
    · obtain ⟨I1, I2, I3⟩ := I
      refine ⟨fun j => ⟨Nat.mod_lt _ (by decide), Nat.mod_lt _ (by decide)⟩, IS, fun j hj => ?_, fun j hj hl => ?_, fun j hj hp => ?_, fun j hj hl => ?_, fun j hj hl a ha c hc => ?_, fun j hj hp a ha c hc e he => ?_, ?_, ?_, hb⟩
      · rw [(hP.2.2.2 j hj).2.1, gp_pr8 hj]
        constructor
        · intro z
          obtain ⟨ab, hab, q1, q2, q3, q4, q5, q6, q7, q8⟩ := (hP.2.2.2 j hj).2.2 z
          exact q6.elim (fun y => Or.inl ⟨z, y⟩) (fun y => Or.inr ⟨z, y⟩)
        · rintro (z | z)
          · exact z.1
          · exact z.1
      · obtain ⟨q1, q2, q3, q4, _⟩ := gp_links hP hj hl
        exact ⟨q1, q2, q3, q4⟩
      · obtain ⟨_, _, _, _, _, q6, _⟩ := gp_links hP hj (Or.inl hp)
        rw [q6, ((gp_pr8 hj).mp hp).2]
        decide
      · obtain ⟨_, _, _, _, _, q6, _⟩ := gp_links hP hj (Or.inr hl)
        rw [q6, hl.2]
      · rw [I3 j hj hl a ha]
        exact (gb_bit1 _ (by omega)).symm
      · rw [b_and, b_and, Bool.and_eq_true, Bool.and_eq_true, hE.2.2.1 a ha e he, hE.2.2.2.1 c hc e he, I2 j hj hp e he]
        unfold gp_ed
        constructor
        · rintro ⟨⟨⟨z1, z2, z3⟩, ⟨_, _, z4⟩⟩, ⟨_, _, z5⟩⟩
          exact ⟨z1, ⟨z2, z5⟩, z3, z4⟩
        · rintro ⟨z1, ⟨z2, z5⟩, z3, z4⟩
          exact ⟨⟨⟨z1, z2, z3⟩, ⟨z1, z2, z4⟩⟩, ⟨z1, z2, z5⟩⟩
      · rw [hP.1]; exact (gp_mode hP.2.1).1
      · rw [hP.1]; exact (gp_mode hP.2.1).2
    · exact fun s j hj => ⟨fun hp => I.1 j hj hp, fun _ ha _ => absurd ha (Nat.not_lt_zero _)⟩
    · obtain ⟨tyE, wT, le⟩ := z
      obtain ⟨I1, I2, I3⟩ := I
      dsimp only at I1 I2 I3
      have ci : (nI i).toNatClampNeg = i := nI_clamp (by omega)
      have e20 : (20 : Int32) + nI i = nI (20 + i) := nI_add 20 i
      refine br_f (nI_ge (b := 4) hi (by decide)) ⟨vp_in_nI hi (by decide), nm_r (e' := upd le i ((1 : Int32) <<< (nI (20 + i) &&& 31))) (by rw [ci, e20]) ⟨wb, ?_⟩⟩
      have J1 : ∀ q, q < i + 1 → ¬ gp_pr b a_patterns (4 + q) → upd le i ((1 : Int32) <<< (nI (20 + i) &&& 31)) q = (1 : Int32) <<< (nI (20 + q) &&& 31) := fun q hq hp => by
        by_cases e : q = i
        · subst e; exact pk_us
        · rw [pk_un e]; exact I1 q (by omega) hp
      rw [cb]
      refine gx_hasb (by omega) (fun hbit => ?_) (fun hbit => nm_r (nI_1 i) (ih (tyE, wT, _) ⟨J1, fun q hq hp => ?_, fun q hq hl => ?_⟩))
      · have h17 := (hP.2.2.2 i hi).2.1.mp hbit
        have hl : gp_pr b a_patterns (4 + i) ∨ gp_l1 b a_patterns i := by
          obtain ⟨ab, hab, q1, q2, q3, q4, q5, q6, q7, q8⟩ := (hP.2.2.2 i hi).2.2 h17
          rw [gp_pr8 hi]
          exact q6.elim (fun y => Or.inl ⟨h17, y⟩) (fun y => Or.inr ⟨h17, y⟩)
        obtain ⟨_, _, _, _, q5, q6, _⟩ := gp_links hP hi hl
        refine gx_prep hb hi hE (fun r wT' k1 k2 k3 => nm_r (nI_1 i) (ih (upd tyE i r, wT', _) ⟨J1, fun q hq hp => ?_, fun q hq hl1 a ha => ?_⟩))
        · dsimp only
          by_cases e : q = i
          · subst e; rw [pk_us]; rw [q5] at k1; exact k1
          · rw [pk_un e]; exact I2 q (by omega) hp
        · dsimp only
          by_cases e : q = i
          · subst e; rw [k2 (by rw [q6, hl1.2]) a ha, q5]
          · rw [k3 _ (by omega)]; exact I3 q (by omega) hl1 a ha
      · have nl : ¬ a_patterns (33 * b + 17 + i) = 1 := fun z => Bool.false_ne_true (hbit.symm.trans ((hP.2.2.2 i hi).2.1.mpr z))
        by_cases e : q = i
        · subst e; exact absurd ((gp_pr8 hi).mp hp).1 nl
        · exact I2 q (by omega) hp
      · have nl : ¬ a_patterns (33 * b + 17 + i) = 1 := fun z => Bool.false_ne_true (hbit.symm.trans ((hP.2.2.2 i hi).2.1.mpr z))
        by_cases e : q = i
        · subst e; exact absurd hl.1 nl
        · exact I3 q (by omega) hl
  · have ci : (nI i).toNatClampNeg = i := nI_clamp (by omega)
    have S := hP.2.2.1 i hi
    refine br_f (nI_ge (b := 4) hi (by decide)) ⟨wb, ?_⟩
    rw [cb]
    have fin : ∀ r : Int32, (∀ n, n < 16 → (bt r n = true ↔ (gp_pr b a_patterns i ∧ n < 12 ∧ gp_sp b a_patterns a_nodeThere a_nodeLabel a_nodeValue i n) ∨ (¬ gp_pr b a_patterns i ∧ n = 12 + i))) → wX_startSearch_34 post (nI b) f_nodeSet f_edgeSet (nI b) ((-1)) 0 0 1000 ((-1)) n (nI (i + 1)) a_nodeLabel a_nodeValue a_edgesFrom a_edgesTo a_edgesOfType a_edgeWeight a_patternMode a_spotSet a_linkSet a_spotLabels a_spotLeast a_spotGreatest a_linkStart a_linkEnd a_linkTypes a_linkKind (upd spN i r) a_typedEdges a_wayTargets a_placed a_linkEdges a_taken a_picked := by
      intro r hr
      refine ih _ (fun q hq => ?_)
      by_cases e : q = i
      · subst e; rw [pk_us]; exact hr
      · rw [pk_un e]; exact I q (by omega)
    refine gx_hasb (by omega) (fun hbit => ?_) (fun hbit => ?_)
    · have p1 := S.2.1.mp hbit
      have pi : gp_pr b a_patterns i := (gp_pr4 hi).mpr p1
      obtain ⟨s1, s2, s3⟩ := S.2.2 p1
      rw [gx_ix]
      refine gx_fit (p := 4 * b + i) (by omega) hL (fun r hr => ⟨vp_in_nI hi (by decide), nm_r (e' := upd spN i r) (by rw [ci]) (nm_r (nI_1 i) (fin r (fun m hm => ?_)))⟩)
      rw [hr m (by omega)]
      unfold gp_sp
      rw [s1, s2, s3]
      constructor
      · rintro ⟨t, ht, rfl, z1, z2⟩
        exact Or.inl ⟨pi, ht, ((hN.2 m (by omega)).mp z1).2, z2⟩
      · rintro (⟨_, z1, z2, z3⟩ | ⟨z1, _⟩)
        · exact ⟨m, z1, rfl, (hN.2 m (by omega)).mpr ⟨z1, z2⟩, z3⟩
        · exact absurd pi z1
    · have np : ¬ gp_pr b a_patterns i := fun z => Bool.false_ne_true (hbit.symm.trans (S.2.1.mpr ((gp_pr4 hi).mp z)))
      have e12 : (12 : Int32) + nI i = nI (12 + i) := nI_add 12 i
      refine ⟨vp_in_nI hi (by decide), nm_r (e' := upd spN i ((1 : Int32) <<< (nI (12 + i) &&& 31))) (by rw [ci, e12]) (nm_r (nI_1 i) (fin _ (fun m hm => ?_)))⟩
      rw [gb_sb (by omega) (by omega), decide_eq_true_iff]
      exact ⟨fun z => Or.inr ⟨np, z⟩, fun z => z.elim (fun y => absurd y.1 np) (fun y => y.2)⟩
end GXS
