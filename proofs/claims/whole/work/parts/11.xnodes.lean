/-! the component's search: the nodes in their order -/
def gx_Iv (wa : Int32) (D : List (Nat → Nat)) : Prop := wa = (-1) ∨ ∃ k, k < 1000 ∧ wa = nI k ∧ D.length ≤ k
def gx_Fin (wa : Int32) (L D : List (Nat → Nat)) : Prop := (D = L ∧ gx_Iv wa D) ∨ (∃ k rest, k < 1000 ∧ wa = nI k ∧ L = D ++ rest ∧ k < D.length ∧ D.length < 2 ^ 31)
theorem gq_scan_s {α : Type} {f : Nat → List α} {c r : Nat} (h : c < r) : gq_scan f c (r - c) = f c ++ gq_scan f (c + 1) (r - (c + 1)) := by
  rw [show r - c = (r - (c + 1)) + 1 by omega]
  rfl
theorem gx_ffound {wa : Int32} {ew : Nat → Int32} : ∀ (L : List (Nat → Nat)) (a : gx_A), (gx_fold wa 0 ew a L).1 = a.1 + nI L.length
  | [], a => by
    show a.1 = a.1 + nI 0
    rw [nI_0, Int32.add_zero]
  | s :: L, a => by
    show (gx_fold wa 0 ew (gx_tick wa 0 ew a s) L).1 = _
    rw [gx_ffound L]
    have e : (gx_tick wa 0 ew a s).1 = a.1 + 1 := by
      unfold gx_tick
      rw [if_pos rfl]
      split <;> rfl
    rw [e, List.length_cons, Int32.add_assoc, Int32.add_comm 1, nI_1]
section GXN
variable {b : Nat} {pr l1 : Nat → Prop} {la lb : Nat → Nat} {sp : Nat → Nat → Prop} {wy : Nat → Nat → Nat → Prop} {ed : Nat → Nat → Nat → Nat → Prop} {dn de : Prop} {f_nodeSet f_edgeSet f_wanted f_weighing f_found f_lightest f_heaviest : Int32} {a_nodeLabel a_nodeValue a_edgesFrom a_edgesTo a_edgesOfType a_edgeWeight a_patternMode a_spotSet a_linkSet a_spotLabels a_spotLeast a_spotGreatest a_linkStart a_linkEnd a_linkTypes a_linkKind a_spotNodes a_typedEdges a_wayTargets a_placed a_linkEdges a_taken a_picked : Nat → Int32} {L : List (Nat → Nat)} {acc0 : gx_A}
theorem gx_n63 {post : SX → Prop} {J2 J22 J42 : Int32 → Int32 → Int32 → Int32 → Int32 → Int32 → Int32 → Int32 → Int32 → (Nat → Int32) → (Nat → Int32) → (Nat → Int32) → (Nat → Int32) → (Nat → Int32) → (Nat → Int32) → (Nat → Int32) → (Nat → Int32) → (Nat → Int32) → (Nat → Int32) → (Nat → Int32) → (Nat → Int32) → (Nat → Int32) → (Nat → Int32) → (Nat → Int32) → (Nat → Int32) → (Nat → Int32) → (Nat → Int32) → (Nat → Int32) → (Nat → Int32) → (Nat → Int32) → (Nat → Int32) → (Nat → Int32) → Prop} {x1 x2 x3 : Int32} {s : Nat → Nat} {rest : List (Nat → Nat)} (H : gx_H b pr l1 la lb sp wy ed dn de a_patternMode a_linkSet a_linkStart a_linkEnd a_linkKind a_edgesFrom a_edgesTo a_spotNodes a_typedEdges a_wayTargets) (hSB : gx_SB pr 3 s) (h00 : acc0.1 = 0) (hm : f_wanted = (-1) ∨ f_weighing = 0)
    (hF : ∀ pl le tk D, gx_Fin f_wanted L D → post (f_nodeSet, f_edgeSet, nI b, f_wanted, f_weighing, (gx_fold f_wanted f_weighing a_edgeWeight acc0 D).1, (gx_fold f_wanted f_weighing a_edgeWeight acc0 D).2.1, (gx_fold f_wanted f_weighing a_edgeWeight acc0 D).2.2.1, a_nodeLabel, a_nodeValue, a_edgesFrom, a_edgesTo, a_edgesOfType, a_edgeWeight, a_patternMode, a_spotSet, a_linkSet, a_spotLabels, a_spotLeast, a_spotGreatest, a_linkStart, a_linkEnd, a_linkTypes, a_linkKind, a_spotNodes, a_typedEdges, a_wayTargets, pl, le, tk, (gx_fold f_wanted f_weighing a_edgeWeight acc0 D).2.2.2)) (hJ : ∀ pl le tk D, gx_PL 3 s pl → gx_LE pr la lb a_edgesFrom a_edgesTo a_typedEdges 3 s le → L = D ++ rest → gx_Iv f_wanted D → J42 (x3 + 1) f_nodeSet f_edgeSet (nI b) f_wanted f_weighing ((gx_fold f_wanted f_weighing a_edgeWeight acc0 D).1) ((gx_fold f_wanted f_weighing a_edgeWeight acc0 D).2.1) ((gx_fold f_wanted f_weighing a_edgeWeight acc0 D).2.2.1) a_nodeLabel a_nodeValue a_edgesFrom a_edgesTo a_edgesOfType a_edgeWeight a_patternMode a_spotSet a_linkSet a_spotLabels a_spotLeast a_spotGreatest a_linkStart a_linkEnd a_linkTypes a_linkKind a_spotNodes a_typedEdges a_wayTargets pl le tk ((gx_fold f_wanted f_weighing a_edgeWeight acc0 D).2.2.2))
    {D0 : List (Nat → Nat)} (hL : L = D0 ++ (gq_E pr (gp_ok pr l1 la lb sp wy ed dn de) 5 s ++ rest)) (hI : gx_Iv f_wanted D0) (hPL : gx_PL 3 s a_placed) (hLE : gx_LE pr la lb a_edgesFrom a_edgesTo a_typedEdges 3 s a_linkEdges) :
    ∃ n, wX_walkNodes_63 post J2 J22 J42 x1 x2 x3 n 0 f_nodeSet f_edgeSet (nI b) f_wanted f_weighing ((gx_fold f_wanted f_weighing a_edgeWeight acc0 D0).1) ((gx_fold f_wanted f_weighing a_edgeWeight acc0 D0).2.1) ((gx_fold f_wanted f_weighing a_edgeWeight acc0 D0).2.2.1) a_nodeLabel a_nodeValue a_edgesFrom a_edgesTo a_edgesOfType a_edgeWeight a_patternMode a_spotSet a_linkSet a_spotLabels a_spotLeast a_spotGreatest a_linkStart a_linkEnd a_linkTypes a_linkKind a_spotNodes a_typedEdges a_wayTargets a_placed a_linkEdges a_taken ((gx_fold f_wanted f_weighing a_edgeWeight acc0 D0).2.2.2) := by
  rw [show 5 = 8 - 3 from rfl, gq_Ex (N := 16) (by omega) (by decide) (by decide)] at hL
  refine loop_0 (fun n i (z : (Nat → Int32) × (Nat → Int32) × (Nat → Int32) × List (Nat → Nat)) => wX_walkNodes_63 post J2 J22 J42 x1 x2 x3 n (nI i) f_nodeSet f_edgeSet (nI b) f_wanted f_weighing ((gx_fold f_wanted f_weighing a_edgeWeight acc0 z.2.2.2).1) ((gx_fold f_wanted f_weighing a_edgeWeight acc0 z.2.2.2).2.1) ((gx_fold f_wanted f_weighing a_edgeWeight acc0 z.2.2.2).2.2.1) a_nodeLabel a_nodeValue a_edgesFrom a_edgesTo a_edgesOfType a_edgeWeight a_patternMode a_spotSet a_linkSet a_spotLabels a_spotLeast a_spotGreatest a_linkStart a_linkEnd a_linkTypes a_linkKind a_spotNodes a_typedEdges a_wayTargets z.1 z.2.1 z.2.2.1 ((gx_fold f_wanted f_weighing a_edgeWeight acc0 z.2.2.2).2.2.2)) (fun i z => gx_PL 3 s z.1 ∧ gx_LE pr la lb a_edgesFrom a_edgesTo a_typedEdges 3 s z.2.1 ∧ L = z.2.2.2 ++ (gq_scan (gq_f pr (gp_ok pr l1 la lb sp wy ed dn de) 3 s) i (16 - i) ++ rest) ∧ z.2.2.2.length ≤ D0.length + i * 160000) 16 (a_placed, a_linkEdges, a_taken, D0) ⟨hPL, hLE, hL, Nat.le_add_right _ _⟩ (fun n z I => ?_) (fun n i z hi I ih => ?_)
  · obtain ⟨pl, le, tk, D⟩ := z
    obtain ⟨I1, I2, I3, I4⟩ := I
    dsimp only at I1 I2 I3 I4
    have e : L = D ++ rest := I3
    refine br_t (nI_le (a := 16) (by omega) (by decide)) ?_
    rcases hI with hw | ⟨k, hk, ek, hkl⟩
    · exact br_t hw (nm_e (hJ pl le tk D I1 I2 e (Or.inl hw)))
    · have hlen : D.length < 2 ^ 31 := by omega
      have nw : ¬ f_wanted = (-1) := by
        rw [ek]
        intro z
        have := nI_pos (n := k) (by omega)
        rw [z] at this
        exact this (by decide)
      have hwe : f_weighing = 0 := hm.resolve_left nw
      have ef : (gx_fold f_wanted f_weighing a_edgeWeight acc0 D).1 = nI D.length := by rw [hwe, gx_ffound, h00, Int32.zero_add]
      refine br_f nw (br_c (fun q => nm_e (hJ pl le tk D I1 I2 e ?_)) (fun q => hF pl le tk D ?_))
      · rw [ef, ek, nI_leI (by omega) (by omega)] at q
        exact Or.inr ⟨k, hk, ek, q⟩
      · rw [ef, ek, nI_leI (by omega) (by omega)] at q
        exact Or.inr ⟨k, rest, hk, ek, e, by omega, hlen⟩
  · obtain ⟨pl, le, tk, D⟩ := z
    obtain ⟨I1, I2, I3, I4⟩ := I
    dsimp only at I1 I2 I3 I4
    rw [gq_scan_s hi, List.append_assoc] at I3
    refine br_f (nI_ge (b := 16) hi (by decide)) (gx_place (i := 3) (s := s) (by omega) hi H I1 hSB I2 (fun pl' le' h1 h2 h3 h4 => br_f gn_10 ?_) (fun pl' le' h1 h2 h3 => br_t rfl (nm_r (nI_1 i) (ih (pl', le', tk, D) ⟨h1, h2, ?_, Nat.le_trans I4 (by omega)⟩))))
    · rw [h4] at I3
      refine gx_wE (s := gq_up s 3 i) H h1 h3 h2 ((gx_fold f_wanted f_weighing a_edgeWeight acc0 D)) (fun tk' acc ea => ?_)
      rw [← gx_fapp] at ea
      subst ea
      refine nm_r (nI_1 i) (ih (pl', le', tk', D ++ gq_E pr (gp_ok pr l1 la lb sp wy ed dn de) 4 (gq_up s 3 i)) ⟨gx_PLk h1, gx_LEk (gx_LEw (by omega) h3), ?_, ?_⟩)
      · rw [I3, List.append_assoc]
      · have hlen : (gq_E pr (gp_ok pr l1 la lb sp wy ed dn de) 4 (gq_up s 3 i)).length ≤ 160000 := gq_Elen 4 (gq_up s 3 i)
        dsimp only
        rw [List.length_append]
        omega
    · rw [h3, List.nil_append] at I3
      exact I3
theorem gx_n42 {post : SX → Prop} {J2 J22 : Int32 → Int32 → Int32 → Int32 → Int32 → Int32 → Int32 → Int32 → Int32 → (Nat → Int32) → (Nat → Int32) → (Nat → Int32) → (Nat → Int32) → (Nat → Int32) → (Nat → Int32) → (Nat → Int32) → (Nat → Int32) → (Nat → Int32) → (Nat → Int32) → (Nat → Int32) → (Nat → Int32) → (Nat → Int32) → (Nat → Int32) → (Nat → Int32) → (Nat → Int32) → (Nat → Int32) → (Nat → Int32) → (Nat → Int32) → (Nat → Int32) → (Nat → Int32) → (Nat → Int32) → (Nat → Int32) → Prop} {x1 x2 : Int32} {s : Nat → Nat} {rest : List (Nat → Nat)} (H : gx_H b pr l1 la lb sp wy ed dn de a_patternMode a_linkSet a_linkStart a_linkEnd a_linkKind a_edgesFrom a_edgesTo a_spotNodes a_typedEdges a_wayTargets) (hSB : gx_SB pr 2 s) (h00 : acc0.1 = 0) (hm : f_wanted = (-1) ∨ f_weighing = 0)
    (hF : ∀ pl le tk D, gx_Fin f_wanted L D → post (f_nodeSet, f_edgeSet, nI b, f_wanted, f_weighing, (gx_fold f_wanted f_weighing a_edgeWeight acc0 D).1, (gx_fold f_wanted f_weighing a_edgeWeight acc0 D).2.1, (gx_fold f_wanted f_weighing a_edgeWeight acc0 D).2.2.1, a_nodeLabel, a_nodeValue, a_edgesFrom, a_edgesTo, a_edgesOfType, a_edgeWeight, a_patternMode, a_spotSet, a_linkSet, a_spotLabels, a_spotLeast, a_spotGreatest, a_linkStart, a_linkEnd, a_linkTypes, a_linkKind, a_spotNodes, a_typedEdges, a_wayTargets, pl, le, tk, (gx_fold f_wanted f_weighing a_edgeWeight acc0 D).2.2.2)) (hJ : ∀ pl le tk D, gx_PL 2 s pl → gx_LE pr la lb a_edgesFrom a_edgesTo a_typedEdges 2 s le → L = D ++ rest → gx_Iv f_wanted D → J22 (x2 + 1) f_nodeSet f_edgeSet (nI b) f_wanted f_weighing ((gx_fold f_wanted f_weighing a_edgeWeight acc0 D).1) ((gx_fold f_wanted f_weighing a_edgeWeight acc0 D).2.1) ((gx_fold f_wanted f_weighing a_edgeWeight acc0 D).2.2.1) a_nodeLabel a_nodeValue a_edgesFrom a_edgesTo a_edgesOfType a_edgeWeight a_patternMode a_spotSet a_linkSet a_spotLabels a_spotLeast a_spotGreatest a_linkStart a_linkEnd a_linkTypes a_linkKind a_spotNodes a_typedEdges a_wayTargets pl le tk ((gx_fold f_wanted f_weighing a_edgeWeight acc0 D).2.2.2))
    {D0 : List (Nat → Nat)} (hL : L = D0 ++ (gq_E pr (gp_ok pr l1 la lb sp wy ed dn de) 6 s ++ rest)) (hI : gx_Iv f_wanted D0) (hPL : gx_PL 2 s a_placed) (hLE : gx_LE pr la lb a_edgesFrom a_edgesTo a_typedEdges 2 s a_linkEdges) :
    ∃ n, wX_walkNodes_42 post J2 J22 x1 x2 n 0 f_nodeSet f_edgeSet (nI b) f_wanted f_weighing ((gx_fold f_wanted f_weighing a_edgeWeight acc0 D0).1) ((gx_fold f_wanted f_weighing a_edgeWeight acc0 D0).2.1) ((gx_fold f_wanted f_weighing a_edgeWeight acc0 D0).2.2.1) a_nodeLabel a_nodeValue a_edgesFrom a_edgesTo a_edgesOfType a_edgeWeight a_patternMode a_spotSet a_linkSet a_spotLabels a_spotLeast a_spotGreatest a_linkStart a_linkEnd a_linkTypes a_linkKind a_spotNodes a_typedEdges a_wayTargets a_placed a_linkEdges a_taken ((gx_fold f_wanted f_weighing a_edgeWeight acc0 D0).2.2.2) := by
  rw [show 6 = 8 - 2 from rfl, gq_Ex (N := 16) (by omega) (by decide) (by decide)] at hL
  refine loop_0 (fun n i (z : (Nat → Int32) × (Nat → Int32) × (Nat → Int32) × List (Nat → Nat)) => wX_walkNodes_42 post J2 J22 x1 x2 n (nI i) f_nodeSet f_edgeSet (nI b) f_wanted f_weighing ((gx_fold f_wanted f_weighing a_edgeWeight acc0 z.2.2.2).1) ((gx_fold f_wanted f_weighing a_edgeWeight acc0 z.2.2.2).2.1) ((gx_fold f_wanted f_weighing a_edgeWeight acc0 z.2.2.2).2.2.1) a_nodeLabel a_nodeValue a_edgesFrom a_edgesTo a_edgesOfType a_edgeWeight a_patternMode a_spotSet a_linkSet a_spotLabels a_spotLeast a_spotGreatest a_linkStart a_linkEnd a_linkTypes a_linkKind a_spotNodes a_typedEdges a_wayTargets z.1 z.2.1 z.2.2.1 ((gx_fold f_wanted f_weighing a_edgeWeight acc0 z.2.2.2).2.2.2)) (fun i z => gx_PL 2 s z.1 ∧ gx_LE pr la lb a_edgesFrom a_edgesTo a_typedEdges 2 s z.2.1 ∧ L = z.2.2.2 ++ (gq_scan (gq_f pr (gp_ok pr l1 la lb sp wy ed dn de) 2 s) i (16 - i) ++ rest) ∧ gx_Iv f_wanted z.2.2.2) 16 (a_placed, a_linkEdges, a_taken, D0) ⟨hPL, hLE, hL, hI⟩ (fun n z I => ?_) (fun n i z hi I ih => ?_)
  · obtain ⟨pl, le, tk, D⟩ := z
    obtain ⟨I1, I2, I3, I4⟩ := I
    dsimp only at I1 I2 I3 I4
    have e : L = D ++ rest := I3
    exact br_t (nI_le (a := 16) (by omega) (by decide)) (nm_e (hJ pl le tk D I1 I2 e I4))
  · obtain ⟨pl, le, tk, D⟩ := z
    obtain ⟨I1, I2, I3, I4⟩ := I
    dsimp only at I1 I2 I3 I4
    rw [gq_scan_s hi, List.append_assoc] at I3
    refine br_f (nI_ge (b := 16) hi (by decide)) (gx_place (i := 2) (s := s) (by omega) hi H I1 hSB I2 (fun pl' le' h1 h2 h3 h4 => br_f gn_10 ?_) (fun pl' le' h1 h2 h3 => br_t rfl (nm_r (nI_1 i) (ih (pl', le', tk, D) ⟨h1, h2, ?_, I4⟩))))
    · rw [h4] at I3
      refine gx_n63 (s := gq_up s 2 i) (rest := gq_scan (gq_f pr (gp_ok pr l1 la lb sp wy ed dn de) 2 s) (i + 1) (16 - (i + 1)) ++ rest) H h2 h00 hm hF (fun pl2 le2 tk2 D2 k1 k2 k3 k4 => ?_) (D0 := D) I3 I4 h1 h3
      rw [nI_1 i]
      exact ih (pl2, le2, tk2, D2) ⟨gx_PLk k1, gx_LEk (gx_LEw (by omega) k2), k3, k4⟩
    · rw [h3, List.nil_append] at I3
      exact I3
theorem gx_n22 {post : SX → Prop} {J2 : Int32 → Int32 → Int32 → Int32 → Int32 → Int32 → Int32 → Int32 → Int32 → (Nat → Int32) → (Nat → Int32) → (Nat → Int32) → (Nat → Int32) → (Nat → Int32) → (Nat → Int32) → (Nat → Int32) → (Nat → Int32) → (Nat → Int32) → (Nat → Int32) → (Nat → Int32) → (Nat → Int32) → (Nat → Int32) → (Nat → Int32) → (Nat → Int32) → (Nat → Int32) → (Nat → Int32) → (Nat → Int32) → (Nat → Int32) → (Nat → Int32) → (Nat → Int32) → (Nat → Int32) → (Nat → Int32) → Prop} {x1 : Int32} {s : Nat → Nat} {rest : List (Nat → Nat)} (H : gx_H b pr l1 la lb sp wy ed dn de a_patternMode a_linkSet a_linkStart a_linkEnd a_linkKind a_edgesFrom a_edgesTo a_spotNodes a_typedEdges a_wayTargets) (hSB : gx_SB pr 1 s) (h00 : acc0.1 = 0) (hm : f_wanted = (-1) ∨ f_weighing = 0)
    (hF : ∀ pl le tk D, gx_Fin f_wanted L D → post (f_nodeSet, f_edgeSet, nI b, f_wanted, f_weighing, (gx_fold f_wanted f_weighing a_edgeWeight acc0 D).1, (gx_fold f_wanted f_weighing a_edgeWeight acc0 D).2.1, (gx_fold f_wanted f_weighing a_edgeWeight acc0 D).2.2.1, a_nodeLabel, a_nodeValue, a_edgesFrom, a_edgesTo, a_edgesOfType, a_edgeWeight, a_patternMode, a_spotSet, a_linkSet, a_spotLabels, a_spotLeast, a_spotGreatest, a_linkStart, a_linkEnd, a_linkTypes, a_linkKind, a_spotNodes, a_typedEdges, a_wayTargets, pl, le, tk, (gx_fold f_wanted f_weighing a_edgeWeight acc0 D).2.2.2)) (hJ : ∀ pl le tk D, gx_PL 1 s pl → gx_LE pr la lb a_edgesFrom a_edgesTo a_typedEdges 1 s le → L = D ++ rest → gx_Iv f_wanted D → J2 (x1 + 1) f_nodeSet f_edgeSet (nI b) f_wanted f_weighing ((gx_fold f_wanted f_weighing a_edgeWeight acc0 D).1) ((gx_fold f_wanted f_weighing a_edgeWeight acc0 D).2.1) ((gx_fold f_wanted f_weighing a_edgeWeight acc0 D).2.2.1) a_nodeLabel a_nodeValue a_edgesFrom a_edgesTo a_edgesOfType a_edgeWeight a_patternMode a_spotSet a_linkSet a_spotLabels a_spotLeast a_spotGreatest a_linkStart a_linkEnd a_linkTypes a_linkKind a_spotNodes a_typedEdges a_wayTargets pl le tk ((gx_fold f_wanted f_weighing a_edgeWeight acc0 D).2.2.2))
    {D0 : List (Nat → Nat)} (hL : L = D0 ++ (gq_E pr (gp_ok pr l1 la lb sp wy ed dn de) 7 s ++ rest)) (hI : gx_Iv f_wanted D0) (hPL : gx_PL 1 s a_placed) (hLE : gx_LE pr la lb a_edgesFrom a_edgesTo a_typedEdges 1 s a_linkEdges) :
    ∃ n, wX_walkNodes_22 post J2 x1 n 0 f_nodeSet f_edgeSet (nI b) f_wanted f_weighing ((gx_fold f_wanted f_weighing a_edgeWeight acc0 D0).1) ((gx_fold f_wanted f_weighing a_edgeWeight acc0 D0).2.1) ((gx_fold f_wanted f_weighing a_edgeWeight acc0 D0).2.2.1) a_nodeLabel a_nodeValue a_edgesFrom a_edgesTo a_edgesOfType a_edgeWeight a_patternMode a_spotSet a_linkSet a_spotLabels a_spotLeast a_spotGreatest a_linkStart a_linkEnd a_linkTypes a_linkKind a_spotNodes a_typedEdges a_wayTargets a_placed a_linkEdges a_taken ((gx_fold f_wanted f_weighing a_edgeWeight acc0 D0).2.2.2) := by
  rw [show 7 = 8 - 1 from rfl, gq_Ex (N := 16) (by omega) (by decide) (by decide)] at hL
  refine loop_0 (fun n i (z : (Nat → Int32) × (Nat → Int32) × (Nat → Int32) × List (Nat → Nat)) => wX_walkNodes_22 post J2 x1 n (nI i) f_nodeSet f_edgeSet (nI b) f_wanted f_weighing ((gx_fold f_wanted f_weighing a_edgeWeight acc0 z.2.2.2).1) ((gx_fold f_wanted f_weighing a_edgeWeight acc0 z.2.2.2).2.1) ((gx_fold f_wanted f_weighing a_edgeWeight acc0 z.2.2.2).2.2.1) a_nodeLabel a_nodeValue a_edgesFrom a_edgesTo a_edgesOfType a_edgeWeight a_patternMode a_spotSet a_linkSet a_spotLabels a_spotLeast a_spotGreatest a_linkStart a_linkEnd a_linkTypes a_linkKind a_spotNodes a_typedEdges a_wayTargets z.1 z.2.1 z.2.2.1 ((gx_fold f_wanted f_weighing a_edgeWeight acc0 z.2.2.2).2.2.2)) (fun i z => gx_PL 1 s z.1 ∧ gx_LE pr la lb a_edgesFrom a_edgesTo a_typedEdges 1 s z.2.1 ∧ L = z.2.2.2 ++ (gq_scan (gq_f pr (gp_ok pr l1 la lb sp wy ed dn de) 1 s) i (16 - i) ++ rest) ∧ gx_Iv f_wanted z.2.2.2) 16 (a_placed, a_linkEdges, a_taken, D0) ⟨hPL, hLE, hL, hI⟩ (fun n z I => ?_) (fun n i z hi I ih => ?_)
  · obtain ⟨pl, le, tk, D⟩ := z
    obtain ⟨I1, I2, I3, I4⟩ := I
    dsimp only at I1 I2 I3 I4
    have e : L = D ++ rest := I3
    exact br_t (nI_le (a := 16) (by omega) (by decide)) (nm_e (hJ pl le tk D I1 I2 e I4))
  · obtain ⟨pl, le, tk, D⟩ := z
    obtain ⟨I1, I2, I3, I4⟩ := I
    dsimp only at I1 I2 I3 I4
    rw [gq_scan_s hi, List.append_assoc] at I3
    refine br_f (nI_ge (b := 16) hi (by decide)) (gx_place (i := 1) (s := s) (by omega) hi H I1 hSB I2 (fun pl' le' h1 h2 h3 h4 => br_f gn_10 ?_) (fun pl' le' h1 h2 h3 => br_t rfl (nm_r (nI_1 i) (ih (pl', le', tk, D) ⟨h1, h2, ?_, I4⟩))))
    · rw [h4] at I3
      refine gx_n42 (s := gq_up s 1 i) (rest := gq_scan (gq_f pr (gp_ok pr l1 la lb sp wy ed dn de) 1 s) (i + 1) (16 - (i + 1)) ++ rest) H h2 h00 hm hF (fun pl2 le2 tk2 D2 k1 k2 k3 k4 => ?_) (D0 := D) I3 I4 h1 h3
      rw [nI_1 i]
      exact ih (pl2, le2, tk2, D2) ⟨gx_PLk k1, gx_LEk (gx_LEw (by omega) k2), k3, k4⟩
    · rw [h3, List.nil_append] at I3
      exact I3
theorem gx_n2 {post : SX → Prop}  {s : Nat → Nat} {rest : List (Nat → Nat)} (H : gx_H b pr l1 la lb sp wy ed dn de a_patternMode a_linkSet a_linkStart a_linkEnd a_linkKind a_edgesFrom a_edgesTo a_spotNodes a_typedEdges a_wayTargets) (hSB : gx_SB pr 0 s) (h00 : acc0.1 = 0) (hm : f_wanted = (-1) ∨ f_weighing = 0)
    (hF : ∀ pl le tk D, gx_Fin f_wanted L D → post (f_nodeSet, f_edgeSet, nI b, f_wanted, f_weighing, (gx_fold f_wanted f_weighing a_edgeWeight acc0 D).1, (gx_fold f_wanted f_weighing a_edgeWeight acc0 D).2.1, (gx_fold f_wanted f_weighing a_edgeWeight acc0 D).2.2.1, a_nodeLabel, a_nodeValue, a_edgesFrom, a_edgesTo, a_edgesOfType, a_edgeWeight, a_patternMode, a_spotSet, a_linkSet, a_spotLabels, a_spotLeast, a_spotGreatest, a_linkStart, a_linkEnd, a_linkTypes, a_linkKind, a_spotNodes, a_typedEdges, a_wayTargets, pl, le, tk, (gx_fold f_wanted f_weighing a_edgeWeight acc0 D).2.2.2)) 
    {D0 : List (Nat → Nat)} (hL : L = D0 ++ (gq_E pr (gp_ok pr l1 la lb sp wy ed dn de) 8 s ++ rest)) (hI : gx_Iv f_wanted D0) (hPL : gx_PL 0 s a_placed) (hLE : gx_LE pr la lb a_edgesFrom a_edgesTo a_typedEdges 0 s a_linkEdges) (hrest : rest = []) :
    ∃ n, wX_walkNodes_2 post n 0 f_nodeSet f_edgeSet (nI b) f_wanted f_weighing ((gx_fold f_wanted f_weighing a_edgeWeight acc0 D0).1) ((gx_fold f_wanted f_weighing a_edgeWeight acc0 D0).2.1) ((gx_fold f_wanted f_weighing a_edgeWeight acc0 D0).2.2.1) a_nodeLabel a_nodeValue a_edgesFrom a_edgesTo a_edgesOfType a_edgeWeight a_patternMode a_spotSet a_linkSet a_spotLabels a_spotLeast a_spotGreatest a_linkStart a_linkEnd a_linkTypes a_linkKind a_spotNodes a_typedEdges a_wayTargets a_placed a_linkEdges a_taken ((gx_fold f_wanted f_weighing a_edgeWeight acc0 D0).2.2.2) := by
  rw [show 8 = 8 - 0 from rfl, gq_Ex (N := 16) (by omega) (by decide) (by decide)] at hL
  refine loop_0 (fun n i (z : (Nat → Int32) × (Nat → Int32) × (Nat → Int32) × List (Nat → Nat)) => wX_walkNodes_2 post n (nI i) f_nodeSet f_edgeSet (nI b) f_wanted f_weighing ((gx_fold f_wanted f_weighing a_edgeWeight acc0 z.2.2.2).1) ((gx_fold f_wanted f_weighing a_edgeWeight acc0 z.2.2.2).2.1) ((gx_fold f_wanted f_weighing a_edgeWeight acc0 z.2.2.2).2.2.1) a_nodeLabel a_nodeValue a_edgesFrom a_edgesTo a_edgesOfType a_edgeWeight a_patternMode a_spotSet a_linkSet a_spotLabels a_spotLeast a_spotGreatest a_linkStart a_linkEnd a_linkTypes a_linkKind a_spotNodes a_typedEdges a_wayTargets z.1 z.2.1 z.2.2.1 ((gx_fold f_wanted f_weighing a_edgeWeight acc0 z.2.2.2).2.2.2)) (fun i z => gx_PL 0 s z.1 ∧ gx_LE pr la lb a_edgesFrom a_edgesTo a_typedEdges 0 s z.2.1 ∧ L = z.2.2.2 ++ (gq_scan (gq_f pr (gp_ok pr l1 la lb sp wy ed dn de) 0 s) i (16 - i) ++ rest) ∧ gx_Iv f_wanted z.2.2.2) 16 (a_placed, a_linkEdges, a_taken, D0) ⟨hPL, hLE, hL, hI⟩ (fun n z I => ?_) (fun n i z hi I ih => ?_)
  · obtain ⟨pl, le, tk, D⟩ := z
    obtain ⟨I1, I2, I3, I4⟩ := I
    dsimp only at I1 I2 I3 I4
    have e : L = D ++ rest := I3
    rw [hrest, List.append_nil] at e
    exact br_t (nI_le (a := 16) (by omega) (by decide)) (hF pl le tk D (Or.inl ⟨e.symm, I4⟩))
  · obtain ⟨pl, le, tk, D⟩ := z
    obtain ⟨I1, I2, I3, I4⟩ := I
    dsimp only at I1 I2 I3 I4
    rw [gq_scan_s hi, List.append_assoc] at I3
    refine br_f (nI_ge (b := 16) hi (by decide)) (gx_place (i := 0) (s := s) (by omega) hi H I1 hSB I2 (fun pl' le' h1 h2 h3 h4 => br_f gn_10 ?_) (fun pl' le' h1 h2 h3 => br_t rfl (nm_r (nI_1 i) (ih (pl', le', tk, D) ⟨h1, h2, ?_, I4⟩))))
    · rw [h4] at I3
      refine gx_n22 (s := gq_up s 0 i) (rest := gq_scan (gq_f pr (gp_ok pr l1 la lb sp wy ed dn de) 0 s) (i + 1) (16 - (i + 1)) ++ rest) H h2 h00 hm hF (fun pl2 le2 tk2 D2 k1 k2 k3 k4 => ?_) (D0 := D) I3 I4 h1 h3
      rw [nI_1 i]
      exact ih (pl2, le2, tk2, D2) ⟨gx_PLk k1, gx_LEk (gx_LEw (by omega) k2), k3, k4⟩
    · rw [h3, List.nil_append] at I3
      exact I3
theorem gx_walk {post : SX → Prop} {s : Nat → Nat} (H : gx_H b pr l1 la lb sp wy ed dn de a_patternMode a_linkSet a_linkStart a_linkEnd a_linkKind a_edgesFrom a_edgesTo a_spotNodes a_typedEdges a_wayTargets) (h00 : acc0.1 = 0) (hm : f_wanted = (-1) ∨ (f_weighing = 0 ∧ ∃ k, k < 1000 ∧ f_wanted = nI k)) (hLE : gx_LE pr la lb a_edgesFrom a_edgesTo a_typedEdges 0 s a_linkEdges)
    (hF : ∀ pl le tk D, gx_Fin f_wanted (gq_E pr (gp_ok pr l1 la lb sp wy ed dn de) 8 s) D → post (f_nodeSet, f_edgeSet, nI b, f_wanted, f_weighing, (gx_fold f_wanted f_weighing a_edgeWeight acc0 D).1, (gx_fold f_wanted f_weighing a_edgeWeight acc0 D).2.1, (gx_fold f_wanted f_weighing a_edgeWeight acc0 D).2.2.1, a_nodeLabel, a_nodeValue, a_edgesFrom, a_edgesTo, a_edgesOfType, a_edgeWeight, a_patternMode, a_spotSet, a_linkSet, a_spotLabels, a_spotLeast, a_spotGreatest, a_linkStart, a_linkEnd, a_linkTypes, a_linkKind, a_spotNodes, a_typedEdges, a_wayTargets, pl, le, tk, (gx_fold f_wanted f_weighing a_edgeWeight acc0 D).2.2.2)) : wpX_walkNodes post (f_nodeSet, f_edgeSet, nI b, f_wanted, f_weighing, acc0.1, acc0.2.1, acc0.2.2.1, a_nodeLabel, a_nodeValue, a_edgesFrom, a_edgesTo, a_edgesOfType, a_edgeWeight, a_patternMode, a_spotSet, a_linkSet, a_spotLabels, a_spotLeast, a_spotGreatest, a_linkStart, a_linkEnd, a_linkTypes, a_linkKind, a_spotNodes, a_typedEdges, a_wayTargets, a_placed, a_linkEdges, a_taken, acc0.2.2.2) := by
  refine gx_n2 (s := s) (rest := []) H (fun q hq => absurd hq (Nat.not_lt_zero q)) h00 (hm.imp id And.left) hF (D0 := []) ?_ ?_ (fun q hq => absurd hq (Nat.not_lt_zero q)) hLE rfl
  · rw [List.append_nil, List.nil_append]
  · rcases hm with h | ⟨_, k, hk, e⟩
    · exact Or.inl h
    · exact Or.inr ⟨k, hk, e, Nat.zero_le k⟩
end GXN
