/-! the component's search: all matches in their order -/
section GXW
variable {b : Nat} {pr l1 : Nat → Prop} {la lb : Nat → Nat} {sp : Nat → Nat → Prop} {wy : Nat → Nat → Nat → Prop} {ed : Nat → Nat → Nat → Nat → Prop} {dn de : Prop} {f_nodeSet f_edgeSet f_wanted f_weighing f_found f_lightest f_heaviest : Int32} {a_nodeLabel a_nodeValue a_edgesFrom a_edgesTo a_edgesOfType a_edgeWeight a_patternMode a_spotSet a_linkSet a_spotLabels a_spotLeast a_spotGreatest a_linkStart a_linkEnd a_linkTypes a_linkKind a_spotNodes a_typedEdges a_wayTargets a_placed a_linkEdges a_taken a_picked : Nat → Int32}
/-- the loops over the edges of the links 2, 1, 0 -/
theorem gx_w78 {post : SX → Prop} {s : Nat → Nat} {J8 J41 : Int32 → Int32 → Int32 → Int32 → Int32 → Int32 → Int32 → Int32 → Int32 → (Nat → Int32) → (Nat → Int32) → (Nat → Int32) → (Nat → Int32) → (Nat → Int32) → (Nat → Int32) → (Nat → Int32) → (Nat → Int32) → (Nat → Int32) → (Nat → Int32) → (Nat → Int32) → (Nat → Int32) → (Nat → Int32) → (Nat → Int32) → (Nat → Int32) → (Nat → Int32) → (Nat → Int32) → (Nat → Int32) → (Nat → Int32) → (Nat → Int32) → (Nat → Int32) → (Nat → Int32) → (Nat → Int32) → Prop} {x1 x2 x3 x4 x5 : Int32} (H : gx_H b pr l1 la lb sp wy ed dn de a_patternMode a_linkSet a_linkStart a_linkEnd a_linkKind a_edgesFrom a_edgesTo a_spotNodes a_typedEdges a_wayTargets) (hPL : gx_PL 4 s a_placed) (hLE : gx_LE pr la lb a_edgesFrom a_edgesTo a_typedEdges 4 s a_linkEdges) (hSB : gx_SB pr 6 s)
    (hr : ∀ e, e < 24 → (bt x5 e = true ↔ gq_okx pr (gp_ok pr l1 la lb sp wy ed dn de) 6 s e)) (acc0 : gx_A)
    (hJ : ∀ tk acc, gx_TK 2 s tk → acc = (gx_fold f_wanted f_weighing a_edgeWeight acc0 (gq_E pr (gp_ok pr l1 la lb sp wy ed dn de) 2 s)) → J41 (x4 + 1) f_nodeSet f_edgeSet (nI b) f_wanted f_weighing acc.1 acc.2.1 acc.2.2.1 a_nodeLabel a_nodeValue a_edgesFrom a_edgesTo a_edgesOfType a_edgeWeight a_patternMode a_spotSet a_linkSet a_spotLabels a_spotLeast a_spotGreatest a_linkStart a_linkEnd a_linkTypes a_linkKind a_spotNodes a_typedEdges a_wayTargets a_placed a_linkEdges tk acc.2.2.2) (hTK : gx_TK 2 s a_taken) :
    ∃ n, wX_walkEdges_78 post J8 J41 x1 x2 x3 x4 x5 n 0 f_nodeSet f_edgeSet (nI b) f_wanted f_weighing acc0.1 acc0.2.1 acc0.2.2.1 a_nodeLabel a_nodeValue a_edgesFrom a_edgesTo a_edgesOfType a_edgeWeight a_patternMode a_spotSet a_linkSet a_spotLabels a_spotLeast a_spotGreatest a_linkStart a_linkEnd a_linkTypes a_linkKind a_spotNodes a_typedEdges a_wayTargets a_placed a_linkEdges a_taken acc0.2.2.2 := by
  refine loop_0 (fun n i (z : gx_A × (Nat → Int32)) => wX_walkEdges_78 post J8 J41 x1 x2 x3 x4 x5 n (nI i) f_nodeSet f_edgeSet (nI b) f_wanted f_weighing z.1.1 z.1.2.1 z.1.2.2.1 a_nodeLabel a_nodeValue a_edgesFrom a_edgesTo a_edgesOfType a_edgeWeight a_patternMode a_spotSet a_linkSet a_spotLabels a_spotLeast a_spotGreatest a_linkStart a_linkEnd a_linkTypes a_linkKind a_spotNodes a_typedEdges a_wayTargets a_placed a_linkEdges z.2 z.1.2.2.2) (fun i z => gx_TK 2 s z.2 ∧ z.1 = (gx_fold f_wanted f_weighing a_edgeWeight acc0 (gq_scan (gq_f pr (gp_ok pr l1 la lb sp wy ed dn de) 6 s) 0 i))) 24 (acc0, a_taken) ⟨hTK, rfl⟩ (fun n z I => ?_) (fun n i z hi I ih => ?_)
  · refine br_t (nI_le (a := 24) (by omega) (by decide)) (nm_e (hJ z.2 z.1 I.1 ?_))
    rw [I.2]
    exact congrArg _ (gq_Ex (p := 6) (by omega) (by decide) (by decide) s).symm
  · obtain ⟨a, tk⟩ := z
    obtain ⟨I1, I2⟩ := I
    have step : ∀ acc tk', gx_TK 2 s tk' → acc = (gx_fold f_wanted f_weighing a_edgeWeight a (gq_f pr (gp_ok pr l1 la lb sp wy ed dn de) 6 s i)) → wX_walkEdges_78 post J8 J41 x1 x2 x3 x4 x5 n (nI (i + 1)) f_nodeSet f_edgeSet (nI b) f_wanted f_weighing acc.1 acc.2.1 acc.2.2.1 a_nodeLabel a_nodeValue a_edgesFrom a_edgesTo a_edgesOfType a_edgeWeight a_patternMode a_spotSet a_linkSet a_spotLabels a_spotLeast a_spotGreatest a_linkStart a_linkEnd a_linkTypes a_linkKind a_spotNodes a_typedEdges a_wayTargets a_placed a_linkEdges tk' acc.2.2.2 := by
      intro acc tk' h1 h2
      refine ih (acc, tk') ⟨h1, ?_⟩
      rw [gq_scan_add i 1 0, gx_fapp, ← I2, Nat.zero_add]
      show acc = gx_fold _ _ _ _ (gq_f pr (gp_ok pr l1 la lb sp wy ed dn de) 6 s i ++ [])
      rw [List.append_nil]
      exact h2
    refine br_f (nI_ge (b := 24) hi (by decide)) (gx_hasb (by omega) (fun hb => nm_e ?_) (fun hb => nm_r (nI_1 i) (step a tk I1 ?_)))
    · have o := (hr i hi).mp hb
      refine gx_meet (s := gq_up s 6 i) H (gx_PL4 (by omega) hPL) (gx_LE4 (by omega) H.1 hLE) (gx_SBc hSB o) (gx_TKu (i := 2) I1) (fun tk' acc h1 h2 => ?_)
      refine nm_r (nI_1 i) (step acc tk' (gx_TKk (i := 2) h1) ?_)
      rw [gq_f1 o]
      exact h2
    · rw [gq_f0 (fun o => Bool.false_ne_true (hb.symm.trans ((hr i hi).mpr o)))]
      rfl
theorem gx_w41 {post : SX → Prop} {s : Nat → Nat} {J8 : Int32 → Int32 → Int32 → Int32 → Int32 → Int32 → Int32 → Int32 → Int32 → (Nat → Int32) → (Nat → Int32) → (Nat → Int32) → (Nat → Int32) → (Nat → Int32) → (Nat → Int32) → (Nat → Int32) → (Nat → Int32) → (Nat → Int32) → (Nat → Int32) → (Nat → Int32) → (Nat → Int32) → (Nat → Int32) → (Nat → Int32) → (Nat → Int32) → (Nat → Int32) → (Nat → Int32) → (Nat → Int32) → (Nat → Int32) → (Nat → Int32) → (Nat → Int32) → (Nat → Int32) → (Nat → Int32) → Prop} {x1 x2 x3 : Int32} (H : gx_H b pr l1 la lb sp wy ed dn de a_patternMode a_linkSet a_linkStart a_linkEnd a_linkKind a_edgesFrom a_edgesTo a_spotNodes a_typedEdges a_wayTargets) (hPL : gx_PL 4 s a_placed) (hLE : gx_LE pr la lb a_edgesFrom a_edgesTo a_typedEdges 4 s a_linkEdges) (hSB : gx_SB pr 5 s)
    (hr : ∀ e, e < 24 → (bt x3 e = true ↔ gq_okx pr (gp_ok pr l1 la lb sp wy ed dn de) 5 s e)) (acc0 : gx_A)
    (hJ : ∀ tk acc, gx_TK 1 s tk → acc = (gx_fold f_wanted f_weighing a_edgeWeight acc0 (gq_E pr (gp_ok pr l1 la lb sp wy ed dn de) 3 s)) → J8 (x2 + 1) f_nodeSet f_edgeSet (nI b) f_wanted f_weighing acc.1 acc.2.1 acc.2.2.1 a_nodeLabel a_nodeValue a_edgesFrom a_edgesTo a_edgesOfType a_edgeWeight a_patternMode a_spotSet a_linkSet a_spotLabels a_spotLeast a_spotGreatest a_linkStart a_linkEnd a_linkTypes a_linkKind a_spotNodes a_typedEdges a_wayTargets a_placed a_linkEdges tk acc.2.2.2) (hTK : gx_TK 1 s a_taken) :
    ∃ n, wX_walkEdges_41 post J8 x1 x2 x3 n 0 f_nodeSet f_edgeSet (nI b) f_wanted f_weighing acc0.1 acc0.2.1 acc0.2.2.1 a_nodeLabel a_nodeValue a_edgesFrom a_edgesTo a_edgesOfType a_edgeWeight a_patternMode a_spotSet a_linkSet a_spotLabels a_spotLeast a_spotGreatest a_linkStart a_linkEnd a_linkTypes a_linkKind a_spotNodes a_typedEdges a_wayTargets a_placed a_linkEdges a_taken acc0.2.2.2 := by
  refine loop_0 (fun n i (z : gx_A × (Nat → Int32)) => wX_walkEdges_41 post J8 x1 x2 x3 n (nI i) f_nodeSet f_edgeSet (nI b) f_wanted f_weighing z.1.1 z.1.2.1 z.1.2.2.1 a_nodeLabel a_nodeValue a_edgesFrom a_edgesTo a_edgesOfType a_edgeWeight a_patternMode a_spotSet a_linkSet a_spotLabels a_spotLeast a_spotGreatest a_linkStart a_linkEnd a_linkTypes a_linkKind a_spotNodes a_typedEdges a_wayTargets a_placed a_linkEdges z.2 z.1.2.2.2) (fun i z => gx_TK 1 s z.2 ∧ z.1 = (gx_fold f_wanted f_weighing a_edgeWeight acc0 (gq_scan (gq_f pr (gp_ok pr l1 la lb sp wy ed dn de) 5 s) 0 i))) 24 (acc0, a_taken) ⟨hTK, rfl⟩ (fun n z I => ?_) (fun n i z hi I ih => ?_)
  · refine br_t (nI_le (a := 24) (by omega) (by decide)) (nm_e (hJ z.2 z.1 I.1 ?_))
    rw [I.2]
    exact congrArg _ (gq_Ex (p := 5) (by omega) (by decide) (by decide) s).symm
  · obtain ⟨a, tk⟩ := z
    obtain ⟨I1, I2⟩ := I
    have step : ∀ acc tk', gx_TK 1 s tk' → acc = (gx_fold f_wanted f_weighing a_edgeWeight a (gq_f pr (gp_ok pr l1 la lb sp wy ed dn de) 5 s i)) → wX_walkEdges_41 post J8 x1 x2 x3 n (nI (i + 1)) f_nodeSet f_edgeSet (nI b) f_wanted f_weighing acc.1 acc.2.1 acc.2.2.1 a_nodeLabel a_nodeValue a_edgesFrom a_edgesTo a_edgesOfType a_edgeWeight a_patternMode a_spotSet a_linkSet a_spotLabels a_spotLeast a_spotGreatest a_linkStart a_linkEnd a_linkTypes a_linkKind a_spotNodes a_typedEdges a_wayTargets a_placed a_linkEdges tk' acc.2.2.2 := by
      intro acc tk' h1 h2
      refine ih (acc, tk') ⟨h1, ?_⟩
      rw [gq_scan_add i 1 0, gx_fapp, ← I2, Nat.zero_add]
      show acc = gx_fold _ _ _ _ (gq_f pr (gp_ok pr l1 la lb sp wy ed dn de) 5 s i ++ [])
      rw [List.append_nil]
      exact h2
    refine br_f (nI_ge (b := 24) hi (by decide)) (gx_hasb (by omega) (fun hb => nm_e ?_) (fun hb => nm_r (nI_1 i) (step a tk I1 ?_)))
    · have o := (hr i hi).mp hb
      have hSB' := gx_SBc hSB o
      have hLE' := gx_LE4 (p := 5) (c := i) (by omega) H.1 hLE
      refine gx_free (j := 2) (s := gq_up s 5 i) (by omega) H hLE' ⟨fun q hq => hSB' q (by omega), hSB'⟩ (gx_TKu (i := 1) I1) (fun r hr' => ?_)
      refine gx_w78 (s := gq_up s 5 i) H (gx_PL4 (by omega) hPL) hLE' hSB' hr' a (fun tk' acc h1 h2 => ?_) (gx_TKu (i := 1) I1)
      have e := step acc tk' (gx_TKk (i := 1) h1) (by rw [gq_f1 o]; exact h2)
      rw [nI_1 i]
      exact e
    · rw [gq_f0 (fun o => Bool.false_ne_true (hb.symm.trans ((hr i hi).mpr o)))]
      rfl
theorem gx_wE {post : SX → Prop} {s : Nat → Nat} (H : gx_H b pr l1 la lb sp wy ed dn de a_patternMode a_linkSet a_linkStart a_linkEnd a_linkKind a_edgesFrom a_edgesTo a_spotNodes a_typedEdges a_wayTargets) (hPL : gx_PL 4 s a_placed) (hLE : gx_LE pr la lb a_edgesFrom a_edgesTo a_typedEdges 4 s a_linkEdges) (hSB : gx_SB pr 4 s) (acc0 : gx_A)
    (hJ : ∀ tk acc, acc = (gx_fold f_wanted f_weighing a_edgeWeight acc0 (gq_E pr (gp_ok pr l1 la lb sp wy ed dn de) 4 s)) → post (f_nodeSet, f_edgeSet, nI b, f_wanted, f_weighing, acc.1, acc.2.1, acc.2.2.1, a_nodeLabel, a_nodeValue, a_edgesFrom, a_edgesTo, a_edgesOfType, a_edgeWeight, a_patternMode, a_spotSet, a_linkSet, a_spotLabels, a_spotLeast, a_spotGreatest, a_linkStart, a_linkEnd, a_linkTypes, a_linkKind, a_spotNodes, a_typedEdges, a_wayTargets, a_placed, a_linkEdges, tk, acc.2.2.2)) :
    wpX_walkEdges post (f_nodeSet, f_edgeSet, nI b, f_wanted, f_weighing, acc0.1, acc0.2.1, acc0.2.2.1, a_nodeLabel, a_nodeValue, a_edgesFrom, a_edgesTo, a_edgesOfType, a_edgeWeight, a_patternMode, a_spotSet, a_linkSet, a_spotLabels, a_spotLeast, a_spotGreatest, a_linkStart, a_linkEnd, a_linkTypes, a_linkKind, a_spotNodes, a_typedEdges, a_wayTargets, a_placed, a_linkEdges, a_taken, acc0.2.2.2) := by
  refine gx_free (j := 0) (s := s) (by omega) H hLE ⟨hSB, hSB⟩ (fun q hq => absurd hq (Nat.not_lt_zero q)) (fun x1 hr => ?_)
  refine loop_0 (fun n i (z : gx_A × (Nat → Int32)) => wX_walkEdges_8 post x1 n (nI i) f_nodeSet f_edgeSet (nI b) f_wanted f_weighing z.1.1 z.1.2.1 z.1.2.2.1 a_nodeLabel a_nodeValue a_edgesFrom a_edgesTo a_edgesOfType a_edgeWeight a_patternMode a_spotSet a_linkSet a_spotLabels a_spotLeast a_spotGreatest a_linkStart a_linkEnd a_linkTypes a_linkKind a_spotNodes a_typedEdges a_wayTargets a_placed a_linkEdges z.2 z.1.2.2.2) (fun i z => z.1 = (gx_fold f_wanted f_weighing a_edgeWeight acc0 (gq_scan (gq_f pr (gp_ok pr l1 la lb sp wy ed dn de) 4 s) 0 i))) 24 (acc0, a_taken) rfl (fun n z I => ?_) (fun n i z hi I2 ih => ?_)
  · refine br_t (nI_le (a := 24) (by omega) (by decide)) (hJ z.2 z.1 ?_)
    rw [I]
    exact congrArg _ (gq_Ex (p := 4) (by omega) (by decide) (by decide) s).symm
  · obtain ⟨a, tk⟩ := z
    have I1 : gx_TK 0 s tk := fun q hq => absurd hq (Nat.not_lt_zero q)
    have step : ∀ acc tk', acc = (gx_fold f_wanted f_weighing a_edgeWeight a (gq_f pr (gp_ok pr l1 la lb sp wy ed dn de) 4 s i)) → wX_walkEdges_8 post x1 n (nI (i + 1)) f_nodeSet f_edgeSet (nI b) f_wanted f_weighing acc.1 acc.2.1 acc.2.2.1 a_nodeLabel a_nodeValue a_edgesFrom a_edgesTo a_edgesOfType a_edgeWeight a_patternMode a_spotSet a_linkSet a_spotLabels a_spotLeast a_spotGreatest a_linkStart a_linkEnd a_linkTypes a_linkKind a_spotNodes a_typedEdges a_wayTargets a_placed a_linkEdges tk' acc.2.2.2 := by
      intro acc tk' h2
      refine ih (acc, tk') ?_
      rw [gq_scan_add i 1 0, gx_fapp, ← I2, Nat.zero_add]
      show acc = gx_fold _ _ _ _ (gq_f pr (gp_ok pr l1 la lb sp wy ed dn de) 4 s i ++ [])
      rw [List.append_nil]
      exact h2
    refine br_f (nI_ge (b := 24) hi (by decide)) (gx_hasb (by omega) (fun hb => nm_e ?_) (fun hb => nm_r (nI_1 i) (step a tk ?_)))
    · have o := (hr i hi).mp hb
      have hSB' := gx_SBc hSB o
      have hLE' := gx_LE4 (p := 4) (c := i) (by omega) H.1 hLE
      refine gx_free (j := 1) (s := gq_up s 4 i) (by omega) H hLE' ⟨fun q hq => hSB' q (by omega), hSB'⟩ (gx_TKu (i := 0) I1) (fun r hr' => ?_)
      refine gx_w41 (s := gq_up s 4 i) H (gx_PL4 (by omega) hPL) hLE' hSB' hr' a (fun tk' acc h1 h2 => ?_) (gx_TKu (i := 0) I1)
      have e := step acc tk' (by rw [gq_f1 o]; exact h2)
      rw [nI_1 i]
      exact e
    · rw [gq_f0 (fun o => Bool.false_ne_true (hb.symm.trans ((hr i hi).mpr o)))]
      rfl
end GXW
