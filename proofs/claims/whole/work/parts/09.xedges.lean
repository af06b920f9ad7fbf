/-! the component's search: the edges, and what is done with a match -/
abbrev gx_A : Type := Int32 × Int32 × Int32 × (Nat → Int32)
def gx_pick (s : Nat → Nat) (pk : Nat → Int32) (k : Nat) : Nat → Int32 := fun q => if q < k then nI (s q) else pk q
def gx_wt (ew : Nat → Int32) (s : Nat → Nat) : Int32 := ((ew (s 4) + ew (s 5)) + ew (s 6)) + ew (s 7)
def gx_tick (wa we : Int32) (ew : Nat → Int32) (a : gx_A) (s : Nat → Nat) : gx_A :=
  if we = 0 then (if wa = (-1) then (a.1 + 1, a.2.1, a.2.2.1, a.2.2.2) else (a.1 + 1, a.2.1, a.2.2.1, if a.1 = wa then gx_pick s a.2.2.2 8 else a.2.2.2))
  else (a.1, (if a.2.1 ≤ gx_wt ew s then a.2.1 else gx_wt ew s), (if gx_wt ew s ≤ a.2.2.1 then a.2.2.1 else gx_wt ew s), a.2.2.2)
def gx_fold (wa we : Int32) (ew : Nat → Int32) (a : gx_A) (L : List (Nat → Nat)) : gx_A := L.foldl (gx_tick wa we ew) a
theorem gx_fnil {wa we : Int32} {ew : Nat → Int32} {a : gx_A} : gx_fold wa we ew a [] = a := rfl
theorem gx_fone {wa we : Int32} {ew : Nat → Int32} {a : gx_A} {s : Nat → Nat} : gx_fold wa we ew a [s] = gx_tick wa we ew a s := rfl
theorem gx_fapp {wa we : Int32} {ew : Nat → Int32} {a : gx_A} {L M : List (Nat → Nat)} : gx_fold wa we ew a (L ++ M) = gx_fold wa we ew (gx_fold wa we ew a L) M := List.foldl_append
theorem gx_fcnt {ew : Nat → Int32} : ∀ (L : List (Nat → Nat)) (a : gx_A), gx_fold (-1) 0 ew a L = (a.1 + nI L.length, a.2.1, a.2.2.1, a.2.2.2)
  | [], a => by
    show a = (a.1 + nI 0, _)
    rw [nI_0, Int32.add_zero]
  | s :: L, a => by
    show gx_fold (-1) 0 ew (gx_tick (-1) 0 ew a s) L = _
    rw [gx_fcnt L]
    unfold gx_tick
    rw [if_pos rfl, if_pos rfl, List.length_cons]
    show (a.1 + 1 + nI L.length, _) = _
    rw [Int32.add_assoc, Int32.add_comm 1, nI_1]
theorem gx_scan1 {α : Type} {f : Nat → List α} {P : Nat → Bool} (h : ∀ c, (f c).length = bif P c then 1 else 0) : ∀ k, (gq_scan f 0 k).length = gc_n P k
  | 0 => rfl
  | k + 1 => by
    rw [gq_scan_add k 1 0, List.length_append, gx_scan1 h k, Nat.zero_add]
    show _ + (f k ++ []).length = _ + _
    rw [List.append_nil, h k]
theorem gx_pku {s : Nat → Nat} {pk : Nat → Int32} {k : Nat} {x : Int32} (h : x = nI (s k)) : upd (gx_pick s pk k) k x = gx_pick s pk (k + 1) := by
  funext q
  by_cases e : q = k
  · subst e
    rw [pk_us, h]
    exact (if_pos (Nat.lt_succ_self q)).symm
  · rw [pk_un e]
    unfold gx_pick
    by_cases z : q < k
    · rw [if_pos z, if_pos (by omega)]
    · rw [if_neg z, if_neg (by omega)]
theorem gx_TKu {i c : Nat} {s : Nat → Nat} {tk : Nat → Int32} (h : gx_TK i s tk) : gx_TK (i + 1) (gq_up s (4 + i) c) (upd tk i (nI c)) := fun q hq => by
  by_cases e : q = i
  · subst e; rw [pk_us, gq_us]
  · rw [pk_un e, gq_un (by omega)]; exact h q (by omega)
theorem gx_TKk {i c : Nat} {s : Nat → Nat} {tk : Nat → Int32} (h : gx_TK (i + 1) (gq_up s (4 + i) c) tk) : gx_TK i s tk := fun q hq => by
  have := h q (by omega)
  rw [gq_un (by omega)] at this
  exact this
theorem gx_LE4 {pr : Nat → Prop} {la lb : Nat → Nat} {eF eO tyE : Nat → Int32} {p c : Nat} (hp : 4 ≤ p) (hl : ∀ j, la j < 4 ∧ lb j < 4) {s : Nat → Nat} {le : Nat → Int32} (h : gx_LE pr la lb eF eO tyE 4 s le) : gx_LE pr la lb eF eO tyE 4 (gq_up s p c) le := fun j hj => ⟨(h j hj).1, fun hp ha hb => by
  rw [(h j hj).2 hp ha hb]
  have := hl j
  unfold gx_set
  rw [gq_un (by omega), gq_un (by omega)]⟩
theorem gx_PL4 {p c : Nat} (hp : 4 ≤ p) {s : Nat → Nat} {pl : Nat → Int32} (h : gx_PL 4 s pl) : gx_PL 4 (gq_up s p c) pl := fun q hq => by
  rw [gq_un (by omega)]; exact h q hq
theorem gx_SBc {pr : Nat → Prop} {ok : Nat → (Nat → Nat) → Nat → Prop} {p c : Nat} {s : Nat → Nat} (h : gx_SB pr p s) (o : gq_okx pr ok p s c) : gx_SB pr (p + 1) (gq_up s p c) := gx_SBu h (by
  rcases o with o | o
  · exact ⟨fun _ => o.2.1, fun w => absurd o.1 w⟩
  · exact ⟨fun w => absurd w o.1, fun _ => o.2⟩)
theorem gx_SB24 {pr : Nat → Prop} {p q : Nat} {s : Nat → Nat} (h : gx_SB pr p s) (hq : q < p) (h8 : q < 8) : s q < 24 := by
  by_cases c : pr q
  · have := (h q hq).1 c
    have := gq_lim20 q
    omega
  · have := (h q hq).2 c
    unfold gq_st at this
    split at this <;> omega
section GXE
variable {b : Nat} {pr l1 : Nat → Prop} {la lb : Nat → Nat} {sp : Nat → Nat → Prop} {wy : Nat → Nat → Nat → Prop} {ed : Nat → Nat → Nat → Nat → Prop} {dn de : Prop} {f_nodeSet f_edgeSet f_wanted f_weighing f_found f_lightest f_heaviest : Int32} {a_nodeLabel a_nodeValue a_edgesFrom a_edgesTo a_edgesOfType a_edgeWeight a_patternMode a_spotSet a_linkSet a_spotLabels a_spotLeast a_spotGreatest a_linkStart a_linkEnd a_linkTypes a_linkKind a_spotNodes a_typedEdges a_wayTargets a_placed a_linkEdges a_taken a_picked : Nat → Int32}
theorem gx_free {post : Int32 → Prop} {j : Nat} {s : Nat → Nat} (hj : j < 4) (H : gx_H b pr l1 la lb sp wy ed dn de a_patternMode a_linkSet a_linkStart a_linkEnd a_linkKind a_edgesFrom a_edgesTo a_spotNodes a_typedEdges a_wayTargets) (hLE : gx_LE pr la lb a_edgesFrom a_edgesTo a_typedEdges 4 s a_linkEdges) (hSB : gx_SB pr 4 s ∧ gx_SB pr (4 + j) s) (hTK : gx_TK j s a_taken)
    (h : ∀ r, (∀ e, e < 24 → (bt r e = true ↔ gq_okx pr (gp_ok pr l1 la lb sp wy ed dn de) (4 + j) s e)) → post r) : wpX_freeEdges post (f_nodeSet, f_edgeSet, nI b, f_wanted, f_weighing, f_found, f_lightest, f_heaviest, a_nodeLabel, a_nodeValue, a_edgesFrom, a_edgesTo, a_edgesOfType, a_edgeWeight, a_patternMode, a_spotSet, a_linkSet, a_spotLabels, a_spotLeast, a_spotGreatest, a_linkStart, a_linkEnd, a_linkTypes, a_linkKind, a_spotNodes, a_typedEdges, a_wayTargets, a_placed, a_linkEdges, a_taken, a_picked) (nI j) := by
  obtain ⟨H0, H1, H2, H3, H4, H5, H6, H7, _, H9, H10⟩ := H
  obtain ⟨hSB4, hSB⟩ := hSB
  have cj : (nI j).toNatClampNeg = j := nI_clamp (by omega)
  have cb : (nI b).toNatClampNeg = b := nI_clamp (by omega)
  have bits : ∀ e, e < 24 → (bt (a_linkEdges j) e = true ↔ (pr (4 + j) ∧ e < 20 ∧ ed j e (s (la j)) (s (lb j))) ∨ (¬ pr (4 + j) ∧ e = 20 + j)) := by
    intro e he
    by_cases hp : pr (4 + j)
    · obtain ⟨_, _, pa, pb⟩ := H3 j hj (Or.inl hp)
      have sa := (hSB4 _ (H0 j).1).1 pa
      have sb := (hSB4 _ (H0 j).2).1 pb
      rw [gq_lim4 (H0 j).1] at sa
      rw [gq_lim4 (H0 j).2] at sb
      rw [(hLE j hj).2 hp (H0 j).1 (H0 j).2]
      unfold gx_set
      rw [H7 j hj hp _ sa _ sb e (by omega)]
      exact ⟨fun z => Or.inl ⟨hp, z⟩, fun z => z.elim (fun y => y.2) (fun y => absurd hp y.1)⟩
    · rw [(hLE j hj).1 hp, gb_sb (by omega) (by omega), decide_eq_true_iff]
      exact ⟨fun z => Or.inr ⟨hp, z⟩, fun z => z.elim (fun y => absurd y.1 hp) (fun y => y.2)⟩
  have okof : ∀ e, e < 24 → (gq_okx pr (gp_ok pr l1 la lb sp wy ed dn de) (4 + j) s e ↔ bt (a_linkEdges j) e = true ∧ (de → ∀ h, h < j → s (4 + h) ≠ e)) := by
    intro e he
    rw [bits e he]
    unfold gq_okx
    rw [gq_lim8, gq_st8]
    constructor
    · rintro (⟨o1, o2, o3⟩ | ⟨o1, o2⟩)
      · have o4 := o3.2 (by omega)
        rw [show 4 + j - 4 = j by omega] at o4
        refine ⟨Or.inl ⟨o1, o2, o4.1⟩, fun d q hq => ?_⟩
        by_cases ph : pr (4 + q)
        · exact o4.2 d (4 + q) (by omega) (by omega) ph
        · have := (hSB (4 + q) (by omega)).2 ph
          rw [gq_st8] at this
          omega
      · refine ⟨Or.inr ⟨o1, o2⟩, fun d q hq => ?_⟩
        by_cases ph : pr (4 + q)
        · have := (hSB (4 + q) (by omega)).1 ph
          rw [gq_lim8] at this
          omega
        · have := (hSB (4 + q) (by omega)).2 ph
          rw [gq_st8] at this
          omega
    · rintro ⟨⟨o1, o2, o3⟩ | ⟨o1, o2⟩, o4⟩
      · refine Or.inl ⟨o1, o2, fun z => by omega, fun _ => ?_⟩
        rw [show 4 + j - 4 = j by omega]
        refine ⟨o3, fun d q hq1 hq2 _ => ?_⟩
        have := o4 d (q - 4) (by omega)
        rw [show 4 + (q - 4) = q by omega] at this
        exact this
      · exact Or.inr ⟨o1, o2⟩
  refine ⟨vp_in_nI hj (by decide), nm_r (e' := a_linkEdges j) (by rw [cj]) ⟨vp_in_nI H10 (by decide), ?_⟩⟩
  rw [cb]
  refine br_c (fun z => h _ (fun e he => ?_)) (fun z => ?_)
  · rw [okof e he]
    exact ⟨fun y => ⟨y, fun d => absurd d (H9.mp z)⟩, fun y => y.1⟩
  · have hd : de := Classical.byContradiction (fun w => z (H9.mpr w))
    refine loop_0 (fun n h x => wX_freeEdges_23 post (nI j) f_nodeSet f_edgeSet (nI b) f_wanted f_weighing f_found f_lightest f_heaviest a_nodeLabel a_nodeValue a_edgesFrom a_edgesTo a_edgesOfType a_edgeWeight a_patternMode a_spotSet a_linkSet a_spotLabels a_spotLeast a_spotGreatest a_linkStart a_linkEnd a_linkTypes a_linkKind a_spotNodes a_typedEdges a_wayTargets a_placed a_linkEdges a_taken a_picked n x (nI h)) (fun h x => ∀ e, e < 24 → (bt x e = true ↔ bt (a_linkEdges j) e = true ∧ ∀ q, q < h → s (4 + q) ≠ e)) j (a_linkEdges j) (fun e he => ⟨fun y => ⟨y, fun q hq => absurd hq (Nat.not_lt_zero q)⟩, fun y => y.1⟩) (fun n x I => ?_) (fun n q x hq I ih => ?_)
    · refine br_t (nI_le (by omega) (by omega)) (h x (fun e he => ?_))
      rw [okof e he, I e he]
      exact ⟨fun y => ⟨y.1, fun _ => y.2⟩, fun y => ⟨y.1, y.2 hd⟩⟩
    · have cq : (nI q).toNatClampNeg = q := nI_clamp (by omega)
      have s24 : s (4 + q) < 24 := gx_SB24 hSB (by omega) (by omega)
      refine br_f (nI_ge hq (by omega)) ⟨vp_in_nI (by omega) (by decide), nm_r (e' := x &&& (((1 : Int32) <<< (nI (s (4 + q)) &&& 31)) ^^^ (-1))) (by rw [cq, hTK q hq]) (nm_r (nI_1 q) (ih _ (fun e he => ?_)))⟩
      rw [b_and, Bool.and_eq_true, I e he, gb_not _ (by omega), gb_sb (by omega) (by omega), Bool.not_eq_true', decide_eq_false_iff_not]
      constructor
      · rintro ⟨⟨y1, y2⟩, y3⟩
        refine ⟨y1, fun r hr => ?_⟩
        by_cases w : r = q
        · subst w; exact fun v => y3 v.symm
        · exact y2 r (by omega)
      · rintro ⟨y1, y2⟩
        exact ⟨⟨y1, fun r hr => y2 r (by omega)⟩, fun v => y2 q (by omega) v.symm⟩
theorem gx_pickM {post : SX → Prop} {s : Nat → Nat} {f_sought : Int32} (hPL : gx_PL 4 s a_placed) (hTK : gx_TK 4 s a_taken) (h : post (f_nodeSet, f_edgeSet, f_sought, f_wanted, f_weighing, f_found, f_lightest, f_heaviest, a_nodeLabel, a_nodeValue, a_edgesFrom, a_edgesTo, a_edgesOfType, a_edgeWeight, a_patternMode, a_spotSet, a_linkSet, a_spotLabels, a_spotLeast, a_spotGreatest, a_linkStart, a_linkEnd, a_linkTypes, a_linkKind, a_spotNodes, a_typedEdges, a_wayTargets, a_placed, a_linkEdges, a_taken, gx_pick s a_picked 8)) : wpX_pickMatch post (f_nodeSet, f_edgeSet, f_sought, f_wanted, f_weighing, f_found, f_lightest, f_heaviest, a_nodeLabel, a_nodeValue, a_edgesFrom, a_edgesTo, a_edgesOfType, a_edgeWeight, a_patternMode, a_spotSet, a_linkSet, a_spotLabels, a_spotLeast, a_spotGreatest, a_linkStart, a_linkEnd, a_linkTypes, a_linkKind, a_spotNodes, a_typedEdges, a_wayTargets, a_placed, a_linkEdges, a_taken, a_picked) := by
  refine loop_0 (fun n i pk => wX_pickMatch_2 post f_nodeSet f_edgeSet f_sought f_wanted f_weighing f_found f_lightest f_heaviest n (nI i) a_nodeLabel a_nodeValue a_edgesFrom a_edgesTo a_edgesOfType a_edgeWeight a_patternMode a_spotSet a_linkSet a_spotLabels a_spotLeast a_spotGreatest a_linkStart a_linkEnd a_linkTypes a_linkKind a_spotNodes a_typedEdges a_wayTargets a_placed a_linkEdges a_taken pk) (fun i pk => pk = gx_pick s a_picked i) 4 a_picked rfl (fun n pk I => ?_) (fun n i pk hi I ih => ?_)
  · subst I
    refine br_t (nI_le (a := 4) (by omega) (by decide)) ?_
    refine loop_0 (fun n i pk => wX_pickMatch_27 post f_nodeSet f_edgeSet f_sought f_wanted f_weighing f_found f_lightest f_heaviest n (nI i) a_nodeLabel a_nodeValue a_edgesFrom a_edgesTo a_edgesOfType a_edgeWeight a_patternMode a_spotSet a_linkSet a_spotLabels a_spotLeast a_spotGreatest a_linkStart a_linkEnd a_linkTypes a_linkKind a_spotNodes a_typedEdges a_wayTargets a_placed a_linkEdges a_taken pk) (fun i pk => pk = gx_pick s a_picked (4 + i)) 4 (gx_pick s a_picked 4) rfl (fun n pk I => ?_) (fun n i pk hi I ih => ?_)
    · subst I
      exact br_t (nI_le (a := 4) (by omega) (by decide)) h
    · subst I
      have c : (nI i).toNatClampNeg = i := nI_clamp (by omega)
      have e4 : (4 : Int32) + nI i = nI (4 + i) := nI_add 4 i
      have c4 : (nI (4 + i)).toNatClampNeg = 4 + i := nI_clamp (by omega)
      refine br_f (nI_ge (b := 4) hi (by decide)) ⟨vp_in_nI hi (by decide), by rw [e4]; exact vp_in_nI (by omega) (by decide), nm_r (e' := gx_pick s a_picked (4 + i + 1)) ?_ (nm_r (nI_1 i) (ih _ rfl))⟩
      rw [e4, c4, c]
      exact gx_pku (hTK i hi)
  · subst I
    have c : (nI i).toNatClampNeg = i := nI_clamp (by omega)
    refine br_f (nI_ge (b := 4) hi (by decide)) ⟨vp_in_nI hi (by decide), vp_in_nI (by omega) (by decide), nm_r (e' := gx_pick s a_picked (i + 1)) ?_ (nm_r (nI_1 i) (ih _ rfl))⟩
    rw [c]
    exact gx_pku (hPL i hi)
theorem gx_pass {post : SX → Prop} {s : Nat → Nat} {r : Int32} {f_sought : Int32} (hwa : ¬ f_wanted = (-1)) (hwe : f_weighing = 0) (hr : ∀ e, e < 24 → (bt r e = true ↔ gq_okx pr (gp_ok pr l1 la lb sp wy ed dn de) 7 s e)) (hPL : gx_PL 4 s a_placed)
    (h : ∀ tk acc, gx_TK 3 s tk → acc = (gx_fold f_wanted f_weighing a_edgeWeight (f_found, f_lightest, f_heaviest, a_picked) (gq_E pr (gp_ok pr l1 la lb sp wy ed dn de) 1 s)) → post (f_nodeSet, f_edgeSet, f_sought, f_wanted, f_weighing, acc.1, acc.2.1, acc.2.2.1, a_nodeLabel, a_nodeValue, a_edgesFrom, a_edgesTo, a_edgesOfType, a_edgeWeight, a_patternMode, a_spotSet, a_linkSet, a_spotLabels, a_spotLeast, a_spotGreatest, a_linkStart, a_linkEnd, a_linkTypes, a_linkKind, a_spotNodes, a_typedEdges, a_wayTargets, a_placed, a_linkEdges, tk, acc.2.2.2)) (hTK : gx_TK 3 s a_taken) : wpX_passMatches post (f_nodeSet, f_edgeSet, f_sought, f_wanted, f_weighing, f_found, f_lightest, f_heaviest, a_nodeLabel, a_nodeValue, a_edgesFrom, a_edgesTo, a_edgesOfType, a_edgeWeight, a_patternMode, a_spotSet, a_linkSet, a_spotLabels, a_spotLeast, a_spotGreatest, a_linkStart, a_linkEnd, a_linkTypes, a_linkKind, a_spotNodes, a_typedEdges, a_wayTargets, a_placed, a_linkEdges, a_taken, a_picked) r := by
  refine loop_0 (fun n i (z : gx_A × (Nat → Int32)) => wX_passMatches_2 post r n (nI i) f_nodeSet f_edgeSet f_sought f_wanted f_weighing z.1.1 z.1.2.1 z.1.2.2.1 a_nodeLabel a_nodeValue a_edgesFrom a_edgesTo a_edgesOfType a_edgeWeight a_patternMode a_spotSet a_linkSet a_spotLabels a_spotLeast a_spotGreatest a_linkStart a_linkEnd a_linkTypes a_linkKind a_spotNodes a_typedEdges a_wayTargets a_placed a_linkEdges z.2 z.1.2.2.2) (fun i z => gx_TK 3 s z.2 ∧ z.1 = (gx_fold f_wanted f_weighing a_edgeWeight (f_found, f_lightest, f_heaviest, a_picked) (gq_scan (gq_f pr (gp_ok pr l1 la lb sp wy ed dn de) 7 s) 0 i))) 24 ((f_found, f_lightest, f_heaviest, a_picked), a_taken) ⟨hTK, rfl⟩ (fun n z I => ?_) (fun n i z hi I ih => ?_)
  · refine br_t (nI_le (a := 24) (by omega) (by decide)) (h z.2 z.1 I.1 ?_)
    rw [I.2]
    exact congrArg _ (gq_Ex (p := 7) (by omega) (by decide) (by decide) s).symm
  · obtain ⟨⟨fo, li, he, pk⟩, tk⟩ := z
    obtain ⟨I1, I2⟩ := I
    have step : ∀ acc tk', gx_TK 3 s tk' → acc = gx_fold f_wanted f_weighing a_edgeWeight (fo, li, he, pk) (gq_f pr (gp_ok pr l1 la lb sp wy ed dn de) 7 s i) → wX_passMatches_2 post r n (nI (i + 1)) f_nodeSet f_edgeSet f_sought f_wanted f_weighing acc.1 acc.2.1 acc.2.2.1 a_nodeLabel a_nodeValue a_edgesFrom a_edgesTo a_edgesOfType a_edgeWeight a_patternMode a_spotSet a_linkSet a_spotLabels a_spotLeast a_spotGreatest a_linkStart a_linkEnd a_linkTypes a_linkKind a_spotNodes a_typedEdges a_wayTargets a_placed a_linkEdges tk' acc.2.2.2 := by
      intro acc tk' h1 h2
      refine ih (acc, tk') ⟨h1, ?_⟩
      rw [gq_scan_add i 1 0, gx_fapp, ← I2, Nat.zero_add]
      show acc = gx_fold _ _ _ _ (gq_f pr (gp_ok pr l1 la lb sp wy ed dn de) 7 s i ++ [])
      rw [List.append_nil]
      exact h2
    refine br_f (nI_ge (b := 24) hi (by decide)) (gx_hasb (by omega) (fun hb => ?_) (fun hb => nm_r (nI_1 i) (step (fo, li, he, pk) tk I1 ?_)))
    · have o := (hr i hi).mp hb
      have ef : gx_fold f_wanted f_weighing a_edgeWeight (fo, li, he, pk) (gq_f pr (gp_ok pr l1 la lb sp wy ed dn de) 7 s i) = (fo + 1, li, he, if fo = f_wanted then gx_pick (gq_up s 7 i) pk 8 else pk) := by
        rw [gq_f1 o]
        show gx_tick _ _ _ _ _ = _
        unfold gx_tick
        rw [if_pos hwe, if_neg hwa]
      by_cases q : fo = f_wanted
      · rw [if_pos q] at ef
        refine br_t q (nm_e ?_)
        refine gx_pickM (s := gq_up s 7 i) (gx_PL4 (by omega) hPL) (gx_TKu I1) ?_
        exact nm_e (nm_r (nI_1 i) (step (fo + 1, li, he, gx_pick (gq_up s 7 i) pk 8) _ (gx_TKk (gx_TKu I1)) ef.symm))
      · rw [if_neg q] at ef
        exact br_f q (nm_e (nm_r (nI_1 i) (step (fo + 1, li, he, pk) tk I1 ef.symm)))
    · rw [gq_f0 (fun o => Bool.false_ne_true (hb.symm.trans ((hr i hi).mpr o)))]
      rfl
theorem gx_weighM {post : SX → Prop} {s : Nat → Nat} {r : Int32} {f_sought : Int32} (hwe : ¬ f_weighing = 0) (hr : ∀ e, e < 24 → (bt r e = true ↔ gq_okx pr (gp_ok pr l1 la lb sp wy ed dn de) 7 s e)) (hSB : gx_SB pr 7 s)
    (h : ∀ acc, acc = (gx_fold f_wanted f_weighing a_edgeWeight (f_found, f_lightest, f_heaviest, a_picked) (gq_E pr (gp_ok pr l1 la lb sp wy ed dn de) 1 s)) → post (f_nodeSet, f_edgeSet, f_sought, f_wanted, f_weighing, acc.1, acc.2.1, acc.2.2.1, a_nodeLabel, a_nodeValue, a_edgesFrom, a_edgesTo, a_edgesOfType, a_edgeWeight, a_patternMode, a_spotSet, a_linkSet, a_spotLabels, a_spotLeast, a_spotGreatest, a_linkStart, a_linkEnd, a_linkTypes, a_linkKind, a_spotNodes, a_typedEdges, a_wayTargets, a_placed, a_linkEdges, a_taken, acc.2.2.2)) (hTK : gx_TK 3 s a_taken) : wpX_weighMatches post (f_nodeSet, f_edgeSet, f_sought, f_wanted, f_weighing, f_found, f_lightest, f_heaviest, a_nodeLabel, a_nodeValue, a_edgesFrom, a_edgesTo, a_edgesOfType, a_edgeWeight, a_patternMode, a_spotSet, a_linkSet, a_spotLabels, a_spotLeast, a_spotGreatest, a_linkStart, a_linkEnd, a_linkTypes, a_linkKind, a_spotNodes, a_typedEdges, a_wayTargets, a_placed, a_linkEdges, a_taken, a_picked) r := by
  have s4 : s 4 < 24 := gx_SB24 hSB (by omega) (by omega)
  have s5 : s 5 < 24 := gx_SB24 hSB (by omega) (by omega)
  have s6 : s 6 < 24 := gx_SB24 hSB (by omega) (by omega)
  have t0 : a_taken 0 = nI (s 4) := hTK 0 (by omega)
  have t1 : a_taken 1 = nI (s 5) := hTK 1 (by omega)
  have t2 : a_taken 2 = nI (s 6) := hTK 2 (by omega)
  refine ⟨by rw [t0]; exact vp_in_nI s4 (by decide), by rw [t1]; exact vp_in_nI s5 (by decide), by rw [t2]; exact vp_in_nI s6 (by decide), nm_r (e' := (a_edgeWeight (s 4) + a_edgeWeight (s 5)) + a_edgeWeight (s 6)) (by rw [t0, t1, t2, nI_clamp (by omega), nI_clamp (by omega), nI_clamp (by omega)]) ?_⟩
  have key : ∀ acc : gx_A, acc = (gx_fold f_wanted f_weighing a_edgeWeight (f_found, f_lightest, f_heaviest, a_picked) (gq_E pr (gp_ok pr l1 la lb sp wy ed dn de) 1 s)) → acc.1 = f_found ∧ acc.2.2.2 = a_picked := by
    intro acc e
    have : ∀ (L : List (Nat → Nat)) (a : gx_A), ((gx_fold f_wanted f_weighing a_edgeWeight a L)).1 = a.1 ∧ ((gx_fold f_wanted f_weighing a_edgeWeight a L)).2.2.2 = a.2.2.2 := by
      intro L
      induction L with
      | nil => intro a; exact ⟨rfl, rfl⟩
      | cons t L ih =>
        intro a
        have := ih (gx_tick f_wanted f_weighing a_edgeWeight a t)
        show (gx_fold _ _ _ (gx_tick f_wanted f_weighing a_edgeWeight a t) L).1 = _ ∧ (gx_fold _ _ _ (gx_tick f_wanted f_weighing a_edgeWeight a t) L).2.2.2 = _
        rw [this.1, this.2]
        unfold gx_tick
        rw [if_neg hwe]
        exact ⟨rfl, rfl⟩
    rw [e]
    exact this _ _
  refine loop_0 (fun n i (z : Int32 × Int32) => wX_weighMatches_38 post r ((a_edgeWeight (s 4) + a_edgeWeight (s 5)) + a_edgeWeight (s 6)) f_nodeSet f_edgeSet f_sought f_wanted f_weighing f_found a_nodeLabel a_nodeValue a_edgesFrom a_edgesTo a_edgesOfType a_edgeWeight a_patternMode a_spotSet a_linkSet a_spotLabels a_spotLeast a_spotGreatest a_linkStart a_linkEnd a_linkTypes a_linkKind a_spotNodes a_typedEdges a_wayTargets a_placed a_linkEdges a_taken a_picked n (nI i) z.1 z.2) (fun i z => (f_found, z.1, z.2, a_picked) = (gx_fold f_wanted f_weighing a_edgeWeight (f_found, f_lightest, f_heaviest, a_picked) (gq_scan (gq_f pr (gp_ok pr l1 la lb sp wy ed dn de) 7 s) 0 i))) 24 (f_lightest, f_heaviest) rfl (fun n z I => ?_) (fun n i z hi I ih => ?_)
  · refine br_t (nI_le (a := 24) (by omega) (by decide)) (h (f_found, z.1, z.2, a_picked) ?_)
    rw [I]
    exact congrArg _ (gq_Ex (p := 7) (by omega) (by decide) (by decide) s).symm
  · obtain ⟨li, he⟩ := z
    have step : ∀ l2 h2 : Int32, (f_found, l2, h2, a_picked) = gx_fold f_wanted f_weighing a_edgeWeight (f_found, li, he, a_picked) (gq_f pr (gp_ok pr l1 la lb sp wy ed dn de) 7 s i) → wX_weighMatches_38 post r ((a_edgeWeight (s 4) + a_edgeWeight (s 5)) + a_edgeWeight (s 6)) f_nodeSet f_edgeSet f_sought f_wanted f_weighing f_found a_nodeLabel a_nodeValue a_edgesFrom a_edgesTo a_edgesOfType a_edgeWeight a_patternMode a_spotSet a_linkSet a_spotLabels a_spotLeast a_spotGreatest a_linkStart a_linkEnd a_linkTypes a_linkKind a_spotNodes a_typedEdges a_wayTargets a_placed a_linkEdges a_taken a_picked n (nI (i + 1)) l2 h2 := by
      intro l2 h2 e
      refine ih (l2, h2) ?_
      rw [gq_scan_add i 1 0, gx_fapp, ← I, Nat.zero_add]
      show _ = gx_fold _ _ _ _ (gq_f pr (gp_ok pr l1 la lb sp wy ed dn de) 7 s i ++ [])
      rw [List.append_nil]
      exact e
    refine br_f (nI_ge (b := 24) hi (by decide)) (gx_hasb (by omega) (fun hb => ?_) (fun hb => nm_r (nI_1 i) (step li he ?_)))
    · have o := (hr i hi).mp hb
      have c : (nI i).toNatClampNeg = i := nI_clamp (by omega)
      have ef : gx_fold f_wanted f_weighing a_edgeWeight (f_found, li, he, a_picked) (gq_f pr (gp_ok pr l1 la lb sp wy ed dn de) 7 s i) = (f_found, (if li ≤ (((a_edgeWeight (s 4) + a_edgeWeight (s 5)) + a_edgeWeight (s 6)) + a_edgeWeight i) then li else (((a_edgeWeight (s 4) + a_edgeWeight (s 5)) + a_edgeWeight (s 6)) + a_edgeWeight i)), (if (((a_edgeWeight (s 4) + a_edgeWeight (s 5)) + a_edgeWeight (s 6)) + a_edgeWeight i) ≤ he then he else (((a_edgeWeight (s 4) + a_edgeWeight (s 5)) + a_edgeWeight (s 6)) + a_edgeWeight i)), a_picked) := by
        rw [gq_f1 o]
        show gx_tick _ _ _ _ _ = _
        unfold gx_tick
        rw [if_neg hwe]
        rfl
      refine ⟨vp_in_nI hi (by decide), nm_r (e' := ((a_edgeWeight (s 4) + a_edgeWeight (s 5)) + a_edgeWeight (s 6)) + a_edgeWeight i) (by rw [c]) ?_⟩
      generalize ((a_edgeWeight (s 4) + a_edgeWeight (s 5)) + a_edgeWeight (s 6)) + a_edgeWeight i = w at *
      refine br_c (fun q1 => br_c (fun q2 => nm_r (nI_1 i) (step _ _ ?_)) (fun q2 => nm_r (nI_1 i) (step _ _ ?_))) (fun q1 => br_c (fun q2 => nm_r (nI_1 i) (step _ _ ?_)) (fun q2 => nm_r (nI_1 i) (step _ _ ?_)))
      · rw [ef, if_pos q1, if_pos q2]
      · rw [ef, if_pos q1, if_neg q2]
      · rw [ef, if_neg q1, if_pos q2]
      · rw [ef, if_neg q1, if_neg q2]
    · rw [gq_f0 (fun o => Bool.false_ne_true (hb.symm.trans ((hr i hi).mpr o)))]
      rfl
theorem gx_meet {post : SX → Prop} {s : Nat → Nat} (H : gx_H b pr l1 la lb sp wy ed dn de a_patternMode a_linkSet a_linkStart a_linkEnd a_linkKind a_edgesFrom a_edgesTo a_spotNodes a_typedEdges a_wayTargets) (hPL : gx_PL 4 s a_placed) (hLE : gx_LE pr la lb a_edgesFrom a_edgesTo a_typedEdges 4 s a_linkEdges) (hSB : gx_SB pr 7 s) (hTK : gx_TK 3 s a_taken)
    (h : ∀ tk acc, gx_TK 3 s tk → acc = (gx_fold f_wanted f_weighing a_edgeWeight (f_found, f_lightest, f_heaviest, a_picked) (gq_E pr (gp_ok pr l1 la lb sp wy ed dn de) 1 s)) → post (f_nodeSet, f_edgeSet, nI b, f_wanted, f_weighing, acc.1, acc.2.1, acc.2.2.1, a_nodeLabel, a_nodeValue, a_edgesFrom, a_edgesTo, a_edgesOfType, a_edgeWeight, a_patternMode, a_spotSet, a_linkSet, a_spotLabels, a_spotLeast, a_spotGreatest, a_linkStart, a_linkEnd, a_linkTypes, a_linkKind, a_spotNodes, a_typedEdges, a_wayTargets, a_placed, a_linkEdges, tk, acc.2.2.2)) : wpX_meetMatches post (f_nodeSet, f_edgeSet, nI b, f_wanted, f_weighing, f_found, f_lightest, f_heaviest, a_nodeLabel, a_nodeValue, a_edgesFrom, a_edgesTo, a_edgesOfType, a_edgeWeight, a_patternMode, a_spotSet, a_linkSet, a_spotLabels, a_spotLeast, a_spotGreatest, a_linkStart, a_linkEnd, a_linkTypes, a_linkKind, a_spotNodes, a_typedEdges, a_wayTargets, a_placed, a_linkEdges, a_taken, a_picked) := by
  refine gx_free (j := 3) (s := s) (by omega) H hLE ⟨fun q hq => hSB q (by omega), hSB⟩ hTK (fun r hr => ?_)
  refine br_c (fun hwe => br_c (fun hwa => ?_) (fun hwa => ?_)) (fun hwe => ?_)
  · refine gx_size (nm_e (h a_taken (f_found + nI (gc_n (bt r) 24), f_lightest, f_heaviest, a_picked) hTK ?_))
    subst hwe hwa
    rw [gx_fcnt, gq_Ex (p := 7) (N := 24) (by omega) (by decide) (by decide) s, gx_scan1 (P := fun e => bif decide (e < 24) then bt r e else gq_b (gq_okx pr (gp_ok pr l1 la lb sp wy ed dn de) 7 s e))]
    · have e : gc_n (fun e => bif decide (e < 24) then bt r e else gq_b (gq_okx pr (gp_ok pr l1 la lb sp wy ed dn de) 7 s e)) 24 = gc_n (bt r) 24 := gc_eq 24 (fun i hi => by
        show (bif decide (i < 24) then bt r i else _) = _
        rw [decide_eq_true hi]
        rfl)
      rw [e]
    · intro c
      unfold gq_f
      have : (bif decide (c < 24) then bt r c else gq_b (gq_okx pr (gp_ok pr l1 la lb sp wy ed dn de) 7 s c)) = gq_b (gq_okx pr (gp_ok pr l1 la lb sp wy ed dn de) 7 s c) := by
        by_cases z : c < 24
        · rw [decide_eq_true z]
          show bt r c = _
          rw [Bool.eq_iff_iff, hr c z, gq_bi]
        · rw [decide_eq_false z]; rfl
      rw [this]
      cases gq_b (gq_okx pr (gp_ok pr l1 la lb sp wy ed dn de) 7 s c) <;> rfl
  · exact gx_pass hwa hwe hr hPL h hTK
  · exact gx_weighM hwe hr hSB (fun acc e => h a_taken acc hTK e) hTK
end GXE
