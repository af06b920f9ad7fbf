/-! the methods on the graph -/
theorem gr_Nb {ns : Int32} {nT : Nat → Int32} (h : gr_N ns nT) {i : Nat} (hi : i < 12) : bt ns i = true ↔ nT i = 1 := by
  rw [h.2 i (by omega)]
  exact ⟨fun z => z.2, fun z => ⟨hi, z⟩⟩
theorem gr_Nx {ns : Int32} {nT : Nat → Int32} (h : gr_N ns nT) {v : Int32} : (∃ j, j < 12 ∧ v = nI j ∧ bt ns j = true) ↔ (∃ j, j < 12 ∧ v = nI j ∧ nT j = 1) :=
  ⟨fun ⟨j, a, b, c⟩ => ⟨j, a, b, (gr_Nb h a).mp c⟩, fun ⟨j, a, b, c⟩ => ⟨j, a, b, (gr_Nb h a).mpr c⟩⟩
theorem i_vc_addNode {k : Nat} {u : SX} {v : SY} (I : i_Rel k u v) (hk : k + 5 ≤ 2560) (v1 : Int32) (v2 : Int32) : wpX_addNode (fun r u' => wpY_addNode (fun r' v' => r' = r ∧ i_Rel (k + 5) u' v') v v1 v2) u v1 v2 := by
  obtain ⟨f_nodeSet, f_edgeSet, f_sought, f_wanted, f_weighing, f_found, f_lightest, f_heaviest, a_nodeLabel, a_nodeValue, a_edgesFrom, a_edgesTo, a_edgesOfType, a_edgeWeight, a_patternMode, a_spotSet, a_linkSet, a_spotLabels, a_spotLeast, a_spotGreatest, a_linkStart, a_linkEnd, a_linkTypes, a_linkKind, a_spotNodes, a_typedEdges, a_wayTargets, a_placed, a_linkEdges, a_taken, a_picked⟩ := u
  obtain ⟨f_base, f_many, a_nodeThere, a_labels, a_values, a_edgeThere, a_froms, a_tos, a_whats, a_patterns, a_parts, a_chosen⟩ := v
  have J := I
  obtain ⟨hN, ⟨e1, e2, hL⟩, hE, hP0, hP1⟩ := I
  unfold wpX_addNode wpY_addNode
  refine gx_lv v1 v2 (fun ok => br_f gn_10 ?_) (fun no => br_t rfl ?_)
  · refine gx_lm 12 (by decide) (fun m hm h1 h0 => ?_)
    have hT : ∀ i, i < m → a_nodeThere i = 1 := fun i hi => (gr_Nb hN (by omega)).mp (h1 i hi)
    have hT0 : m < 12 → a_nodeThere m = 0 := fun z => (hN.1 m).resolve_right (fun w => Bool.false_ne_true ((h0 z).symm.trans ((gr_Nb hN z).mpr w)))
    refine pk_eq m 12 (fun e => ?_) (fun e => ?_)
    · refine gy_lv v1 v2 (fun _ => br_f gn_10 ?_) (fun z => absurd ok z)
      exact gy_addNode hm hT hT0 (fun _ => ⟨rfl, J⟩) (fun z => absurd e (by omega))
    · have c : (nI m).toNatClampNeg = m := nI_clamp (by omega)
      have w : vp_in (nI m) 12 := vp_in_nI (by omega) (by decide)
      refine nm_e ⟨w, nm_r (e' := upd a_nodeLabel m v1) (by rw [c]) ⟨w, nm_r (e' := upd a_nodeValue m v2) (by rw [c]) ?_⟩⟩
      refine gy_lv v1 v2 (fun _ => br_f gn_10 ?_) (fun z => absurd ok z)
      refine gy_addNode hm hT hT0 (fun z => absurd z e) (fun hm' => ⟨rfl, gr_Na hN hm', ⟨by rw [e1], by rw [e2], ?_⟩, hE, hP0, hP1⟩)
      obtain ⟨⟨l, hl, rfl⟩, _⟩ := ok
      exact gr_Lu hL hl
  · exact gy_lv v1 v2 (fun z => absurd z no) (fun _ => br_t rfl ⟨rfl, J⟩)
theorem i_vc_setNode {k : Nat} {u : SX} {v : SY} (I : i_Rel k u v) (hk : k + 5 ≤ 2560) (v1 : Int32) (v2 : Int32) (v3 : Int32) : wpX_setNode (fun r u' => wpY_setNode (fun r' v' => r' = r ∧ i_Rel (k + 5) u' v') v v1 v2 v3) u v1 v2 v3 := by
  obtain ⟨f_nodeSet, f_edgeSet, f_sought, f_wanted, f_weighing, f_found, f_lightest, f_heaviest, a_nodeLabel, a_nodeValue, a_edgesFrom, a_edgesTo, a_edgesOfType, a_edgeWeight, a_patternMode, a_spotSet, a_linkSet, a_spotLabels, a_spotLeast, a_spotGreatest, a_linkStart, a_linkEnd, a_linkTypes, a_linkKind, a_spotNodes, a_typedEdges, a_wayTargets, a_placed, a_linkEdges, a_taken, a_picked⟩ := u
  obtain ⟨f_base, f_many, a_nodeThere, a_labels, a_values, a_edgeThere, a_froms, a_tos, a_whats, a_patterns, a_parts, a_chosen⟩ := v
  have J := I
  obtain ⟨hN, ⟨e1, e2, hL⟩, hE, hP0, hP1⟩ := I
  unfold wpX_setNode wpY_setNode
  refine gx_isNode v1 (fun no => br_t rfl ?_) (fun j hj e hb => br_f gn_10 ?_)
  · exact gy_isNode v1 hN.1 (fun _ => br_t rfl ⟨rfl, J⟩) (fun j a b c => absurd ((gr_Nx hN).mpr ⟨j, a, b, c⟩) no)
  · have yes : ∃ j, j < 12 ∧ v1 = nI j ∧ a_nodeThere j = 1 := (gr_Nx hN).mp ⟨j, hj, e, hb⟩
    refine gx_lv v2 v3 (fun ok => br_f gn_10 ?_) (fun no => br_t rfl ?_)
    · subst e
      have c : (nI j).toNatClampNeg = j := nI_clamp (by omega)
      have w : vp_in (nI j) 12 := vp_in_nI (by omega) (by decide)
      refine ⟨w, nm_r (e' := upd a_nodeLabel j v2) (by rw [c]) ⟨w, nm_r (e' := upd a_nodeValue j v3) (by rw [c]) ?_⟩⟩
      refine gy_isNode (nI j) hN.1 (fun z => absurd yes z) (fun _ _ _ _ => br_f gn_10 (gy_lv v2 v3 (fun _ => br_f gn_10 ⟨w, nm_r (e' := upd a_labels j v2) (by rw [c]) ⟨w, nm_r (e' := upd a_values j v3) (by rw [c]) ⟨rfl, hN, ⟨by rw [e1], by rw [e2], ?_⟩, hE, hP0, hP1⟩⟩⟩) (fun z => absurd ok z)))
      obtain ⟨⟨l, hl, rfl⟩, _⟩ := ok
      exact gr_Lu hL hl
    · exact gy_isNode v1 hN.1 (fun z => absurd yes z) (fun _ _ _ _ => br_f gn_10 (gy_lv v2 v3 (fun z => absurd z no) (fun _ => br_t rfl ⟨rfl, J⟩)))
theorem gr_Ed {es g : Int32} {eF eO eY ew eT fr to wh eF' eO' eY' eT' : Nat → Int32} (h : gr_E es eF eO eY ew eT fr to wh) (hF : ∀ n, n < 12 → eF' n = eF n &&& (g ^^^ (-1)) ∧ eO' n = eO n &&& (g ^^^ (-1))) (hY : ∀ t, t < 3 → eY' t = eY t &&& (g ^^^ (-1)))
    (h01 : ∀ e, eT' e = 0 ∨ eT' e = 1) (hT : ∀ e, e < 20 → (eT' e = 1 ↔ eT e = 1 ∧ bt g e = false)) : gr_E (es &&& (g ^^^ (-1))) eF' eO' eY' ew eT' fr to wh := by
  obtain ⟨h1, h2, h3, h4, h5, h6, h7⟩ := h
  refine ⟨⟨h01, h1.2⟩, gr_Bd h2 hT, fun n hn => ?_, fun n hn => ?_, fun t ht => ?_, h6, h7⟩
  · rw [(hF n hn).1]; exact gr_Bd (h3 n hn) hT
  · rw [(hF n hn).2]; exact gr_Bd (h4 n hn) hT
  · rw [hY t ht]; exact gr_Bd (h5 t ht) hT
theorem gr_Or {x y : Int32} {eT : Nat → Int32} {P Q : Nat → Prop} (hx : gr_B x eT P) (hy : gr_B y eT Q) : gr_B (x ||| y) eT (fun i => P i ∨ Q i) := fun i hi => by
  rw [b_or, Bool.or_eq_true, hx i hi, hy i hi]
  constructor
  · rintro (⟨a, b, c⟩ | ⟨a, b, c⟩)
    · exact ⟨a, b, Or.inl c⟩
    · exact ⟨a, b, Or.inr c⟩
  · rintro ⟨a, b, c | c⟩
    · exact Or.inl ⟨a, b, c⟩
    · exact Or.inr ⟨a, b, c⟩
theorem i_vc_removeNode {k : Nat} {u : SX} {v : SY} (I : i_Rel k u v) (hk : k + 5 ≤ 2560) (v1 : Int32) : wpX_removeNode (fun r u' => wpY_removeNode (fun r' v' => r' = r ∧ i_Rel (k + 5) u' v') v v1) u v1 := by
  obtain ⟨f_nodeSet, f_edgeSet, f_sought, f_wanted, f_weighing, f_found, f_lightest, f_heaviest, a_nodeLabel, a_nodeValue, a_edgesFrom, a_edgesTo, a_edgesOfType, a_edgeWeight, a_patternMode, a_spotSet, a_linkSet, a_spotLabels, a_spotLeast, a_spotGreatest, a_linkStart, a_linkEnd, a_linkTypes, a_linkKind, a_spotNodes, a_typedEdges, a_wayTargets, a_placed, a_linkEdges, a_taken, a_picked⟩ := u
  obtain ⟨f_base, f_many, a_nodeThere, a_labels, a_values, a_edgeThere, a_froms, a_tos, a_whats, a_patterns, a_parts, a_chosen⟩ := v
  have J := I
  obtain ⟨hN, ⟨e1, e2, hL⟩, hE, hP0, hP1⟩ := I
  unfold wpX_removeNode wpY_removeNode
  refine gx_isNode v1 (fun no => br_t rfl ?_) (fun j hj e hb => br_f gn_10 ?_)
  · exact gy_isNode v1 hN.1 (fun _ => br_t rfl ⟨rfl, J⟩) (fun j a b c => absurd ((gr_Nx hN).mpr ⟨j, a, b, c⟩) no)
  · have yes : ∃ j, j < 12 ∧ v1 = nI j ∧ a_nodeThere j = 1 := (gr_Nx hN).mp ⟨j, hj, e, hb⟩
    subst e
    have c : (nI j).toNatClampNeg = j := nI_clamp (by omega)
    have w : vp_in (nI j) 16 := vp_in_nI (by omega) (by decide)
    refine ⟨w, w, nm_r (e' := a_edgesFrom j ||| a_edgesTo j) (by rw [c]) ?_⟩
    have hg := gr_Or (hE.2.2.1 j hj) (hE.2.2.2.1 j hj)
    refine gx_drop (fun eF eO eY hF hY => nm_e (gx_size ?_))
    refine gy_isNode (nI j) hN.1 (fun z => absurd yes z) (fun _ _ _ _ => br_f gn_10 (gy_remove hj hE.1.1 (fun eT hT hT2 => ⟨?_, gr_Nd hN hj, ⟨e1, e2, hL⟩, gr_Ed hE hF hY ?_ ?_, hP0, hP1⟩)))
    · rw [gr_cnt hg]
    · intro e
      rcases Nat.lt_or_ge e 20 with he | he
      · rw [hT e he]
        split
        · exact Or.inl rfl
        · exact hE.1.1 e
      · rw [hT2 e he]; exact hE.1.1 e
    · intro e he
      rw [hT e he]
      by_cases q : a_edgeThere e = 1 ∧ (a_froms e = nI j ∨ a_tos e = nI j)
      · rw [if_pos q, (hg e (by omega)).mpr ⟨he, q⟩]
        exact ⟨fun z => absurd z.symm gn_10, fun z => absurd z.2.symm Bool.false_ne_true⟩
      · rw [if_neg q]
        refine ⟨fun z => ⟨z, ?_⟩, fun z => z.1⟩
        apply Bool.eq_false_iff.mpr
        intro y
        exact q ((hg e (by omega)).mp y).2
theorem i_vc_removeEdge {k : Nat} {u : SX} {v : SY} (I : i_Rel k u v) (hk : k + 5 ≤ 2560) (v1 : Int32) : wpX_removeEdge (fun r u' => wpY_removeEdge (fun r' v' => r' = r ∧ i_Rel (k + 5) u' v') v v1) u v1 := by
  obtain ⟨f_nodeSet, f_edgeSet, f_sought, f_wanted, f_weighing, f_found, f_lightest, f_heaviest, a_nodeLabel, a_nodeValue, a_edgesFrom, a_edgesTo, a_edgesOfType, a_edgeWeight, a_patternMode, a_spotSet, a_linkSet, a_spotLabels, a_spotLeast, a_spotGreatest, a_linkStart, a_linkEnd, a_linkTypes, a_linkKind, a_spotNodes, a_typedEdges, a_wayTargets, a_placed, a_linkEdges, a_taken, a_picked⟩ := u
  obtain ⟨f_base, f_many, a_nodeThere, a_labels, a_values, a_edgeThere, a_froms, a_tos, a_whats, a_patterns, a_parts, a_chosen⟩ := v
  have J := I
  obtain ⟨hN, ⟨e1, e2, hL⟩, hE, hP0, hP1⟩ := I
  unfold wpX_removeEdge wpY_removeEdge
  by_cases n0 : v1 < 0
  · exact br_t n0 (br_t n0 ⟨rfl, J⟩)
  · obtain ⟨j, hj, rfl⟩ := nI_of n0
    refine br_f n0 ?_
    by_cases h20 : j < 20
    · have c : (nI j).toNatClampNeg = j := nI_clamp (by omega)
      have w : vp_in (nI j) 20 := vp_in_nI h20 (by decide)
      have g20 : ¬ (20 : Int32) ≤ nI j := nI_ge (b := 20) h20 (by decide)
      refine br_f g20 (gx_hasb (by omega) (fun hb => ?_) (fun hb => ?_))
      · have t1 : a_edgeThere j = 1 := ((hE.2.1 j (by omega)).mp hb).2.1
        refine gx_drop (fun eF eO eY hF hY => br_f n0 (br_f g20 ⟨w, br_f (by rw [c, t1]; exact gn_10) ⟨w, nm_r (e' := upd a_edgeThere j 0) (by rw [c, gn_b0]) ⟨rfl, hN, ⟨e1, e2, hL⟩, gr_Ed hE hF hY ?_ ?_, hP0, hP1⟩⟩⟩))
        · intro e
          by_cases q : e = j
          · subst q; rw [pk_us]; exact Or.inl rfl
          · rw [pk_un q]; exact hE.1.1 e
        · intro e he
          rw [gb_sb (by omega) (by omega)]
          by_cases q : e = j
          · subst q; rw [pk_us, decide_eq_true rfl]
            exact ⟨fun z => absurd z.symm gn_10, fun z => absurd z.2.symm Bool.false_ne_true⟩
          · rw [pk_un q, decide_eq_false q]
            exact ⟨fun z => ⟨z, rfl⟩, fun z => z.1⟩
      · have t0 : a_edgeThere j = 0 := (hE.1.1 j).resolve_right (fun z => Bool.false_ne_true (hb.symm.trans ((hE.2.1 j (by omega)).mpr ⟨h20, z, trivial⟩)))
        exact br_f n0 (br_f g20 ⟨w, br_t (by rw [c]; exact t0) ⟨rfl, J⟩⟩)
    · have g20 : (20 : Int32) ≤ nI j := nI_le (a := 20) (by omega) hj
      exact br_t g20 (br_f n0 (br_t g20 ⟨rfl, J⟩))
theorem gr_Ea {es : Int32} {eF eO eY ew eT fr to wh : Nat → Int32} {m a b w : Nat} (h : gr_E es eF eO eY ew eT fr to wh) (hm : m < 20) (h0 : eT m = 0) (ha : a < 12) (hb : b < 12) (hw : w < 63) :
    gr_E (es ||| ((1 : Int32) <<< (nI m &&& 31))) (upd eF a (eF a ||| ((1 : Int32) <<< (nI m &&& 31)))) (upd eO b (eO b ||| ((1 : Int32) <<< (nI m &&& 31)))) (upd eY (w % 3) (eY (w % 3) ||| ((1 : Int32) <<< (nI m &&& 31)))) (upd ew m (nI w / 3)) (upd eT m 1) (upd fr m (nI a)) (upd to m (nI b)) (upd wh m (nI w)) := by
  obtain ⟨h1, h2, h3, h4, h5, h6, h7⟩ := h
  have hr : nI w - nI w / 3 * 3 = nI (w % 3) := pk_rem (a := w) (d := 3) (by omega) (by decide) (by decide)
  have up1 : ∀ (f : Nat → Int32) (P : Int32 → Prop) (x : Int32), (∀ e, P (f e)) → P x → ∀ e, P (upd f m x e) := fun f P x hf hx e => by
    by_cases q : e = m
    · subst q; rw [pk_us]; exact hx
    · rw [pk_un q]; exact hf e
  have up2 : ∀ (f : Nat → Int32) (x y : Int32) (i : Nat), i ≠ m → (upd f m x i = y ↔ f i = y) := fun f x y i hi => by rw [pk_un hi]
  refine ⟨⟨up1 eT (fun z => z = 0 ∨ z = 1) 1 h1.1 (Or.inr rfl), up1 fr (fun z => ∃ a, a < 12 ∧ z = nI a) _ h1.2.1 ⟨a, ha, rfl⟩, up1 to (fun z => ∃ a, a < 12 ∧ z = nI a) _ h1.2.2.1 ⟨b, hb, rfl⟩, up1 wh (fun z => ∃ a, a < 63 ∧ z = nI a) _ h1.2.2.2 ⟨w, hw, rfl⟩⟩, gr_B1 h2 hm (fun _ _ => Iff.rfl) trivial, fun n hn => ?_, fun n hn => ?_, fun t ht => ?_, fun e he => ?_, fun e he1 he2 => ?_⟩
  · by_cases q : n = a
    · subst q; rw [pk_us]
      exact gr_B1 (h3 n hn) hm (fun i hi => up2 fr _ _ i hi) pk_us
    · rw [pk_un q]
      refine gr_B2 (h3 n hn) h0 (fun i hi => up2 fr _ _ i hi) (fun z => ?_)
      rw [pk_us, nI_eq (by omega) (by omega)] at z
      exact q z.symm
  · by_cases q : n = b
    · subst q; rw [pk_us]
      exact gr_B1 (h4 n hn) hm (fun i hi => up2 to _ _ i hi) pk_us
    · rw [pk_un q]
      refine gr_B2 (h4 n hn) h0 (fun i hi => up2 to _ _ i hi) (fun z => ?_)
      rw [pk_us, nI_eq (by omega) (by omega)] at z
      exact q z.symm
  · have hi3 : ∀ i, i ≠ m → (upd wh m (nI w) i - upd wh m (nI w) i / 3 * 3 = nI t ↔ wh i - wh i / 3 * 3 = nI t) := fun i hi => by rw [pk_un hi]
    by_cases q : t = w % 3
    · subst q; rw [pk_us]
      refine gr_B1 (h5 (w % 3) ht) hm hi3 ?_
      rw [pk_us, hr]
    · rw [pk_un q]
      refine gr_B2 (h5 t ht) h0 hi3 (fun z => ?_)
      rw [pk_us, hr, nI_eq (by omega) (by omega)] at z
      exact q z.symm
  · by_cases q : e = m
    · subst q; rw [pk_us, pk_us]
    · rw [pk_un q, pk_un q]; exact h6 e he
  · rw [pk_un (by omega)]; exact h7 e he1 he2
theorem i_vc_addEdge {k : Nat} {u : SX} {v : SY} (I : i_Rel k u v) (hk : k + 5 ≤ 2560) (v1 : Int32) (v2 : Int32) (v3 : Int32) : wpX_addEdge (fun r u' => wpY_addEdge (fun r' v' => r' = r ∧ i_Rel (k + 5) u' v') v v1 v2 v3) u v1 v2 v3 := by
  obtain ⟨f_nodeSet, f_edgeSet, f_sought, f_wanted, f_weighing, f_found, f_lightest, f_heaviest, a_nodeLabel, a_nodeValue, a_edgesFrom, a_edgesTo, a_edgesOfType, a_edgeWeight, a_patternMode, a_spotSet, a_linkSet, a_spotLabels, a_spotLeast, a_spotGreatest, a_linkStart, a_linkEnd, a_linkTypes, a_linkKind, a_spotNodes, a_typedEdges, a_wayTargets, a_placed, a_linkEdges, a_taken, a_picked⟩ := u
  obtain ⟨f_base, f_many, a_nodeThere, a_labels, a_values, a_edgeThere, a_froms, a_tos, a_whats, a_patterns, a_parts, a_chosen⟩ := v
  have J := I
  obtain ⟨hN, ⟨e1, e2, hL⟩, hE, hP0, hP1⟩ := I
  unfold wpX_addEdge wpY_addEdge
  refine gx_isNode v1 (fun no => br_t rfl ?_) (fun a ha ea hb => br_f gn_10 ?_)
  · exact gy_isNode v1 hN.1 (fun _ => br_t rfl ⟨rfl, J⟩) (fun j a b c => absurd ((gr_Nx hN).mpr ⟨j, a, b, c⟩) no)
  have yes1 : ∃ j, j < 12 ∧ v1 = nI j ∧ a_nodeThere j = 1 := (gr_Nx hN).mp ⟨a, ha, ea, hb⟩
  refine gx_isNode v2 (fun no => br_t rfl ?_) (fun b hb' eb hbb => br_f gn_10 ?_)
  · exact gy_isNode v1 hN.1 (fun z => absurd yes1 z) (fun _ _ _ _ => br_f gn_10 (gy_isNode v2 hN.1 (fun _ => br_t rfl ⟨rfl, J⟩) (fun j a b c => absurd ((gr_Nx hN).mpr ⟨j, a, b, c⟩) no)))
  have yes2 : ∃ j, j < 12 ∧ v2 = nI j ∧ a_nodeThere j = 1 := (gr_Nx hN).mp ⟨b, hb', eb, hbb⟩
  by_cases n0 : v3 < 0
  · exact br_t n0 (gy_isNode v1 hN.1 (fun z => absurd yes1 z) (fun _ _ _ _ => br_f gn_10 (gy_isNode v2 hN.1 (fun z => absurd yes2 z) (fun _ _ _ _ => br_f gn_10 (br_t n0 ⟨rfl, J⟩)))))
  refine br_f n0 ?_
  by_cases n62 : v3 ≤ 62
  · refine br_t n62 (gx_lm 20 (by decide) (fun m hm h1 h0 => ?_))
    have hT : ∀ i, i < m → a_edgeThere i = 1 := fun i hi => ((hE.2.1 i (by omega)).mp (h1 i hi)).2.1
    have hT0 : m < 20 → a_edgeThere m = 0 := fun z => (hE.1.1 m).resolve_right (fun w => Bool.false_ne_true ((h0 z).symm.trans ((hE.2.1 m (by omega)).mpr ⟨z, w, trivial⟩)))
    refine pk_eq m 20 (fun e => ?_) (fun e => ?_)
    · exact gy_isNode v1 hN.1 (fun z => absurd yes1 z) (fun _ _ _ _ => br_f gn_10 (gy_isNode v2 hN.1 (fun z => absurd yes2 z) (fun _ _ _ _ => br_f gn_10 (br_f n0 (br_t n62 (gy_addEdge hm hT hT0 (fun _ => ⟨rfl, J⟩) (fun z => absurd e (by omega))))))))
    · obtain ⟨w, hw, rfl⟩ := nI_of2 (M := 62) (n := 62) (by decide) n0 n62
      subst ea eb
      have ca : (nI a).toNatClampNeg = a := nI_clamp (by omega)
      have cb : (nI b).toNatClampNeg = b := nI_clamp (by omega)
      have cm : (nI m).toNatClampNeg = m := nI_clamp (by omega)
      have hr : nI w - nI w / 3 * 3 = nI (w % 3) := pk_rem (a := w) (d := 3) (by omega) (by decide) (by decide)
      have cr : (nI (w % 3)).toNatClampNeg = w % 3 := nI_clamp (by omega)
      have va : vp_in (nI a) 16 := vp_in_nI (by omega) (by decide)
      have vb : vp_in (nI b) 16 := vp_in_nI (by omega) (by decide)
      have vr : vp_in (nI w - nI w / 3 * 3) 3 := by rw [hr]; exact vp_in_nI (by omega) (by decide)
      have vm : vp_in (nI m) 24 := vp_in_nI (by omega) (by decide)
      refine nm_e ⟨va, va, nm_r (e' := upd a_edgesFrom a (a_edgesFrom a ||| ((1 : Int32) <<< (nI m &&& 31)))) (by rw [ca]) ⟨vb, vb, nm_r (e' := upd a_edgesTo b (a_edgesTo b ||| ((1 : Int32) <<< (nI m &&& 31)))) (by rw [cb]) ⟨gn_d3, vr, vr, nm_r (e' := upd a_edgesOfType (w % 3) (a_edgesOfType (w % 3) ||| ((1 : Int32) <<< (nI m &&& 31)))) (by rw [hr, cr]) ⟨gn_d3, vm, nm_r (e' := upd a_edgeWeight m (nI w / 3)) (by rw [cm]) ?_⟩⟩⟩⟩
      exact gy_isNode (nI a) hN.1 (fun z => absurd yes1 z) (fun _ _ _ _ => br_f gn_10 (gy_isNode (nI b) hN.1 (fun z => absurd yes2 z) (fun _ _ _ _ => br_f gn_10 (br_f n0 (br_t n62 (gy_addEdge hm hT hT0 (fun z => absurd z e) (fun hm' => ⟨rfl, hN, ⟨e1, e2, hL⟩, gr_Ea hE hm' (hT0 hm') ha hb' (by omega), hP0, hP1⟩)))))))
  · exact br_f n62 (gy_isNode v1 hN.1 (fun z => absurd yes1 z) (fun _ _ _ _ => br_f gn_10 (gy_isNode v2 hN.1 (fun z => absurd yes2 z) (fun _ _ _ _ => br_f gn_10 (br_f n0 (br_f n62 ⟨rfl, J⟩))))))
theorem gr_01 {v : Int32} (h0 : ¬ v < 0) (h1 : v ≤ 1) (n : ¬ v = 0) : v = 1 := by
  obtain ⟨j, hj, rfl⟩ := nI_of2 (M := 1) (n := 1) (by decide) h0 h1
  rcases Nat.lt_or_ge j 1 with z | z
  · exfalso; obtain rfl : j = 0 := by omega
    exact n rfl
  · obtain rfl : j = 1 := by omega
    rfl
theorem i_vc_degree {k : Nat} {u : SX} {v : SY} (I : i_Rel k u v) (hk : k + 5 ≤ 2560) (v1 : Int32) (v2 : Int32) : wpX_degree (fun r => wpY_degree (fun r' => r' = r ∧ i_Rel (k + 5) u v) v v1 v2) u v1 v2 := by
  obtain ⟨f_nodeSet, f_edgeSet, f_sought, f_wanted, f_weighing, f_found, f_lightest, f_heaviest, a_nodeLabel, a_nodeValue, a_edgesFrom, a_edgesTo, a_edgesOfType, a_edgeWeight, a_patternMode, a_spotSet, a_linkSet, a_spotLabels, a_spotLeast, a_spotGreatest, a_linkStart, a_linkEnd, a_linkTypes, a_linkKind, a_spotNodes, a_typedEdges, a_wayTargets, a_placed, a_linkEdges, a_taken, a_picked⟩ := u
  obtain ⟨f_base, f_many, a_nodeThere, a_labels, a_values, a_edgeThere, a_froms, a_tos, a_whats, a_patterns, a_parts, a_chosen⟩ := v
  have J := I
  obtain ⟨hN, ⟨e1, e2, hL⟩, hE, hP0, hP1⟩ := I
  unfold wpX_degree wpY_degree
  refine gx_isNode v1 (fun no => br_t rfl ?_) (fun j hj e hb => br_f gn_10 ?_)
  · exact gy_isNode v1 hN.1 (fun _ => br_t rfl ⟨rfl, J⟩) (fun j a b c => absurd ((gr_Nx hN).mpr ⟨j, a, b, c⟩) no)
  have yes : ∃ j, j < 12 ∧ v1 = nI j ∧ a_nodeThere j = 1 := (gr_Nx hN).mp ⟨j, hj, e, hb⟩
  subst e
  have c : (nI j).toNatClampNeg = j := nI_clamp (by omega)
  have w : vp_in (nI j) 16 := vp_in_nI (by omega) (by decide)
  by_cases n0 : v2 < 0
  · refine br_t n0 (gy_isNode (nI j) hN.1 (fun z => absurd yes z) (fun _ _ _ _ => br_f gn_10 (br_f (fun z => ?_) (br_f (fun z => ?_) ⟨rfl, J⟩))))
    · subst z; exact absurd n0 (by decide)
    · subst z; exact absurd n0 (by decide)
  refine br_f n0 ?_
  by_cases n1 : v2 ≤ 1
  · refine br_t n1 ?_
    by_cases z : v2 = 0
    · refine br_t z ⟨w, ?_⟩
      unfold wX_degree_38
      refine gx_size (gy_isNode (nI j) hN.1 (fun z => absurd yes z) (fun _ _ _ _ => br_f gn_10 (br_t z (gy_degree (g := a_froms) (by rw [if_pos z]) hE.1.1 ⟨?_, J⟩))))
      rw [c, gr_cnt (hE.2.2.1 j hj)]
    · refine br_f z ⟨w, ?_⟩
      unfold wX_degree_38
      refine gx_size (gy_isNode (nI j) hN.1 (fun z => absurd yes z) (fun _ _ _ _ => br_f gn_10 (br_f z (br_t (gr_01 n0 n1 z) (gy_degree (g := a_tos) (by rw [if_neg z]) hE.1.1 ⟨?_, J⟩)))))
      rw [c, gr_cnt (hE.2.2.2.1 j hj)]
  · refine br_f n1 (gy_isNode (nI j) hN.1 (fun z => absurd yes z) (fun _ _ _ _ => br_f gn_10 (br_f (fun z => ?_) (br_f (fun z => ?_) ⟨rfl, J⟩))))
    · subst z; exact n1 (by decide)
    · subst z; exact n1 (by decide)
theorem i_vc_reach {k : Nat} {u : SX} {v : SY} (I : i_Rel k u v) (hk : k + 5 ≤ 2560) (v1 : Int32) (v2 : Int32) (v3 : Int32) : wpX_reach (fun r => wpY_reach (fun r' => r' = r ∧ i_Rel (k + 5) u v) v v1 v2 v3) u v1 v2 v3 := by
  obtain ⟨f_nodeSet, f_edgeSet, f_sought, f_wanted, f_weighing, f_found, f_lightest, f_heaviest, a_nodeLabel, a_nodeValue, a_edgesFrom, a_edgesTo, a_edgesOfType, a_edgeWeight, a_patternMode, a_spotSet, a_linkSet, a_spotLabels, a_spotLeast, a_spotGreatest, a_linkStart, a_linkEnd, a_linkTypes, a_linkKind, a_spotNodes, a_typedEdges, a_wayTargets, a_placed, a_linkEdges, a_taken, a_picked⟩ := u
  obtain ⟨f_base, f_many, a_nodeThere, a_labels, a_values, a_edgeThere, a_froms, a_tos, a_whats, a_patterns, a_parts, a_chosen⟩ := v
  have J := I
  obtain ⟨hN, ⟨e1, e2, hL⟩, hE, hP0, hP1⟩ := I
  unfold wpX_reach wpY_reach
  refine gx_isNode v1 (fun no => br_t rfl ?_) (fun j hj e hb => br_f gn_10 ?_)
  · exact gy_isNode v1 hN.1 (fun _ => br_t rfl ⟨rfl, J⟩) (fun j a b c => absurd ((gr_Nx hN).mpr ⟨j, a, b, c⟩) no)
  have yes : ∃ j, j < 12 ∧ v1 = nI j ∧ a_nodeThere j = 1 := (gr_Nx hN).mp ⟨j, hj, e, hb⟩
  subst e
  by_cases c1 : v2 < 0
  · exact br_t c1 (gy_isNode (nI j) hN.1 (fun z => absurd yes z) (fun _ _ _ _ => br_f gn_10 (br_t c1 ⟨rfl, J⟩)))
  refine br_f c1 ?_
  by_cases c2 : 7 < v2
  · exact br_t c2 (gy_isNode (nI j) hN.1 (fun z => absurd yes z) (fun _ _ _ _ => br_f gn_10 (br_f c1 (br_t c2 ⟨rfl, J⟩))))
  refine br_f c2 ?_
  by_cases c3 : v3 < 1
  · exact br_t c3 (gy_isNode (nI j) hN.1 (fun z => absurd yes z) (fun _ _ _ _ => br_f gn_10 (br_f c1 (br_f c2 (br_t c3 ⟨rfl, J⟩)))))
  refine br_f c3 ?_
  by_cases c4 : v3 ≤ 3
  · have c0 : ¬ v3 < 0 := fun z => c3 (Int32.lt_trans z (by decide))
    obtain ⟨q, hq, rfl⟩ := nI_of2 (M := 3) (n := 3) (by decide) c0 c4
    have c4' : ¬ (3 : Int32) < nI q := Int32.not_lt.mpr c4
    refine br_t c4 (gx_ewt (fun r hr => gx_targets hE (gw_typed hE hr) (by omega) ?_))
    exact gy_isNode (nI j) hN.1 (fun z => absurd yes z) (fun _ _ _ _ => br_f gn_10 (br_f c1 (br_f c2 (br_f c3 (br_f c4' (gy_ways hE.1.1 (by omega) ⟨rfl, J⟩))))))
  · have c4' : (3 : Int32) < v3 := Int32.not_le.mp c4
    exact br_f c4 (gy_isNode (nI j) hN.1 (fun z => absurd yes z) (fun _ _ _ _ => br_f gn_10 (br_f c1 (br_f c2 (br_f c3 (br_t c4' ⟨rfl, J⟩))))))
theorem i_vc_nodes {k : Nat} {u : SX} {v : SY} (I : i_Rel k u v) (hk : k + 5 ≤ 2560) : wpX_nodes (fun r => wpY_nodes (fun r' => r' = r ∧ i_Rel (k + 5) u v) v) u := by
  obtain ⟨f_nodeSet, f_edgeSet, f_sought, f_wanted, f_weighing, f_found, f_lightest, f_heaviest, a_nodeLabel, a_nodeValue, a_edgesFrom, a_edgesTo, a_edgesOfType, a_edgeWeight, a_patternMode, a_spotSet, a_linkSet, a_spotLabels, a_spotLeast, a_spotGreatest, a_linkStart, a_linkEnd, a_linkTypes, a_linkKind, a_spotNodes, a_typedEdges, a_wayTargets, a_placed, a_linkEdges, a_taken, a_picked⟩ := u
  obtain ⟨f_base, f_many, a_nodeThere, a_labels, a_values, a_edgeThere, a_froms, a_tos, a_whats, a_patterns, a_parts, a_chosen⟩ := v
  have J := I
  obtain ⟨hN, ⟨e1, e2, hL⟩, hE, hP0, hP1⟩ := I
  unfold wpX_nodes
  refine gy_nodes (fun r hr => ⟨gb_ext (fun i hi => ?_), J⟩)
  rw [hr i hi, hN.2 i hi]
  constructor
  · rintro ⟨n, hn, rfl, q⟩
    exact ⟨hn, (hN.1 i).resolve_left q⟩
  · rintro ⟨hn, q⟩
    exact ⟨i, hn, rfl, fun z => gn_10 (q.symm.trans z)⟩
