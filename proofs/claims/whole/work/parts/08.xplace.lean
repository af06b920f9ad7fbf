/-! the component's search: the nodes that a spot may have -/
def gp_ok (pr l1 : Nat → Prop) (la lb : Nat → Nat) (sp : Nat → Nat → Prop) (wy : Nat → Nat → Nat → Prop) (ed : Nat → Nat → Nat → Nat → Prop) (dn de : Prop) (p : Nat) (s : Nat → Nat) (c : Nat) : Prop :=
  (p < 4 → sp p c ∧ (dn → ∀ q, q < p → pr q → s q ≠ c) ∧ (∀ j, j < 4 → l1 j → la j ≤ p → lb j ≤ p → (la j = p ∨ lb j = p) → wy j (gq_up s p c (la j)) (gq_up s p c (lb j)))) ∧
  (4 ≤ p → ed (p - 4) c (s (la (p - 4))) (s (lb (p - 4))) ∧ (de → ∀ q, q < p → 4 ≤ q → pr q → s q ≠ c))
def gx_H (b : Nat) (pr l1 : Nat → Prop) (la lb : Nat → Nat) (sp : Nat → Nat → Prop) (wy : Nat → Nat → Nat → Prop) (ed : Nat → Nat → Nat → Nat → Prop) (dn de : Prop) (pm ls lst len lki eF eO spN tyE wT : Nat → Int32) : Prop :=
  (∀ j, la j < 4 ∧ lb j < 4) ∧
  (∀ i, i < 4 → ∀ n, n < 16 → (bt (spN i) n = true ↔ (pr i ∧ n < 12 ∧ sp i n) ∨ (¬ pr i ∧ n = 12 + i))) ∧
  (∀ j, j < 4 → (bt (ls b) j = true ↔ pr (4 + j) ∨ l1 j)) ∧
  (∀ j, j < 4 → (pr (4 + j) ∨ l1 j) → lst (4 * b + j) = nI (la j) ∧ len (4 * b + j) = nI (lb j) ∧ pr (la j) ∧ pr (lb j)) ∧
  (∀ j, j < 4 → pr (4 + j) → ¬ lki (4 * b + j) = 1) ∧ (∀ j, j < 4 → l1 j → lki (4 * b + j) = 1) ∧
  (∀ j, j < 4 → l1 j → ∀ a, a < 12 → ∀ c, c < 12 → (bt (wT (16 * j + a)) c = true ↔ wy j a c)) ∧
  (∀ j, j < 4 → pr (4 + j) → ∀ a, a < 12 → ∀ c, c < 12 → ∀ e, e < 32 → (bt ((eF a &&& eO c) &&& tyE j) e = true ↔ e < 20 ∧ ed j e a c)) ∧
  ((pm b &&& 1) = 0 ↔ ¬ dn) ∧ ((pm b &&& 2) = 0 ↔ ¬ de) ∧ b < 2
def gx_set (eF eO tyE : Nat → Int32) (la lb : Nat → Nat) (j : Nat) (s : Nat → Nat) : Int32 := (eF (s (la j)) &&& eO (s (lb j))) &&& tyE j
def gx_LE (pr : Nat → Prop) (la lb : Nat → Nat) (eF eO tyE : Nat → Int32) (i : Nat) (s : Nat → Nat) (le : Nat → Int32) : Prop :=
  ∀ j, j < 4 → (¬ pr (4 + j) → le j = (1 : Int32) <<< (nI (20 + j) &&& 31)) ∧ (pr (4 + j) → la j < i → lb j < i → le j = gx_set eF eO tyE la lb j s)
def gx_PL (i : Nat) (s : Nat → Nat) (pl : Nat → Int32) : Prop := ∀ h, h < i → pl h = nI (s h)
def gx_TK (i : Nat) (s : Nat → Nat) (tk : Nat → Int32) : Prop := ∀ h, h < i → tk h = nI (s (4 + h))
def gx_SB (pr : Nat → Prop) (p : Nat) (s : Nat → Nat) : Prop := ∀ q, q < p → (pr q → s q < gq_lim q) ∧ (¬ pr q → s q = gq_st q)
theorem gx_ix {b j : Nat} : nI b * 4 + nI j = nI (4 * b + j) := by
  rw [show (4 : Int32) = nI 4 from rfl, pk_mul, nI_add, Nat.mul_comm]
theorem gx_ix16 {b j : Nat} : nI b * 16 + nI j = nI (16 * b + j) := by
  rw [show (16 : Int32) = nI 16 from rfl, pk_mul, nI_add, Nat.mul_comm]
theorem gq_lim4 {p : Nat} (h : p < 4) : gq_lim p = 12 := if_pos h
theorem gq_st4 {p : Nat} (h : p < 4) : gq_st p = 12 + p := if_pos h
theorem gq_lim8 {j : Nat} : gq_lim (4 + j) = 20 := if_neg (by omega)
theorem gq_st8 {j : Nat} : gq_st (4 + j) = 20 + j := by unfold gq_st; rw [if_neg (by omega)]; omega
theorem gx_PLu {i n : Nat} {s : Nat → Nat} {pl : Nat → Int32} (h : gx_PL i s pl) : gx_PL (i + 1) (gq_up s i n) (upd pl i (nI n)) := fun q hq => by
  by_cases e : q = i
  · subst e; rw [pk_us, gq_us]
  · rw [pk_un e, gq_un e]; exact h q (by omega)
theorem gx_PLk {i n : Nat} {s : Nat → Nat} {pl : Nat → Int32} (h : gx_PL (i + 1) (gq_up s i n) pl) : gx_PL i s pl := fun q hq => by
  have := h q (by omega)
  rw [gq_un (by omega)] at this
  exact this
theorem gx_LEk {pr : Nat → Prop} {la lb : Nat → Nat} {eF eO tyE : Nat → Int32} {i n : Nat} {s : Nat → Nat} {le : Nat → Int32} (h : gx_LE pr la lb eF eO tyE i (gq_up s i n) le) : gx_LE pr la lb eF eO tyE i s le := fun j hj => ⟨(h j hj).1, fun hp ha hb => by
  rw [(h j hj).2 hp ha hb]
  unfold gx_set
  rw [gq_un (by omega), gq_un (by omega)]⟩
theorem gx_LEw {pr : Nat → Prop} {la lb : Nat → Nat} {eF eO tyE : Nat → Int32} {i k : Nat} (hk : k ≤ i) {s : Nat → Nat} {le : Nat → Int32} (h : gx_LE pr la lb eF eO tyE i s le) : gx_LE pr la lb eF eO tyE k s le := fun j hj => ⟨(h j hj).1, fun hp ha hb => (h j hj).2 hp (by omega) (by omega)⟩
theorem gx_SBu {pr : Nat → Prop} {p c : Nat} {s : Nat → Nat} (h : gx_SB pr p s) (hc : (pr p → c < gq_lim p) ∧ (¬ pr p → c = gq_st p)) : gx_SB pr (p + 1) (gq_up s p c) := fun q hq => by
  by_cases e : q = p
  · subst e; rw [gq_us]; exact hc
  · rw [gq_un e]; exact h q (by omega)
section GXP
variable {b : Nat} {pr l1 : Nat → Prop} {la lb : Nat → Nat} {sp : Nat → Nat → Prop} {wy : Nat → Nat → Nat → Prop} {ed : Nat → Nat → Nat → Nat → Prop} {dn de : Prop} {f_nodeSet f_edgeSet f_wanted f_weighing f_found f_lightest f_heaviest : Int32} {a_nodeLabel a_nodeValue a_edgesFrom a_edgesTo a_edgesOfType a_edgeWeight a_patternMode a_spotSet a_linkSet a_spotLabels a_spotLeast a_spotGreatest a_linkStart a_linkEnd a_linkTypes a_linkKind a_spotNodes a_typedEdges a_wayTargets a_placed a_linkEdges a_taken a_picked : Nat → Int32}
theorem gx_last {post : Int32 → Prop} {j : Nat} (hj : j < 4) (H : gx_H b pr l1 la lb sp wy ed dn de a_patternMode a_linkSet a_linkStart a_linkEnd a_linkKind a_edgesFrom a_edgesTo a_spotNodes a_typedEdges a_wayTargets) (hl : pr (4 + j) ∨ l1 j) (h : post (nI (if la j ≤ lb j then lb j else la j))) : wpX_lastSpot post (f_nodeSet, f_edgeSet, nI b, f_wanted, f_weighing, f_found, f_lightest, f_heaviest, a_nodeLabel, a_nodeValue, a_edgesFrom, a_edgesTo, a_edgesOfType, a_edgeWeight, a_patternMode, a_spotSet, a_linkSet, a_spotLabels, a_spotLeast, a_spotGreatest, a_linkStart, a_linkEnd, a_linkTypes, a_linkKind, a_spotNodes, a_typedEdges, a_wayTargets, a_placed, a_linkEdges, a_taken, a_picked) (nI j) := by
  obtain ⟨H0, _, _, H3, _, _, _, _, _, _, H10⟩ := H
  obtain ⟨e1, e2, _, _⟩ := H3 j hj hl
  have hla := (H0 j).1
  have hlb := (H0 j).2
  have c : (nI (4 * b + j)).toNatClampNeg = 4 * b + j := nI_clamp (by omega)
  have w : vp_in (nI b * 4 + nI j) 8 := by rw [gx_ix]; exact vp_in_nI (by omega) (by decide)
  refine ⟨w, nm_r (e' := nI (la j)) (by rw [gx_ix, c, e1]) ⟨w, nm_r (e' := nI (lb j)) (by rw [gx_ix, c, e2]) ?_⟩⟩
  by_cases q : la j ≤ lb j
  · rw [if_pos q] at h
    exact br_t (nI_le q (by omega)) h
  · rw [if_neg q] at h
    exact br_f (nI_ge (by omega) (by omega)) h
theorem gx_joins {post : Int32 → SX → Prop} {j : Nat} {s : Nat → Nat} (hj : j < 4) (H : gx_H b pr l1 la lb sp wy ed dn de a_patternMode a_linkSet a_linkStart a_linkEnd a_linkKind a_edgesFrom a_edgesTo a_spotNodes a_typedEdges a_wayTargets) (hl : pr (4 + j) ∨ l1 j) (ps : a_placed (la j) = nI (s (la j))) (pe : a_placed (lb j) = nI (s (lb j))) (sa : s (la j) < 12) (sb : s (lb j) < 12)
    (hw1 : l1 j → wy j (s (la j)) (s (lb j)) → post 1 (f_nodeSet, f_edgeSet, nI b, f_wanted, f_weighing, f_found, f_lightest, f_heaviest, a_nodeLabel, a_nodeValue, a_edgesFrom, a_edgesTo, a_edgesOfType, a_edgeWeight, a_patternMode, a_spotSet, a_linkSet, a_spotLabels, a_spotLeast, a_spotGreatest, a_linkStart, a_linkEnd, a_linkTypes, a_linkKind, a_spotNodes, a_typedEdges, a_wayTargets, a_placed, a_linkEdges, a_taken, a_picked)) (hw0 : l1 j → ¬ wy j (s (la j)) (s (lb j)) → post 0 (f_nodeSet, f_edgeSet, nI b, f_wanted, f_weighing, f_found, f_lightest, f_heaviest, a_nodeLabel, a_nodeValue, a_edgesFrom, a_edgesTo, a_edgesOfType, a_edgeWeight, a_patternMode, a_spotSet, a_linkSet, a_spotLabels, a_spotLeast, a_spotGreatest, a_linkStart, a_linkEnd, a_linkTypes, a_linkKind, a_spotNodes, a_typedEdges, a_wayTargets, a_placed, a_linkEdges, a_taken, a_picked))
    (he1 : pr (4 + j) → ¬ (gx_set a_edgesFrom a_edgesTo a_typedEdges la lb j s) = 0 → post 1 (f_nodeSet, f_edgeSet, nI b, f_wanted, f_weighing, f_found, f_lightest, f_heaviest, a_nodeLabel, a_nodeValue, a_edgesFrom, a_edgesTo, a_edgesOfType, a_edgeWeight, a_patternMode, a_spotSet, a_linkSet, a_spotLabels, a_spotLeast, a_spotGreatest, a_linkStart, a_linkEnd, a_linkTypes, a_linkKind, a_spotNodes, a_typedEdges, a_wayTargets, a_placed, upd a_linkEdges j (gx_set a_edgesFrom a_edgesTo a_typedEdges la lb j s), a_taken, a_picked)) (he0 : pr (4 + j) → (gx_set a_edgesFrom a_edgesTo a_typedEdges la lb j s) = 0 → post 0 (f_nodeSet, f_edgeSet, nI b, f_wanted, f_weighing, f_found, f_lightest, f_heaviest, a_nodeLabel, a_nodeValue, a_edgesFrom, a_edgesTo, a_edgesOfType, a_edgeWeight, a_patternMode, a_spotSet, a_linkSet, a_spotLabels, a_spotLeast, a_spotGreatest, a_linkStart, a_linkEnd, a_linkTypes, a_linkKind, a_spotNodes, a_typedEdges, a_wayTargets, a_placed, upd a_linkEdges j (gx_set a_edgesFrom a_edgesTo a_typedEdges la lb j s), a_taken, a_picked)) : wpX_joins post (f_nodeSet, f_edgeSet, nI b, f_wanted, f_weighing, f_found, f_lightest, f_heaviest, a_nodeLabel, a_nodeValue, a_edgesFrom, a_edgesTo, a_edgesOfType, a_edgeWeight, a_patternMode, a_spotSet, a_linkSet, a_spotLabels, a_spotLeast, a_spotGreatest, a_linkStart, a_linkEnd, a_linkTypes, a_linkKind, a_spotNodes, a_typedEdges, a_wayTargets, a_placed, a_linkEdges, a_taken, a_picked) (nI j) := by
  obtain ⟨H0, _, _, H3, H4, H5, H6, H7, _, _, H10⟩ := H
  obtain ⟨e1, e2, _, _⟩ := H3 j hj hl
  have hla := (H0 j).1
  have hlb := (H0 j).2
  have c : (nI (4 * b + j)).toNatClampNeg = 4 * b + j := nI_clamp (by omega)
  have w : vp_in (nI b * 4 + nI j) 8 := by rw [gx_ix]; exact vp_in_nI (by omega) (by decide)
  have ca : (nI (la j)).toNatClampNeg = la j := nI_clamp (by omega)
  have cb : (nI (lb j)).toNatClampNeg = lb j := nI_clamp (by omega)
  have cj : (nI j).toNatClampNeg = j := nI_clamp (by omega)
  have wj : vp_in (nI j) 4 := vp_in_nI hj (by decide)
  refine ⟨w, by rw [gx_ix, c, e1]; exact vp_in_nI hla (by decide), nm_r (e' := nI (s (la j))) (by rw [gx_ix, c, e1, ca, ps]) ⟨w, by rw [gx_ix, c, e2]; exact vp_in_nI hlb (by decide), nm_r (e' := nI (s (lb j))) (by rw [gx_ix, c, e2, cb, pe]) ⟨w, ?_⟩⟩⟩
  have ck : a_linkKind (nI b * 4 + nI j).toNatClampNeg = a_linkKind (4 * b + j) := by rw [gx_ix, c]
  rcases hl with hp | hl1
  · refine br_f (by rw [ck]; exact H4 j hj hp) ⟨vp_in_nI (by omega) (by decide), vp_in_nI (by omega) (by decide), wj, wj, nm_r (e' := upd a_linkEdges j (gx_set a_edgesFrom a_edgesTo a_typedEdges la lb j s)) ?_ ⟨wj, ?_⟩⟩
    · rw [cj, nI_clamp (by omega), nI_clamp (by omega)]
      rfl
    · rw [cj, pk_us]
      exact br_c (he0 hp) (he1 hp)
  · refine br_t (by rw [ck]; exact H5 j hj hl1) ⟨?_, ?_⟩
    · rw [gx_ix16]; exact vp_in_nI (by omega) (by decide)
    · rw [gx_ix16, nI_clamp (n := 16 * j + s (la j)) (by omega)]
      refine gx_has (by omega) (fun hb => ⟨gn_n1, hw1 hl1 ((H6 j hj hl1 _ sa _ sb).mp hb)⟩) (fun hb => ⟨gn_n0, hw0 hl1 (fun z => ?_)⟩)
      rw [(H6 j hj hl1 _ sa _ sb).mpr z] at hb
      exact Bool.false_ne_true hb.symm
theorem gx_p63 {post : Int32 → SX → Prop} {i : Nat} {s : Nat → Nat} (hi : i < 4) (H : gx_H b pr l1 la lb sp wy ed dn de a_patternMode a_linkSet a_linkStart a_linkEnd a_linkKind a_edgesFrom a_edgesTo a_spotNodes a_typedEdges a_wayTargets) (hpl : gx_PL (i + 1) s a_placed) (hs : ∀ q, q ≤ i → pr q → s q < 12)
    (h1 : ∀ le, gx_LE pr la lb a_edgesFrom a_edgesTo a_typedEdges (i + 1) s le → (∀ j, j < 4 → la j ≤ i → lb j ≤ i → (la j = i ∨ lb j = i) → l1 j → wy j (s (la j)) (s (lb j))) → post 1 (f_nodeSet, f_edgeSet, nI b, f_wanted, f_weighing, f_found, f_lightest, f_heaviest, a_nodeLabel, a_nodeValue, a_edgesFrom, a_edgesTo, a_edgesOfType, a_edgeWeight, a_patternMode, a_spotSet, a_linkSet, a_spotLabels, a_spotLeast, a_spotGreatest, a_linkStart, a_linkEnd, a_linkTypes, a_linkKind, a_spotNodes, a_typedEdges, a_wayTargets, a_placed, le, a_taken, a_picked))
    (h0 : ∀ le j, gx_LE pr la lb a_edgesFrom a_edgesTo a_typedEdges i s le → j < 4 → la j ≤ i → lb j ≤ i → (la j = i ∨ lb j = i) → (l1 j ∧ ¬ wy j (s (la j)) (s (lb j))) ∨ (pr (4 + j) ∧ (gx_set a_edgesFrom a_edgesTo a_typedEdges la lb j s) = 0) → post 0 (f_nodeSet, f_edgeSet, nI b, f_wanted, f_weighing, f_found, f_lightest, f_heaviest, a_nodeLabel, a_nodeValue, a_edgesFrom, a_edgesTo, a_edgesOfType, a_edgeWeight, a_patternMode, a_spotSet, a_linkSet, a_spotLabels, a_spotLeast, a_spotGreatest, a_linkStart, a_linkEnd, a_linkTypes, a_linkKind, a_spotNodes, a_typedEdges, a_wayTargets, a_placed, le, a_taken, a_picked)) :
    ∀ r n j le, j + r = 4 → r < n → gx_LE pr la lb a_edgesFrom a_edgesTo a_typedEdges i s le → (∀ q, q < j → pr (4 + q) → la q ≤ i → lb q ≤ i → le q = (gx_set a_edgesFrom a_edgesTo a_typedEdges la lb q s)) → (∀ q, q < j → la q ≤ i → lb q ≤ i → (la q = i ∨ lb q = i) → l1 q → wy q (s (la q)) (s (lb q))) →
      wX_place_63 post (nI i) n (nI j) f_nodeSet f_edgeSet (nI b) f_wanted f_weighing f_found f_lightest f_heaviest a_nodeLabel a_nodeValue a_edgesFrom a_edgesTo a_edgesOfType a_edgeWeight a_patternMode a_spotSet a_linkSet a_spotLabels a_spotLeast a_spotGreatest a_linkStart a_linkEnd a_linkTypes a_linkKind a_spotNodes a_typedEdges a_wayTargets a_placed le a_taken a_picked := by
  intro r
  induction r with
  | zero =>
    intro n j le hj hn hle hq hw
    obtain ⟨m, rfl⟩ : ∃ m, n = m + 1 := ⟨n - 1, by omega⟩
    obtain rfl : j = 4 := by omega
    refine br_t (nI_le (a := 4) (by omega) (by decide)) (h1 le (fun q hq4 => ⟨(hle q hq4).1, fun hp ha hb => hq q hq4 hp (by omega) (by omega)⟩) hw)
  | succ r ih =>
    intro n j le hj hn hle hq hw
    obtain ⟨m, rfl⟩ : ∃ m, n = m + 1 := ⟨n - 1, by omega⟩
    have hj4 : j < 4 := by omega
    have H' := H
    obtain ⟨H0, _, H2, H3, H4, H5, _, _, _, _, H10⟩ := H'
    have cb : (nI b).toNatClampNeg = b := nI_clamp (by omega)
    refine br_f (nI_ge (b := 4) hj4 (by decide)) ⟨vp_in_nI H10 (by decide), ?_⟩
    rw [cb]
    refine gx_hasb (by omega) (fun hb => ?_) (fun hb => ?_)
    · have hl := (H2 j hj4).mp hb
      obtain ⟨_, _, pa, pb⟩ := H3 j hj4 hl
      have hla := (H0 j).1
      have hlb := (H0 j).2
      refine gx_last hj4 H hl ?_
      refine pk_eq (if la j ≤ lb j then lb j else la j) i (fun e => ?_) (fun e => ?_) rfl rfl (by split <;> omega) (by omega)
      · have a1 : la j ≤ i := by split at e <;> omega
        have a2 : lb j ≤ i := by split at e <;> omega
        have a3 : la j = i ∨ lb j = i := by split at e <;> omega
        have sa := hs _ a1 pa
        have sb := hs _ a2 pb
        refine gx_joins (s := s) hj4 H hl (hpl _ (by omega)) (hpl _ (by omega)) sa sb ?_ ?_ ?_ ?_
        · intro q1 q2
          refine br_f gn_10 (nm_r (nI_1 j) (ih m (j + 1) le (by omega) (by omega) hle (fun q hqj hp ha hb => ?_) (fun q hqj ha hb hc hd => ?_)))
          · by_cases z : q = j
            · subst z; exact absurd (H5 q hj4 q1) (H4 q hj4 hp)
            · exact hq q (by omega) hp ha hb
          · by_cases z : q = j
            · subst z; exact q2
            · exact hw q (by omega) ha hb hc hd
        · intro q1 q2
          exact br_t rfl (h0 le j hle hj4 a1 a2 a3 (Or.inl ⟨q1, q2⟩))
        · intro q1 q2
          have lev : gx_LE pr la lb a_edgesFrom a_edgesTo a_typedEdges i s (upd le j (gx_set a_edgesFrom a_edgesTo a_typedEdges la lb j s)) := fun q hq4 => by
            by_cases z : q = j
            · subst z; exact ⟨fun np => absurd q1 np, fun _ _ _ => pk_us⟩
            · rw [pk_un z]; exact hle q hq4
          refine br_f gn_10 (nm_r (nI_1 j) (ih m (j + 1) _ (by omega) (by omega) lev (fun q hqj hp ha hb => ?_) (fun q hqj ha hb hc hd => ?_)))
          · by_cases z : q = j
            · subst z; exact pk_us
            · rw [pk_un z]; exact hq q (by omega) hp ha hb
          · by_cases z : q = j
            · subst z; exact absurd (H5 q hj4 hd) (H4 q hj4 q1)
            · exact hw q (by omega) ha hb hc hd
        · intro q1 q2
          have lev : gx_LE pr la lb a_edgesFrom a_edgesTo a_typedEdges i s (upd le j (gx_set a_edgesFrom a_edgesTo a_typedEdges la lb j s)) := fun q hq4 => by
            by_cases z : q = j
            · subst z; exact ⟨fun np => absurd q1 np, fun _ _ _ => pk_us⟩
            · rw [pk_un z]; exact hle q hq4
          exact br_t rfl (h0 _ j lev hj4 a1 a2 a3 (Or.inr ⟨q1, q2⟩))
      · refine nm_r (nI_1 j) (ih m (j + 1) le (by omega) (by omega) hle (fun q hqj hp ha hb => ?_) (fun q hqj ha hb hc hd => ?_))
        · by_cases z : q = j
          · subst z
            have : la q < i ∧ lb q < i := by split at e <;> omega
            exact (hle q hj4).2 hp this.1 this.2
          · exact hq q (by omega) hp ha hb
        · by_cases z : q = j
          · subst z; exfalso; split at e <;> omega
          · exact hw q (by omega) ha hb hc hd
    · have nl : ¬ (pr (4 + j) ∨ l1 j) := fun z => Bool.false_ne_true (hb.symm.trans ((H2 j hj4).mpr z))
      refine nm_r (nI_1 j) (ih m (j + 1) le (by omega) (by omega) hle (fun q hqj hp ha hb => ?_) (fun q hqj ha hb hc hd => ?_))
      · by_cases z : q = j
        · subst z; exact absurd (Or.inl hp) nl
        · exact hq q (by omega) hp ha hb
      · by_cases z : q = j
        · subst z; exact absurd (Or.inr hd) nl
        · exact hw q (by omega) ha hb hc hd
theorem gx_p38 {post : Int32 → SX → Prop} {i : Nat} {c : Int32} (hi : i < 4) {f_sought : Int32} (h1 : (∀ h, h < i → ¬ a_placed h = c) → ∃ n, wX_place_63 post (nI i) n 0 f_nodeSet f_edgeSet f_sought f_wanted f_weighing f_found f_lightest f_heaviest a_nodeLabel a_nodeValue a_edgesFrom a_edgesTo a_edgesOfType a_edgeWeight a_patternMode a_spotSet a_linkSet a_spotLabels a_spotLeast a_spotGreatest a_linkStart a_linkEnd a_linkTypes a_linkKind a_spotNodes a_typedEdges a_wayTargets a_placed a_linkEdges a_taken a_picked) (h0 : ∀ h, h < i → a_placed h = c → post 0 (f_nodeSet, f_edgeSet, f_sought, f_wanted, f_weighing, f_found, f_lightest, f_heaviest, a_nodeLabel, a_nodeValue, a_edgesFrom, a_edgesTo, a_edgesOfType, a_edgeWeight, a_patternMode, a_spotSet, a_linkSet, a_spotLabels, a_spotLeast, a_spotGreatest, a_linkStart, a_linkEnd, a_linkTypes, a_linkKind, a_spotNodes, a_typedEdges, a_wayTargets, a_placed, a_linkEdges, a_taken, a_picked)) : ∃ n, wX_place_38 post (nI i) c f_nodeSet f_edgeSet f_sought f_wanted f_weighing f_found f_lightest f_heaviest a_nodeLabel a_nodeValue a_edgesFrom a_edgesTo a_edgesOfType a_edgeWeight a_patternMode a_spotSet a_linkSet a_spotLabels a_spotLeast a_spotGreatest a_linkStart a_linkEnd a_linkTypes a_linkKind a_spotNodes a_typedEdges a_wayTargets a_placed a_linkEdges a_taken a_picked n 0 := by
  refine loop_0 (fun n h (_ : Unit) => wX_place_38 post (nI i) c f_nodeSet f_edgeSet f_sought f_wanted f_weighing f_found f_lightest f_heaviest a_nodeLabel a_nodeValue a_edgesFrom a_edgesTo a_edgesOfType a_edgeWeight a_patternMode a_spotSet a_linkSet a_spotLabels a_spotLeast a_spotGreatest a_linkStart a_linkEnd a_linkTypes a_linkKind a_spotNodes a_typedEdges a_wayTargets a_placed a_linkEdges a_taken a_picked n (nI h)) (fun h _ => ∀ q, q < h → ¬ a_placed q = c) i () (fun q hq => absurd hq (Nat.not_lt_zero q)) (fun n s I => ?_) (fun n h s hh I ih => ?_)
  · exact br_t (nI_le (by omega) (by omega)) (h1 I)
  · have e : (nI h).toNatClampNeg = h := nI_clamp (by omega)
    refine br_f (nI_ge hh (by omega)) ⟨vp_in_nI (by omega) (by decide), ?_⟩
    rw [e]
    refine br_c (h0 h hh) (fun z => nm_r (nI_1 h) (ih () (fun q hq => ?_)))
    by_cases y : q = h
    · subst y; exact z
    · exact I q (by omega)
theorem gx_place {post : Int32 → SX → Prop} {i n : Nat} {s : Nat → Nat} (hi : i < 4) (hn : n < 16) (H : gx_H b pr l1 la lb sp wy ed dn de a_patternMode a_linkSet a_linkStart a_linkEnd a_linkKind a_edgesFrom a_edgesTo a_spotNodes a_typedEdges a_wayTargets) (hPL : gx_PL i s a_placed) (hSB : gx_SB pr i s) (hLE : gx_LE pr la lb a_edgesFrom a_edgesTo a_typedEdges i s a_linkEdges)
    (h1 : ∀ pl le, gx_PL (i + 1) (gq_up s i n) pl → gx_SB pr (i + 1) (gq_up s i n) → gx_LE pr la lb a_edgesFrom a_edgesTo a_typedEdges (i + 1) (gq_up s i n) le → gq_f pr (gp_ok pr l1 la lb sp wy ed dn de) i s n = gq_E pr (gp_ok pr l1 la lb sp wy ed dn de) (7 - i) (gq_up s i n) → post 1 (f_nodeSet, f_edgeSet, nI b, f_wanted, f_weighing, f_found, f_lightest, f_heaviest, a_nodeLabel, a_nodeValue, a_edgesFrom, a_edgesTo, a_edgesOfType, a_edgeWeight, a_patternMode, a_spotSet, a_linkSet, a_spotLabels, a_spotLeast, a_spotGreatest, a_linkStart, a_linkEnd, a_linkTypes, a_linkKind, a_spotNodes, a_typedEdges, a_wayTargets, pl, le, a_taken, a_picked))
    (h0 : ∀ pl le, gx_PL i s pl → gx_LE pr la lb a_edgesFrom a_edgesTo a_typedEdges i s le → gq_f pr (gp_ok pr l1 la lb sp wy ed dn de) i s n = [] → post 0 (f_nodeSet, f_edgeSet, nI b, f_wanted, f_weighing, f_found, f_lightest, f_heaviest, a_nodeLabel, a_nodeValue, a_edgesFrom, a_edgesTo, a_edgesOfType, a_edgeWeight, a_patternMode, a_spotSet, a_linkSet, a_spotLabels, a_spotLeast, a_spotGreatest, a_linkStart, a_linkEnd, a_linkTypes, a_linkKind, a_spotNodes, a_typedEdges, a_wayTargets, pl, le, a_taken, a_picked)) : wpX_place post (f_nodeSet, f_edgeSet, nI b, f_wanted, f_weighing, f_found, f_lightest, f_heaviest, a_nodeLabel, a_nodeValue, a_edgesFrom, a_edgesTo, a_edgesOfType, a_edgeWeight, a_patternMode, a_spotSet, a_linkSet, a_spotLabels, a_spotLeast, a_spotGreatest, a_linkStart, a_linkEnd, a_linkTypes, a_linkKind, a_spotNodes, a_typedEdges, a_wayTargets, a_placed, a_linkEdges, a_taken, a_picked) (nI i) (nI n) := by
  have H' := H
  obtain ⟨H0, H1, H2, H3, H4, H5, H6, H7, H8, _, H10⟩ := H'
  have ci : (nI i).toNatClampNeg = i := nI_clamp (by omega)
  have cb : (nI b).toNatClampNeg = b := nI_clamp (by omega)
  have wi : vp_in (nI i) 4 := vp_in_nI hi (by decide)
  have nokx : ∀ (P : Prop), (gq_okx pr (gp_ok pr l1 la lb sp wy ed dn de) i s n → False) → (gq_f pr (gp_ok pr l1 la lb sp wy ed dn de) i s n = [] → P) → P := fun P q r => r (gq_f0 q)
  refine ⟨wi, ?_⟩
  rw [ci]
  refine gx_hasb (by omega) (fun hb => ?_) (fun hb => ?_)
  · have hc := (H1 i hi n hn).mp hb
    have hPL' : gx_PL (i + 1) (gq_up s i n) (upd a_placed i (nI n)) := gx_PLu hPL
    have hSB' : gx_SB pr (i + 1) (gq_up s i n) := gx_SBu hSB (by
      rw [gq_lim4 hi, gq_st4 hi]
      rcases hc with z | z
      · exact ⟨fun _ => z.2.1, fun w => absurd z.1 w⟩
      · exact ⟨fun w => absurd w z.1, fun _ => z.2⟩)
    have hs : ∀ q, q ≤ i → pr q → gq_up s i n q < 12 := fun q hq hp => by
      have := (hSB' q (by omega)).1 hp
      rw [gq_lim4 (by omega)] at this
      exact this
    have hLE' : gx_LE pr la lb a_edgesFrom a_edgesTo a_typedEdges i (gq_up s i n) a_linkEdges := fun j hj => ⟨(hLE j hj).1, fun hp ha hb => by
      rw [(hLE j hj).2 hp ha hb]
      unfold gx_set
      rw [gq_un (by omega), gq_un (by omega)]⟩
    have main : (dn → ∀ q, q < i → pr q → s q ≠ n) → ∃ f, wX_place_63 post (nI i) f 0 f_nodeSet f_edgeSet (nI b) f_wanted f_weighing f_found f_lightest f_heaviest a_nodeLabel a_nodeValue a_edgesFrom a_edgesTo a_edgesOfType a_edgeWeight a_patternMode a_spotSet a_linkSet a_spotLabels a_spotLeast a_spotGreatest a_linkStart a_linkEnd a_linkTypes a_linkKind a_spotNodes a_typedEdges a_wayTargets (upd a_placed i (nI n)) a_linkEdges a_taken a_picked := by
      intro hd
      refine ⟨5, gx_p63 (s := gq_up s i n) hi H hPL' hs ?_ ?_ 4 5 0 a_linkEdges (by omega) (by omega) hLE' (fun q hq => absurd hq (Nat.not_lt_zero q)) (fun q hq => absurd hq (Nat.not_lt_zero q))⟩
      · intro le hle hw
        refine h1 _ le hPL' hSB' hle (gq_f1 ?_)
        rcases hc with z | z
        · refine Or.inl ⟨z.1, by rw [gq_lim4 hi]; exact z.2.1, fun _ => ⟨z.2.2, hd, fun j hj hl ha hb hab => hw j hj ha hb hab hl⟩, fun z => by omega⟩
        · exact Or.inr ⟨z.1, by rw [gq_st4 hi]; exact z.2⟩
      · intro le j hle hj ha hb hab hbad
        refine h0 _ le (gx_PLk hPL') (gx_LEk hle) ?_
        by_cases o : gq_okx pr (gp_ok pr l1 la lb sp wy ed dn de) i s n
        · rcases hbad with ⟨q1, q2⟩ | ⟨q1, q2⟩
          · exfalso
            rcases o with o | o
            · exact q2 ((o.2.2.1 hi).2.2 j hj q1 ha hb hab)
            · obtain ⟨_, _, pa, pb⟩ := H3 j hj (Or.inr q1)
              rcases hab with z | z
              · rw [z] at pa; exact o.1 pa
              · rw [z] at pb; exact o.1 pb
          · rw [gq_f1 o]
            obtain ⟨_, _, pa, pb⟩ := H3 j hj (Or.inl q1)
            refine gq_prune (q := 4 + j) (a := la j) (b := lb j) (va := gq_up s i n (la j)) (vb := gq_up s i n (lb j)) (by omega) q1 ?_ (7 - i) _ (by omega) (by omega) (by omega) (by omega) rfl rfl
            intro t ta tb c hc ho
            have ho' := (ho.2 (by omega)).1
            rw [show 4 + j - 4 = j by omega, ta, tb] at ho'
            rw [gq_lim8] at hc
            have hbit := (H7 j hj q1 _ (hs _ ha pa) _ (hs _ hb pb) c (by omega)).mpr ⟨hc, ho'⟩
            unfold gx_set at q2
            rw [q2, b_0] at hbit
            exact Bool.false_ne_true hbit
        · exact gq_f0 o
    refine ⟨wi, nm_r (e' := upd a_placed i (nI n)) rfl ⟨vp_in_nI H10 (by decide), ?_⟩⟩
    rw [cb]
    refine br_c (fun z => ?_) (fun z => ?_)
    · exact main (fun d => absurd d (H8.mp z))
    · refine gx_p38 hi (fun hh => main (fun _ q hq hp e => ?_)) (fun h hh e => ?_)
      · refine hh q hq ?_
        rw [pk_un (by omega), hPL q hq, e]
      · rw [pk_un (by omega), hPL h hh] at e
        refine h0 _ _ (gx_PLk hPL') hLE (gq_f0 ?_)
        have dn' : dn := Classical.byContradiction (fun w => z (H8.mpr w))
        have sh := hSB h hh
        rw [gq_lim4 (by omega), gq_st4 (by omega)] at sh
        have shb : s h < 16 := by
          by_cases ph : pr h
          · have := sh.1 ph; omega
          · have := sh.2 ph; omega
        rw [nI_eq (by omega) (by omega)] at e
        rintro (o | o)
        · have hlt := o.2.1
          rw [gq_lim4 hi] at hlt
          by_cases ph : pr h
          · exact (o.2.2.1 hi).2.1 dn' h hh ph e
          · have := sh.2 ph; omega
        · have hst := o.2
          rw [gq_st4 hi] at hst
          by_cases ph : pr h
          · have := sh.1 ph; omega
          · have := sh.2 ph; omega
  · refine h0 _ _ hPL hLE (gq_f0 ?_)
    intro o
    have : bt (a_spotNodes i) n = true := (H1 i hi n hn).mpr (by
      rcases o with o | o
      · have := o.2.1
        rw [gq_lim4 hi] at this
        exact Or.inl ⟨o.1, this, (o.2.2.1 hi).1⟩
      · have := o.2
        rw [gq_st4 hi] at this
        exact Or.inr ⟨o.1, this⟩)
    rw [hb] at this
    exact Bool.false_ne_true this
end GXP
