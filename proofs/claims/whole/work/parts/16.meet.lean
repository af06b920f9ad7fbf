/-! both sides against the list of matches -/
theorem gr_gy {b : Nat} {pm ss ls sl so sg lst len lty lki pat : Nat → Int32} (hb : b < 2) (hP : gr_P b pm ss ls sl so sg lst len lty lki pat) : gy_P b pat :=
  ⟨hb, hP.2.1, fun j hj h => by
    obtain ⟨_, _, q3, q4, _, _, q7⟩ := gp_links hP hj h
    exact ⟨q7, q3, q4⟩⟩
theorem gx_fin1 {L D : List (Nat → Nat)} (h : gx_Fin (-1) L D) : D = L := by
  rcases h with h | ⟨k, rest, hk, e, _⟩
  · exact h.1
  · exfalso
    have := nI_pos (n := k) (by omega)
    rw [← e] at this
    exact this (by decide)
theorem gx_fin2 {L D : List (Nat → Nat)} {k : Nat} (hk : k < 1000) (h : gx_Fin (nI k) L D) : (D = L ∧ D.length ≤ k) ∨ (∃ rest, L = D ++ rest ∧ k < D.length ∧ D.length < 2 ^ 31) := by
  rcases h with ⟨e, h⟩ | ⟨k', rest, hk', e, h1, h2, h3⟩
  · rcases h with h | ⟨k', hk', e', h⟩
    · exfalso
      have := nI_pos (n := k) (by omega)
      rw [h] at this
      exact this (by decide)
    · rw [nI_eq (by omega) (by omega)] at e'
      subst e'
      exact Or.inl ⟨e, h⟩
  · rw [nI_eq (by omega) (by omega)] at e
    subst e
    exact Or.inr ⟨rest, h1, h2, h3⟩
theorem gx_tick2 {wa : Int32} {ew : Nat → Int32} {a : gx_A} {s : Nat → Nat} (hw : ¬ wa = (-1)) : gx_tick wa 0 ew a s = (a.1 + 1, a.2.1, a.2.2.1, if a.1 = wa then gx_pick s a.2.2.2 8 else a.2.2.2) := by
  unfold gx_tick
  rw [if_pos rfl, if_neg hw]
theorem gx_fp1 {k : Nat} {ew : Nat → Int32} (hw : ¬ nI k = (-1)) : ∀ (D : List (Nat → Nat)) (a : gx_A) (i : Nat), a.1 = nI i → k < i → i + D.length < 2 ^ 31 → (gx_fold (nI k) 0 ew a D).2.2.2 = a.2.2.2
  | [], a, i, _, _, _ => rfl
  | s :: D, a, i, ea, hi, hl => by
    rw [List.length_cons] at hl
    show (gx_fold (nI k) 0 ew (gx_tick (nI k) 0 ew a s) D).2.2.2 = _
    rw [gx_fp1 hw D _ (i + 1) (by rw [gx_tick2 hw]; show a.1 + 1 = _; rw [ea, nI_1]) (by omega) (by omega), gx_tick2 hw]
    show (if a.1 = nI k then _ else _) = _
    rw [ea, if_neg (fun z => by rw [nI_eq (by omega) (by omega)] at z; omega)]
theorem gx_fp2 {k : Nat} {ew : Nat → Int32} (hw : ¬ nI k = (-1)) : ∀ (D : List (Nat → Nat)) (a : gx_A) (i : Nat), a.1 = nI i → i ≤ k → k < i + D.length → i + D.length < 2 ^ 31 → ∃ m, D[k - i]? = some m ∧ ∀ q, q < 8 → (gx_fold (nI k) 0 ew a D).2.2.2 q = nI (m q)
  | [], a, i, _, h1, h2, _ => by
    rw [List.length_nil] at h2
    omega
  | s :: D, a, i, ea, h1, h2, hl => by
    rw [List.length_cons] at hl h2
    have e1 : (gx_tick (nI k) 0 ew a s).1 = nI (i + 1) := by rw [gx_tick2 hw]; show a.1 + 1 = _; rw [ea, nI_1]
    by_cases z : i = k
    · subst z
      refine ⟨s, by rw [Nat.sub_self]; rfl, fun q hq => ?_⟩
      show (gx_fold (nI i) 0 ew (gx_tick (nI i) 0 ew a s) D).2.2.2 q = _
      rw [gx_fp1 hw D _ (i + 1) e1 (by omega) (by omega), gx_tick2 hw]
      show (if a.1 = nI i then gx_pick s a.2.2.2 8 else a.2.2.2) q = _
      rw [if_pos ea]
      exact if_pos hq
    · obtain ⟨m, hm1, hm2⟩ := gx_fp2 hw D (gx_tick (nI k) 0 ew a s) (i + 1) e1 (by omega) (by omega) (by omega)
      refine ⟨m, ?_, hm2⟩
      rw [show k - i = (k - (i + 1)) + 1 by omega, List.getElem?_cons_succ]
      exact hm1
/-! leaves -/
theorem gq_scan_mem {α : Type} {f : Nat → List α} {m : α} : ∀ r c, m ∈ gq_scan f c r → ∃ i, c ≤ i ∧ i < c + r ∧ m ∈ f i
  | 0, _, h => nomatch h
  | r + 1, c, h => by
    rcases List.mem_append.mp (show m ∈ f c ++ gq_scan f (c + 1) r from h) with z | z
    · exact ⟨c, by omega, by omega, z⟩
    · obtain ⟨i, h1, h2, h3⟩ := gq_scan_mem r (c + 1) z
      exact ⟨i, by omega, by omega, h3⟩
theorem gq_Emem {pr : Nat → Prop} {ok : Nat → (Nat → Nat) → Nat → Prop} : ∀ d s, d ≤ 8 → gx_SB pr (8 - d) s → ∀ m, m ∈ gq_E pr ok d s → gx_SB pr 8 m
  | 0, s, _, hs, m, h => by
    rw [List.mem_singleton.mp (show m ∈ [s] from h)]
    exact hs
  | d + 1, s, hd, hs, m, h => by
    have e : 8 - d = (7 - d) + 1 := by omega
    rw [show d + 1 = 8 - (7 - d) by omega] at h
    rw [show 8 - (d + 1) = 7 - d by omega] at hs
    by_cases hp : pr (7 - d)
    · rw [gq_Ep (by omega) hp] at h
      obtain ⟨c, _, hc, hm⟩ := gq_scan_mem _ _ h
      by_cases o : ok (7 - d) s c
      · rw [gq_g1 o, show 7 - (7 - d) = d by omega] at hm
        refine gq_Emem d _ (by omega) ?_ m hm
        rw [e]
        exact gx_SBu hs ⟨fun _ => by omega, fun z => absurd hp z⟩
      · rw [gq_g0 o] at hm
        exact nomatch hm
    · rw [gq_En (by omega) hp, show 7 - (7 - d) = d by omega] at h
      refine gq_Emem d _ (by omega) ?_ m h
      rw [e]
      exact gx_SBu hs ⟨fun z => absurd z hp, fun _ => rfl⟩
/-! weights -/
theorem gz_t {es : Int32} {eF eO eY ew eT fr to wh : Nat → Int32} {pr : Nat → Prop} {m : Nat → Nat} {q : Nat} (hE : gr_E es eF eO eY ew eT fr to wh) (hSB : gx_SB pr 8 m) (h4 : 4 ≤ q) (h8 : q < 8) : gy_ws pr wh m (q + 1) = gy_ws pr wh m q + ew (m q) ∧ ∃ v, v ≤ 20 ∧ ew (m q) = nI v := by
  obtain ⟨hD, _, _, _, _, h6, h7⟩ := hE
  by_cases hp : pr q
  · have hm := (hSB q h8).1 hp
    have := gq_lim20 q
    have e := h6 (m q) (by omega)
    constructor
    · show (bif gq_b (pr q ∧ 4 ≤ q) then _ else _) = _
      rw [gq_bt ⟨hp, h4⟩, e]
      rfl
    · obtain ⟨w, hw, ew'⟩ := hD.2.2.2 (m q)
      refine ⟨w / 3, by omega, ?_⟩
      rw [e, ew']
      exact pk_div (a := w) (d := 3) (by omega) (by decide) (by decide)
  · have hm := (hSB q h8).2 hp
    have hst : gq_st q = 16 + q := if_neg (by omega)
    rw [hst] at hm
    have e := h7 (m q) (by omega) (by omega)
    constructor
    · show (bif gq_b (pr q ∧ 4 ≤ q) then _ else _) = _
      rw [gq_bf (fun z => hp z.1), e, Int32.add_zero]
      rfl
    · exact ⟨0, by omega, e⟩
theorem gz_t0 {wh : Nat → Int32} {pr : Nat → Prop} {m : Nat → Nat} : ∀ q, q ≤ 4 → gy_ws pr wh m q = 0
  | 0, _ => rfl
  | q + 1, h => by
    show (bif gq_b (pr q ∧ 4 ≤ q) then _ else _) = _
    rw [gq_bf (fun z => by omega)]
    exact gz_t0 q (by omega)
theorem gz_w {es : Int32} {eF eO eY ew eT fr to wh : Nat → Int32} {pr : Nat → Prop} {m : Nat → Nat} (hE : gr_E es eF eO eY ew eT fr to wh) (hSB : gx_SB pr 8 m) : gx_wt ew m = gy_ws pr wh m 8 ∧ ∃ v, v ≤ 80 ∧ gx_wt ew m = nI v := by
  obtain ⟨a4, v4, l4, b4⟩ := gz_t hE hSB (q := 4) (by omega) (by omega)
  obtain ⟨a5, v5, l5, b5⟩ := gz_t hE hSB (q := 5) (by omega) (by omega)
  obtain ⟨a6, v6, l6, b6⟩ := gz_t hE hSB (q := 6) (by omega) (by omega)
  obtain ⟨a7, v7, l7, b7⟩ := gz_t hE hSB (q := 7) (by omega) (by omega)
  constructor
  · rw [a7, a6, a5, a4, gz_t0 4 (by omega), Int32.zero_add]
    rfl
  · refine ⟨v4 + v5 + v6 + v7, by omega, ?_⟩
    unfold gx_wt
    rw [b4, b5, b6, b7, nI_add, nI_add, nI_add]
theorem gz_keep {w0 : Int32} {e w : Nat} (he : e < 2 ^ 31) (hw : w < 2 ^ 31) : gy_keep w0 (nI e) (nI w) = (if w0 = 0 then (if nI e ≤ nI w then nI e else nI w) else (if nI w ≤ nI e then nI e else nI w)) ∧ ∃ v, v < 2 ^ 31 ∧ gy_keep w0 (nI e) (nI w) = nI v := by
  have h0 : gy_keep w0 (nI e) (nI w) = (if w0 = 0 then (if nI e ≤ nI w then nI e else nI w) else (if nI w ≤ nI e then nI e else nI w)) := by
    unfold gy_keep
    rw [if_neg (nI_pos he)]
  refine ⟨h0, ?_⟩
  rw [h0]
  split
  · split
    · exact ⟨e, he, rfl⟩
    · exact ⟨w, hw, rfl⟩
  · split
    · exact ⟨e, he, rfl⟩
    · exact ⟨w, hw, rfl⟩
theorem gz_fold {ew : Nat → Int32} {g : (Nat → Nat) → Int32} : ∀ (L : List (Nat → Nat)) (f : Int32) (pk : Nat → Int32) (l h : Nat), (∀ m, m ∈ L → gx_wt ew m = g m ∧ ∃ v, v ≤ 80 ∧ gx_wt ew m = nI v) → l < 2 ^ 31 → h < 2 ^ 31 →
    (gx_fold (-1) 1 ew (f, nI l, nI h, pk) L).2.1 = L.foldl (fun e m => gy_keep 0 e (g m)) (nI l) ∧ (gx_fold (-1) 1 ew (f, nI l, nI h, pk) L).2.2.1 = L.foldl (fun e m => gy_keep 1 e (g m)) (nI h) ∧ ∃ v, v < 2 ^ 31 ∧ (gx_fold (-1) 1 ew (f, nI l, nI h, pk) L).2.2.1 = nI v
  | [], f, pk, l, h, _, hl, hh => ⟨rfl, rfl, h, hh, rfl⟩
  | m :: L, f, pk, l, h, hm, hl, hh => by
    obtain ⟨e, v, hv, ev⟩ := hm m (List.mem_cons_self)
    have egv : g m = nI v := e.symm.trans ev
    obtain ⟨k0, l', hl', el'⟩ := gz_keep (w0 := 0) (e := l) (w := v) hl (by omega)
    obtain ⟨k1, h', hh', eh'⟩ := gz_keep (w0 := 1) (e := h) (w := v) hh (by omega)
    rw [if_pos rfl] at k0
    rw [if_neg gn_10] at k1
    have et : gx_tick (-1) 1 ew (f, nI l, nI h, pk) m = (f, nI l', nI h', pk) := by
      unfold gx_tick
      rw [if_neg gn_10, ev, ← el', ← eh', k0, k1]
    have ih := gz_fold (g := g) L f pk l' h' (fun m' hm' => hm m' (List.mem_cons_of_mem _ hm')) hl' hh'
    show (gx_fold (-1) 1 ew (gx_tick (-1) 1 ew (f, nI l, nI h, pk) m) L).2.1 = L.foldl _ (gy_keep 0 (nI l) (g m)) ∧ (gx_fold (-1) 1 ew (gx_tick (-1) 1 ew (f, nI l, nI h, pk) m) L).2.2.1 = L.foldl _ (gy_keep 1 (nI h) (g m)) ∧ ∃ v, v < 2 ^ 31 ∧ (gx_fold (-1) 1 ew (gx_tick (-1) 1 ew (f, nI l, nI h, pk) m) L).2.2.1 = nI v
    rw [et, egv, el', eh']
    exact ih
theorem gz_first {ew : Nat → Int32} {g : (Nat → Nat) → Int32} {m : Nat → Nat} {L : List (Nat → Nat)} {f : Int32} {pk : Nat → Int32} (hm : ∀ m', m' ∈ m :: L → gx_wt ew m' = g m' ∧ ∃ v, v ≤ 80 ∧ gx_wt ew m' = nI v) :
    (gx_fold (-1) 1 ew (f, 1000, (-1), pk) (m :: L)).2.1 = (m :: L).foldl (fun e m => gy_keep 0 e (g m)) (-1) ∧ (gx_fold (-1) 1 ew (f, 1000, (-1), pk) (m :: L)).2.2.1 = (m :: L).foldl (fun e m => gy_keep 1 e (g m)) (-1) ∧ ¬ (gx_fold (-1) 1 ew (f, 1000, (-1), pk) (m :: L)).2.2.1 = (-1) := by
  obtain ⟨e, v, hv, ev⟩ := hm m (List.mem_cons_self)
  have egv : g m = nI v := e.symm.trans ev
  have et : gx_tick (-1) 1 ew (f, 1000, (-1), pk) m = (f, nI v, nI v, pk) := by
    unfold gx_tick
    rw [if_neg gn_10, ev]
    show (f, (if (1000 : Int32) ≤ nI v then (1000 : Int32) else nI v), (if nI v ≤ (-1 : Int32) then (-1 : Int32) else nI v), pk) = _
    have n1 : ¬ (1000 : Int32) ≤ nI v := nI_ge (b := 1000) (by omega) (by decide)
    have n2 : ¬ nI v ≤ (-1 : Int32) := fun z => nI_pos (n := v) (by omega) (Int32.lt_of_le_of_lt z (by decide))
    rw [if_neg n1, if_neg n2]
  have k0 : ∀ w0, gy_keep w0 (-1) (g m) = nI v := fun w0 => by
    unfold gy_keep
    rw [if_pos (by decide), egv]
  obtain ⟨i1, i2, u, hu, i3⟩ := gz_fold (ew := ew) (g := g) L f pk v v (fun m' hm' => hm m' (List.mem_cons_of_mem _ hm')) (by omega) (by omega)
  show (gx_fold (-1) 1 ew (gx_tick (-1) 1 ew (f, 1000, (-1), pk) m) L).2.1 = L.foldl _ (gy_keep 0 (-1) (g m)) ∧ (gx_fold (-1) 1 ew (gx_tick (-1) 1 ew (f, 1000, (-1), pk) m) L).2.2.1 = L.foldl _ (gy_keep 1 (-1) (g m)) ∧ ¬ (gx_fold (-1) 1 ew (gx_tick (-1) 1 ew (f, 1000, (-1), pk) m) L).2.2.1 = (-1)
  rw [et, k0, k0]
  refine ⟨i1, i2, ?_⟩
  rw [i3]
  intro z
  have := nI_pos hu
  rw [z] at this
  exact this (by decide)
/-! keeping the pattern -/
section GZK
variable {f_nodeSet f_edgeSet f_sought f_wanted f_weighing f_found f_lightest f_heaviest : Int32} {a_nodeLabel a_nodeValue a_edgesFrom a_edgesTo a_edgesOfType a_edgeWeight a_patternMode a_spotSet a_linkSet a_spotLabels a_spotLeast a_spotGreatest a_linkStart a_linkEnd a_linkTypes a_linkKind a_spotNodes a_typedEdges a_wayTargets a_placed a_linkEdges a_taken a_picked : Nat → Int32}
theorem gx_copy {post : SX → Prop} (h : ∀ pm ss ls sl so sg lst len lty lki, pm 0 = a_patternMode 0 → pm 1 = a_patternMode 0 → ss 0 = a_spotSet 0 → ss 1 = a_spotSet 0 → ls 0 = a_linkSet 0 → ls 1 = a_linkSet 0 →
    (∀ i, i < 4 → sl i = a_spotLabels i ∧ so i = a_spotLeast i ∧ sg i = a_spotGreatest i) → (∀ i, i < 4 → sl (4 + i) = a_spotLabels i ∧ so (4 + i) = a_spotLeast i ∧ sg (4 + i) = a_spotGreatest i) →
    (∀ i, i < 4 → lst i = a_linkStart i ∧ len i = a_linkEnd i ∧ lty i = a_linkTypes i ∧ lki i = a_linkKind i) → (∀ i, i < 4 → lst (4 + i) = a_linkStart i ∧ len (4 + i) = a_linkEnd i ∧ lty (4 + i) = a_linkTypes i ∧ lki (4 + i) = a_linkKind i) →
    post (f_nodeSet, f_edgeSet, f_sought, f_wanted, f_weighing, f_found, f_lightest, f_heaviest, a_nodeLabel, a_nodeValue, a_edgesFrom, a_edgesTo, a_edgesOfType, a_edgeWeight, pm, ss, ls, sl, so, sg, lst, len, lty, lki, a_spotNodes, a_typedEdges, a_wayTargets, a_placed, a_linkEdges, a_taken, a_picked)) : wpX_copyHandToKept post (f_nodeSet, f_edgeSet, f_sought, f_wanted, f_weighing, f_found, f_lightest, f_heaviest, a_nodeLabel, a_nodeValue, a_edgesFrom, a_edgesTo, a_edgesOfType, a_edgeWeight, a_patternMode, a_spotSet, a_linkSet, a_spotLabels, a_spotLeast, a_spotGreatest, a_linkStart, a_linkEnd, a_linkTypes, a_linkKind, a_spotNodes, a_typedEdges, a_wayTargets, a_placed, a_linkEdges, a_taken, a_picked) := by
  refine nm_e (nm_e (nm_e ?_))
  refine loop_0 (fun n i (z : (Nat → Int32) × (Nat → Int32) × (Nat → Int32)) => wX_copyHandToKept_38 post f_nodeSet f_edgeSet f_sought f_wanted f_weighing f_found f_lightest f_heaviest n (nI i) a_nodeLabel a_nodeValue a_edgesFrom a_edgesTo a_edgesOfType a_edgeWeight (upd a_patternMode 1 (a_patternMode 0)) (upd a_spotSet 1 (a_spotSet 0)) (upd a_linkSet 1 (a_linkSet 0)) z.1 z.2.1 z.2.2 a_linkStart a_linkEnd a_linkTypes a_linkKind a_spotNodes a_typedEdges a_wayTargets a_placed a_linkEdges a_taken a_picked)
    (fun i z => (∀ q, q < 4 → z.1 q = a_spotLabels q ∧ z.2.1 q = a_spotLeast q ∧ z.2.2 q = a_spotGreatest q) ∧ (∀ q, q < i → z.1 (4 + q) = a_spotLabels q ∧ z.2.1 (4 + q) = a_spotLeast q ∧ z.2.2 (4 + q) = a_spotGreatest q)) 4 (a_spotLabels, a_spotLeast, a_spotGreatest) ⟨fun _ _ => ⟨rfl, rfl, rfl⟩, fun q hq => absurd hq (Nat.not_lt_zero q)⟩ (fun n z I => br_t (nI_le (a := 4) (by omega) (by decide)) ?_) (fun n i z hi I ih => ?_)
  · refine loop_0 (fun n i (y : (Nat → Int32) × (Nat → Int32) × (Nat → Int32) × (Nat → Int32)) => wX_copyHandToKept_99 post f_nodeSet f_edgeSet f_sought f_wanted f_weighing f_found f_lightest f_heaviest n (nI i) a_nodeLabel a_nodeValue a_edgesFrom a_edgesTo a_edgesOfType a_edgeWeight (upd a_patternMode 1 (a_patternMode 0)) (upd a_spotSet 1 (a_spotSet 0)) (upd a_linkSet 1 (a_linkSet 0)) z.1 z.2.1 z.2.2 y.1 y.2.1 y.2.2.1 y.2.2.2 a_spotNodes a_typedEdges a_wayTargets a_placed a_linkEdges a_taken a_picked)
      (fun i y => (∀ q, q < 4 → y.1 q = a_linkStart q ∧ y.2.1 q = a_linkEnd q ∧ y.2.2.1 q = a_linkTypes q ∧ y.2.2.2 q = a_linkKind q) ∧ (∀ q, q < i → y.1 (4 + q) = a_linkStart q ∧ y.2.1 (4 + q) = a_linkEnd q ∧ y.2.2.1 (4 + q) = a_linkTypes q ∧ y.2.2.2 (4 + q) = a_linkKind q)) 4 (a_linkStart, a_linkEnd, a_linkTypes, a_linkKind) ⟨fun _ _ => ⟨rfl, rfl, rfl, rfl⟩, fun q hq => absurd hq (Nat.not_lt_zero q)⟩ (fun n y Iy => br_t (nI_le (a := 4) (by omega) (by decide)) (h _ _ _ z.1 z.2.1 z.2.2 y.1 y.2.1 y.2.2.1 y.2.2.2 (pk_un (by omega)) pk_us (pk_un (by omega)) pk_us (pk_un (by omega)) pk_us I.1 I.2 Iy.1 Iy.2)) (fun n i y hi Iy ih => ?_)
    obtain ⟨y1, y2, y3, y4⟩ := y
    obtain ⟨J1, J2⟩ := Iy
    dsimp only at J1 J2
    have c : (nI i).toNatClampNeg = i := nI_clamp (by omega)
    have e0 : (0 : Int32) + nI i = nI i := Int32.zero_add _
    have e4 : (4 : Int32) + nI i = nI (4 + i) := nI_add 4 i
    have c4 : (nI (4 + i)).toNatClampNeg = 4 + i := nI_clamp (by omega)
    have w0 : vp_in (0 + nI i) 8 := by rw [e0]; exact vp_in_nI (by omega) (by decide)
    have w4 : vp_in (4 + nI i) 8 := by rw [e4]; exact vp_in_nI (by omega) (by decide)
    refine br_f (nI_ge (b := 4) hi (by decide)) ⟨w0, w4, nm_r (e' := upd y1 (4 + i) (y1 i)) (by rw [e0, e4, c, c4]) ⟨w0, w4, nm_r (e' := upd y2 (4 + i) (y2 i)) (by rw [e0, e4, c, c4]) ⟨w0, w4, nm_r (e' := upd y3 (4 + i) (y3 i)) (by rw [e0, e4, c, c4]) ⟨w0, w4, nm_r (e' := upd y4 (4 + i) (y4 i)) (by rw [e0, e4, c, c4]) (nm_r (nI_1 i) (ih (upd y1 (4 + i) (y1 i), upd y2 (4 + i) (y2 i), upd y3 (4 + i) (y3 i), upd y4 (4 + i) (y4 i)) ⟨fun q hq => ?_, fun q hq => ?_⟩))⟩⟩⟩⟩
    · dsimp only
      rw [pk_un (by omega), pk_un (by omega), pk_un (by omega), pk_un (by omega)]; exact J1 q hq
    · dsimp only
      by_cases e : q = i
      · subst e; rw [pk_us, pk_us, pk_us, pk_us]; exact J1 q hi
      · rw [pk_un (by omega), pk_un (by omega), pk_un (by omega), pk_un (by omega)]; exact J2 q (by omega)
  · obtain ⟨y1, y2, y3⟩ := z
    obtain ⟨J1, J2⟩ := I
    dsimp only at J1 J2
    have c : (nI i).toNatClampNeg = i := nI_clamp (by omega)
    have e0 : (0 : Int32) + nI i = nI i := Int32.zero_add _
    have e4 : (4 : Int32) + nI i = nI (4 + i) := nI_add 4 i
    have c4 : (nI (4 + i)).toNatClampNeg = 4 + i := nI_clamp (by omega)
    have w0 : vp_in (0 + nI i) 8 := by rw [e0]; exact vp_in_nI (by omega) (by decide)
    have w4 : vp_in (4 + nI i) 8 := by rw [e4]; exact vp_in_nI (by omega) (by decide)
    refine br_f (nI_ge (b := 4) hi (by decide)) ⟨w0, w4, nm_r (e' := upd y1 (4 + i) (y1 i)) (by rw [e0, e4, c, c4]) ⟨w0, w4, nm_r (e' := upd y2 (4 + i) (y2 i)) (by rw [e0, e4, c, c4]) ⟨w0, w4, nm_r (e' := upd y3 (4 + i) (y3 i)) (by rw [e0, e4, c, c4]) (nm_r (nI_1 i) (ih (upd y1 (4 + i) (y1 i), upd y2 (4 + i) (y2 i), upd y3 (4 + i) (y3 i)) ⟨fun q hq => ?_, fun q hq => ?_⟩))⟩⟩⟩
    · dsimp only
      rw [pk_un (by omega), pk_un (by omega), pk_un (by omega)]; exact J1 q hq
    · dsimp only
      by_cases e : q = i
      · subst e; rw [pk_us, pk_us, pk_us]; exact J1 q hi
      · rw [pk_un (by omega), pk_un (by omega), pk_un (by omega)]; exact J2 q (by omega)
theorem gx_isPart {post : Int32 → Prop} {a_patterns : Nat → Int32} (v : Int32) (hP : gr_P 0 a_patternMode a_spotSet a_linkSet a_spotLabels a_spotLeast a_spotGreatest a_linkStart a_linkEnd a_linkTypes a_linkKind a_patterns) (h0 : (¬ ∃ q, q < 8 ∧ v = nI q ∧ gp_pr 0 a_patterns q) → post 0) (h1 : ∀ q, q < 8 → v = nI q → gp_pr 0 a_patterns q → post 1) : wpX_isPart post (f_nodeSet, f_edgeSet, f_sought, f_wanted, f_weighing, f_found, f_lightest, f_heaviest, a_nodeLabel, a_nodeValue, a_edgesFrom, a_edgesTo, a_edgesOfType, a_edgeWeight, a_patternMode, a_spotSet, a_linkSet, a_spotLabels, a_spotLeast, a_spotGreatest, a_linkStart, a_linkEnd, a_linkTypes, a_linkKind, a_spotNodes, a_typedEdges, a_wayTargets, a_placed, a_linkEdges, a_taken, a_picked) v := by
  by_cases n0 : v < 0
  · refine br_t n0 (h0 ?_)
    rintro ⟨q, hq, rfl, _⟩
    exact nI_pos (by omega) n0
  obtain ⟨q, hq, rfl⟩ := nI_of n0
  have no : ¬ gp_pr 0 a_patterns q → ¬ ∃ r, r < 8 ∧ nI q = nI r ∧ gp_pr 0 a_patterns r := by
    rintro z ⟨r, hr, e, y⟩
    rw [nI_eq hq (by omega)] at e
    subst e
    exact z y
  refine br_f n0 ?_
  by_cases h8 : q < 8
  · refine br_t (nI_lt (b := 8) h8 (by decide)) ?_
    by_cases h4 : 4 ≤ q
    · obtain ⟨j, rfl⟩ : ∃ j, q = 4 + j := ⟨q - 4, by omega⟩
      have hj : j < 4 := by omega
      refine br_t (nI_le (a := 4) h4 hq) ?_
      have e4 : nI (4 + j) - 4 = nI j := by
        have := pk_sub (a := 4 + j) (b := 4) (by omega)
        rw [show 4 + j - 4 = j by omega] at this
        exact this
      rw [e4]
      have K := hP.2.2.2 j hj
      have ei : (0 : Int32) * 4 + nI j = nI (4 * 0 + j) := gx_ix (b := 0)
      have w : vp_in (0 * 4 + nI j) 8 := by rw [ei]; exact vp_in_nI (by omega) (by decide)
      refine ⟨vp_in_nI (n := 0) (by omega) (by decide), ?_⟩
      refine gx_hasb (by omega) (fun hb => ⟨w, ?_⟩) (fun hb => ⟨gn_n0, h0 (no (fun z => ?_))⟩)
      · have k17 := K.2.1.mp hb
        obtain ⟨ab, hab, q1, q2, q3, q4, q5, q6, q7, q8⟩ := K.2.2 k17
        rw [ei, nI_clamp (by omega), q5]
        exact br_c (fun z => ⟨gn_n1, h1 (4 + j) h8 rfl ((gp_pr8 hj).mpr ⟨k17, z⟩)⟩) (fun z => ⟨gn_n0, h0 (no (fun y => z ((gp_pr8 hj).mp y).2))⟩)
      · exact Bool.false_ne_true (hb.symm.trans (K.2.1.mpr ((gp_pr8 hj).mp z).1))
    · refine br_f (nI_ge (b := 4) (by omega) (by decide)) ?_
      have S := hP.2.2.1 q (by omega)
      refine gx_has (by omega) (fun hb => ⟨gn_n1, h1 q h8 rfl ((gp_pr4 (by omega)).mpr (S.2.1.mp hb))⟩) (fun hb => ⟨gn_n0, h0 (no (fun z => ?_))⟩)
      exact Bool.false_ne_true (hb.symm.trans (S.2.1.mpr ((gp_pr4 (by omega)).mp z)))
  · refine br_f (nI_nlt (b := 8) (by omega) hq) (h0 (no (fun z => ?_)))
    unfold gp_pr at z
    omega
end GZK
def gy_kp (pat : Nat → Int32) (i : Nat) : Nat → Int32 := fun c => if 33 ≤ c ∧ c < 33 + i then pat (c - 33) else pat c
section GZY
variable {f_base f_many : Int32} {a_nodeThere a_labels a_values a_edgeThere a_froms a_tos a_whats a_patterns a_parts a_chosen : Nat → Int32}
theorem gy_keepc {post : Int32 → SY → Prop} (h : wpY_kept post (f_base, f_many, a_nodeThere, a_labels, a_values, a_edgeThere, a_froms, a_tos, a_whats, gy_kp a_patterns 33, a_parts, a_chosen)) : wpY_keep post (f_base, f_many, a_nodeThere, a_labels, a_values, a_edgeThere, a_froms, a_tos, a_whats, a_patterns, a_parts, a_chosen) := by
  refine loop_0 (fun n i pat => wY_keep_2 post f_base f_many n (nI i) a_nodeThere a_labels a_values a_edgeThere a_froms a_tos a_whats pat a_parts a_chosen) (fun i pat => pat = gy_kp a_patterns i) 33 a_patterns (funext fun c => (if_neg (by omega)).symm) (fun n pat I => ?_) (fun n i pat hi I ih => ?_)
  · subst I
    exact br_t (nI_le (a := 33) (by omega) (by decide)) h
  · subst I
    have c : (nI i).toNatClampNeg = i := nI_clamp (by omega)
    have e : (33 : Int32) + nI i = nI (33 + i) := nI_add 33 i
    have c2 : (nI (33 + i)).toNatClampNeg = 33 + i := nI_clamp (by omega)
    refine br_f (nI_ge (b := 33) hi (by decide)) ⟨vp_in_nI (by omega) (by decide), by rw [e]; exact vp_in_nI (by omega) (by decide), nm_r (e' := gy_kp a_patterns (i + 1)) ?_ (nm_r (nI_1 i) (ih _ rfl))⟩
    rw [e, c2, c]
    funext q
    by_cases z : q = 33 + i
    · subst z
      rw [pk_us]
      unfold gy_kp
      rw [if_neg (by omega), if_pos (by omega), show 33 + i - 33 = i by omega]
    · rw [pk_un z]
      unfold gy_kp
      by_cases y : 33 ≤ q ∧ q < 33 + i
      · rw [if_pos y, if_pos (by omega)]
      · rw [if_neg y, if_neg (by omega)]
end GZY
