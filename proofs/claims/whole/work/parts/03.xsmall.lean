/-! sets built by or -/
def ga_acc (Q : Nat → Nat → Prop) (k : Nat) (x : Int32) : Prop := ∀ i, i < 32 → (bt x i = true ↔ ∃ t, t < k ∧ Q t i)
theorem ga_0 {Q : Nat → Nat → Prop} : ga_acc Q 0 0 := fun i _ => by
  rw [b_0]
  exact ⟨fun z => absurd z Bool.false_ne_true, fun ⟨t, ht, _⟩ => absurd ht (Nat.not_lt_zero t)⟩
theorem ga_or {Q : Nat → Nat → Prop} {k : Nat} {x y : Int32} (h : ga_acc Q k x) (hy : ∀ i, i < 32 → (bt y i = true ↔ Q k i)) : ga_acc Q (k + 1) (x ||| y) := fun i hi => by
  rw [b_or, Bool.or_eq_true, h i hi, hy i hi]
  constructor
  · rintro (⟨t, ht, q⟩ | q)
    · exact ⟨t, by omega, q⟩
    · exact ⟨k, by omega, q⟩
  · rintro ⟨t, ht, q⟩
    by_cases e : t = k
    · subst e; exact Or.inr q
    · exact Or.inl ⟨t, by omega, q⟩
theorem ga_no {Q : Nat → Nat → Prop} {k : Nat} {x : Int32} (h : ga_acc Q k x) (hn : ∀ i, i < 32 → ¬ Q k i) : ga_acc Q (k + 1) x := fun i hi => by
  rw [h i hi]
  constructor
  · rintro ⟨t, ht, q⟩
    exact ⟨t, by omega, q⟩
  · rintro ⟨t, ht, q⟩
    by_cases e : t = k
    · subst e; exact absurd q (hn i hi)
    · exact ⟨t, by omega, q⟩
theorem ga_bit {n : Nat} (hn : n < 32) {Q : Nat → Prop} (h : ∀ i, i < 32 → (Q i ↔ i = n)) : ∀ i, i < 32 → (bt ((1 : Int32) <<< (nI n &&& 31)) i = true ↔ Q i) := fun i hi => by
  rw [gb_sb hn hi, h i hi, decide_eq_true_iff]
/-! X: the small methods -/
theorem gx_has {post : Int32 → Prop} {s : Int32} {m : Nat} (hm : m < 32) (h1 : bt s m = true → post 1) (h0 : bt s m = false → post 0) : wpX_has post s (nI m) :=
  ⟨fun z => h0 ((gb_bit0 s hm).mp z), fun z => h1 (by
    cases e : bt s m
    · exact absurd ((gb_bit0 s hm).mpr e) z
    · rfl)⟩
theorem gx_hasb {A B : Prop} {s : Int32} {m : Nat} (hm : m < 32) (h1 : bt s m = true → B) (h0 : bt s m = false → A) : wpX_has (fun r => (r = 0 → A) ∧ (¬ r = 0 → B)) s (nI m) :=
  gx_has hm (fun z => br_f gn_10 (h1 z)) (fun z => br_t rfl (h0 z))
theorem gx_size {post : Int32 → Prop} {x : Int32} (h : post (nI (gc_n (bt x) 24))) : wpX_size post x := by
  refine loop_0 (fun n i s => wX_size_4 post x n s (nI i)) (fun i s => s = nI (gc_n (bt x) i)) 24 0 rfl (fun n s I => ?_) (fun n i s hi I ih => ?_)
  · subst I
    exact br_t (nI_le (a := 24) (by omega) (by decide)) h
  · subst I
    refine br_f (nI_ge (b := 24) hi (by decide)) (nm_r (e' := nI (gc_n (bt x) (i + 1))) ?_ (nm_r (nI_1 i) (ih _ rfl)))
    rw [gb_bit x (by omega)]
    show _ = nI (gc_n (bt x) i + (bif bt x i then 1 else 0))
    cases bt x i
    · rw [if_neg Bool.false_ne_true, Int32.add_zero]; rfl
    · rw [if_pos rfl, nI_1]; rfl
theorem gx_lm {post : Int32 → Prop} {x : Int32} (L : Nat) (hL : L < 32) (h : ∀ m, m ≤ L → (∀ i, i < m → bt x i = true) → (m < L → bt x m = false) → post (nI m)) : wpX_leastMissing post x (nI L) := by
  refine loop_0 (fun n i (_ : Unit) => wX_leastMissing_2 post x (nI L) n (nI i)) (fun i _ => ∀ k, k < i → bt x k = true) L () (fun k hk => absurd hk (Nat.not_lt_zero k)) (fun n s I => ?_) (fun n i s hi I ih => ?_)
  · exact br_t (nI_le (by omega) (by omega)) (h L (Nat.le_refl L) I (fun z => absurd z (Nat.lt_irrefl L)))
  · refine br_f (nI_ge hi (by omega)) (gx_hasb (by omega) (fun hb => nm_r (nI_1 i) (ih () (fun k hk => ?_))) (fun hb => h i (by omega) I (fun _ => hb)))
    by_cases e : k = i
    · rw [e, hb]
    · exact I k (by omega)
def gv_ok (l v : Int32) : Prop := (∃ j, j < 4 ∧ l = nI j) ∧ ¬ v < (-99) ∧ ¬ 99 < v
theorem gx_lv {post : Int32 → Prop} (l v : Int32) (h1 : gv_ok l v → post 1) (h0 : ¬ gv_ok l v → post 0) : wpX_isLabelAndValue post l v := by
  refine br_c (fun z => h0 ?_) (fun z => br_c (fun y => h0 ?_) (fun y => br_c (fun x => h0 (fun w => w.2.1 x)) (fun x => br_c (fun w => h0 (fun q => q.2.2 w)) (fun w => h1 ⟨?_, x, w⟩))))
  · rintro ⟨⟨j, hj, rfl⟩, _⟩
    exact nI_pos (by omega) z
  · rintro ⟨⟨j, hj, rfl⟩, _⟩
    exact nI_ge (b := 4) hj (by decide) y
  · obtain ⟨j, hj, rfl⟩ := nI_of z
    refine ⟨j, ?_, rfl⟩
    apply Classical.byContradiction
    intro q
    exact y (nI_le (a := 4) (by omega) hj)
theorem gy_lv {post : Int32 → Prop} {f_base f_many : Int32} {a_nodeThere a_labels a_values a_edgeThere a_froms a_tos a_whats a_patterns a_parts a_chosen : Nat → Int32} (l v : Int32) (h1 : gv_ok l v → post 1) (h0 : ¬ gv_ok l v → post 0) : wpY_fine post (f_base, f_many, a_nodeThere, a_labels, a_values, a_edgeThere, a_froms, a_tos, a_whats, a_patterns, a_parts, a_chosen) l v := by
  refine br_c (fun z => h0 ?_) (fun z => br_c (fun y => h0 ?_) (fun y => br_c (fun x => h0 (fun w => w.2.1 x)) (fun x => br_c (fun w => h0 (fun q => q.2.2 w)) (fun w => h1 ⟨?_, x, w⟩))))
  · rintro ⟨⟨j, hj, rfl⟩, _⟩
    exact nI_pos (by omega) z
  · rintro ⟨⟨j, hj, rfl⟩, _⟩
    exact nI_nlt (b := j) (a := 3) (by omega) (by decide) y
  · obtain ⟨j, hj, rfl⟩ := nI_of z
    refine ⟨j, ?_, rfl⟩
    apply Classical.byContradiction
    intro q
    exact y (nI_lt (a := 3) (by omega) hj)
section GX
variable {f_nodeSet f_edgeSet f_sought f_wanted f_weighing f_found f_lightest f_heaviest : Int32} {a_nodeLabel a_nodeValue a_edgesFrom a_edgesTo a_edgesOfType a_edgeWeight a_patternMode a_spotSet a_linkSet a_spotLabels a_spotLeast a_spotGreatest a_linkStart a_linkEnd a_linkTypes a_linkKind a_spotNodes a_typedEdges a_wayTargets a_placed a_linkEdges a_taken a_picked : Nat → Int32}
theorem gx_isNode {post : Int32 → Prop} (v : Int32) (h0 : (¬ ∃ j, j < 12 ∧ v = nI j ∧ bt f_nodeSet j = true) → post 0) (h1 : ∀ j, j < 12 → v = nI j → bt f_nodeSet j = true → post 1) : wpX_isNode post (f_nodeSet, f_edgeSet, f_sought, f_wanted, f_weighing, f_found, f_lightest, f_heaviest, a_nodeLabel, a_nodeValue, a_edgesFrom, a_edgesTo, a_edgesOfType, a_edgeWeight, a_patternMode, a_spotSet, a_linkSet, a_spotLabels, a_spotLeast, a_spotGreatest, a_linkStart, a_linkEnd, a_linkTypes, a_linkKind, a_spotNodes, a_typedEdges, a_wayTargets, a_placed, a_linkEdges, a_taken, a_picked) v := by
  refine br_c (fun z => h0 ?_) (fun z => ?_)
  · rintro ⟨j, hj, rfl, _⟩
    exact nI_pos (by omega) z
  · obtain ⟨j, hj, rfl⟩ := nI_of z
    by_cases h : j < 12
    · refine br_f (nI_ge (b := 12) h (by decide)) (gx_hasb (by omega) (fun hb => h1 j h rfl hb) (fun hb => h0 ?_))
      rintro ⟨i, hi, e, q⟩
      rw [← (nI_eq hj (by omega)).mp e, hb] at q
      exact Bool.false_ne_true q
    · refine br_t (nI_le (a := 12) (by omega) hj) (h0 ?_)
      rintro ⟨i, hi, e, q⟩
      have := (nI_eq hj (by omega)).mp e
      omega
theorem gx_ewt {post : Int32 → Prop} {ty : Int32} (h : ∀ r, ga_acc (fun t i => bt ty t = true ∧ bt (a_edgesOfType t) i = true) 3 r → post r) : wpX_edgesWithTypes post (f_nodeSet, f_edgeSet, f_sought, f_wanted, f_weighing, f_found, f_lightest, f_heaviest, a_nodeLabel, a_nodeValue, a_edgesFrom, a_edgesTo, a_edgesOfType, a_edgeWeight, a_patternMode, a_spotSet, a_linkSet, a_spotLabels, a_spotLeast, a_spotGreatest, a_linkStart, a_linkEnd, a_linkTypes, a_linkKind, a_spotNodes, a_typedEdges, a_wayTargets, a_placed, a_linkEdges, a_taken, a_picked) ty := by
  refine loop_0 (fun n i s => wX_edgesWithTypes_4 post ty f_nodeSet f_edgeSet f_sought f_wanted f_weighing f_found f_lightest f_heaviest a_nodeLabel a_nodeValue a_edgesFrom a_edgesTo a_edgesOfType a_edgeWeight a_patternMode a_spotSet a_linkSet a_spotLabels a_spotLeast a_spotGreatest a_linkStart a_linkEnd a_linkTypes a_linkKind a_spotNodes a_typedEdges a_wayTargets a_placed a_linkEdges a_taken a_picked n s (nI i)) (ga_acc (fun t i => bt ty t = true ∧ bt (a_edgesOfType t) i = true)) 3 0 ga_0 (fun n s I => br_t (nI_le (a := 3) (by omega) (by decide)) (h s I)) (fun n i s hi I ih => ?_)
  have c : (nI i).toNatClampNeg = i := nI_clamp (by omega)
  refine br_f (nI_ge (b := 3) hi (by decide)) (gx_hasb (by omega) (fun hb => ⟨vp_in_nI hi (by omega), nm_r (e' := s ||| a_edgesOfType i) (by rw [c]) (nm_r (nI_1 i) (ih _ (ga_or I (fun k hk => ?_))))⟩) (fun hb => nm_r (nI_1 i) (ih _ (ga_no I (fun k hk q => ?_)))))
  · exact ⟨fun z => ⟨hb, z⟩, fun z => z.2⟩
  · rw [hb] at q
    exact Bool.false_ne_true q.1
theorem gx_step {post : Int32 → Prop} {st ed : Int32} (h : ∀ r, ga_acc (fun n i => i = n ∧ ∃ e, e < 32 ∧ bt (a_edgesTo n) e = true ∧ ∃ m, m < 12 ∧ bt st m = true ∧ bt (a_edgesFrom m) e = true ∧ bt ed e = true) 12 r → post r) : wpX_stepFrom post (f_nodeSet, f_edgeSet, f_sought, f_wanted, f_weighing, f_found, f_lightest, f_heaviest, a_nodeLabel, a_nodeValue, a_edgesFrom, a_edgesTo, a_edgesOfType, a_edgeWeight, a_patternMode, a_spotSet, a_linkSet, a_spotLabels, a_spotLeast, a_spotGreatest, a_linkStart, a_linkEnd, a_linkTypes, a_linkKind, a_spotNodes, a_typedEdges, a_wayTargets, a_placed, a_linkEdges, a_taken, a_picked) st ed := by
  refine loop_0 (fun n i s => wX_stepFrom_5 post st ed f_nodeSet f_edgeSet f_sought f_wanted f_weighing f_found f_lightest f_heaviest a_nodeLabel a_nodeValue a_edgesFrom a_edgesTo a_edgesOfType a_edgeWeight a_patternMode a_spotSet a_linkSet a_spotLabels a_spotLeast a_spotGreatest a_linkStart a_linkEnd a_linkTypes a_linkKind a_spotNodes a_typedEdges a_wayTargets a_placed a_linkEdges a_taken a_picked n s (nI i)) (ga_acc (fun m e => bt st m = true ∧ bt (a_edgesFrom m) e = true ∧ bt ed e = true)) 12 0 ga_0 (fun n l Il => br_t (nI_le (a := 12) (by omega) (by decide)) ?_) (fun n i s hi I ih => ?_)
  · refine loop_0 (fun n i s => wX_stepFrom_45 post l f_nodeSet f_edgeSet f_sought f_wanted f_weighing f_found f_lightest f_heaviest a_nodeLabel a_nodeValue a_edgesFrom a_edgesTo a_edgesOfType a_edgeWeight a_patternMode a_spotSet a_linkSet a_spotLabels a_spotLeast a_spotGreatest a_linkStart a_linkEnd a_linkTypes a_linkKind a_spotNodes a_typedEdges a_wayTargets a_placed a_linkEdges a_taken a_picked n s (nI i)) (ga_acc (fun n i => i = n ∧ ∃ e, e < 32 ∧ bt (a_edgesTo n) e = true ∧ ∃ m, m < 12 ∧ bt st m = true ∧ bt (a_edgesFrom m) e = true ∧ bt ed e = true)) 12 0 ga_0 (fun n s I => br_t (nI_le (a := 12) (by omega) (by decide)) (h s I)) (fun n i s hi I ih => ?_)
    have c : (nI i).toNatClampNeg = i := nI_clamp (by omega)
    have key : ¬ (a_edgesTo (nI i).toNatClampNeg &&& l) = 0 ↔ ∃ e, e < 32 ∧ bt (a_edgesTo i) e = true ∧ ∃ m, m < 12 ∧ bt st m = true ∧ bt (a_edgesFrom m) e = true ∧ bt ed e = true := by
      rw [c, gb_ne0]
      constructor
      · rintro ⟨e, he, q⟩
        rw [b_and, Bool.and_eq_true] at q
        exact ⟨e, he, q.1, (Il e he).mp q.2⟩
      · rintro ⟨e, he, q1, q2⟩
        refine ⟨e, he, ?_⟩
        rw [b_and, Bool.and_eq_true]
        exact ⟨q1, (Il e he).mpr q2⟩
    refine br_f (nI_ge (b := 12) hi (by decide)) ⟨vp_in_nI (by omega) (by decide), br_c (fun z => nm_r (nI_1 i) (ih _ (ga_no I (fun k hk q => ?_)))) (fun z => nm_e (nm_r (nI_1 i) (ih _ (ga_or I (ga_bit (by omega) (fun k hk => ?_))))))⟩
    · exact (key.mpr q.2) z
    · exact ⟨fun q => q.1, fun q => ⟨q, key.mp z⟩⟩
  · have c : (nI i).toNatClampNeg = i := nI_clamp (by omega)
    refine br_f (nI_ge (b := 12) hi (by decide)) (gx_hasb (by omega) (fun hb => ⟨vp_in_nI (by omega) (by decide), nm_r (e' := s ||| (a_edgesFrom i &&& ed)) (by rw [c]) (nm_r (nI_1 i) (ih _ (ga_or I (fun k hk => ?_))))⟩) (fun hb => nm_r (nI_1 i) (ih _ (ga_no I (fun k hk q => ?_)))))
    · rw [b_and, Bool.and_eq_true]
      exact ⟨fun z => ⟨hb, z⟩, fun z => z.2⟩
    · rw [hb] at q
      exact Bool.false_ne_true q.1
theorem gx_fit {post : Int32 → Prop} {p : Nat} (hp : p < 8) (hl : ∀ n, ∃ l, l < 4 ∧ a_nodeLabel n = nI l)
    (h : ∀ r, ga_acc (fun n i => i = n ∧ bt f_nodeSet n = true ∧ ((a_spotLabels p >>> (a_nodeLabel n &&& 31)) &&& 1) = 1 ∧ ¬ a_nodeValue n < a_spotLeast p ∧ ¬ a_spotGreatest p < a_nodeValue n) 12 r → post r) : wpX_fittingNodes post (f_nodeSet, f_edgeSet, f_sought, f_wanted, f_weighing, f_found, f_lightest, f_heaviest, a_nodeLabel, a_nodeValue, a_edgesFrom, a_edgesTo, a_edgesOfType, a_edgeWeight, a_patternMode, a_spotSet, a_linkSet, a_spotLabels, a_spotLeast, a_spotGreatest, a_linkStart, a_linkEnd, a_linkTypes, a_linkKind, a_spotNodes, a_typedEdges, a_wayTargets, a_placed, a_linkEdges, a_taken, a_picked) (nI p) := by
  refine loop_0 (fun n i s => wX_fittingNodes_4 post (nI p) f_nodeSet f_edgeSet f_sought f_wanted f_weighing f_found f_lightest f_heaviest a_nodeLabel a_nodeValue a_edgesFrom a_edgesTo a_edgesOfType a_edgeWeight a_patternMode a_spotSet a_linkSet a_spotLabels a_spotLeast a_spotGreatest a_linkStart a_linkEnd a_linkTypes a_linkKind a_spotNodes a_typedEdges a_wayTargets a_placed a_linkEdges a_taken a_picked n s (nI i)) (ga_acc (fun n i => i = n ∧ bt f_nodeSet n = true ∧ ((a_spotLabels p >>> (a_nodeLabel n &&& 31)) &&& 1) = 1 ∧ ¬ a_nodeValue n < a_spotLeast p ∧ ¬ a_spotGreatest p < a_nodeValue n)) 12 0 ga_0 (fun n s I => br_t (nI_le (a := 12) (by omega) (by decide)) (h s I)) (fun n i s hi I ih => ?_)
  have c : (nI i).toNatClampNeg = i := nI_clamp (by omega)
  have cp : (nI p).toNatClampNeg = p := nI_clamp (by omega)
  have v1 : vp_in (nI p) 8 := vp_in_nI hp (by decide)
  have v2 : vp_in (nI i) 12 := vp_in_nI hi (by decide)
  refine br_f (nI_ge (b := 12) hi (by decide)) (gx_hasb (by omega) (fun hb => ⟨v1, v2, ?_⟩) (fun hb => nm_r (nI_1 i) (ih _ (ga_no I (fun k hk q => ?_)))))
  · rw [c, cp]
    obtain ⟨l, hl4, el⟩ := hl i
    rw [el]
    refine gx_hasb (by omega) (fun hc => ⟨v1, v2, br_c (fun z => nm_r (nI_1 i) (ih _ (ga_no I (fun k hk q => q.2.2.2.1 z)))) (fun z => ⟨v2, v1, br_c (fun y => nm_r (nI_1 i) (ih _ (ga_no I (fun k hk q => q.2.2.2.2 y)))) (fun y => nm_e (nm_r (nI_1 i) (ih _ (ga_or I (ga_bit (by omega) (fun k hk => ?_))))))⟩)⟩) (fun hc => nm_r (nI_1 i) (ih _ (ga_no I (fun k hk q => ?_))))
    · rw [el, gb_bit1 _ (by omega)]
      exact ⟨fun q => q.1, fun q => ⟨q, hb, hc, z, y⟩⟩
    · rw [el, gb_bit1 _ (by omega), hc] at q
      exact Bool.false_ne_true q.2.2.1
  · rw [hb] at q
    exact Bool.false_ne_true q.2.1
/-- dropEdges: what is gone is gone everywhere -/
theorem gx_drop {post : SX → Prop} {g : Int32} (h : ∀ eF eO eY : Nat → Int32, (∀ n, n < 12 → eF n = a_edgesFrom n &&& (g ^^^ (-1)) ∧ eO n = a_edgesTo n &&& (g ^^^ (-1))) → (∀ t, t < 3 → eY t = a_edgesOfType t &&& (g ^^^ (-1))) → post (f_nodeSet, f_edgeSet &&& (g ^^^ (-1)), f_sought, f_wanted, f_weighing, f_found, f_lightest, f_heaviest, a_nodeLabel, a_nodeValue, eF, eO, eY, a_edgeWeight, a_patternMode, a_spotSet, a_linkSet, a_spotLabels, a_spotLeast, a_spotGreatest, a_linkStart, a_linkEnd, a_linkTypes, a_linkKind, a_spotNodes, a_typedEdges, a_wayTargets, a_placed, a_linkEdges, a_taken, a_picked)) : wpX_dropEdges post (f_nodeSet, f_edgeSet, f_sought, f_wanted, f_weighing, f_found, f_lightest, f_heaviest, a_nodeLabel, a_nodeValue, a_edgesFrom, a_edgesTo, a_edgesOfType, a_edgeWeight, a_patternMode, a_spotSet, a_linkSet, a_spotLabels, a_spotLeast, a_spotGreatest, a_linkStart, a_linkEnd, a_linkTypes, a_linkKind, a_spotNodes, a_typedEdges, a_wayTargets, a_placed, a_linkEdges, a_taken, a_picked) g := by
  refine nm_e ?_
  refine loop_0 (fun n i (s : (Nat → Int32) × (Nat → Int32)) => wX_dropEdges_14 post g f_nodeSet (f_edgeSet &&& (g ^^^ (-1))) f_sought f_wanted f_weighing f_found f_lightest f_heaviest n (nI i) a_nodeLabel a_nodeValue s.1 s.2 a_edgesOfType a_edgeWeight a_patternMode a_spotSet a_linkSet a_spotLabels a_spotLeast a_spotGreatest a_linkStart a_linkEnd a_linkTypes a_linkKind a_spotNodes a_typedEdges a_wayTargets a_placed a_linkEdges a_taken a_picked) (fun i s => ∀ n, (n < i → s.1 n = a_edgesFrom n &&& (g ^^^ (-1)) ∧ s.2 n = a_edgesTo n &&& (g ^^^ (-1))) ∧ (i ≤ n → s.1 n = a_edgesFrom n ∧ s.2 n = a_edgesTo n)) 12 (a_edgesFrom, a_edgesTo) (fun n => ⟨fun z => absurd z (Nat.not_lt_zero n), fun _ => ⟨rfl, rfl⟩⟩) (fun n s I => br_t (nI_le (a := 12) (by omega) (by decide)) ?_) (fun n i s hi I ih => ?_)
  · refine loop_0 (fun n i (t : Nat → Int32) => wX_dropEdges_52 post g f_nodeSet (f_edgeSet &&& (g ^^^ (-1))) f_sought f_wanted f_weighing f_found f_lightest f_heaviest n (nI i) a_nodeLabel a_nodeValue s.1 s.2 t a_edgeWeight a_patternMode a_spotSet a_linkSet a_spotLabels a_spotLeast a_spotGreatest a_linkStart a_linkEnd a_linkTypes a_linkKind a_spotNodes a_typedEdges a_wayTargets a_placed a_linkEdges a_taken a_picked) (fun i t => ∀ n, (n < i → t n = a_edgesOfType n &&& (g ^^^ (-1))) ∧ (i ≤ n → t n = a_edgesOfType n)) 3 a_edgesOfType (fun n => ⟨fun z => absurd z (Nat.not_lt_zero n), fun _ => rfl⟩) (fun n t It => br_t (nI_le (a := 3) (by omega) (by decide)) (h s.1 s.2 t (fun n hn => (I n).1 hn) (fun n hn => (It n).1 hn))) (fun n i t hi It ih => ?_)
    have c : (nI i).toNatClampNeg = i := nI_clamp (by omega)
    have v : vp_in (nI i) 3 := vp_in_nI hi (by decide)
    refine br_f (nI_ge (b := 3) hi (by decide)) ⟨v, v, nm_r (e' := upd t i (t i &&& (g ^^^ (-1)))) (by rw [c]) (nm_r (nI_1 i) (ih _ (fun n => ⟨fun hn => ?_, fun hn => ?_⟩)))⟩
    · by_cases e : n = i
      · subst e; rw [pk_us, (It n).2 (Nat.le_refl n)]
      · rw [pk_un e, (It n).1 (by omega)]
    · rw [pk_un (by omega), (It n).2 (by omega)]
  · have c : (nI i).toNatClampNeg = i := nI_clamp (by omega)
    have v : vp_in (nI i) 16 := vp_in_nI (by omega) (by decide)
    refine br_f (nI_ge (b := 12) hi (by decide)) ⟨v, v, nm_r (e' := upd s.1 i (s.1 i &&& (g ^^^ (-1)))) (by rw [c]) ⟨v, v, nm_r (e' := upd s.2 i (s.2 i &&& (g ^^^ (-1)))) (by rw [c]) (nm_r (nI_1 i) (ih (upd s.1 i (s.1 i &&& (g ^^^ (-1))), upd s.2 i (s.2 i &&& (g ^^^ (-1)))) (fun n => ⟨fun hn => ?_, fun hn => ?_⟩)))⟩⟩
    · dsimp only
      by_cases e : n = i
      · subst e; rw [pk_us, pk_us, ((I n).2 (Nat.le_refl n)).1, ((I n).2 (Nat.le_refl n)).2]; exact ⟨rfl, rfl⟩
      · rw [pk_un e, pk_un e]; exact (I n).1 (by omega)
    · dsimp only
      rw [pk_un (by omega), pk_un (by omega)]; exact (I n).2 (by omega)
end GX
