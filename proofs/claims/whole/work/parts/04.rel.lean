/-! the relation -/
def gr_N (ns : Int32) (nT : Nat → Int32) : Prop := (∀ n, nT n = 0 ∨ nT n = 1) ∧ ∀ i, i < 32 → (bt ns i = true ↔ i < 12 ∧ nT i = 1)
def gr_L (lab : Nat → Int32) : Prop := ∀ n, ∃ l, l < 4 ∧ lab n = nI l
def gr_D (eT fr to wh : Nat → Int32) : Prop := (∀ e, eT e = 0 ∨ eT e = 1) ∧ (∀ e, ∃ a, a < 12 ∧ fr e = nI a) ∧ (∀ e, ∃ a, a < 12 ∧ to e = nI a) ∧ (∀ e, ∃ w, w < 63 ∧ wh e = nI w)
def gr_B (x : Int32) (eT : Nat → Int32) (P : Nat → Prop) : Prop := ∀ i, i < 32 → (bt x i = true ↔ i < 20 ∧ eT i = 1 ∧ P i)
def gr_E (es : Int32) (eF eO eY ew eT fr to wh : Nat → Int32) : Prop :=
  gr_D eT fr to wh ∧ gr_B es eT (fun _ => True) ∧ (∀ n, n < 12 → gr_B (eF n) eT (fun i => fr i = nI n)) ∧ (∀ n, n < 12 → gr_B (eO n) eT (fun i => to i = nI n)) ∧
  (∀ t, t < 3 → gr_B (eY t) eT (fun i => wh i - wh i / 3 * 3 = nI t)) ∧ (∀ e, e < 20 → ew e = wh e / 3) ∧ (∀ e, 20 ≤ e → e < 24 → ew e = 0)
def gr_S (b i : Nat) (ss sl so sg pat : Nat → Int32) : Prop :=
  (pat (33 * b + 1 + i) = 0 ∨ pat (33 * b + 1 + i) = 1) ∧ (bt (ss b) i = true ↔ pat (33 * b + 1 + i) = 1) ∧
  (pat (33 * b + 1 + i) = 1 → sl (4 * b + i) = pat (33 * b + 5 + i) ∧ so (4 * b + i) = pat (33 * b + 9 + i) ∧ sg (4 * b + i) = pat (33 * b + 13 + i))
def gr_K (b j : Nat) (ls lst len lty lki pat : Nat → Int32) : Prop :=
  (pat (33 * b + 17 + j) = 0 ∨ pat (33 * b + 17 + j) = 1) ∧ (bt (ls b) j = true ↔ pat (33 * b + 17 + j) = 1) ∧
  (pat (33 * b + 17 + j) = 1 → ∃ ab, ab < 16 ∧ pat (33 * b + 21 + j) = nI ab ∧ lst (4 * b + j) = nI (ab % 4) ∧ len (4 * b + j) = nI (ab / 4) ∧ lty (4 * b + j) = pat (33 * b + 25 + j) ∧ lki (4 * b + j) = pat (33 * b + 29 + j) ∧
    (pat (33 * b + 29 + j) = 0 ∨ pat (33 * b + 29 + j) = 1) ∧ pat (33 * b + 1 + ab % 4) = 1 ∧ pat (33 * b + 1 + ab / 4) = 1)
def gr_P (b : Nat) (pm ss ls sl so sg lst len lty lki pat : Nat → Int32) : Prop :=
  pm b = pat (33 * b) ∧ (∃ m, m < 4 ∧ pat (33 * b) = nI m) ∧ (∀ i, i < 4 → gr_S b i ss sl so sg pat) ∧ (∀ j, j < 4 → gr_K b j ls lst len lty lki pat)
/-- the relation at the head of a turn -/
def i_Rel (k : Nat) (u : SX) (v : SY) : Prop := match u with
  | (f_nodeSet, f_edgeSet, f_sought, f_wanted, f_weighing, f_found, f_lightest, f_heaviest, a_nodeLabel, a_nodeValue, a_edgesFrom, a_edgesTo, a_edgesOfType, a_edgeWeight, a_patternMode, a_spotSet, a_linkSet, a_spotLabels, a_spotLeast, a_spotGreatest, a_linkStart, a_linkEnd, a_linkTypes, a_linkKind, a_spotNodes, a_typedEdges, a_wayTargets, a_placed, a_linkEdges, a_taken, a_picked) => match v with
    | (f_base, f_many, a_nodeThere, a_labels, a_values, a_edgeThere, a_froms, a_tos, a_whats, a_patterns, a_parts, a_chosen) => gr_N f_nodeSet a_nodeThere ∧ (a_nodeLabel = a_labels ∧ a_nodeValue = a_values ∧ gr_L a_labels) ∧ gr_E f_edgeSet a_edgesFrom a_edgesTo a_edgesOfType a_edgeWeight a_edgeThere a_froms a_tos a_whats ∧
      gr_P 0 a_patternMode a_spotSet a_linkSet a_spotLabels a_spotLeast a_spotGreatest a_linkStart a_linkEnd a_linkTypes a_linkKind a_patterns ∧
      gr_P 1 a_patternMode a_spotSet a_linkSet a_spotLabels a_spotLeast a_spotGreatest a_linkStart a_linkEnd a_linkTypes a_linkKind a_patterns
theorem i_up {k : Nat} {u : SX} {v : SY} (h : i_Rel k u v) : i_Rel (k + 5) u v := h
theorem gr_B0 {eT : Nat → Int32} {P : Nat → Prop} (h : ∀ i, i < 20 → ¬ (eT i = 1 ∧ P i)) : gr_B 0 eT P := fun i _ => by
  rw [b_0]
  exact ⟨fun z => absurd z Bool.false_ne_true, fun z => absurd z.2 (h i z.1)⟩
theorem gr_P0 {b : Nat} : gr_P b (fun _ => 0) (fun _ => 0) (fun _ => 0) (fun _ => 0) (fun _ => 0) (fun _ => 0) (fun _ => 0) (fun _ => 0) (fun _ => 0) (fun _ => 0) (fun _ => 0) := by
  refine ⟨rfl, ⟨0, by omega, rfl⟩, fun i _ => ⟨Or.inl rfl, ?_, fun z => absurd z.symm gn_10⟩, fun j _ => ⟨Or.inl rfl, ?_, fun z => absurd z.symm gn_10⟩⟩
  · show bt 0 i = true ↔ (0 : Int32) = 1
    rw [b_0]
    exact ⟨fun z => absurd z Bool.false_ne_true, fun z => absurd z.symm gn_10⟩
  · show bt 0 j = true ↔ (0 : Int32) = 1
    rw [b_0]
    exact ⟨fun z => absurd z Bool.false_ne_true, fun z => absurd z.symm gn_10⟩
theorem i_vc0 : wpX_init (fun u => wpY_init (fun v => i_Rel 0 u v)) := by
  have z01 : ¬ (0 : Int32) = 1 := by decide
  refine ⟨⟨fun _ => Or.inl rfl, fun i _ => ?_⟩, ⟨rfl, rfl, fun _ => ⟨0, by omega, rfl⟩⟩, ⟨⟨fun _ => Or.inl rfl, fun _ => ⟨0, by omega, rfl⟩, fun _ => ⟨0, by omega, rfl⟩, fun _ => ⟨0, by omega, rfl⟩⟩, gr_B0 (fun _ _ z => z01 z.1), fun _ _ => gr_B0 (fun _ _ z => z01 z.1), fun _ _ => gr_B0 (fun _ _ z => z01 z.1), fun _ _ => gr_B0 (fun _ _ z => z01 z.1), fun _ _ => ?_, fun _ _ _ => rfl⟩, gr_P0, gr_P0⟩
  · rw [b_0]
    exact ⟨fun z => absurd z Bool.false_ne_true, fun z => absurd z.2 z01⟩
  · show (0 : Int32) = 0 / 3
    decide
/-! how the relation moves -/
theorem gr_Na {ns : Int32} {nT : Nat → Int32} {m : Nat} (h : gr_N ns nT) (hm : m < 12) : gr_N (ns ||| ((1 : Int32) <<< (nI m &&& 31))) (upd nT m 1) := by
  refine ⟨fun n => ?_, fun i hi => ?_⟩
  · by_cases e : n = m
    · subst e; rw [pk_us]; exact Or.inr rfl
    · rw [pk_un e]; exact h.1 n
  · rw [b_or, Bool.or_eq_true, h.2 i hi, gb_sb (by omega) hi, decide_eq_true_iff]
    by_cases e : i = m
    · subst e; rw [pk_us]; exact ⟨fun _ => ⟨hm, rfl⟩, fun _ => Or.inr rfl⟩
    · rw [pk_un e]; exact ⟨fun z => z.resolve_right e, Or.inl⟩
theorem gr_Nd {ns : Int32} {nT : Nat → Int32} {m : Nat} (h : gr_N ns nT) (hm : m < 12) : gr_N (ns &&& (((1 : Int32) <<< (nI m &&& 31)) ^^^ (-1))) (upd nT m 0) := by
  refine ⟨fun n => ?_, fun i hi => ?_⟩
  · by_cases e : n = m
    · subst e; rw [pk_us]; exact Or.inl rfl
    · rw [pk_un e]; exact h.1 n
  · rw [b_and, Bool.and_eq_true, h.2 i hi, gb_not _ hi, gb_sb (by omega) hi]
    by_cases e : i = m
    · subst e; rw [pk_us, decide_eq_true rfl]
      exact ⟨fun z => absurd z.2 Bool.false_ne_true, fun z => absurd z.2.symm gn_10⟩
    · rw [pk_un e, decide_eq_false e]; exact ⟨fun z => z.1, fun z => ⟨z, rfl⟩⟩
theorem gr_Lu {lab : Nat → Int32} {m l : Nat} (h : gr_L lab) (hl : l < 4) : gr_L (upd lab m (nI l)) := fun n => by
  by_cases e : n = m
  · subst e; rw [pk_us]; exact ⟨l, hl, rfl⟩
  · rw [pk_un e]; exact h n
theorem gr_Bd {x g : Int32} {eT eT' : Nat → Int32} {P : Nat → Prop} (h : gr_B x eT P) (hg : ∀ i, i < 20 → (eT' i = 1 ↔ eT i = 1 ∧ bt g i = false)) : gr_B (x &&& (g ^^^ (-1))) eT' P := fun i hi => by
  rw [b_and, Bool.and_eq_true, h i hi, gb_not _ hi]
  constructor
  · rintro ⟨⟨h1, h2, h3⟩, h4⟩
    refine ⟨h1, (hg i h1).mpr ⟨h2, ?_⟩, h3⟩
    cases e : bt g i
    · rfl
    · rw [e] at h4; exact h4.symm
  · rintro ⟨h1, h2, h3⟩
    obtain ⟨h4, h5⟩ := (hg i h1).mp h2
    rw [h5]
    exact ⟨⟨h1, h4, h3⟩, rfl⟩
theorem gr_B1 {x : Int32} {eT : Nat → Int32} {P P' : Nat → Prop} {m : Nat} (h : gr_B x eT P) (hm : m < 20) (hP : ∀ i, i ≠ m → (P' i ↔ P i)) (hm' : P' m) : gr_B (x ||| ((1 : Int32) <<< (nI m &&& 31))) (upd eT m 1) P' := fun i hi => by
  rw [b_or, Bool.or_eq_true, h i hi, gb_sb (by omega) hi, decide_eq_true_iff]
  by_cases e : i = m
  · subst e; rw [pk_us]; exact ⟨fun _ => ⟨hm, rfl, hm'⟩, fun _ => Or.inr rfl⟩
  · rw [pk_un e, hP i e]; exact ⟨fun z => z.resolve_right e, Or.inl⟩
theorem gr_B2 {x : Int32} {eT : Nat → Int32} {P P' : Nat → Prop} {m : Nat} (h : gr_B x eT P) (h0 : eT m = 0) (hP : ∀ i, i ≠ m → (P' i ↔ P i)) (hm' : ¬ P' m) : gr_B x (upd eT m 1) P' := fun i hi => by
  rw [h i hi]
  by_cases e : i = m
  · subst e; rw [pk_us, h0]; exact ⟨fun z => absurd z.2.1.symm gn_10, fun z => absurd z.2.2 hm'⟩
  · rw [pk_un e, hP i e]
theorem gr_cnt {x : Int32} {eT : Nat → Int32} {P : Nat → Prop} (h : gr_B x eT P) : gc_n (bt x) 24 = gc_n (fun e => gq_b (eT e = 1 ∧ P e)) 20 := by
  rw [gc_ext (P := bt x) 4 20]
  · refine gc_eq 20 (fun i hi => ?_)
    rw [Bool.eq_iff_iff, h i (by omega), gq_bi]
    exact ⟨fun z => z.2, fun z => ⟨hi, z⟩⟩
  · intro i h1 h2
    apply Bool.eq_false_iff.mpr
    intro z
    have := ((h i (by omega)).mp z).1
    omega
/-! the reference: small methods -/
section GY
variable {f_base f_many : Int32} {a_nodeThere a_labels a_values a_edgeThere a_froms a_tos a_whats a_patterns a_parts a_chosen : Nat → Int32}
theorem gy_isNode {post : Int32 → Prop} (v : Int32) (hT : ∀ n, a_nodeThere n = 0 ∨ a_nodeThere n = 1) (h0 : (¬ ∃ j, j < 12 ∧ v = nI j ∧ a_nodeThere j = 1) → post 0) (h1 : ∀ j, j < 12 → v = nI j → a_nodeThere j = 1 → post 1) : wpY_isNode post (f_base, f_many, a_nodeThere, a_labels, a_values, a_edgeThere, a_froms, a_tos, a_whats, a_patterns, a_parts, a_chosen) v := by
  refine br_c (fun z => h0 ?_) (fun z => ?_)
  · rintro ⟨j, hj, rfl, _⟩
    exact nI_pos (by omega) z
  · obtain ⟨j, hj, rfl⟩ := nI_of z
    by_cases h : j < 12
    · have c : (nI j).toNatClampNeg = j := nI_clamp hj
      refine br_f (nI_ge (b := 12) h (by decide)) ⟨vp_in_nI h (by decide), br_c (fun z => h0 ?_) (fun z => h1 j h rfl ?_)⟩
      · rintro ⟨i, hi, e, q⟩
        rw [c, (nI_eq hj (by omega)).mp e, q] at z
        exact gn_10 z
      · rw [c] at z
        exact (hT j).resolve_left z
    · refine br_t (nI_le (a := 12) (by omega) hj) (h0 ?_)
      rintro ⟨i, hi, e, q⟩
      have := (nI_eq hj (by omega)).mp e
      omega
theorem gy_addNode {post : Int32 → SY → Prop} {l v : Int32} {m : Nat} (hm : m ≤ 12) (h : ∀ i, i < m → a_nodeThere i = 1) (h0 : m < 12 → a_nodeThere m = 0) (hf : m = 12 → post (-2) (f_base, f_many, a_nodeThere, a_labels, a_values, a_edgeThere, a_froms, a_tos, a_whats, a_patterns, a_parts, a_chosen))
    (hp : m < 12 → post (nI m) (f_base, f_many, upd a_nodeThere m 1, upd a_labels m l, upd a_values m v, a_edgeThere, a_froms, a_tos, a_whats, a_patterns, a_parts, a_chosen)) : ∃ n, wY_addNode_13 post l v f_base f_many a_nodeThere a_labels a_values a_edgeThere a_froms a_tos a_whats a_patterns a_parts a_chosen n 0 := by
  refine loop_0 (fun n i (_ : Unit) => wY_addNode_13 post l v f_base f_many a_nodeThere a_labels a_values a_edgeThere a_froms a_tos a_whats a_patterns a_parts a_chosen n (nI i)) (fun _ _ => True) m () trivial (fun n s _ => ?_) (fun n i s hi _ ih => ?_)
  · by_cases e : m = 12
    · exact br_t (nI_le (a := 12) (by omega) (by omega)) (hf e)
    · have c : (nI m).toNatClampNeg = m := nI_clamp (by omega)
      have w : vp_in (nI m) 12 := vp_in_nI (by omega) (by decide)
      exact br_f (nI_ge (b := 12) (by omega) (by decide)) ⟨w, br_t (by rw [c]; exact h0 (by omega)) ⟨w, nm_r (e' := upd a_nodeThere m 1) (by rw [c, gn_b1]) ⟨w, nm_r (e' := upd a_labels m l) (by rw [c]) ⟨w, nm_r (e' := upd a_values m v) (by rw [c]) (hp (by omega))⟩⟩⟩⟩
  · have c : (nI i).toNatClampNeg = i := nI_clamp (by omega)
    exact br_f (nI_ge (b := 12) (by omega) (by decide)) ⟨vp_in_nI (by omega) (by decide), br_f (by rw [c, h i hi]; exact gn_10) (nm_r (nI_1 i) (ih () trivial))⟩
theorem gy_addEdge {post : Int32 → SY → Prop} {a b w : Int32} {m : Nat} (hm : m ≤ 20) (h : ∀ i, i < m → a_edgeThere i = 1) (h0 : m < 20 → a_edgeThere m = 0) (hf : m = 20 → post (-2) (f_base, f_many, a_nodeThere, a_labels, a_values, a_edgeThere, a_froms, a_tos, a_whats, a_patterns, a_parts, a_chosen))
    (hp : m < 20 → post (nI m) (f_base, f_many, a_nodeThere, a_labels, a_values, upd a_edgeThere m 1, upd a_froms m a, upd a_tos m b, upd a_whats m w, a_patterns, a_parts, a_chosen)) : ∃ n, wY_addEdge_31 post a b w f_base f_many a_nodeThere a_labels a_values a_edgeThere a_froms a_tos a_whats a_patterns a_parts a_chosen n 0 := by
  refine loop_0 (fun n i (_ : Unit) => wY_addEdge_31 post a b w f_base f_many a_nodeThere a_labels a_values a_edgeThere a_froms a_tos a_whats a_patterns a_parts a_chosen n (nI i)) (fun _ _ => True) m () trivial (fun n s _ => ?_) (fun n i s hi _ ih => ?_)
  · by_cases e : m = 20
    · exact br_t (nI_le (a := 20) (by omega) (by omega)) (hf e)
    · have c : (nI m).toNatClampNeg = m := nI_clamp (by omega)
      have v : vp_in (nI m) 20 := vp_in_nI (by omega) (by decide)
      exact br_f (nI_ge (b := 20) (by omega) (by decide)) ⟨v, br_t (by rw [c]; exact h0 (by omega)) ⟨v, nm_r (e' := upd a_edgeThere m 1) (by rw [c, gn_b1]) ⟨v, nm_r (e' := upd a_froms m a) (by rw [c]) ⟨v, nm_r (e' := upd a_tos m b) (by rw [c]) ⟨v, nm_r (e' := upd a_whats m w) (by rw [c]) (hp (by omega))⟩⟩⟩⟩⟩
  · have c : (nI i).toNatClampNeg = i := nI_clamp (by omega)
    exact br_f (nI_ge (b := 20) (by omega) (by decide)) ⟨vp_in_nI (by omega) (by decide), br_f (by rw [c, h i hi]; exact gn_10) (nm_r (nI_1 i) (ih () trivial))⟩
theorem gy_remove {post : Int32 → SY → Prop} {v : Nat} (hv : v < 12) (hT : ∀ e, a_edgeThere e = 0 ∨ a_edgeThere e = 1)
    (h : ∀ eT : Nat → Int32, (∀ e, e < 20 → eT e = if a_edgeThere e = 1 ∧ (a_froms e = nI v ∨ a_tos e = nI v) then 0 else a_edgeThere e) → (∀ e, 20 ≤ e → eT e = a_edgeThere e) → post (nI (gc_n (fun e => gq_b (a_edgeThere e = 1 ∧ (a_froms e = nI v ∨ a_tos e = nI v))) 20)) (f_base, f_many, upd a_nodeThere v 0, a_labels, a_values, eT, a_froms, a_tos, a_whats, a_patterns, a_parts, a_chosen)) :
    ∃ n, wY_removeNode_14 post (nI v) f_base f_many n 0 0 a_nodeThere a_labels a_values a_edgeThere a_froms a_tos a_whats a_patterns a_parts a_chosen := by
  refine loop_0 (fun n i (s : Int32 × (Nat → Int32)) => wY_removeNode_14 post (nI v) f_base f_many n s.1 (nI i) a_nodeThere a_labels a_values s.2 a_froms a_tos a_whats a_patterns a_parts a_chosen) (fun i s => s.1 = nI (gc_n (fun e => gq_b (a_edgeThere e = 1 ∧ (a_froms e = nI v ∨ a_tos e = nI v))) i) ∧ (∀ e, e < i → s.2 e = if a_edgeThere e = 1 ∧ (a_froms e = nI v ∨ a_tos e = nI v) then 0 else a_edgeThere e) ∧ (∀ e, i ≤ e → s.2 e = a_edgeThere e)) 20 (0, a_edgeThere) ⟨rfl, fun e he => absurd he (Nat.not_lt_zero e), fun _ _ => rfl⟩ (fun n s I => ?_) (fun n i s hi I ih => ?_)
  · have c : (nI v).toNatClampNeg = v := nI_clamp (by omega)
    refine br_t (nI_le (a := 20) (by omega) (by decide)) ⟨vp_in_nI hv (by decide), nm_r (e' := upd a_nodeThere v 0) (by rw [c, gn_b0]) ?_⟩
    rw [I.1]
    exact h s.2 I.2.1 I.2.2
  · obtain ⟨I1, I2, I3⟩ := I
    have c : (nI i).toNatClampNeg = i := nI_clamp (by omega)
    have w : vp_in (nI i) 20 := vp_in_nI hi (by decide)
    have ei : s.2 i = a_edgeThere i := I3 i (Nat.le_refl i)
    have fin : ∀ (x : Int32) (y : Int32), x = nI (gc_n (fun e => gq_b (a_edgeThere e = 1 ∧ (a_froms e = nI v ∨ a_tos e = nI v))) (i + 1)) → (y = if a_edgeThere i = 1 ∧ (a_froms i = nI v ∨ a_tos i = nI v) then 0 else a_edgeThere i) → wY_removeNode_14 post (nI v) f_base f_many n x (nI (i + 1)) a_nodeThere a_labels a_values (upd s.2 i y) a_froms a_tos a_whats a_patterns a_parts a_chosen := by
      intro x y hx hy
      refine ih (x, upd s.2 i y) ⟨hx, fun e he => ?_, fun e he => ?_⟩
      · by_cases q : e = i
        · subst q; exact pk_us.trans hy
        · exact (pk_un q).trans (I2 e (by omega))
      · exact (pk_un (by omega)).trans (I3 e (by omega))
    refine br_f (nI_ge (b := 20) hi (by decide)) ⟨w, ?_⟩
    rw [c, ei]
    rcases hT i with t0 | t1
    · have nq : ¬ (a_edgeThere i = 1 ∧ (a_froms i = nI v ∨ a_tos i = nI v)) := fun z => gn_10 (z.1.symm.trans t0)
      refine br_t t0 (br_t rfl ⟨w, br_t (by rw [c, ei]; exact t0) ⟨w, nm_r (e' := upd s.2 i 0) (by rw [c, gn_b0]) (nm_r (nI_1 i) (fin _ _ ?_ ?_))⟩⟩)
      · rw [I1]
        show _ = nI (_ + (bif gq_b _ then 1 else 0))
        rw [gq_bf nq]; rfl
      · rw [if_neg nq, t0]
    · have t1' : ¬ a_edgeThere i = 0 := fun z => gn_10 (t1.symm.trans z)
      have t2' : ¬ s.2 (nI i).toNatClampNeg = 0 := by rw [c, ei]; exact t1'
      have case1 : (a_froms i = nI v ∨ a_tos i = nI v) → wY_removeNode_49 post (wY_removeNode_14 post (nI v) f_base f_many n) (nI v) s.1 (nI i) f_base f_many a_nodeThere a_labels a_values s.2 a_froms a_tos a_whats a_patterns a_parts a_chosen := by
        intro q
        refine br_f gn_10 ⟨w, br_f t2' (br_f gn_10 ⟨w, nm_r (e' := upd s.2 i 0) (by rw [c, gn_b0]) (nm_r (nI_1 i) (fin _ _ ?_ ?_))⟩)⟩
        · rw [I1, nI_1]
          show _ = nI (_ + (bif gq_b _ then 1 else 0))
          rw [gq_bt ⟨t1, q⟩]; rfl
        · rw [if_pos ⟨t1, q⟩]
      refine br_f t1' ⟨w, br_c (fun q => case1 (Or.inl q)) (fun q => ⟨w, br_c (fun r => case1 (Or.inr r)) (fun r => ?_)⟩)⟩
      have nq : ¬ (a_edgeThere i = 1 ∧ (a_froms i = nI v ∨ a_tos i = nI v)) := fun z => z.2.elim q r
      refine br_t rfl ⟨w, br_f t2' (br_t rfl ⟨w, nm_r (e' := upd s.2 i 1) (by rw [c, gn_b1]) (nm_r (nI_1 i) (fin _ _ ?_ ?_))⟩)⟩
      · rw [I1]
        show _ = nI (_ + (bif gq_b _ then 1 else 0))
        rw [gq_bf nq]; rfl
      · rw [if_neg nq, t1]
theorem gy_degree {post : Int32 → Prop} {v w : Int32} {g : Nat → Int32} (hg : g = if w = 0 then a_froms else a_tos) (hT : ∀ e, a_edgeThere e = 0 ∨ a_edgeThere e = 1)
    (h : post (nI (gc_n (fun e => gq_b (a_edgeThere e = 1 ∧ g e = v)) 20))) : ∃ n, wY_degree_24 post v w f_base f_many a_nodeThere a_labels a_values a_edgeThere a_froms a_tos a_whats a_patterns a_parts a_chosen n 0 0 := by
  refine loop_0 (fun n i s => wY_degree_24 post v w f_base f_many a_nodeThere a_labels a_values a_edgeThere a_froms a_tos a_whats a_patterns a_parts a_chosen n s (nI i)) (fun i s => s = nI (gc_n (fun e => gq_b (a_edgeThere e = 1 ∧ g e = v)) i)) 20 0 rfl (fun n s I => ?_) (fun n i s hi I ih => ?_)
  · subst I
    exact br_t (nI_le (a := 20) (by omega) (by decide)) h
  · subst I
    have c : (nI i).toNatClampNeg = i := nI_clamp (by omega)
    have x : vp_in (nI i) 20 := vp_in_nI hi (by decide)
    refine br_f (nI_ge (b := 20) hi (by decide)) ⟨x, ?_⟩
    rw [c]
    have e1 : (a_edgeThere i = 1 ∧ g i = v) → nI (gc_n (fun e => gq_b (a_edgeThere e = 1 ∧ g e = v)) i) + 1 = nI (gc_n (fun e => gq_b (a_edgeThere e = 1 ∧ g e = v)) (i + 1)) := fun q => by
      rw [nI_1]
      show _ = nI (_ + (bif gq_b _ then 1 else 0))
      rw [gq_bt q]; rfl
    have e0 : ¬ (a_edgeThere i = 1 ∧ g i = v) → nI (gc_n (fun e => gq_b (a_edgeThere e = 1 ∧ g e = v)) i) = nI (gc_n (fun e => gq_b (a_edgeThere e = 1 ∧ g e = v)) (i + 1)) := fun q => by
      show _ = nI (_ + (bif gq_b _ then 1 else 0))
      rw [gq_bf q]; rfl
    rcases hT i with t0 | t1
    · exact br_t t0 (nm_r (nI_1 i) (ih _ (e0 (fun z => gn_10 (z.1.symm.trans t0)))))
    · have key : wY_degree_62 post (wY_degree_24 post v w f_base f_many a_nodeThere a_labels a_values a_edgeThere a_froms a_tos a_whats a_patterns a_parts a_chosen n) v w (nI (gc_n (fun e => gq_b (a_edgeThere e = 1 ∧ g e = v)) i)) (nI i) (g i) f_base f_many a_nodeThere a_labels a_values a_edgeThere a_froms a_tos a_whats a_patterns a_parts a_chosen :=
        br_c (fun q => nm_e (nm_r (nI_1 i) (ih _ (e1 ⟨t1, q⟩)))) (fun q => nm_r (nI_1 i) (ih _ (e0 (fun z => q z.2))))
      refine br_f (fun z => gn_10 (t1.symm.trans z)) (br_c (fun z => ⟨x, ?_⟩) (fun z => ⟨x, ?_⟩))
      · rw [if_pos z] at hg
        subst hg
        exact key
      · rw [if_neg z] at hg
        subst hg
        exact key
theorem gy_nodes {post : Int32 → Prop} (h : ∀ r, ga_acc (fun n i => i = n ∧ ¬ a_nodeThere n = 0) 12 r → post r) : wpY_nodes post (f_base, f_many, a_nodeThere, a_labels, a_values, a_edgeThere, a_froms, a_tos, a_whats, a_patterns, a_parts, a_chosen) := by
  refine loop_0 (fun n i s => wY_nodes_4 post f_base f_many a_nodeThere a_labels a_values a_edgeThere a_froms a_tos a_whats a_patterns a_parts a_chosen n s (nI i)) (ga_acc (fun n i => i = n ∧ ¬ a_nodeThere n = 0)) 12 0 ga_0 (fun n s I => br_t (nI_le (a := 12) (by omega) (by decide)) (h s I)) (fun n i s hi I ih => ?_)
  have c : (nI i).toNatClampNeg = i := nI_clamp (by omega)
  refine br_f (nI_ge (b := 12) hi (by decide)) ⟨vp_in_nI hi (by decide), ?_⟩
  rw [c]
  exact br_c (fun z => nm_r (nI_1 i) (ih _ (ga_no I (fun k hk q => q.2 z)))) (fun z => nm_e (nm_r (nI_1 i) (ih _ (ga_or I (ga_bit (by omega) (fun k hk => ⟨fun q => q.1, fun q => ⟨q, z⟩⟩))))))
end GY
