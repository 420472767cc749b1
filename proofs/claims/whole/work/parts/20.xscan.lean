def xk_S (oT oS oC : Nat → Int32) : List ZE → Prop
  | [] => True
  | (t, s, c) :: es => oT es.length = nI t ∧ oS es.length = nI s ∧ (s = 3 → oC es.length = nI c) ∧ xk_S oT oS oC es
theorem xk_m {oT oS oC oT' oS' oC' : Nat → Int32} : ∀ {es : List ZE}, (∀ j, j < es.length → oT' j = oT j ∧ oS' j = oS j ∧ oC' j = oC j) → xk_S oT oS oC es → xk_S oT' oS' oC' es
  | [], _, _ => trivial
  | (t, s, c) :: es, h, ⟨h1, h2, h3, h4⟩ => by
    obtain ⟨e1, e2, e3⟩ := h es.length (by simp)
    exact ⟨by rw [e1]; exact h1, by rw [e2]; exact h2, fun z => by rw [e3]; exact h3 z, xk_m (fun j hj => h j (by simp; omega)) h4⟩
theorem zk_bnd {K : Nat → Int32} {nx : Nat → Nat} {cf : Nat → Nat → Nat} {ic : Nat → Prop} : ∀ {es : List ZE} {q : Nat}, zk_S K nx cf ic q es → ∀ e ∈ es, e.1 < q ∧ e.2.1 ≤ 4 ∧ (e.2.1 = 3 → e.2.2 < q ∧ K e.1 = 13 ∧ (K e.2.2 = 14 ∨ K e.2.2 = 15))
  | [], _, _, e, he => nomatch he
  | (t, s, c) :: es, q, ⟨⟨e1, e2, e3, e4, e5⟩, h2, h3⟩, e, he => by
    rcases List.mem_cons.mp he with rfl | he
    · refine ⟨e1, ?_⟩
      dsimp only
      rcases e5 with ⟨f1, f2, f3⟩ | ⟨f1, f2⟩
      · have : zc_pc (K t) ≤ 3 := by
          unfold zc_pc
          split
          · omega
          · split <;> omega
        exact ⟨by omega, fun z => by omega⟩
      · rcases f2 with ⟨g1, g2, g3⟩ | ⟨g1, g2, g3, g4, g5⟩ | ⟨g1, g2, g3, g4, g5, g6⟩ | ⟨g1, g2, g3⟩
        · exact ⟨by omega, fun z => by omega⟩
        · exact ⟨by omega, fun z => ⟨by omega, f1, Or.inl g2⟩⟩
        · exact ⟨by omega, fun z => ⟨by omega, f1, Or.inr g2⟩⟩
        · exact ⟨by omega, fun z => by omega⟩
    · obtain ⟨y1, y2, y3⟩ := zk_bnd h2 e he
      exact ⟨by omega, y2, fun z => ⟨by have := (y3 z).1; omega, (y3 z).2⟩⟩
def zk_W (K : Nat → Int32) (n : Nat) (es : List ZE) : Prop := es.length ≤ 32 ∧ ∀ e ∈ es, e.1 < n ∧ e.2.1 ≤ 4 ∧ (e.2.1 = 3 → e.2.2 < n ∧ K e.1 = 13 ∧ (K e.2.2 = 14 ∨ K e.2.2 = 15))
theorem zk_Wt {K : Nat → Int32} {n : Nat} {e : ZE} {es : List ZE} (h : zk_W K n (e :: es)) : zk_W K n es := ⟨by have := h.1; simp at this; omega, fun x hx => h.2 x (List.mem_cons_of_mem _ hx)⟩
def xc_B (K A B C : Nat → Int32) (x : Int32) (e : ZE) : Prop :=
  (K e.1 = 9 ∧ e.2.1 = 1 ∧ A e.1 = x) ∨ (K e.1 = 13 ∧ e.2.1 = 3 ∧ ((K e.2.2 = 14 ∧ (x = A e.2.2 ∨ x = B e.2.2)) ∨ (K e.2.2 ≠ 14 ∧ (x = B e.2.2 ∨ x = C e.2.2 ∨ x = 8))))
theorem xc_B1 {K A B C : Nat → Int32} {n : Nat} {es : List ZE} {a : Nat} (W : zk_W K n es) (ha : a < 8) : (∃ e ∈ es, xc_B K A B C (nI a) e) ↔ (∃ e ∈ es, zc_bd K A B C (nI a) e) := by
  have h8 : ¬ nI a = 8 := fun z => absurd ((nI_eq (b := 8) (by omega) (by decide)).mp z) (by omega)
  constructor
  · rintro ⟨e, he, h⟩
    refine ⟨e, he, ?_⟩
    rcases h with h | ⟨h1, h2, h3⟩
    · exact Or.inl h
    · refine Or.inr ⟨h1, h2, ?_⟩
      rcases h3 with ⟨k, h4⟩ | ⟨k, h4⟩
      · exact Or.inl ⟨k, h4.imp Eq.symm Eq.symm⟩
      · have k15 := (((W.2 e he).2.2 h2).2.2).resolve_left k
        rcases h4 with h4 | h4 | h4
        · exact Or.inr ⟨k15, Or.inl h4.symm⟩
        · exact Or.inr ⟨k15, Or.inr h4.symm⟩
        · exact absurd h4 h8
  · rintro ⟨e, he, h⟩
    refine ⟨e, he, ?_⟩
    rcases h with h | ⟨h1, h2, h3⟩
    · exact Or.inl h
    · refine Or.inr ⟨h1, h2, ?_⟩
      rcases h3 with ⟨k, h4⟩ | ⟨k, h4⟩
      · exact Or.inl ⟨k, h4.imp Eq.symm Eq.symm⟩
      · refine Or.inr ⟨by rw [k]; decide, ?_⟩
        rcases h4 with h4 | h4
        · exact Or.inl h4.symm
        · exact Or.inr (Or.inl h4.symm)
theorem xc_sm8 {x : Int32} (h : zl_sm x) : ¬ 8 = x := by
  obtain ⟨a, ha, rfl⟩ := h
  exact fun z => absurd ((nI_eq (a := 8) (by decide) (by omega)).mp z) (by omega)
theorem xc_B8 {K A B C : Nat → Int32} {n : Nat} {es : List ZE} (W : zk_W K n es) (hT : ∀ j, j < n → zl_T K A B C j) : (∃ e ∈ es, xc_B K A B C 8 e) ↔ zc_ic K es := by
  constructor
  · rintro ⟨e, he, h⟩
    obtain ⟨w1, w2, w3⟩ := W.2 e he
    rcases h with ⟨h1, h2, h3⟩ | ⟨h1, h2, h3⟩
    · exact absurd h3.symm (xc_sm8 ((hT _ w1).2.1 (Or.inr (Or.inl h1))))
    · obtain ⟨v1, v2, v3⟩ := w3 h2
      rcases h3 with ⟨k, h4⟩ | ⟨k, h4⟩
      · obtain ⟨s1, s2⟩ := (hT _ v1).2.2.2.1 k
        rcases h4 with h4 | h4
        · exact absurd h4 (xc_sm8 s1)
        · exact absurd h4 (xc_sm8 s2)
      · exact ⟨e, he, h1, h2, v3.resolve_left k⟩
  · rintro ⟨e, he, h1, h2, h3⟩
    exact ⟨e, he, Or.inr ⟨h1, h2, Or.inr ⟨by rw [h3]; decide, Or.inr (Or.inr rfl)⟩⟩⟩
section
variable {f_maxTokens f_maxPerforms f_count f_openCount f_status f_errorCode f_errorPos f_trapCode f_trapPos f_emittedCount f_performCount f_resumeCount f_nodeCount f_top f_bindingCount f_next f_scope f_value : Int32} {a_kinds a_argA a_argB a_argC a_after a_openToken a_openStage a_openClause a_caseFor a_emitted a_nodeToken a_nodeStage a_nodeHeld a_nodeScope a_nodeBelow a_bindingName a_bindingValue a_bindingOuter a_resumptionFrame a_resumptionTop a_resumptionBottom : Nat → Int32} {K A B C : Nat → Int32} {n : Nat} {nx : Nat → Nat} {cf : Nat → Nat → Nat} {i : Nat}
theorem xc_80 {post : Int32 → Prop} {k : Int32} (H1 : (k ≠ 14 ∧ k ≠ 15 ∧ k ≠ 16) → post 1) (H0 : ¬ (k ≠ 14 ∧ k ≠ 15 ∧ k ≠ 16) → post 0) : wX_isAllowedHere_80 post k f_maxTokens f_maxPerforms f_count f_openCount f_status f_errorCode f_errorPos f_trapCode f_trapPos f_emittedCount f_performCount f_resumeCount f_nodeCount f_top f_bindingCount f_next f_scope f_value a_kinds a_argA a_argB a_argC a_after a_openToken a_openStage a_openClause a_caseFor a_emitted a_nodeToken a_nodeStage a_nodeHeld a_nodeScope a_nodeBelow a_bindingName a_bindingValue a_bindingOuter a_resumptionFrame a_resumptionTop a_resumptionBottom :=
  br_c (fun z => H0 (fun y => y.1 z)) (fun z1 => br_c (fun z => H0 (fun y => y.2.1 z)) (fun z2 => br_c (fun z => H0 (fun y => y.2.2 z)) (fun z3 => H1 ⟨z1, z2, z3⟩)))
theorem xc_ok {post : Int32 → Prop} {k : Int32} {stk : List ZE} (hn : n ≤ 32) (W : zk_W a_kinds n stk) (S : xk_S a_openToken a_openStage a_openClause stk) (H1 : zc_ok a_kinds k stk → post 1) (H0 : ¬ zc_ok a_kinds k stk → post 0) :
    wpX_isAllowedHere post (f_maxTokens, f_maxPerforms, f_count, nI stk.length, f_status, f_errorCode, f_errorPos, f_trapCode, f_trapPos, f_emittedCount, f_performCount, f_resumeCount, f_nodeCount, f_top, f_bindingCount, f_next, f_scope, f_value, a_kinds, a_argA, a_argB, a_argC, a_after, a_openToken, a_openStage, a_openClause, a_caseFor, a_emitted, a_nodeToken, a_nodeStage, a_nodeHeld, a_nodeScope, a_nodeBelow, a_bindingName, a_bindingValue, a_bindingOuter, a_resumptionFrame, a_resumptionTop, a_resumptionBottom) k := by
  cases stk with
  | nil => exact br_t (by decide) (xc_80 H1 H0)
  | cons e es =>
    obtain ⟨t, s, c⟩ := e
    obtain ⟨s1, s2, s3, s4⟩ := S
    have hl := W.1
    rw [List.length_cons] at hl
    obtain ⟨w1, w2, w3⟩ := W.2 _ (List.mem_cons_self ..)
    dsimp only at w1 w2 w3
    have hcl : (nI es.length).toNatClampNeg = es.length := nI_clamp (by omega)
    have hct : (nI t).toNatClampNeg = t := nI_clamp (by omega)
    have hil : vp_in (nI es.length) 32 := vp_in_nI (by omega) (by decide)
    rw [zc_okc] at H1 H0
    rw [List.length_cons]
    refine br_f (nI_nle (by omega) (by omega)) ?_
    rw [nI_pred, hcl, s1, s2]
    refine ⟨hil, vp_in_nI (by omega) (by decide), ?_⟩
    rw [hct]
    by_cases k13 : a_kinds t = 13
    · refine br_t k13 ⟨hil, nm_e ?_⟩
      by_cases z2 : s = 2
      · rw [if_pos ⟨k13, z2⟩] at H1 H0
        subst z2
        exact br_t rfl (br_c H1 H0)
      · rw [if_neg (fun z => z2 z.2)] at H1 H0
        refine br_f (fun z => z2 ((nI_eq (b := 2) (by omega) (by decide)).mp z)) ?_
        by_cases z4 : s = 4
        · rw [if_pos ⟨k13, z4⟩] at H1 H0
          subst z4
          exact br_t rfl (br_c (fun z => H1 (Or.inl z)) (fun y1 => br_c (fun z => H1 (Or.inr z)) (fun y2 => H0 (fun z => z.elim y1 y2))))
        · rw [if_neg (fun z => z4 z.2)] at H1 H0
          exact br_f (fun z => z4 ((nI_eq (b := 4) (by omega) (by decide)).mp z)) (xc_80 H1 H0)
    · rw [if_neg (fun z => k13 z.1), if_neg (fun z => k13 z.1)] at H1 H0
      exact br_f k13 (xc_80 H1 H0)
theorem xc_bn {post : Int32 → Prop} {x : Int32} {d t s c : Nat} (hn : n ≤ 32) (hd : d < 32) (ht : t < n) (h4 : s ≤ 4) (hc : s = 3 → c < n) (s1 : a_openToken d = nI t) (s2 : a_openStage d = nI s) (s3 : s = 3 → a_openClause d = nI c)
    (H1 : xc_B a_kinds a_argA a_argB a_argC x (t, s, c) → post 1) (H0 : ¬ xc_B a_kinds a_argA a_argB a_argC x (t, s, c) → post 0) : wpX_bindsNow post (f_maxTokens, f_maxPerforms, f_count, f_openCount, f_status, f_errorCode, f_errorPos, f_trapCode, f_trapPos, f_emittedCount, f_performCount, f_resumeCount, f_nodeCount, f_top, f_bindingCount, f_next, f_scope, f_value, a_kinds, a_argA, a_argB, a_argC, a_after, a_openToken, a_openStage, a_openClause, a_caseFor, a_emitted, a_nodeToken, a_nodeStage, a_nodeHeld, a_nodeScope, a_nodeBelow, a_bindingName, a_bindingValue, a_bindingOuter, a_resumptionFrame, a_resumptionTop, a_resumptionBottom) (nI d) x := by
  have hcd : (nI d).toNatClampNeg = d := nI_clamp (by omega)
  have hid : vp_in (nI d) 32 := vp_in_nI hd (by decide)
  have hct : (nI t).toNatClampNeg = t := nI_clamp (by omega)
  have hit : vp_in (nI t) 32 := vp_in_nI (by omega) (by decide)
  refine ⟨hid, xm_r hcd s1 ⟨hit, ?_⟩⟩
  rw [hct, hcd, s2]
  by_cases k9 : a_kinds t = 9
  · refine br_t k9 ⟨hid, ?_⟩
    by_cases z1 : s = 1
    · subst z1
      exact br_t rfl ⟨hit, br_c (fun z => H1 (Or.inl ⟨k9, rfl, z⟩)) (fun z => H0 (fun y => y.elim (fun w => z w.2.2) (fun w => absurd (k9.symm.trans w.1) (by decide))))⟩
    · exact br_f (fun z => z1 ((nI_eq (b := 1) (by omega) (by decide)).mp z)) (H0 (fun y => y.elim (fun w => z1 w.2.1) (fun w => absurd (k9.symm.trans w.1) (by decide))))
  · refine br_f k9 ⟨hit, ?_⟩
    by_cases k13 : a_kinds t = 13
    · refine br_t k13 ⟨hid, ?_⟩
      by_cases z3 : s = 3
      · have hcn := hc z3
        have hcc : (nI c).toNatClampNeg = c := nI_clamp (by omega)
        have hic : vp_in (nI c) 32 := vp_in_nI (by omega) (by decide)
        have e3 := s3 z3
        subst z3
        refine br_t rfl ⟨hid, nm_r e3 ⟨hic, ?_⟩⟩
        rw [hcc]
        have no : ∀ {Q : Prop}, (a_kinds t = 9 ∧ (3 : Nat) = 1 ∧ a_argA t = x) → Q := fun w => absurd w.1 k9
        by_cases k14 : a_kinds c = 14
        · exact br_t k14 ⟨hic, br_c (fun z => H1 (Or.inr ⟨k13, rfl, Or.inl ⟨k14, Or.inl z⟩⟩)) (fun y1 => ⟨hic, br_c (fun z => H1 (Or.inr ⟨k13, rfl, Or.inl ⟨k14, Or.inr z⟩⟩)) (fun y2 => H0 (fun y => y.elim no (fun w => w.2.2.elim (fun q => q.2.elim y1 y2) (fun q => q.1 k14))))⟩)⟩
        · exact br_f k14 ⟨hic, br_c (fun z => H1 (Or.inr ⟨k13, rfl, Or.inr ⟨k14, Or.inl z⟩⟩)) (fun y1 => ⟨hic, br_c (fun z => H1 (Or.inr ⟨k13, rfl, Or.inr ⟨k14, Or.inr (Or.inl z)⟩⟩)) (fun y2 => br_c (fun z => H1 (Or.inr ⟨k13, rfl, Or.inr ⟨k14, Or.inr (Or.inr z)⟩⟩)) (fun y3 => H0 (fun y => y.elim no (fun w => w.2.2.elim (fun q => k14 q.1) (fun q => q.2.elim y1 (fun r => r.elim y2 y3))))))⟩)⟩
      · exact br_f (fun z => z3 ((nI_eq (b := 3) (by omega) (by decide)).mp z)) (H0 (fun y => y.elim (fun w => k9 w.1) (fun w => z3 w.2.1)))
    · exact br_f k13 (H0 (fun y => y.elim (fun w => k9 w.1) (fun w => k13 w.1)))
theorem zm_a (x : Int32) : x + (-1) = x - 1 := by
  rw [Int32.sub_eq_add_neg]
theorem xc_bl {post : Int32 → Prop} {x : Int32} (hn : n ≤ 32) : ∀ (es : List ZE) (fu : Nat), es.length < fu → zk_W a_kinds n es → xk_S a_openToken a_openStage a_openClause es → ((∃ e ∈ es, xc_B a_kinds a_argA a_argB a_argC x e) → post 1) → (¬ (∃ e ∈ es, xc_B a_kinds a_argA a_argB a_argC x e) → post 0) →
    wX_isBoundHere_7 post x f_maxTokens f_maxPerforms f_count f_openCount f_status f_errorCode f_errorPos f_trapCode f_trapPos f_emittedCount f_performCount f_resumeCount f_nodeCount f_top f_bindingCount f_next f_scope f_value a_kinds a_argA a_argB a_argC a_after a_openToken a_openStage a_openClause a_caseFor a_emitted a_nodeToken a_nodeStage a_nodeHeld a_nodeScope a_nodeBelow a_bindingName a_bindingValue a_bindingOuter a_resumptionFrame a_resumptionTop a_resumptionBottom fu (nI es.length - 1) := by
  intro es
  induction es with
  | nil =>
    intro fu hf W S H1 H0
    obtain ⟨fu, rfl⟩ : ∃ f', fu = f' + 1 := ⟨fu - 1, by simp at hf; omega⟩
    exact br_t (by decide) (H0 (fun ⟨e, he, _⟩ => nomatch he))
  | cons e es ih =>
    intro fu hf W S H1 H0
    obtain ⟨fu, rfl⟩ : ∃ f', fu = f' + 1 := ⟨fu - 1, by simp at hf; omega⟩
    rw [List.length_cons] at hf ⊢
    rw [nI_pred]
    obtain ⟨t, s, c⟩ := e
    obtain ⟨s1, s2, s3, s4⟩ := S
    have hl := W.1
    rw [List.length_cons] at hl
    obtain ⟨w1, w2, w3⟩ := W.2 _ (List.mem_cons_self ..)
    dsimp only at w1 w2 w3
    refine br_f (nI_pos (by omega)) (xc_bn hn (by omega) w1 w2 (fun z => (w3 z).1) s1 s2 s3 (fun z => br_f (by decide) (H1 ⟨_, List.mem_cons_self .., z⟩)) (fun z => br_t rfl (nm_r (zm_a _) (ih fu (by omega) (zk_Wt W) s4 (fun ⟨e, he, y⟩ => H1 ⟨e, List.mem_cons_of_mem _ he, y⟩) (fun y => H0 ?_)))))
    rintro ⟨e, he, q⟩
    rcases List.mem_cons.mp he with rfl | he
    · exact z q
    · exact y ⟨e, he, q⟩
theorem xc_bh {post : Int32 → Prop} {x : Int32} {stk : List ZE} (hn : n ≤ 32) (W : zk_W a_kinds n stk) (S : xk_S a_openToken a_openStage a_openClause stk) (H1 : (∃ e ∈ stk, xc_B a_kinds a_argA a_argB a_argC x e) → post 1) (H0 : ¬ (∃ e ∈ stk, xc_B a_kinds a_argA a_argB a_argC x e) → post 0) :
    wpX_isBoundHere post (f_maxTokens, f_maxPerforms, f_count, nI stk.length, f_status, f_errorCode, f_errorPos, f_trapCode, f_trapPos, f_emittedCount, f_performCount, f_resumeCount, f_nodeCount, f_top, f_bindingCount, f_next, f_scope, f_value, a_kinds, a_argA, a_argB, a_argC, a_after, a_openToken, a_openStage, a_openClause, a_caseFor, a_emitted, a_nodeToken, a_nodeStage, a_nodeHeld, a_nodeScope, a_nodeBelow, a_bindingName, a_bindingValue, a_bindingOuter, a_resumptionFrame, a_resumptionTop, a_resumptionBottom) x := nm_e ⟨stk.length + 1, xc_bl hn stk _ (by omega) W S H1 H0⟩
theorem xc_flt {post : Int32 → Prop} {stk : List ZE} {f : Nat} (hn : n ≤ 32) (hi : i < n) (hT : ∀ j, j < n → zl_T a_kinds a_argA a_argB a_argC j) (W : zk_W a_kinds n stk) (S : xk_S a_openToken a_openStage a_openClause stk)
    (sc : ∀ h op, h < 32 → op < 8 → a_caseFor (8 * h + op) = nI (cf h op)) (hcf : ∀ h op, cf h op < 2 ^ 31) (F : zc_flt a_kinds a_argA a_argB a_argC i stk cf f) (H : post (nI f)) : wpX_faultAt post (f_maxTokens, f_maxPerforms, f_count, nI stk.length, f_status, f_errorCode, f_errorPos, f_trapCode, f_trapPos, f_emittedCount, f_performCount, f_resumeCount, f_nodeCount, f_top, f_bindingCount, f_next, f_scope, f_value, a_kinds, a_argA, a_argB, a_argC, a_after, a_openToken, a_openStage, a_openClause, a_caseFor, a_emitted, a_nodeToken, a_nodeStage, a_nodeHeld, a_nodeScope, a_nodeBelow, a_bindingName, a_bindingValue, a_bindingOuter, a_resumptionFrame, a_resumptionTop, a_resumptionBottom) (nI i) := by
  have hci : (nI i).toNatClampNeg = i := nI_clamp (by omega)
  have hii : vp_in (nI i) 32 := vp_in_nI (by omega) (by decide)
  have hl := W.1
  unfold zc_flt at F
  by_cases c : 0 < i ∧ stk = []
  · rw [if_pos c] at F
    subst F
    have hs : nI stk.length = 0 := by rw [c.2]; rfl
    exact br_f (nI_nle c.1 (by omega)) (br_t hs H)
  · rw [if_neg c] at F
    have M : wX_faultAt_13 post (nI i) f_maxTokens f_maxPerforms f_count (nI stk.length) f_status f_errorCode f_errorPos f_trapCode f_trapPos f_emittedCount f_performCount f_resumeCount f_nodeCount f_top f_bindingCount f_next f_scope f_value a_kinds a_argA a_argB a_argC a_after a_openToken a_openStage a_openClause a_caseFor a_emitted a_nodeToken a_nodeStage a_nodeHeld a_nodeScope a_nodeBelow a_bindingName a_bindingValue a_bindingOuter a_resumptionFrame a_resumptionTop a_resumptionBottom := by
      refine ⟨hii, xm_r hci rfl ?_⟩
      by_cases ok : zc_ok a_kinds (a_kinds i) stk
      · refine xc_ok hn W S (fun _ => br_f (by decide) ?_) (fun z => absurd ok z)
        replace F := (F.resolve_left (fun z => z.1 ok)).2
        by_cases k2 : a_kinds i = 2
        · obtain ⟨a, ha, hA⟩ := (hT i hi).2.1 (Or.inl k2)
          have k17 : ¬ a_kinds i = 17 := by rw [k2]; decide
          have k15 : ¬ a_kinds i = 15 := by rw [k2]; decide
          refine br_t k2 ⟨hii, ?_⟩
          rw [hci]
          refine xc_bh hn W S (fun z => br_f (by decide) (br_f k17 (br_f k15 ?_))) (fun z => br_t rfl ?_)
          · rw [hA] at z F
            have z' := (xc_B1 W ha).mp z
            rcases F with ⟨-, y, -⟩ | ⟨y, -⟩ | ⟨y, -⟩ | ⟨-, -, -, y⟩
            · exact absurd z' y
            · exact absurd y k17
            · exact absurd y k15
            · subst y; exact H
          · rw [hA] at z F
            have z' := fun y => z ((xc_B1 W ha).mpr y)
            rcases F with ⟨-, -, y⟩ | ⟨y, -⟩ | ⟨y, -⟩ | ⟨y, -⟩
            · subst y; exact H
            · exact absurd y k17
            · exact absurd y k15
            · exact absurd ⟨k2, z'⟩ y
        · refine br_f k2 ?_
          by_cases k17 : a_kinds i = 17
          · have k15 : ¬ a_kinds i = 15 := by rw [k17]; decide
            refine br_t k17 (xc_bh hn W S (fun z => br_f (by decide) (br_f k15 ?_)) (fun z => br_t rfl ?_))
            · have z' := (xc_B8 W hT).mp z
              rcases F with ⟨y, -⟩ | ⟨-, y, -⟩ | ⟨y, -⟩ | ⟨-, -, -, y⟩
              · exact absurd y k2
              · exact absurd z' y
              · exact absurd y k15
              · subst y; exact H
            · have z' := fun y => z ((xc_B8 W hT).mpr y)
              rcases F with ⟨y, -⟩ | ⟨-, -, y⟩ | ⟨y, -⟩ | ⟨-, y, -⟩
              · exact absurd y k2
              · subst y; exact H
              · exact absurd y k15
              · exact absurd ⟨k17, z'⟩ y
          · refine br_f k17 ?_
            by_cases k15 : a_kinds i = 15
            · rw [k15] at ok
              obtain ⟨t, c0, es, rfl, h13⟩ := zc_ok15 (Or.inl rfl) ok
              obtain ⟨⟨op, ho, hA⟩, -⟩ := (hT i hi).2.2.2.2 k15
              obtain ⟨s1, s2, s3, s4⟩ := S
              rw [List.length_cons] at hl
              have w1 := (W.2 _ (List.mem_cons_self ..)).1
              dsimp only at w1
              have hcl : (nI es.length).toNatClampNeg = es.length := nI_clamp (by omega)
              refine br_t k15 ?_
              rw [List.length_cons, nI_pred, hcl, s1, hci, hA]
              refine ⟨vp_in_nI (by omega) (by decide), hii, xt_caseOf (cf := cf) sc (by omega) ho ?_⟩
              have hAc : (a_argA i).toNatClampNeg = op := by rw [hA]; exact nI_clamp (by omega)
              rw [hAc] at F
              have ht : zc_top ((t, 4, c0) :: es) = t := rfl
              rw [ht] at F
              by_cases z : cf t op = 0
              · rw [z]
                refine br_t rfl ?_
                rcases F with ⟨y, -⟩ | ⟨y, -⟩ | ⟨-, y, -⟩ | ⟨-, -, -, y⟩
                · exact absurd y k2
                · exact absurd y k17
                · exact absurd z y
                · subst y; exact H
              · refine br_f (nI_ne0 (by omega) (hcf t op)) ?_
                rcases F with ⟨y, -⟩ | ⟨y, -⟩ | ⟨-, -, y⟩ | ⟨-, -, y, -⟩
                · exact absurd y k2
                · exact absurd y k17
                · subst y; exact H
                · exact absurd ⟨k15, z⟩ y
            · refine br_f k15 ?_
              rcases F with ⟨y, -⟩ | ⟨y, -⟩ | ⟨y, -⟩ | ⟨-, -, -, y⟩
              · exact absurd y k2
              · exact absurd y k17
              · exact absurd y k15
              · subst y; exact H
      · refine xc_ok hn W S (fun z => absurd z ok) (fun _ => br_t rfl ?_)
        rcases F with ⟨-, y⟩ | ⟨y, -⟩
        · subst y; exact H
        · exact absurd y ok
    rcases Nat.eq_zero_or_pos i with z | z
    · subst z
      exact br_t (by decide) M
    · have hne : stk ≠ [] := fun y => c ⟨z, y⟩
      have hpos : 0 < stk.length := List.length_pos_iff.mpr hne
      exact br_f (nI_nle z (by omega)) (br_f (nI_ne0 hpos (by omega)) M)
end
