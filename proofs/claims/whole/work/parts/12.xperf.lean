theorem xm_r {a : Nat → Int32} {i : Int32} {k : Nat} {y : Int32} {P : Int32 → Prop} (hc : i.toNatClampNeg = k) (ha : a k = y) (h : P y) : ∀ x, x = a i.toNatClampNeg → P x := by
  intro x ex
  rw [ex, hc, ha]
  exact h
theorem zu_c {f : Nat → Int32} {a b : Nat} {x y : Int32} (h : a ≠ b) : upd (upd f a x) b y = upd (upd f b y) a x := by
  funext j
  by_cases c : j = a
  · subst c
    rw [zu_n h, zu_s, zu_s]
  · by_cases d : j = b
    · subst d
      rw [zu_s, zu_n c, zu_s]
    · rw [zu_n d, zu_n c, zu_n c, zu_n d]
section
variable {f_maxTokens f_maxPerforms f_count f_openCount f_status f_errorCode f_errorPos f_trapCode f_trapPos f_emittedCount f_performCount f_resumeCount f_nodeCount f_top f_bindingCount f_next f_scope f_value : Int32} {a_kinds a_argA a_argB a_argC a_after a_openToken a_openStage a_openClause a_caseFor a_emitted a_nodeToken a_nodeStage a_nodeHeld a_nodeScope a_nodeBelow a_bindingName a_bindingValue a_bindingOuter a_resumptionFrame a_resumptionTop a_resumptionBottom : Nat → Int32} {K A B C : Nat → Int32} {n : Nat} {nx : Nat → Nat} {cf : Nat → Nat → Nat} {mp : Nat} {mt ec ep : Int32} {post : SX → Prop} {v : Int32} {e : Nat → Int32} {S : List ZF} {R : ZR} {pn rn : Nat} {out : Nat → Int32} {on : Nat} {tc tp : Int32} {nc bc hc t b : Nat} {h : Int32}
theorem xw_walk {op : Nat} {e0 : Int32} {EV : Nat → (Nat → Int32) → Prop} (hn : n ≤ 32) (ht : t < n) (ho : op < 8) (hA : a_argA t = nI op) (hnc : nc ≤ 1024)
    (sc : ∀ h op, h < 32 → op < 8 → a_caseFor (8 * h + op) = nI (cf h op)) : ∀ (L : List HPr) (fu i : Nat) (a0 lo : Int32), hl_C a_nodeBelow a0 L e0 → (∀ p ∈ L, hn_N a_nodeToken a_nodeStage a_nodeHeld EV 1 nc p) →
    (∀ p ∈ L, p.2.1 < n ∧ p.2.2.1 ≤ 1 ∧ ¬ zs_hd a_kinds cf op p.2) → i + L.length < 1024 → wX_perform_41 post (nI t) f_maxTokens f_maxPerforms f_count f_openCount f_status f_errorCode f_errorPos f_trapCode f_trapPos f_emittedCount f_performCount f_resumeCount f_nodeCount f_top f_bindingCount f_next f_scope f_value a_kinds a_argA a_argB a_argC a_after a_openToken a_openStage a_openClause a_caseFor a_emitted a_nodeToken a_nodeStage a_nodeHeld a_nodeScope a_nodeBelow a_bindingName a_bindingValue a_bindingOuter a_resumptionFrame a_resumptionTop a_resumptionBottom fu 0 e0 (hf_l lo L) (nI (i + L.length)) →
    wX_perform_41 post (nI t) f_maxTokens f_maxPerforms f_count f_openCount f_status f_errorCode f_errorPos f_trapCode f_trapPos f_emittedCount f_performCount f_resumeCount f_nodeCount f_top f_bindingCount f_next f_scope f_value a_kinds a_argA a_argB a_argC a_after a_openToken a_openStage a_openClause a_caseFor a_emitted a_nodeToken a_nodeStage a_nodeHeld a_nodeScope a_nodeBelow a_bindingName a_bindingValue a_bindingOuter a_resumptionFrame a_resumptionTop a_resumptionBottom (fu + L.length) 0 a0 lo (nI i) := by
  have hct : (nI t).toNatClampNeg = t := nI_clamp (by omega)
  intro L
  induction L with
  | nil =>
    intro fu i a0 lo c nd hs hi W
    have c' : a0 = e0 := c
    subst c'
    exact W
  | cons p L ih =>
    intro fu i a0 lo c nd hs hi W
    obtain ⟨c1, c2⟩ := c
    subst c1
    rw [List.length_cons] at hi W
    obtain ⟨n1, n2, n3, n4, n5, n6⟩ := nd p (List.mem_cons_self ..)
    obtain ⟨s1, s2, s3⟩ := hs p (List.mem_cons_self ..)
    have hcx : (nI p.1).toNatClampNeg = p.1 := nI_clamp (by omega)
    have W' := ih fu (i + 1) (a_nodeBelow p.1) (nI p.1) c2 (fun q hq => nd q (List.mem_cons_of_mem _ hq)) (fun q hq => hs q (List.mem_cons_of_mem _ hq)) (by omega) (by rw [Nat.add_assoc, Nat.add_comm 1]; exact W)
    show wX_perform_41 post (nI t) f_maxTokens f_maxPerforms f_count f_openCount f_status f_errorCode f_errorPos f_trapCode f_trapPos f_emittedCount f_performCount f_resumeCount f_nodeCount f_top f_bindingCount f_next f_scope f_value a_kinds a_argA a_argB a_argC a_after a_openToken a_openStage a_openClause a_caseFor a_emitted a_nodeToken a_nodeStage a_nodeHeld a_nodeScope a_nodeBelow a_bindingName a_bindingValue a_bindingOuter a_resumptionFrame a_resumptionTop a_resumptionBottom ((fu + L.length) + 1) 0 (nI p.1) lo (nI i)
    refine br_f (nI_ge (b := 1024) (by omega) (by decide)) (br_f (nI_ne0 (by omega) (by omega)) ⟨vp_in_nI (by omega) (by decide), ?_⟩)
    rw [hct, hA]
    refine xt_frame (cf := cf) (n := n) hn s1 s2 sc (by omega) n3 n4 ho (fun z => ?_) (fun _ => ?_)
    · have e0' : cf p.2.1 op = 0 := Classical.byContradiction fun y => s3 ⟨z.1, z.2, y⟩
      rw [e0']
      exact br_t rfl ⟨vp_in_nI (by omega) (by decide), nm_r (by rw [hcx]) (nm_r (nI_1 i) W')⟩
    · exact br_t rfl ⟨vp_in_nI (by omega) (by decide), nm_r (by rw [hcx]) (nm_r (nI_1 i) W')⟩
theorem xf_pf0 (hn : n ≤ 32) (ht : t < n) (hk : K t = 12) (hp : pn = mp) (h16 : mp ≤ 16)
    (sa : ∀ p, nx p ≠ 0 → a_after p = nI (nx p)) (sc : ∀ h op, h < 32 → op < 8 → a_caseFor (8 * h + op) = nI (cf h op))
    (H : ∀ u', xr_R K A B C n nx cf mp mt ec ep (none, v, e, S, R, pn, rn, out, on, 3, 3, nI t, nc, bc, hc) u' → post u') :
    wpX_finish post (mt, nI mp, nI n, f_openCount, 1, ec, ep, tc, tp, nI on, nI pn, nI rn, nI nc, f_top, nI bc, f_next, nI b, v, K, A, B, C, a_after, a_openToken, a_openStage, a_openClause, a_caseFor, out, a_nodeToken, a_nodeStage, a_nodeHeld, a_nodeScope, a_nodeBelow, a_bindingName, a_bindingValue, a_bindingOuter, a_resumptionFrame, a_resumptionTop, a_resumptionBottom) (nI t) h := by
  have hct : (nI t).toNatClampNeg = t := nI_clamp (by omega)
  refine ⟨vp_in_nI (by omega) (by decide), nm_r (by rw [hct]; exact hk) (br_f (by decide) (br_f (by decide) (br_f (by decide) (br_f (by decide) (br_f (by decide) (br_f (by decide) (br_t rfl ?_)))))))⟩
  refine br_f (nI_nlt (by omega) (by omega)) ?_
  exact H _ (xr_mk sa sc (fun z => absurd z (by decide)) (fun z => absurd z (by decide)))
theorem xf_pf1 {op : Nat} (hn : n ≤ 32) (ht : t < n) (hk : K t = 12) (hp : pn < mp) (h16 : mp ≤ 16) (hA : A t = nI op) (ho : op < 8) (hnc : nc ≤ 1024) (hlen : S.length < 1000)
    (hS : ∀ f ∈ S, f.1 < n ∧ f.2.1 ≤ 1) (hf : ∀ f ∈ S, ¬ zs_hd K cf op f)
    (sa : ∀ p, nx p ≠ 0 → a_after p = nI (nx p)) (sc : ∀ h op, h < 32 → op < 8 → a_caseFor (8 * h + op) = nI (cf h op))
    (G : xs_G a_nodeToken a_nodeStage a_nodeHeld a_nodeScope a_nodeBelow a_bindingName a_bindingValue a_bindingOuter bc nc f_top S R pn a_resumptionFrame a_resumptionTop a_resumptionBottom)
    (H : ∀ u', xr_R K A B C n nx cf mp mt ec ep (none, v, e, S, R, pn + 1, rn, out, on, 3, 1, nI t, nc, bc, hc) u' → post u') :
    wpX_finish post (mt, nI mp, nI n, f_openCount, 1, ec, ep, tc, tp, nI on, nI pn, nI rn, nI nc, f_top, nI bc, f_next, nI b, v, K, A, B, C, a_after, a_openToken, a_openStage, a_openClause, a_caseFor, out, a_nodeToken, a_nodeStage, a_nodeHeld, a_nodeScope, a_nodeBelow, a_bindingName, a_bindingValue, a_bindingOuter, a_resumptionFrame, a_resumptionTop, a_resumptionBottom) (nI t) h := by
  have hct : (nI t).toNatClampNeg = t := nI_clamp (by omega)
  refine ⟨vp_in_nI (by omega) (by decide), nm_r (by rw [hct]; exact hk) (br_f (by decide) (br_f (by decide) (br_f (by decide) (br_f (by decide) (br_f (by decide) (br_f (by decide) (br_t rfl ?_)))))))⟩
  obtain ⟨L, l1, l2, l3⟩ := hs_all G
  have hll : L.length = S.length := by rw [← l1, List.length_map]
  have hm : ∀ p ∈ L, p.2 ∈ S := fun p hp => by rw [← l1]; exact List.mem_map.mpr ⟨p, hp, rfl⟩
  refine br_t (nI_lt hp (by omega)) (nm_r (nI_1 pn) ⟨1 + L.length, ?_⟩)
  refine xw_walk (cf := cf) (n := n) (e0 := 0) hn ht ho hA hnc sc L 1 0 _ 0 l2 l3 (fun p hp => ⟨(hS _ (hm p hp)).1, (hS _ (hm p hp)).2, hf _ (hm p hp)⟩) (by omega) ?_
  refine br_f (nI_ge (b := 1024) (by omega) (by decide)) (br_t rfl (br_t rfl ?_))
  exact H _ (xr_mk sa sc (fun z => absurd z (by decide)) (fun z => absurd z (by decide)))
theorem xt_case {cs x y w : Nat} {gh : Int32} (hn : n ≤ 32) (hcs : cs < n) (hx : x < 1024) (hsc : a_nodeScope x = nI b) (hh : a_nodeHeld x = gh) (hC : a_argC cs = nI w) (hB : a_argB cs = nI y) (hbc : bc + 2 < 1024)
    (H : post (f_maxTokens, f_maxPerforms, f_count, f_openCount, f_status, f_errorCode, f_errorPos, f_trapCode, f_trapPos, f_emittedCount, f_performCount, f_resumeCount, f_nodeCount, f_top, nI (bc + 3), nI (cs + 1), nI (bc + 2), v, a_kinds, a_argA, a_argB, a_argC, a_after, a_openToken, a_openStage, a_openClause, a_caseFor, a_emitted, a_nodeToken, a_nodeStage, a_nodeHeld, a_nodeScope, a_nodeBelow, upd (upd (upd a_bindingName bc 8) (bc + 1) (nI w)) (bc + 2) (nI y), upd (upd (upd a_bindingValue bc (nI pn)) (bc + 1) gh) (bc + 2) v, upd (upd (upd a_bindingOuter bc (nI b)) (bc + 1) (nI bc)) (bc + 2) (nI (bc + 1)), a_resumptionFrame, a_resumptionTop, a_resumptionBottom)) :
    wpX_startCase post (f_maxTokens, f_maxPerforms, f_count, f_openCount, f_status, f_errorCode, f_errorPos, f_trapCode, f_trapPos, f_emittedCount, f_performCount, f_resumeCount, f_nodeCount, f_top, nI bc, f_next, f_scope, v, a_kinds, a_argA, a_argB, a_argC, a_after, a_openToken, a_openStage, a_openClause, a_caseFor, a_emitted, a_nodeToken, a_nodeStage, a_nodeHeld, a_nodeScope, a_nodeBelow, a_bindingName, a_bindingValue, a_bindingOuter, a_resumptionFrame, a_resumptionTop, a_resumptionBottom) (nI cs) (nI x) (nI pn) := by
  have hcc : (nI cs).toNatClampNeg = cs := nI_clamp (by omega)
  have hcx : (nI x).toNatClampNeg = x := nI_clamp (by omega)
  refine ⟨vp_in_nI hx (by decide), xm_r hcx hsc ?_⟩
  refine xt_bind rfl rfl (by omega) ⟨vp_in_nI (by omega) (by decide), ⟨vp_in_nI hx (by decide), ?_⟩⟩
  refine xt_bind (nm := nI w) (v := gh) (by rw [hcc]; exact hC) (by rw [hcx]; exact hh) (by omega) ⟨vp_in_nI (by omega) (by decide), ?_⟩
  refine xt_bind (nm := nI y) (by rw [hcc]; exact hB) rfl (by omega) (nm_r (nI_1 cs) ?_)
  exact H
theorem xf_pf2 {op y w : Nat} {sg : List ZF} {g : ZF} {sb : List ZF} (hn : n ≤ 32) (ht : t < n) (hk : K t = 12) (hp : pn < mp) (h16 : mp ≤ 16) (hA : A t = nI op) (ho : op < 8) (hnc : nc ≤ 1024) (hlen : S.length < 1000)
    (hS : ∀ f ∈ S, f.1 < n ∧ f.2.1 ≤ 1) (hSe : S = sg ++ g :: sb) (hg : zs_hd K cf op g) (hf : ∀ f ∈ sg, ¬ zs_hd K cf op f)
    (hcs : cf g.1 op < n) (hC : C (cf g.1 op) = nI w) (hw : w < 8) (hB : B (cf g.1 op) = nI y) (hy : y < 8) (hbc : bc + 2 < 1024) (h0 : 0 < bc)
    (sa : ∀ p, nx p ≠ 0 → a_after p = nI (nx p)) (sc : ∀ h op, h < 32 → op < 8 → a_caseFor (8 * h + op) = nI (cf h op))
    (HB : xb_B a_bindingOuter bc)
    (G : xs_G a_nodeToken a_nodeStage a_nodeHeld a_nodeScope a_nodeBelow a_bindingName a_bindingValue a_bindingOuter bc nc f_top S R pn a_resumptionFrame a_resumptionTop a_resumptionBottom)
    (H : ∀ u', xr_R K A B C n nx cf mp mt ec ep (some (cf g.1 op + 1), v, upd (upd (upd g.2.2.2 (C (cf g.1 op)).toNatClampNeg g.2.2.1) (B (cf g.1 op)).toNatClampNeg v) 8 (nI pn), sb, zo_set R pn (some (sg, g)), pn + 1, rn, out, on, 1, tc, tp, nc, bc + 3, hc) u' → post u') :
    wpX_finish post (mt, nI mp, nI n, f_openCount, 1, ec, ep, tc, tp, nI on, nI pn, nI rn, nI nc, f_top, nI bc, f_next, nI b, v, K, A, B, C, a_after, a_openToken, a_openStage, a_openClause, a_caseFor, out, a_nodeToken, a_nodeStage, a_nodeHeld, a_nodeScope, a_nodeBelow, a_bindingName, a_bindingValue, a_bindingOuter, a_resumptionFrame, a_resumptionTop, a_resumptionBottom) (nI t) h := by
  have hct : (nI t).toNatClampNeg = t := nI_clamp (by omega)
  rw [hB, hC, nI_clamp (by omega), nI_clamp (by omega)] at H
  refine ⟨vp_in_nI (by omega) (by decide), nm_r (by rw [hct]; exact hk) (br_f (by decide) (br_f (by decide) (br_f (by decide) (br_f (by decide) (br_f (by decide) (br_f (by decide) (br_t rfl ?_)))))))⟩
  rw [hSe] at G
  obtain ⟨L, x, l1, l2, l3, ⟨n1, n2, n3, n4, n5, b0, n6, n7⟩, l5, l6⟩ := hs_cap G
  have hll : L.length ≤ S.length := by rw [hSe, ← l1, List.length_append, List.length_map]; omega
  have hm : ∀ p ∈ L, p.2 ∈ sg := fun p hp => by rw [← l1]; exact List.mem_map.mpr ⟨p, hp, rfl⟩
  have hms : ∀ p ∈ L, p.2 ∈ S := fun p hp => by rw [hSe]; exact List.mem_append.mpr (Or.inl (hm p hp))
  have hgS := hS g (by rw [hSe]; simp)
  simp only at n1 n2 n3 n4 n5 n6 n7
  have hcx : (nI x).toNatClampNeg = x := nI_clamp (by omega)
  have hcp : (nI pn).toNatClampNeg = pn := nI_clamp (by omega)
  have hip : vp_in (nI pn) 16 := vp_in_nI (by omega) (by decide)
  refine br_t (nI_lt hp (by omega)) (nm_r (nI_1 pn) ⟨1 + L.length, ?_⟩)
  refine xw_walk (cf := cf) (n := n) (e0 := nI x) hn ht ho hA hnc sc L 1 0 _ 0 l2 l3 (fun p hp => ⟨(hS _ (hms p hp)).1, (hS _ (hms p hp)).2, hf _ (hm p hp)⟩) (by omega) ?_
  refine br_f (nI_ge (b := 1024) (by omega) (by decide)) (br_f (nI_ne0 (by omega) (by omega)) ⟨vp_in_nI (by omega) (by decide), ?_⟩)
  rw [hct, hA]
  refine xt_frame (cf := cf) (n := n) hn hgS.1 hgS.2 sc (by omega) n3 n4 ho (fun _ => ?_) (fun z => absurd ⟨hg.1, hg.2.1⟩ z)
  refine br_f (nI_ne0 (Nat.pos_of_ne_zero hg.2.2) (by omega)) (br_f (nI_ne0 (Nat.pos_of_ne_zero hg.2.2) (by omega)) (nm_r (nI_pred pn) ⟨hip, nm_r (by rw [hcp]) ⟨hip, nm_r (by rw [hcp]) ⟨hip, nm_r (by rw [hcp]) ⟨vp_in_nI (by omega) (by decide), nm_r (by rw [hcx]) ?_⟩⟩⟩⟩))
  have E1 := xb_E1 HB h0 (by omega) n7 (a := 8) (by omega) (nI pn)
  have HB1 := xb_B1 HB n7.1
  have E2 := xb_E1 HB1 (by omega) (by omega) E1 (a := w) (by omega) g.2.2.1
  have HB2 := xb_B1 HB1 E1.1
  have E3 := xb_E1 HB2 (by omega) (by omega) E2 (a := y) (by omega) v
  have HB3 := xb_B1 HB2 E2.1
  rw [zu_c (a := 8) (b := w) (by omega), zu_c (a := 8) (b := y) (by omega)] at E3
  refine xt_case hn hcs (by omega) n6 (n5 hg.2.1) hC hB hbc ?_
  have G' := l6 (fun r => upd a_resumptionFrame pn (nI x) r = 0) (fun r x' M => upd a_resumptionFrame pn (nI x) r = nI x' ∧ upd a_resumptionBottom pn (hf_l 0 L) r = hf_l 0 M ∧ (M ≠ [] → upd a_resumptionTop pn f_top r = hf_f 0 M)) ?_ ?_ ?_
  · exact H _ (xr_mk sa sc (fun z => absurd z (by decide)) (fun _ => ⟨rfl, rfl, HB3, (fun p z => by cases z; exact ⟨rfl, bc + 2, rfl, E3⟩), (fun z => by cases z), xs_Gb HB2 (by omega) _ _ _ (xs_Gb HB1 (by omega) _ _ _ (xs_Gb HB (by omega) _ _ _ G'))⟩))
  · intro r hr z
    rw [zu_n (by omega)]
    exact z
  · intro r y' L' hr ⟨z1, z2, z3⟩
    rw [zu_n (by omega), zu_n (by omega), zu_n (by omega)]
    exact ⟨z1, z2, z3⟩
  · exact ⟨zu_s, zu_s, fun z => by rw [zu_s]; exact hf_c z l2⟩
theorem xt_r87 {r : Nat} {L : List HPr} (hr : r < 16) (hB : a_resumptionBottom r = hf_l 0 L) (hT : L ≠ [] → a_resumptionTop r = hf_f 0 L) (hL : ∀ p ∈ L, 1 ≤ p.1 ∧ p.1 < 1024)
    (H0 : L = [] → post (f_maxTokens, f_maxPerforms, f_count, f_openCount, f_status, f_errorCode, f_errorPos, f_trapCode, f_trapPos, f_emittedCount, f_performCount, f_resumeCount, f_nodeCount, f_top, f_bindingCount, f_next, f_scope, f_value, a_kinds, a_argA, a_argB, a_argC, a_after, a_openToken, a_openStage, a_openClause, a_caseFor, a_emitted, a_nodeToken, a_nodeStage, a_nodeHeld, a_nodeScope, a_nodeBelow, a_bindingName, a_bindingValue, a_bindingOuter, a_resumptionFrame, a_resumptionTop, a_resumptionBottom)) (H1 : ∀ L' q, L = L' ++ [q] → post (f_maxTokens, f_maxPerforms, f_count, f_openCount, f_status, f_errorCode, f_errorPos, f_trapCode, f_trapPos, f_emittedCount, f_performCount, f_resumeCount, f_nodeCount, hf_f 0 L, f_bindingCount, f_next, f_scope, f_value, a_kinds, a_argA, a_argB, a_argC, a_after, a_openToken, a_openStage, a_openClause, a_caseFor, a_emitted, a_nodeToken, a_nodeStage, a_nodeHeld, a_nodeScope, upd a_nodeBelow q.1 f_top, a_bindingName, a_bindingValue, a_bindingOuter, a_resumptionFrame, a_resumptionTop, a_resumptionBottom)) : wX_resume_87 post (nI r) f_maxTokens f_maxPerforms f_count f_openCount f_status f_errorCode f_errorPos f_trapCode f_trapPos f_emittedCount f_performCount f_resumeCount f_nodeCount f_top f_bindingCount f_next f_scope f_value a_kinds a_argA a_argB a_argC a_after a_openToken a_openStage a_openClause a_caseFor a_emitted a_nodeToken a_nodeStage a_nodeHeld a_nodeScope a_nodeBelow a_bindingName a_bindingValue a_bindingOuter a_resumptionFrame a_resumptionTop a_resumptionBottom := by
  have hcr : (nI r).toNatClampNeg = r := nI_clamp (by omega)
  have hir : vp_in (nI r) 16 := vp_in_nI hr (by decide)
  rcases hf_sp L with hz | ⟨L', q, hz⟩
  · have e0 : hf_l 0 L = 0 := by rw [hz]; rfl
    exact ⟨hir, xm_r hcr (hB.trans e0) (br_t rfl (H0 hz))⟩
  · have e0 : hf_l 0 L = nI q.1 := by rw [hz]; exact hf_la
    have hq := hL q (by rw [hz]; simp)
    have hcq : (nI q.1).toNatClampNeg = q.1 := nI_clamp (by omega)
    have hne : L ≠ [] := by rw [hz]; simp
    exact ⟨hir, xm_r hcr (hB.trans e0) (br_f (nI_ne0 (by omega) (by omega)) ⟨vp_in_nI hq.2 (by decide), nm_r (by rw [hcq]) ⟨hir, xm_r hcr (hT hne) (H1 L' q hz)⟩⟩)⟩
theorem xt_unus {post : Int32 → Prop} {r : Nat} (hr : r < 16) (H0 : a_resumptionFrame r = 0 → post 0) (H1 : ¬ a_resumptionFrame r = 0 → post 1) : wpX_isUnused post (f_maxTokens, f_maxPerforms, f_count, f_openCount, f_status, f_errorCode, f_errorPos, f_trapCode, f_trapPos, f_emittedCount, f_performCount, f_resumeCount, f_nodeCount, f_top, f_bindingCount, f_next, f_scope, f_value, a_kinds, a_argA, a_argB, a_argC, a_after, a_openToken, a_openStage, a_openClause, a_caseFor, a_emitted, a_nodeToken, a_nodeStage, a_nodeHeld, a_nodeScope, a_nodeBelow, a_bindingName, a_bindingValue, a_bindingOuter, a_resumptionFrame, a_resumptionTop, a_resumptionBottom) (nI r) := by
  have hcr : (nI r).toNatClampNeg = r := nI_clamp (by omega)
  refine br_f (nI_pos (by omega)) (br_f (nI_ge (b := 16) hr (by decide)) ⟨vp_in_nI hr (by decide), ?_⟩)
  rw [hcr]
  exact br_c H0 H1
theorem xf_rs0 {r : Nat} (hn : n ≤ 32) (ht : t < n) (hk : K t = 17) (h16 : pn ≤ 16) (hr : r < pn) (he : e 8 = nI r) (hR : R r = none) (hbc : bc ≤ 1024)
    (sa : ∀ p, nx p ≠ 0 → a_after p = nI (nx p)) (sc : ∀ h op, h < 32 → op < 8 → a_caseFor (8 * h + op) = nI (cf h op))
    (HB : xb_B a_bindingOuter bc) (E : xb_E a_bindingName a_bindingValue a_bindingOuter bc b e)
    (G : xs_G a_nodeToken a_nodeStage a_nodeHeld a_nodeScope a_nodeBelow a_bindingName a_bindingValue a_bindingOuter bc nc f_top S R pn a_resumptionFrame a_resumptionTop a_resumptionBottom)
    (H : ∀ u', xr_R K A B C n nx cf mp mt ec ep (none, v, e, S, R, pn, rn, out, on, 3, 2, nI t, nc, bc, hc) u' → post u') :
    wpX_finish post (mt, nI mp, nI n, f_openCount, 1, ec, ep, tc, tp, nI on, nI pn, nI rn, nI nc, f_top, nI bc, f_next, nI b, v, K, A, B, C, a_after, a_openToken, a_openStage, a_openClause, a_caseFor, out, a_nodeToken, a_nodeStage, a_nodeHeld, a_nodeScope, a_nodeBelow, a_bindingName, a_bindingValue, a_bindingOuter, a_resumptionFrame, a_resumptionTop, a_resumptionBottom) (nI t) h := by
  have hct : (nI t).toNatClampNeg = t := nI_clamp (by omega)
  refine ⟨vp_in_nI (by omega) (by decide), nm_r (by rw [hct]; exact hk) (br_f (by decide) (br_f (by decide) (br_f (by decide) (br_f (by decide) (br_f (by decide) (br_f (by decide) (br_f (by decide) (br_f (by decide) (br_f (by decide) (br_f (by decide) (br_f (by decide) (br_t rfl ?_))))))))))))⟩
  unfold wpX_resume
  dsimp only
  refine xt_lookUp (j := 8) HB hbc E (by omega) ?_
  rw [he]
  obtain ⟨Q, -, -, -, q4⟩ := G
  have z0 := (q4 r hr).1 hR
  refine xt_unus (by omega) (fun _ => br_t rfl ?_) (fun z => absurd z0 z)
  exact H _ (xr_mk sa sc (fun z => absurd z (by decide)) (fun z => absurd z (by decide)))
theorem xf_rs1 {r : Nat} {sg : List ZF} {g : ZF} (hn : n ≤ 32) (ht : t < n) (hk : K t = 17) (h16 : pn ≤ 16) (hr : r < pn) (he : e 8 = nI r) (hR : R r = some (sg, g)) (hbc : bc ≤ 1024) (hnc : nc ≤ 1024) (hg1 : g.1 < n) (hgs : g.2.1 = 1)
    (sa : ∀ p, nx p ≠ 0 → a_after p = nI (nx p)) (sc : ∀ h op, h < 32 → op < 8 → a_caseFor (8 * h + op) = nI (cf h op))
    (HB : xb_B a_bindingOuter bc) (E : xb_E a_bindingName a_bindingValue a_bindingOuter bc b e)
    (G : xs_G a_nodeToken a_nodeStage a_nodeHeld a_nodeScope a_nodeBelow a_bindingName a_bindingValue a_bindingOuter bc nc f_top S R pn a_resumptionFrame a_resumptionTop a_resumptionBottom)
    (H : ∀ u', xr_R K A B C n nx cf mp mt ec ep (none, v, e, sg ++ (if A g.1 = 0 then (g.1, 1, h, g.2.2.2) :: S else S), zo_set R (e 8).toNatClampNeg none, pn, rn + 1, out, on, 1, tc, tp, nc, bc, hc + (if A g.1 = 0 then 1 else 0)) u' → post u') :
    wpX_finish post (mt, nI mp, nI n, f_openCount, 1, ec, ep, tc, tp, nI on, nI pn, nI rn, nI nc, f_top, nI bc, -1, nI b, v, K, A, B, C, a_after, a_openToken, a_openStage, a_openClause, a_caseFor, out, a_nodeToken, a_nodeStage, a_nodeHeld, a_nodeScope, a_nodeBelow, a_bindingName, a_bindingValue, a_bindingOuter, a_resumptionFrame, a_resumptionTop, a_resumptionBottom) (nI t) h := by
  have hct : (nI t).toNatClampNeg = t := nI_clamp (by omega)
  have hcr : (nI r).toNatClampNeg = r := nI_clamp (by omega)
  have hir : vp_in (nI r) 16 := vp_in_nI (by omega) (by decide)
  have hcg : (nI g.1).toNatClampNeg = g.1 := nI_clamp (by omega)
  rw [he, hcr] at H
  refine ⟨vp_in_nI (by omega) (by decide), nm_r (by rw [hct]; exact hk) (br_f (by decide) (br_f (by decide) (br_f (by decide) (br_f (by decide) (br_f (by decide) (br_f (by decide) (br_f (by decide) (br_f (by decide) (br_f (by decide) (br_f (by decide) (br_f (by decide) (br_t rfl ?_))))))))))))⟩
  unfold wpX_resume
  dsimp only
  refine xt_lookUp (j := 8) HB hbc E (by omega) ?_
  rw [he]
  have m0 : ∀ r', r' ≠ r → a_resumptionFrame r' = 0 → upd a_resumptionFrame r 0 r' = 0 := fun r' z y => by rw [zu_n z]; exact y
  have m1 : ∀ r' y L, r' ≠ r → (a_resumptionFrame r' = nI y ∧ a_resumptionBottom r' = hf_l 0 L ∧ (L ≠ [] → a_resumptionTop r' = hf_f 0 L)) → (upd a_resumptionFrame r 0 r' = nI y ∧ a_resumptionBottom r' = hf_l 0 L ∧ (L ≠ [] → a_resumptionTop r' = hf_f 0 L)) :=
    fun r' y L z w => by rw [zu_n z]; exact w
  by_cases hd : A g.1 = 0
  · rw [if_pos hd, if_pos hd] at H
    obtain ⟨x, L, l1, ⟨p1, p2, p3⟩, ⟨n1, n2, n3, n4, n5, n6⟩, l4, l5, l6⟩ := hs_deep G hr hR hgs h (P0' := fun r' => upd a_resumptionFrame r 0 r' = 0) (P1' := fun r' x L => upd a_resumptionFrame r 0 r' = nI x ∧ a_resumptionBottom r' = hf_l 0 L ∧ (L ≠ [] → a_resumptionTop r' = hf_f 0 L)) m0 m1 zu_s
    simp only at n1 n2 n3
    have hcx : (nI x).toNatClampNeg = x := nI_clamp (by omega)
    have hix : vp_in (nI x) 1024 := vp_in_nI (by omega) (by decide)
    refine xt_unus (by omega) (fun z => absurd (p1.symm.trans z) (nI_ne0 (by omega) (by omega))) (fun _ => br_f (by decide) ⟨hir, xm_r hcr p1 ⟨hir, nm_r (by rw [hcr]) (nm_r (nI_1 rn) ⟨hix, ⟨?_, br_t ?_ ⟨hix, nm_r (by rw [hcx]) ⟨hix, nm_r (by rw [hcx]) ?_⟩⟩⟩⟩)⟩⟩)
    · rw [hcx, n3]; exact vp_in_nI (by omega) (by decide)
    · rw [hcx, n3, hcg]; exact hd
    · refine xt_r87 (L := L) (by omega) p2 p3 (fun p hp => ⟨(l4 p hp).1, by have := (l4 p hp).2.1; omega⟩) (fun z => ?_) (fun L' q z => ?_)
      · have ez : sg = [] := by rw [← l1, z]; rfl
        rw [ez] at H
        exact H _ (xr_mk sa sc (fun z => absurd z (by decide)) (fun _ => ⟨rfl, rfl, HB, (fun p z => by cases z), (fun _ => ⟨rfl, rfl⟩), l5 z⟩))
      · exact H _ (xr_mk sa sc (fun z => absurd z (by decide)) (fun _ => ⟨rfl, rfl, HB, (fun p z => by cases z), (fun _ => ⟨rfl, rfl⟩), l6 L' q z⟩))
  · rw [if_neg hd, if_neg hd] at H
    obtain ⟨x, L, l1, ⟨p1, p2, p3⟩, ⟨n1, n2, n3, n4, n5, n6⟩, l4, l5, l6⟩ := hs_spl G hr hR (P0' := fun r' => upd a_resumptionFrame r 0 r' = 0) (P1' := fun r' x L => upd a_resumptionFrame r 0 r' = nI x ∧ a_resumptionBottom r' = hf_l 0 L ∧ (L ≠ [] → a_resumptionTop r' = hf_f 0 L)) m0 m1 zu_s
    simp only at n1 n2 n3
    have hcx : (nI x).toNatClampNeg = x := nI_clamp (by omega)
    have hix : vp_in (nI x) 1024 := vp_in_nI (by omega) (by decide)
    refine xt_unus (by omega) (fun z => absurd (p1.symm.trans z) (nI_ne0 (by omega) (by omega))) (fun _ => br_f (by decide) ⟨hir, xm_r hcr p1 ⟨hir, nm_r (by rw [hcr]) (nm_r (nI_1 rn) ⟨hix, ⟨?_, br_f ?_ ?_⟩⟩)⟩⟩)
    · rw [hcx, n3]; exact vp_in_nI (by omega) (by decide)
    · rw [hcx, n3, hcg]; exact hd
    · refine xt_r87 (L := L) (by omega) p2 p3 (fun p hp => ⟨(l4 p hp).1, by have := (l4 p hp).2.1; omega⟩) (fun z => ?_) (fun L' q z => ?_)
      · have ez : sg = [] := by rw [← l1, z]; rfl
        rw [ez] at H
        exact H _ (xr_mk sa sc (fun z => absurd z (by decide)) (fun _ => ⟨rfl, rfl, HB, (fun p z => by cases z), (fun _ => ⟨rfl, rfl⟩), l5 z⟩))
      · exact H _ (xr_mk sa sc (fun z => absurd z (by decide)) (fun _ => ⟨rfl, rfl, HB, (fun p z => by cases z), (fun _ => ⟨rfl, rfl⟩), l6 L' q z⟩))
end
