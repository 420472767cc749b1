abbrev xs_G (nT nS nH nSc nB bN bV bO : Nat → Int32) (bc nc : Nat) (topI : Int32) (S : List ZF) (R : ZR) (pn : Nat) (rF rT rB : Nat → Int32) : Prop :=
  hs_G nT nS nH nB (fun x e => ∃ b, nSc x = nI b ∧ xb_E bN bV bO bc b e) 1 nc 0 topI S R pn (fun r => rF r = 0) (fun r x L => rF r = nI x ∧ rB r = hf_l 0 L ∧ (L ≠ [] → rT r = hf_f 0 L))
section
variable {f_maxTokens f_maxPerforms f_count f_openCount f_status f_errorCode f_errorPos f_trapCode f_trapPos f_emittedCount f_performCount f_resumeCount f_nodeCount f_top f_bindingCount f_next f_scope f_value : Int32} {a_kinds a_argA a_argB a_argC a_after a_openToken a_openStage a_openClause a_caseFor a_emitted a_nodeToken a_nodeStage a_nodeHeld a_nodeScope a_nodeBelow a_bindingName a_bindingValue a_bindingOuter a_resumptionFrame a_resumptionTop a_resumptionBottom : Nat → Int32} {K A B C : Nat → Int32} {n : Nat} {nx : Nat → Nat} {cf : Nat → Nat → Nat} {mp : Nat} {mt ec ep : Int32} {post : SX → Prop} {v : Int32} {e : Nat → Int32} {S : List ZF} {R : ZR} {pn rn : Nat} {out : Nat → Int32} {on : Nat} {tc tp : Int32} {nc bc hc t b : Nat} {h : Int32}
theorem xs_Gb {nT nS nH nSc nB bN bV bO : Nat → Int32} {topI : Int32} {rF rT rB : Nat → Int32} (HB : xb_B bO bc) (hb : bc < 2 ^ 31) (n0 v o : Int32) (G : xs_G nT nS nH nSc nB bN bV bO bc nc topI S R pn rF rT rB) :
    xs_G nT nS nH nSc nB (upd bN bc n0) (upd bV bc v) (upd bO bc o) (bc + 1) nc topI S R pn rF rT rB :=
  hs_ev G (fun _ _ _ ⟨b, h1, h2⟩ => ⟨b, h1, xb_E0 HB hb h2 _ _ _⟩)
theorem xf_let {x : Nat} (hn : n ≤ 32) (ht : t < n) (hk : K t = 9) (hA : A t = nI x) (hx : x < 8) (c0 : nx (t + 1) ≠ 0) (c1 : t + 1 < n) (c2 : nx (t + 1) < n) (hbc : bc < 1024) (h0 : 0 < bc)
    (sa : ∀ p, nx p ≠ 0 → a_after p = nI (nx p)) (sc : ∀ h op, h < 32 → op < 8 → a_caseFor (8 * h + op) = nI (cf h op))
    (HB : xb_B a_bindingOuter bc) (E : xb_E a_bindingName a_bindingValue a_bindingOuter bc b e)
    (G : xs_G a_nodeToken a_nodeStage a_nodeHeld a_nodeScope a_nodeBelow a_bindingName a_bindingValue a_bindingOuter bc nc f_top S R pn a_resumptionFrame a_resumptionTop a_resumptionBottom)
    (H : ∀ u', xr_R K A B C n nx cf mp mt ec ep (some (nx (t + 1)), v, upd e (A t).toNatClampNeg v, S, R, pn, rn, out, on, 1, tc, tp, nc, bc + 1, hc) u' → post u') :
    wpX_finish post (mt, nI mp, nI n, f_openCount, 1, ec, ep, tc, tp, nI on, nI pn, nI rn, nI nc, f_top, nI bc, f_next, nI b, v, K, A, B, C, a_after, a_openToken, a_openStage, a_openClause, a_caseFor, out, a_nodeToken, a_nodeStage, a_nodeHeld, a_nodeScope, a_nodeBelow, a_bindingName, a_bindingValue, a_bindingOuter, a_resumptionFrame, a_resumptionTop, a_resumptionBottom) (nI t) h := by
  have hct : (nI t).toNatClampNeg = t := nI_clamp (by omega)
  rw [hA, nI_clamp (by omega)] at H
  refine ⟨vp_in_nI (by omega) (by decide), nm_r (by rw [hct]; exact hk) (br_f (by decide) (br_f (by decide) (br_f (by decide) (br_t rfl ⟨vp_in_nI (by omega) (by decide), ?_⟩))))⟩
  refine xt_bind (nm := nI x) (by rw [hct]; exact hA) rfl hbc ?_
  refine xt_after (nI_1 t) hn sa c0 c1 c2 ?_
  exact H _ (xr_mk sa sc (fun z => absurd z (by decide)) (fun _ => ⟨rfl, rfl, xb_B1 HB E.1, (fun p z => by cases z; exact ⟨rfl, bc, rfl, xb_E1 HB h0 (by omega) E (by omega) v⟩), (fun z => by cases z), xs_Gb HB (by omega) _ _ _ G⟩))
theorem xf_seq (hn : n ≤ 32) (ht : t < n) (hk : K t = 10) (c0 : nx (t + 1) ≠ 0) (c1 : t + 1 < n) (c2 : nx (t + 1) < n)
    (sa : ∀ p, nx p ≠ 0 → a_after p = nI (nx p)) (sc : ∀ h op, h < 32 → op < 8 → a_caseFor (8 * h + op) = nI (cf h op))
    (HB : xb_B a_bindingOuter bc) (E : xb_E a_bindingName a_bindingValue a_bindingOuter bc b e)
    (G : xs_G a_nodeToken a_nodeStage a_nodeHeld a_nodeScope a_nodeBelow a_bindingName a_bindingValue a_bindingOuter bc nc f_top S R pn a_resumptionFrame a_resumptionTop a_resumptionBottom)
    (H : ∀ u', xr_R K A B C n nx cf mp mt ec ep (some (nx (t + 1)), v, e, S, R, pn, rn, out, on, 1, tc, tp, nc, bc, hc) u' → post u') :
    wpX_finish post (mt, nI mp, nI n, f_openCount, 1, ec, ep, tc, tp, nI on, nI pn, nI rn, nI nc, f_top, nI bc, f_next, nI b, v, K, A, B, C, a_after, a_openToken, a_openStage, a_openClause, a_caseFor, out, a_nodeToken, a_nodeStage, a_nodeHeld, a_nodeScope, a_nodeBelow, a_bindingName, a_bindingValue, a_bindingOuter, a_resumptionFrame, a_resumptionTop, a_resumptionBottom) (nI t) h := by
  have hct : (nI t).toNatClampNeg = t := nI_clamp (by omega)
  refine ⟨vp_in_nI (by omega) (by decide), nm_r (by rw [hct]; exact hk) (br_f (by decide) (br_f (by decide) (br_f (by decide) (br_f (by decide) (br_t rfl ?_)))))⟩
  refine xt_after (nI_1 t) hn sa c0 c1 c2 ?_
  exact H _ (xr_mk sa sc (fun z => absurd z (by decide)) (fun _ => ⟨rfl, rfl, HB, (fun p z => by cases z; exact ⟨rfl, b, rfl, E⟩), (fun z => by cases z), G⟩))
theorem xf_if (hn : n ≤ 32) (ht : t < n) (hk : K t = 8) (c0 : nx (t + 1) ≠ 0) (c1 : t + 1 < n) (c2 : nx (t + 1) < n) (c3 : nx (nx (t + 1)) ≠ 0) (c4 : nx (nx (t + 1)) < n)
    (sa : ∀ p, nx p ≠ 0 → a_after p = nI (nx p)) (sc : ∀ h op, h < 32 → op < 8 → a_caseFor (8 * h + op) = nI (cf h op))
    (HB : xb_B a_bindingOuter bc) (E : xb_E a_bindingName a_bindingValue a_bindingOuter bc b e)
    (G : xs_G a_nodeToken a_nodeStage a_nodeHeld a_nodeScope a_nodeBelow a_bindingName a_bindingValue a_bindingOuter bc nc f_top S R pn a_resumptionFrame a_resumptionTop a_resumptionBottom)
    (H : ∀ u', xr_R K A B C n nx cf mp mt ec ep (some (if v = 0 then nx (nx (t + 1)) else nx (t + 1)), v, e, S, R, pn, rn, out, on, 1, tc, tp, nc, bc, hc) u' → post u') :
    wpX_finish post (mt, nI mp, nI n, f_openCount, 1, ec, ep, tc, tp, nI on, nI pn, nI rn, nI nc, f_top, nI bc, f_next, nI b, v, K, A, B, C, a_after, a_openToken, a_openStage, a_openClause, a_caseFor, out, a_nodeToken, a_nodeStage, a_nodeHeld, a_nodeScope, a_nodeBelow, a_bindingName, a_bindingValue, a_bindingOuter, a_resumptionFrame, a_resumptionTop, a_resumptionBottom) (nI t) h := by
  have hct : (nI t).toNatClampNeg = t := nI_clamp (by omega)
  refine ⟨vp_in_nI (by omega) (by decide), nm_r (by rw [hct]; exact hk) (br_f (by decide) (br_f (by decide) (br_t rfl ?_)))⟩
  unfold wpX_choose
  refine xt_after (nI_1 t) hn sa c0 c1 c2 ?_
  by_cases hv : v = 0
  · rw [if_pos hv] at H
    refine br_t hv ?_
    refine xt_after rfl hn sa c3 c2 c4 ?_
    exact H _ (xr_mk sa sc (fun z => absurd z (by decide)) (fun _ => ⟨rfl, rfl, HB, (fun p z => by cases z; exact ⟨rfl, b, rfl, E⟩), (fun z => by cases z), G⟩))
  · rw [if_neg hv] at H
    refine br_f hv ?_
    exact H _ (xr_mk sa sc (fun z => absurd z (by decide)) (fun _ => ⟨rfl, rfl, HB, (fun p z => by cases z; exact ⟨rfl, b, rfl, E⟩), (fun z => by cases z), G⟩))
theorem xf_em0 (hn : n ≤ 32) (ht : t < n) (hk : K t = 11) (ho : on = 16)
    (sa : ∀ p, nx p ≠ 0 → a_after p = nI (nx p)) (sc : ∀ h op, h < 32 → op < 8 → a_caseFor (8 * h + op) = nI (cf h op))
    (H : ∀ u', xr_R K A B C n nx cf mp mt ec ep (none, v, e, S, R, pn, rn, out, on, 3, 4, nI t, nc, bc, hc) u' → post u') :
    wpX_finish post (mt, nI mp, nI n, f_openCount, 1, ec, ep, tc, tp, nI on, nI pn, nI rn, nI nc, f_top, nI bc, f_next, nI b, v, K, A, B, C, a_after, a_openToken, a_openStage, a_openClause, a_caseFor, out, a_nodeToken, a_nodeStage, a_nodeHeld, a_nodeScope, a_nodeBelow, a_bindingName, a_bindingValue, a_bindingOuter, a_resumptionFrame, a_resumptionTop, a_resumptionBottom) (nI t) h := by
  have hct : (nI t).toNatClampNeg = t := nI_clamp (by omega)
  refine ⟨vp_in_nI (by omega) (by decide), nm_r (by rw [hct]; exact hk) (br_f (by decide) (br_f (by decide) (br_f (by decide) (br_f (by decide) (br_f (by decide) (br_t rfl ?_))))))⟩
  refine br_f (nI_nlt (b := 16) (by omega) (by omega)) ?_
  exact H _ (xr_mk sa sc (fun z => absurd z (by decide)) (fun z => absurd z (by decide)))
theorem xf_em1 (hn : n ≤ 32) (ht : t < n) (hk : K t = 11) (ho : on < 16)
    (sa : ∀ p, nx p ≠ 0 → a_after p = nI (nx p)) (sc : ∀ h op, h < 32 → op < 8 → a_caseFor (8 * h + op) = nI (cf h op))
    (HB : xb_B a_bindingOuter bc)
    (G : xs_G a_nodeToken a_nodeStage a_nodeHeld a_nodeScope a_nodeBelow a_bindingName a_bindingValue a_bindingOuter bc nc f_top S R pn a_resumptionFrame a_resumptionTop a_resumptionBottom)
    (H : ∀ u', xr_R K A B C n nx cf mp mt ec ep (none, v, e, S, R, pn, rn, upd out on v, on + 1, 1, tc, tp, nc, bc, hc) u' → post u') :
    wpX_finish post (mt, nI mp, nI n, f_openCount, 1, ec, ep, tc, tp, nI on, nI pn, nI rn, nI nc, f_top, nI bc, -1, nI b, v, K, A, B, C, a_after, a_openToken, a_openStage, a_openClause, a_caseFor, out, a_nodeToken, a_nodeStage, a_nodeHeld, a_nodeScope, a_nodeBelow, a_bindingName, a_bindingValue, a_bindingOuter, a_resumptionFrame, a_resumptionTop, a_resumptionBottom) (nI t) h := by
  have hct : (nI t).toNatClampNeg = t := nI_clamp (by omega)
  have hco : (nI on).toNatClampNeg = on := nI_clamp (by omega)
  refine ⟨vp_in_nI (by omega) (by decide), nm_r (by rw [hct]; exact hk) (br_f (by decide) (br_f (by decide) (br_f (by decide) (br_f (by decide) (br_f (by decide) (br_t rfl ?_))))))⟩
  refine br_t (nI_lt (b := 16) ho (by decide)) ⟨vp_in_nI ho (by decide), nm_r (by rw [hco]) (nm_r (nI_1 on) ?_)⟩
  exact H _ (xr_mk sa sc (fun z => absurd z (by decide)) (fun _ => ⟨rfl, rfl, HB, (fun p z => by cases z), (fun _ => ⟨rfl, rfl⟩), G⟩))
theorem xf_bin (hn : n ≤ 32) (ht : t < n) (hk : K t = 3 ∨ K t = 4 ∨ K t = 5 ∨ K t = 6 ∨ K t = 7)
    (sa : ∀ p, nx p ≠ 0 → a_after p = nI (nx p)) (sc : ∀ h op, h < 32 → op < 8 → a_caseFor (8 * h + op) = nI (cf h op))
    (HB : xb_B a_bindingOuter bc)
    (G : xs_G a_nodeToken a_nodeStage a_nodeHeld a_nodeScope a_nodeBelow a_bindingName a_bindingValue a_bindingOuter bc nc f_top S R pn a_resumptionFrame a_resumptionTop a_resumptionBottom)
    (H : ∀ u', xr_R K A B C n nx cf mp mt ec ep (none, zs_ar (K t) h v, e, S, R, pn, rn, out, on, 1, tc, tp, nc, bc, hc) u' → post u') :
    wpX_finish post (mt, nI mp, nI n, f_openCount, 1, ec, ep, tc, tp, nI on, nI pn, nI rn, nI nc, f_top, nI bc, -1, nI b, v, K, A, B, C, a_after, a_openToken, a_openStage, a_openClause, a_caseFor, out, a_nodeToken, a_nodeStage, a_nodeHeld, a_nodeScope, a_nodeBelow, a_bindingName, a_bindingValue, a_bindingOuter, a_resumptionFrame, a_resumptionTop, a_resumptionBottom) (nI t) h := by
  have hct : (nI t).toNatClampNeg = t := nI_clamp (by omega)
  have h8 : K t < 8 := by rcases hk with k | k | k | k | k <;> (rw [k]; decide)
  refine ⟨vp_in_nI (by omega) (by decide), nm_r (by rw [hct]) (br_t h8 ⟨vp_in_nI (by omega) (by decide), ?_⟩)⟩
  rw [hct]
  refine xt_comb hk ?_
  exact H _ (xr_mk sa sc (fun z => absurd z (by decide)) (fun _ => ⟨rfl, rfl, HB, (fun p z => by cases z), (fun _ => ⟨rfl, rfl⟩), G⟩))
theorem xf_ret {x y c3 : Nat} (hn : n ≤ 32) (ht : t < n) (hk : K t = 13) (e3 : nx (nx (t + 1)) = c3) (hA : A c3 = nI x) (hx : x < 8) (hB : B c3 = nI y) (hy : y < 8) (c0 : nx (t + 1) ≠ 0) (c1 : t + 1 < n) (c2 : nx (t + 1) < n) (c3' : c3 ≠ 0) (c4 : c3 < n) (hbc : bc + 1 < 1024) (h0 : 0 < bc)
    (sa : ∀ p, nx p ≠ 0 → a_after p = nI (nx p)) (sc : ∀ h op, h < 32 → op < 8 → a_caseFor (8 * h + op) = nI (cf h op))
    (HB : xb_B a_bindingOuter bc) (E : xb_E a_bindingName a_bindingValue a_bindingOuter bc b e)
    (G : xs_G a_nodeToken a_nodeStage a_nodeHeld a_nodeScope a_nodeBelow a_bindingName a_bindingValue a_bindingOuter bc nc f_top S R pn a_resumptionFrame a_resumptionTop a_resumptionBottom)
    (H : ∀ u', xr_R K A B C n nx cf mp mt ec ep (some (c3 + 1), v, upd (upd e (B c3).toNatClampNeg h) (A c3).toNatClampNeg v, S, R, pn, rn, out, on, 1, tc, tp, nc, bc + 2, hc) u' → post u') :
    wpX_finish post (mt, nI mp, nI n, f_openCount, 1, ec, ep, tc, tp, nI on, nI pn, nI rn, nI nc, f_top, nI bc, f_next, nI b, v, K, A, B, C, a_after, a_openToken, a_openStage, a_openClause, a_caseFor, out, a_nodeToken, a_nodeStage, a_nodeHeld, a_nodeScope, a_nodeBelow, a_bindingName, a_bindingValue, a_bindingOuter, a_resumptionFrame, a_resumptionTop, a_resumptionBottom) (nI t) h := by
  have hct : (nI t).toNatClampNeg = t := nI_clamp (by omega)
  have hcc : (nI c3).toNatClampNeg = c3 := nI_clamp (by omega)
  rw [hA, hB, nI_clamp (by omega), nI_clamp (by omega)] at H
  refine ⟨vp_in_nI (by omega) (by decide), nm_r (by rw [hct]; exact hk) (br_f (by decide) (br_f (by decide) (br_f (by decide) (br_f (by decide) (br_f (by decide) (br_f (by decide) (br_f (by decide) (br_t rfl ?_))))))))⟩
  unfold wpX_leaveHandle
  dsimp only
  unfold wpX_returnOf
  refine xt_after (nI_1 t) hn sa c0 c1 c2 ?_
  refine xt_after rfl hn sa (by rw [e3]; exact c3') c2 (by rw [e3]; exact c4) ?_
  rw [e3]
  have E1 := xb_E1 HB h0 (by omega) E (a := y) (by omega) h
  have HB1 := xb_B1 HB E.1
  refine ⟨vp_in_nI (by omega) (by decide), xt_bind (nm := nI y) (by rw [hcc]; exact hB) rfl (by omega) ⟨vp_in_nI (by omega) (by decide), xt_bind (nm := nI x) (by rw [hcc]; exact hA) rfl hbc (nm_r (nI_1 c3) ?_)⟩⟩
  exact H _ (xr_mk sa sc (fun z => absurd z (by decide)) (fun _ => ⟨rfl, rfl, xb_B1 HB1 E1.1, (fun p z => by cases z; exact ⟨rfl, bc + 1, rfl, xb_E1 HB1 (by omega) (by omega) E1 (by omega) v⟩), (fun z => by cases z), xs_Gb HB1 (by omega) _ _ _ (xs_Gb HB (by omega) _ _ _ G)⟩))
end
