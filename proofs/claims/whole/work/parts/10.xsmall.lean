def xr_R (K A B C : Nat → Int32) (n : Nat) (nx : Nat → Nat) (cf : Nat → Nat → Nat) (mp : Nat) (mt ec ep : Int32) (z : ZZ) (u : SX) : Prop :=
  match u with
  | (f_maxTokens, f_maxPerforms, f_count, f_openCount, f_status, f_errorCode, f_errorPos, f_trapCode, f_trapPos, f_emittedCount, f_performCount, f_resumeCount, f_nodeCount, f_top, f_bindingCount, f_next, f_scope, f_value, a_kinds, a_argA, a_argB, a_argC, a_after, a_openToken, a_openStage, a_openClause, a_caseFor, a_emitted, a_nodeToken, a_nodeStage, a_nodeHeld, a_nodeScope, a_nodeBelow, a_bindingName, a_bindingValue, a_bindingOuter, a_resumptionFrame, a_resumptionTop, a_resumptionBottom) => match z with
    | (fo, v, e, S, R, pn, rn, out, on, st, tc, tp, nc, bc, hc) =>
      (f_maxTokens = mt ∧ f_maxPerforms = nI mp ∧ f_count = nI n ∧ f_status = nI st ∧ f_errorCode = ec ∧ f_errorPos = ep ∧ f_trapCode = tc ∧ f_trapPos = tp ∧ f_emittedCount = nI on ∧ f_performCount = nI pn ∧ f_resumeCount = nI rn) ∧
      (a_kinds = K ∧ a_argA = A ∧ a_argB = B ∧ a_argC = C ∧ a_emitted = out) ∧ (∀ p, nx p ≠ 0 → a_after p = nI (nx p)) ∧ (∀ h op, h < 32 → op < 8 → a_caseFor (8 * h + op) = nI (cf h op)) ∧
      (st = 2 → f_value = v) ∧
      (st = 1 → rx_I a_nodeToken a_nodeStage a_nodeHeld a_nodeScope a_nodeBelow f_nodeCount f_top a_bindingName a_bindingValue a_bindingOuter f_bindingCount a_resumptionFrame a_resumptionTop a_resumptionBottom f_next f_scope f_value
        (fo, v, e, S, R, pn, rn, out, on, st, tc, tp, nc, bc, hc))
section
variable {f_maxTokens f_maxPerforms f_count f_openCount f_status f_errorCode f_errorPos f_trapCode f_trapPos f_emittedCount f_performCount f_resumeCount f_nodeCount f_top f_bindingCount f_next f_scope f_value : Int32} {a_kinds a_argA a_argB a_argC a_after a_openToken a_openStage a_openClause a_caseFor a_emitted a_nodeToken a_nodeStage a_nodeHeld a_nodeScope a_nodeBelow a_bindingName a_bindingValue a_bindingOuter a_resumptionFrame a_resumptionTop a_resumptionBottom : Nat → Int32} {K A B C : Nat → Int32} {n : Nat} {nx : Nat → Nat} {cf : Nat → Nat → Nat} {mp : Nat} {mt ec ep : Int32} {bc nc : Nat} {post : SX → Prop}
theorem xr_mk {fo : Option Nat} {v : Int32} {e : Nat → Int32} {S : List ZF} {R : ZR} {pn rn : Nat} {out : Nat → Int32} {on st : Nat} {tc tp : Int32} {nc bc hc : Nat}
    (sa : ∀ p, nx p ≠ 0 → a_after p = nI (nx p)) (sc : ∀ h op, h < 32 → op < 8 → a_caseFor (8 * h + op) = nI (cf h op)) (h2 : st = 2 → f_value = v)
    (h1 : st = 1 → rx_I a_nodeToken a_nodeStage a_nodeHeld a_nodeScope a_nodeBelow f_nodeCount f_top a_bindingName a_bindingValue a_bindingOuter f_bindingCount a_resumptionFrame a_resumptionTop a_resumptionBottom f_next f_scope f_value
        (fo, v, e, S, R, pn, rn, out, on, st, tc, tp, nc, bc, hc)) :
    xr_R K A B C n nx cf mp mt ec ep (fo, v, e, S, R, pn, rn, out, on, st, tc, tp, nc, bc, hc)
      (mt, nI mp, nI n, f_openCount, nI st, ec, ep, tc, tp, nI on, nI pn, nI rn, f_nodeCount, f_top, f_bindingCount, f_next, f_scope, f_value, K, A, B, C, a_after, a_openToken, a_openStage, a_openClause, a_caseFor, out, a_nodeToken, a_nodeStage, a_nodeHeld, a_nodeScope, a_nodeBelow, a_bindingName, a_bindingValue, a_bindingOuter, a_resumptionFrame, a_resumptionTop, a_resumptionBottom) :=
  ⟨⟨rfl, rfl, rfl, rfl, rfl, rfl, rfl, rfl, rfl, rfl, rfl⟩, ⟨rfl, rfl, rfl, rfl, rfl⟩, sa, sc, h2, h1⟩
theorem xt_after {post : Int32 → Prop} {p : Nat} {a0 : Int32} (ha : a0 = nI p) (hn : n ≤ 32) (sa : ∀ p, nx p ≠ 0 → a_after p = nI (nx p)) (h0 : nx p ≠ 0) (hp : p < n) (hx : nx p < n) (H : post (nI (nx p))) :
    wpX_tokenAfter post (f_maxTokens, f_maxPerforms, nI n, f_openCount, f_status, f_errorCode, f_errorPos, f_trapCode, f_trapPos, f_emittedCount, f_performCount, f_resumeCount, f_nodeCount, f_top, f_bindingCount, f_next, f_scope, f_value, a_kinds, a_argA, a_argB, a_argC, a_after, a_openToken, a_openStage, a_openClause, a_caseFor, a_emitted, a_nodeToken, a_nodeStage, a_nodeHeld, a_nodeScope, a_nodeBelow, a_bindingName, a_bindingValue, a_bindingOuter, a_resumptionFrame, a_resumptionTop, a_resumptionBottom) a0 := by
  subst ha
  refine br_f (nI_pos (by omega)) (br_f (nI_ge hp (by omega)) ⟨vp_in_nI (by omega) (by omega), ?_⟩)
  rw [nI_clamp (by omega), sa p h0]
  exact br_f (nI_ge hx (by omega)) H
theorem xt_look {post : Int32 → Prop} {nm : Int32} (HB : xb_B a_bindingOuter bc) (hbc : bc ≤ 1024) : ∀ (fu b i : Nat), b < fu → b < bc → b + i < 1024 → post (xb_k a_bindingName a_bindingValue a_bindingOuter nm b b) →
    wX_lookUp_7 post nm f_maxTokens f_maxPerforms f_count f_openCount f_status f_errorCode f_errorPos f_trapCode f_trapPos f_emittedCount f_performCount f_resumeCount f_nodeCount f_top f_bindingCount f_next f_scope f_value a_kinds a_argA a_argB a_argC a_after a_openToken a_openStage a_openClause a_caseFor a_emitted a_nodeToken a_nodeStage a_nodeHeld a_nodeScope a_nodeBelow a_bindingName a_bindingValue a_bindingOuter a_resumptionFrame a_resumptionTop a_resumptionBottom fu (nI b) (nI i) := by
  intro fu
  induction fu with
  | zero => intro b i h; omega
  | succ fu ih =>
    intro b i h1 h2 h3 H
    have hc : (nI b).toNatClampNeg = b := nI_clamp (by omega)
    refine br_f (nI_ge (b := 1024) (by omega) (by decide)) ?_
    by_cases hb : b = 0
    · subst hb
      rw [xb_0] at H
      exact br_t rfl H
    · refine br_f (nI_ne0 (by omega) (by omega)) ⟨vp_in_nI (by omega) (by decide), ?_⟩
      by_cases hn : a_bindingName b = nm
      · rw [xb_hit hb hn] at H
        exact br_t (by rw [hc]; exact hn) ⟨vp_in_nI (by omega) (by decide), by rw [hc]; exact H⟩
      · obtain ⟨o, ho, hlt, hk⟩ := xb_next (bN := a_bindingName) (bV := a_bindingValue) HB (by omega) hb h2 hn
        rw [hk] at H
        exact br_f (by rw [hc]; exact hn) ⟨vp_in_nI (by omega) (by decide), nm_r (by rw [hc]; exact ho) (nm_r (nI_1 i) (ih o (i + 1) (by omega) (by omega) (by omega) H))⟩
theorem xt_lookUp {post : Int32 → Prop} {b j : Nat} {e : Nat → Int32} (HB : xb_B a_bindingOuter bc) (hbc : bc ≤ 1024) (E : xb_E a_bindingName a_bindingValue a_bindingOuter bc b e) (hj : j < 9) (H : post (e j)) :
    wpX_lookUp post (f_maxTokens, f_maxPerforms, f_count, f_openCount, f_status, f_errorCode, f_errorPos, f_trapCode, f_trapPos, f_emittedCount, f_performCount, f_resumeCount, f_nodeCount, f_top, f_bindingCount, f_next, nI b, f_value, a_kinds, a_argA, a_argB, a_argC, a_after, a_openToken, a_openStage, a_openClause, a_caseFor, a_emitted, a_nodeToken, a_nodeStage, a_nodeHeld, a_nodeScope, a_nodeBelow, a_bindingName, a_bindingValue, a_bindingOuter, a_resumptionFrame, a_resumptionTop, a_resumptionBottom) (nI j) := by
  have hb := E.1
  rw [← E.2 j hj] at H
  exact ⟨b + 1, xt_look HB hbc (b + 1) b 0 (by omega) hb (by omega) H⟩
theorem xt_kind {post : Int32 → Prop} {p : Nat} (hn : n ≤ 32) (hp : p < n) (H : post (a_kinds p)) : wpX_tokenKind post (f_maxTokens, f_maxPerforms, nI n, f_openCount, f_status, f_errorCode, f_errorPos, f_trapCode, f_trapPos, f_emittedCount, f_performCount, f_resumeCount, f_nodeCount, f_top, f_bindingCount, f_next, f_scope, f_value, a_kinds, a_argA, a_argB, a_argC, a_after, a_openToken, a_openStage, a_openClause, a_caseFor, a_emitted, a_nodeToken, a_nodeStage, a_nodeHeld, a_nodeScope, a_nodeBelow, a_bindingName, a_bindingValue, a_bindingOuter, a_resumptionFrame, a_resumptionTop, a_resumptionBottom) (nI p) := by
  refine br_f (nI_pos (by omega)) (br_f (nI_ge hp (by omega)) ⟨vp_in_nI (by omega) (by decide), ?_⟩)
  rw [nI_clamp (by omega)]
  exact H
theorem xt_keep1 {post : Int32 → Prop} {k : Int32} (hk : zs_kp k) (H : post 1) : wpX_keepsFirstValue post k := by
  rcases hk with rfl | rfl | rfl | rfl | rfl | rfl | rfl
  · exact br_f (by decide) (br_t (by decide) H)
  · exact br_f (by decide) (br_t (by decide) H)
  · exact br_f (by decide) (br_t (by decide) H)
  · exact br_f (by decide) (br_t (by decide) H)
  · exact br_f (by decide) (br_t (by decide) H)
  · exact br_f (by decide) (br_f (by decide) (br_t rfl H))
  · exact br_f (by decide) (br_f (by decide) (br_f (by decide) (br_t rfl H)))
theorem xt_keep0 {post : Int32 → Prop} {k : Int32} (hk : k = 8 ∨ k = 9 ∨ k = 10 ∨ k = 11 ∨ k = 12) (H : post 0) : wpX_keepsFirstValue post k := by
  rcases hk with rfl | rfl | rfl | rfl | rfl <;> exact br_f (by decide) (br_f (by decide) (br_f (by decide) (br_f (by decide) H)))
theorem xt_comb {post : Int32 → Prop} {k a b : Int32} (hk : k = 3 ∨ k = 4 ∨ k = 5 ∨ k = 6 ∨ k = 7) (H : post (zs_ar k a b)) : wpX_combine post k a b := by
  rcases hk with rfl | rfl | rfl | rfl | rfl
  · exact br_f (by decide) (br_f (by decide) (br_t rfl H))
  · exact br_f (by decide) (br_f (by decide) (br_f (by decide) (br_t rfl H)))
  · exact br_f (by decide) (br_f (by decide) (br_f (by decide) (br_f (by decide) (br_t rfl H))))
  · refine br_f (by decide) (br_f (by decide) (br_f (by decide) (br_f (by decide) (br_f (by decide) (br_t rfl ?_)))))
    have e : zs_ar 6 a b = if a < b then 1 else 0 := rfl
    rw [e] at H
    by_cases h : a < b
    · rw [if_pos h] at H
      exact br_f (Int32.not_le.mpr h) H
    · rw [if_neg h] at H
      exact br_t (Int32.not_lt.mp h) H
  · refine br_f (by decide) (br_t (by decide) ?_)
    have e : zs_ar 7 a b = if a = b then 1 else 0 := rfl
    rw [e] at H
    by_cases h : a = b
    · rw [if_pos h] at H
      exact br_t h H
    · rw [if_neg h] at H
      exact br_f h H
theorem xt_bind {nm0 nm v0 v : Int32} (e1 : nm0 = nm) (e2 : v0 = v) (hb : bc < 1024) (H : post (f_maxTokens, f_maxPerforms, f_count, f_openCount, f_status, f_errorCode, f_errorPos, f_trapCode, f_trapPos, f_emittedCount, f_performCount, f_resumeCount, f_nodeCount, f_top, nI (bc + 1), f_next, nI bc, f_value, a_kinds, a_argA, a_argB, a_argC, a_after, a_openToken, a_openStage, a_openClause, a_caseFor, a_emitted, a_nodeToken, a_nodeStage, a_nodeHeld, a_nodeScope, a_nodeBelow, upd a_bindingName bc nm, upd a_bindingValue bc v, upd a_bindingOuter bc f_scope, a_resumptionFrame, a_resumptionTop, a_resumptionBottom)) :
    wpX_bind post (f_maxTokens, f_maxPerforms, f_count, f_openCount, f_status, f_errorCode, f_errorPos, f_trapCode, f_trapPos, f_emittedCount, f_performCount, f_resumeCount, f_nodeCount, f_top, nI bc, f_next, f_scope, f_value, a_kinds, a_argA, a_argB, a_argC, a_after, a_openToken, a_openStage, a_openClause, a_caseFor, a_emitted, a_nodeToken, a_nodeStage, a_nodeHeld, a_nodeScope, a_nodeBelow, a_bindingName, a_bindingValue, a_bindingOuter, a_resumptionFrame, a_resumptionTop, a_resumptionBottom) nm0 v0 := by
  subst e1 e2
  have hc : (nI bc).toNatClampNeg = bc := nI_clamp (by omega)
  have hi : vp_in (nI bc) 1024 := vp_in_nI hb (by decide)
  exact br_f (nI_ge (b := 1024) hb (by decide)) ⟨hi, nm_r (by rw [hc]) ⟨hi, nm_r (by rw [hc]) ⟨hi, nm_r (by rw [hc]) (nm_r (nI_1 bc) H)⟩⟩⟩
theorem xt_push {q0 : Int32} (hb : nc < 1024) (H : post (f_maxTokens, f_maxPerforms, f_count, f_openCount, f_status, f_errorCode, f_errorPos, f_trapCode, f_trapPos, f_emittedCount, f_performCount, f_resumeCount, nI (nc + 1), nI nc, f_bindingCount, f_next, f_scope, f_value, a_kinds, a_argA, a_argB, a_argC, a_after, a_openToken, a_openStage, a_openClause, a_caseFor, a_emitted, upd a_nodeToken nc q0, upd a_nodeStage nc 0, a_nodeHeld, upd a_nodeScope nc f_scope, upd a_nodeBelow nc f_top, a_bindingName, a_bindingValue, a_bindingOuter, a_resumptionFrame, a_resumptionTop, a_resumptionBottom)) :
    wpX_pushNode post (f_maxTokens, f_maxPerforms, f_count, f_openCount, f_status, f_errorCode, f_errorPos, f_trapCode, f_trapPos, f_emittedCount, f_performCount, f_resumeCount, nI nc, f_top, f_bindingCount, f_next, f_scope, f_value, a_kinds, a_argA, a_argB, a_argC, a_after, a_openToken, a_openStage, a_openClause, a_caseFor, a_emitted, a_nodeToken, a_nodeStage, a_nodeHeld, a_nodeScope, a_nodeBelow, a_bindingName, a_bindingValue, a_bindingOuter, a_resumptionFrame, a_resumptionTop, a_resumptionBottom) q0 := by
  have hc : (nI nc).toNatClampNeg = nc := nI_clamp (by omega)
  have hi : vp_in (nI nc) 1024 := vp_in_nI hb (by decide)
  exact br_f (nI_ge (b := 1024) hb (by decide)) ⟨hi, nm_r (by rw [hc]) ⟨hi, nm_r (by rw [hc]) ⟨hi, nm_r (by rw [hc]) ⟨hi, nm_r (by rw [hc]) (nm_r (nI_1 nc) H)⟩⟩⟩⟩
theorem xt_caseOf {post : Int32 → Prop} {h op : Nat} (sc : ∀ h op, h < 32 → op < 8 → a_caseFor (8 * h + op) = nI (cf h op)) (hh : h < 32) (ho : op < 8) (H : post (nI (cf h op))) :
    wpX_caseOf post (f_maxTokens, f_maxPerforms, f_count, f_openCount, f_status, f_errorCode, f_errorPos, f_trapCode, f_trapPos, f_emittedCount, f_performCount, f_resumeCount, f_nodeCount, f_top, f_bindingCount, f_next, f_scope, f_value, a_kinds, a_argA, a_argB, a_argC, a_after, a_openToken, a_openStage, a_openClause, a_caseFor, a_emitted, a_nodeToken, a_nodeStage, a_nodeHeld, a_nodeScope, a_nodeBelow, a_bindingName, a_bindingValue, a_bindingOuter, a_resumptionFrame, a_resumptionTop, a_resumptionBottom) (nI h) (nI op) := by
  have e : nI h * 8 + nI op = nI (8 * h + op) := by
    have : nI h * 8 = nI (h * 8) := (Int32.ofNat_mul h 8).symm
    rw [this, nI_add, Nat.mul_comm]
  show vp_in (nI h * 8 + nI op) 256 ∧ post (a_caseFor (nI h * 8 + nI op).toNatClampNeg)
  rw [e, nI_clamp (by omega), sc h op hh ho]
  exact ⟨vp_in_nI (by omega) (by decide), H⟩
theorem xt_frame {post : Int32 → Prop} {x t s op : Nat} (hn : n ≤ 32) (ht : t < n) (hs : s ≤ 1) (sc : ∀ h op, h < 32 → op < 8 → a_caseFor (8 * h + op) = nI (cf h op)) (hx : x < 1024) (h1 : a_nodeToken x = nI t) (h2 : a_nodeStage x = nI s) (ho : op < 8)
    (H1 : a_kinds t = 13 ∧ s = 1 → post (nI (cf t op))) (H0 : ¬ (a_kinds t = 13 ∧ s = 1) → post 0) : wpX_caseOfFrame post (f_maxTokens, f_maxPerforms, f_count, f_openCount, f_status, f_errorCode, f_errorPos, f_trapCode, f_trapPos, f_emittedCount, f_performCount, f_resumeCount, f_nodeCount, f_top, f_bindingCount, f_next, f_scope, f_value, a_kinds, a_argA, a_argB, a_argC, a_after, a_openToken, a_openStage, a_openClause, a_caseFor, a_emitted, a_nodeToken, a_nodeStage, a_nodeHeld, a_nodeScope, a_nodeBelow, a_bindingName, a_bindingValue, a_bindingOuter, a_resumptionFrame, a_resumptionTop, a_resumptionBottom) (nI x) (nI op) := by
  have hc : (nI x).toNatClampNeg = x := nI_clamp (by omega)
  have hct : (nI t).toNatClampNeg = t := nI_clamp (by omega)
  have hi : vp_in (nI x) 1024 := vp_in_nI hx (by decide)
  refine ⟨hi, nm_r (by rw [hc]; exact h1) ⟨vp_in_nI (by omega) (by decide), ?_⟩⟩
  rw [hct, hc, h2]
  by_cases k : a_kinds t = 13
  · refine br_t k ⟨hi, ?_⟩
    by_cases s1 : s = 1
    · subst s1
      exact br_t rfl (xt_caseOf sc (by omega) ho (H1 ⟨k, rfl⟩))
    · exact br_f (fun z => s1 ((nI_eq (b := 1) (by omega) (by decide)).mp z)) (H0 (fun z => s1 z.2))
  · exact br_f k (H0 (fun z => k z.1))
end
