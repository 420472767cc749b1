theorem vq_init (k0 k1 : Int32) : wpX_init (fun u => wpY_init (fun v => ri_R u v) k0 k1) k0 k1 := by
  obtain ⟨m, hm, M⟩ := vc_cl k0 8 32 8 32 rfl rfl (by omega) (by omega)
  obtain ⟨p, hp, Q⟩ := vc_cl k1 1 16 1 16 rfl rfl (by omega) (by omega)
  have M1 : ∀ post : Int32 → Prop, post (nI m) → wpX_clamp post k0 8 32 := fun post h => M post h
  have Q1 : ∀ post : Int32 → Prop, post (nI p) → wpX_clamp post k1 1 16 := fun post h => Q post h
  unfold wpX_init
  refine M1 _ (Q1 _ ?_)
  refine M (fun x => wY_init_185 _ k1 x 0 0 0 0 0 0 0 0 0 0 0 0 0 (fun _ => 0) (fun _ => 0) (fun _ => 0) (fun _ => 0) (fun _ => 0) (fun _ => 0) (fun _ => 0) (fun _ => 0) (fun _ => 0) (fun _ => 0) (fun _ => 0) (fun _ => 0) (fun _ => 0) (fun _ => 0) (fun _ => 0) (fun _ => 0) (fun _ => 0) (fun _ => 0) (fun _ => 0) ) ?_
  refine Q (fun x => wY_init_210 _ x (nI m) 0 0 0 0 0 0 0 0 0 0 0 0 (fun _ => 0) (fun _ => 0) (fun _ => 0) (fun _ => 0) (fun _ => 0) (fun _ => 0) (fun _ => 0) (fun _ => 0) (fun _ => 0) (fun _ => 0) (fun _ => 0) (fun _ => 0) (fun _ => 0) (fun _ => 0) (fun _ => 0) (fun _ => 0) (fun _ => 0) (fun _ => 0) (fun _ => 0) ) ?_
  exact ⟨⟨rfl, rfl, rfl, rfl, rfl, rfl, rfl, rfl, rfl, rfl⟩, ⟨rfl, rfl, rfl, rfl, rfl⟩, 0, m, p, 0, 0, rfl, rfl, rfl, rfl, rfl, ⟨by omega, hm, hp, by omega, by omega⟩, fun j hj => absurd hj (Nat.not_lt_zero _), fun z => absurd z (by decide), fun z => absurd z (by decide), fun _ => rfl, fun z => absurd rfl z⟩
theorem vq_reset {u : SX} {v : SY} (I : ri_R u v) : wpX_reset (fun u' => wpY_reset (fun v' => ri_R u' v') v) u := by
  obtain ⟨f_maxTokens, f_maxPerforms, f_count, f_openCount, f_status, f_errorCode, f_errorPos, f_trapCode, f_trapPos, f_emittedCount, f_performCount, f_resumeCount, f_nodeCount, f_top, f_bindingCount, f_next, f_scope, f_value, a_kinds, a_argA, a_argB, a_argC, a_after, a_openToken, a_openStage, a_openClause, a_caseFor, a_emitted, a_nodeToken, a_nodeStage, a_nodeHeld, a_nodeScope, a_nodeBelow, a_bindingName, a_bindingValue, a_bindingOuter, a_resumptionFrame, a_resumptionTop, a_resumptionBottom⟩ := u
  obtain ⟨f_maxT, f_maxP, f_n, f_st, f_eCode, f_ePos, f_outN, f_perfN, f_resN, f_res, f_trap, f_tpos, f_hp, a_tk, a_ta, a_tb, a_tc, a_nxt, a_par, a_nP, a_nK, a_out, a_ce, a_fp, a_fk, a_fx, a_fb, a_fe, a_rH, a_rTop, a_rBot, a_used⟩ := v
  obtain ⟨⟨rfl, rfl, rfl, rfl, rfl, rfl, rfl, rfl, rfl, rfl⟩, ⟨rfl, rfl, rfl, rfl, rfl⟩, n, mt, mp, st, on, rfl, rfl, rfl, rfl, rfl, ⟨b1, b2, b3, b4, b5⟩, hT, r2, r3, r4, hP⟩ := I
  exact ⟨⟨rfl, rfl, rfl, rfl, rfl, rfl, rfl, rfl, rfl, rfl⟩, ⟨rfl, rfl, rfl, rfl, rfl⟩, 0, mt, mp, 0, 0, rfl, rfl, rfl, rfl, rfl, ⟨by omega, b2, b3, by omega, by omega⟩, fun j hj => absurd hj (Nat.not_lt_zero _), fun z => absurd z (by decide), fun z => absurd z (by decide), fun _ => rfl, fun z => absurd rfl z⟩
theorem vq_k17 {k : Int32} (h1 : ¬ k < 1) (h2 : k ≤ 17) : ∃ j, 1 ≤ j ∧ j ≤ 17 ∧ k = nI j := by
  have h0 : ¬ k < 0 := fun z => h1 (Int32.lt_trans z (by decide))
  obtain ⟨j, hj, rfl⟩ := nI_of h0
  refine ⟨j, ?_, (nI_leI (b := 17) hj (by decide)).mp h2, rfl⟩
  have : ¬ j < 1 := fun z => h1 ((nI_ltI (b := 1) hj (by decide)).mpr z)
  omega
theorem vq_k17' {j : Nat} (h1 : 1 ≤ j) (h2 : j ≤ 17) : nI j = 1 ∨ nI j = 2 ∨ nI j = 3 ∨ nI j = 4 ∨ nI j = 5 ∨ nI j = 6 ∨ nI j = 7 ∨ nI j = 8 ∨ nI j = 9 ∨ nI j = 10 ∨ nI j = 11 ∨ nI j = 12 ∨ nI j = 13 ∨ nI j = 14 ∨ nI j = 15 ∨ nI j = 16 ∨ nI j = 17 := by
  have : j = 1 ∨ j = 2 ∨ j = 3 ∨ j = 4 ∨ j = 5 ∨ j = 6 ∨ j = 7 ∨ j = 8 ∨ j = 9 ∨ j = 10 ∨ j = 11 ∨ j = 12 ∨ j = 13 ∨ j = 14 ∨ j = 15 ∨ j = 16 ∨ j = 17 := by omega
  rcases this with rfl | rfl | rfl | rfl | rfl | rfl | rfl | rfl | rfl | rfl | rfl | rfl | rfl | rfl | rfl | rfl | rfl <;> decide
theorem vq_token {u : SX} {v : SY} (I : ri_R u v) (v1 v2 v3 v4 : Int32) : wpX_token (fun r u' => wpY_token (fun r' v' => r' = r ∧ ri_R u' v') v v1 v2 v3 v4) u v1 v2 v3 v4 := by
  obtain ⟨f_maxTokens, f_maxPerforms, f_count, f_openCount, f_status, f_errorCode, f_errorPos, f_trapCode, f_trapPos, f_emittedCount, f_performCount, f_resumeCount, f_nodeCount, f_top, f_bindingCount, f_next, f_scope, f_value, a_kinds, a_argA, a_argB, a_argC, a_after, a_openToken, a_openStage, a_openClause, a_caseFor, a_emitted, a_nodeToken, a_nodeStage, a_nodeHeld, a_nodeScope, a_nodeBelow, a_bindingName, a_bindingValue, a_bindingOuter, a_resumptionFrame, a_resumptionTop, a_resumptionBottom⟩ := u
  obtain ⟨f_maxT, f_maxP, f_n, f_st, f_eCode, f_ePos, f_outN, f_perfN, f_resN, f_res, f_trap, f_tpos, f_hp, a_tk, a_ta, a_tb, a_tc, a_nxt, a_par, a_nP, a_nK, a_out, a_ce, a_fp, a_fk, a_fx, a_fb, a_fe, a_rH, a_rTop, a_rBot, a_used⟩ := v
  have I' := I
  obtain ⟨⟨rfl, rfl, rfl, rfl, rfl, rfl, rfl, rfl, rfl, rfl⟩, ⟨rfl, rfl, rfl, rfl, rfl⟩, n, mt, mp, st, on, rfl, rfl, rfl, rfl, rfl, ⟨b1, b2, b3, b4, b5⟩, hT, r2, r3, r4, hP⟩ := I
  by_cases hs : nI st = 0
  · refine br_t hs ?_
    by_cases hf : n < mt
    · have hne : ¬ nI n = nI mt := fun z => absurd ((nI_eq (by omega) (by omega)).mp z) (by omega)
      refine br_t (nI_lt hf (by omega)) ?_
      by_cases k1 : v1 < 1
      · exact br_t k1 (br_t hs (br_f hne (br_t k1 ⟨rfl, I'⟩)))
      · refine br_f k1 ?_
        by_cases k2 : v1 ≤ 17
        · obtain ⟨j, j1, j2, rfl⟩ := vq_k17 k1 k2
          have hk := vq_k17' j1 j2
          refine br_t k2 (vc_xa hk (fun F => br_f (by decide) ?_) (fun F => br_t rfl ?_))
          · have hcn : (nI n).toNatClampNeg = n := nI_clamp (by omega)
            have hin : vp_in (nI n) 32 := vp_in_nI (by omega) (by decide)
            have hin3 : vp_in (nI n) 33 := vp_in_nI (by omega) (by decide)
            refine ⟨hin, nm_r (e' := upd a_tk n (nI j)) (by rw [hcn]) ⟨hin, nm_r (e' := upd a_ta n v2) (by rw [hcn]) ⟨hin, nm_r (e' := upd a_tb n v3) (by rw [hcn]) ⟨hin, nm_r (e' := upd a_tc n v4) (by rw [hcn]) (nm_r (nI_1 n) ?_)⟩⟩⟩⟩
            refine br_t hs (br_f hne (br_f k1 (br_t k2 (vc_yt hk (fun _ => ?_) (fun z => absurd F z)))))
            refine ⟨hin3, nm_r (e' := upd a_tk n (nI j)) (by rw [hcn]) ⟨hin3, nm_r (e' := upd a_ta n v2) (by rw [hcn]) ⟨hin3, nm_r (e' := upd a_tb n v3) (by rw [hcn]) ⟨hin3, nm_r (e' := upd a_tc n v4) (by rw [hcn]) (nm_r (nI_1 n) ⟨rfl, ?_⟩)⟩⟩⟩⟩
            have hs0 : st = 0 := (nI_eq (b := 0) (by omega) (by decide)).mp hs
            refine ⟨⟨rfl, rfl, rfl, rfl, rfl, rfl, rfl, rfl, rfl, rfl⟩, ⟨rfl, rfl, rfl, rfl, rfl⟩, n + 1, mt, mp, st, on, rfl, rfl, rfl, rfl, rfl, ⟨by omega, b2, b3, b4, b5⟩, fun q hq => ?_, r2, r3, r4, fun z => absurd hs0 z⟩
            by_cases c : q = n
            · subst c
              unfold zl_T
              rw [zu_s, zu_s, zu_s, zu_s]
              exact ⟨⟨j, j1, j2, rfl⟩, F⟩
            · have := hT q (by omega)
              unfold zl_T
              rw [zu_n c, zu_n c, zu_n c, zu_n c]
              exact this
          · exact br_t hs (br_f hne (br_f k1 (br_t k2 (vc_yt hk (fun z => absurd z F) (fun _ => ⟨rfl, I'⟩)))))
        · exact br_f k2 (br_t hs (br_f hne (br_f k1 (br_f k2 ⟨rfl, I'⟩))))
    · have he : n = mt := by omega
      exact br_f (nI_nlt (by omega) (by omega)) (br_t hs (br_t (by rw [he]) ⟨rfl, I'⟩))
  · exact br_f hs (br_f hs ⟨rfl, I'⟩)
theorem vq_tokenKind {u : SX} {v : SY} (I : ri_R u v) (v1 : Int32) : wpX_tokenKind (fun r => wpY_tokenKind (fun r' => r' = r ∧ ri_R u v) v v1) u v1 := by
  obtain ⟨f_maxTokens, f_maxPerforms, f_count, f_openCount, f_status, f_errorCode, f_errorPos, f_trapCode, f_trapPos, f_emittedCount, f_performCount, f_resumeCount, f_nodeCount, f_top, f_bindingCount, f_next, f_scope, f_value, a_kinds, a_argA, a_argB, a_argC, a_after, a_openToken, a_openStage, a_openClause, a_caseFor, a_emitted, a_nodeToken, a_nodeStage, a_nodeHeld, a_nodeScope, a_nodeBelow, a_bindingName, a_bindingValue, a_bindingOuter, a_resumptionFrame, a_resumptionTop, a_resumptionBottom⟩ := u
  obtain ⟨f_maxT, f_maxP, f_n, f_st, f_eCode, f_ePos, f_outN, f_perfN, f_resN, f_res, f_trap, f_tpos, f_hp, a_tk, a_ta, a_tb, a_tc, a_nxt, a_par, a_nP, a_nK, a_out, a_ce, a_fp, a_fk, a_fx, a_fb, a_fe, a_rH, a_rTop, a_rBot, a_used⟩ := v
  have I' := I
  obtain ⟨⟨rfl, rfl, rfl, rfl, rfl, rfl, rfl, rfl, rfl, rfl⟩, ⟨rfl, rfl, rfl, rfl, rfl⟩, n, mt, mp, st, on, rfl, rfl, rfl, rfl, rfl, ⟨b1, b2, b3, b4, b5⟩, hT, r2, r3, r4, hP⟩ := I
  by_cases h0 : v1 < 0
  · exact br_t h0 (br_t h0 ⟨rfl, I'⟩)
  · obtain ⟨j, hj, rfl⟩ := nI_of h0
    by_cases h1 : nI n ≤ nI j
    · exact br_f h0 (br_t h1 (br_f h0 (br_t h1 ⟨rfl, I'⟩)))
    · have hjn : j < n := by
        have : ¬ n ≤ j := fun z => h1 ((nI_leI (by omega) hj).mpr z)
        omega
      exact br_f h0 (br_f h1 ⟨vp_in_nI (by omega) (by decide), br_f h0 (br_f h1 ⟨vp_in_nI (by omega) (by decide), rfl, I'⟩)⟩)
theorem vq_output {u : SX} {v : SY} (I : ri_R u v) (v1 : Int32) : wpX_output (fun r => wpY_output (fun r' => r' = r ∧ ri_R u v) v v1) u v1 := by
  obtain ⟨f_maxTokens, f_maxPerforms, f_count, f_openCount, f_status, f_errorCode, f_errorPos, f_trapCode, f_trapPos, f_emittedCount, f_performCount, f_resumeCount, f_nodeCount, f_top, f_bindingCount, f_next, f_scope, f_value, a_kinds, a_argA, a_argB, a_argC, a_after, a_openToken, a_openStage, a_openClause, a_caseFor, a_emitted, a_nodeToken, a_nodeStage, a_nodeHeld, a_nodeScope, a_nodeBelow, a_bindingName, a_bindingValue, a_bindingOuter, a_resumptionFrame, a_resumptionTop, a_resumptionBottom⟩ := u
  obtain ⟨f_maxT, f_maxP, f_n, f_st, f_eCode, f_ePos, f_outN, f_perfN, f_resN, f_res, f_trap, f_tpos, f_hp, a_tk, a_ta, a_tb, a_tc, a_nxt, a_par, a_nP, a_nK, a_out, a_ce, a_fp, a_fk, a_fx, a_fb, a_fe, a_rH, a_rTop, a_rBot, a_used⟩ := v
  have I' := I
  obtain ⟨⟨rfl, rfl, rfl, rfl, rfl, rfl, rfl, rfl, rfl, rfl⟩, ⟨rfl, rfl, rfl, rfl, rfl⟩, n, mt, mp, st, on, rfl, rfl, rfl, rfl, rfl, ⟨b1, b2, b3, b4, b5⟩, hT, r2, r3, r4, hP⟩ := I
  by_cases h0 : v1 < 0
  · exact br_t h0 (br_t h0 ⟨rfl, I'⟩)
  · obtain ⟨j, hj, rfl⟩ := nI_of h0
    by_cases h1 : nI on ≤ nI j
    · exact br_f h0 (br_t h1 (br_f h0 (br_t h1 ⟨rfl, I'⟩)))
    · have hjn : j < on := by
        have : ¬ on ≤ j := fun z => h1 ((nI_leI (by omega) hj).mpr z)
        omega
      exact br_f h0 (br_f h1 ⟨vp_in_nI (by omega) (by decide), br_f h0 (br_f h1 ⟨vp_in_nI (by omega) (by decide), rfl, I'⟩)⟩)
theorem vq_compile {u : SX} {v : SY} (I : ri_R u v) : wpX_compile (fun r u' => wpY_compile (fun r' v' => r' = r ∧ ri_R u' v') v) u := by
  obtain ⟨f_maxTokens, f_maxPerforms, f_count, f_openCount, f_status, f_errorCode, f_errorPos, f_trapCode, f_trapPos, f_emittedCount, f_performCount, f_resumeCount, f_nodeCount, f_top, f_bindingCount, f_next, f_scope, f_value, a_kinds, a_argA, a_argB, a_argC, a_after, a_openToken, a_openStage, a_openClause, a_caseFor, a_emitted, a_nodeToken, a_nodeStage, a_nodeHeld, a_nodeScope, a_nodeBelow, a_bindingName, a_bindingValue, a_bindingOuter, a_resumptionFrame, a_resumptionTop, a_resumptionBottom⟩ := u
  obtain ⟨f_maxT, f_maxP, f_n, f_st, f_eCode, f_ePos, f_outN, f_perfN, f_resN, f_res, f_trap, f_tpos, f_hp, a_tk, a_ta, a_tb, a_tc, a_nxt, a_par, a_nP, a_nK, a_out, a_ce, a_fp, a_fk, a_fx, a_fb, a_fe, a_rH, a_rTop, a_rBot, a_used⟩ := v
  have I' := I
  obtain ⟨⟨rfl, rfl, rfl, rfl, rfl, rfl, rfl, rfl, rfl, rfl⟩, ⟨rfl, rfl, rfl, rfl, rfl⟩, n, mt, mp, st, on, rfl, rfl, rfl, rfl, rfl, ⟨b1, b2, b3, b4, b5⟩, hT, r2, r3, r4, hP⟩ := I
  by_cases hs : nI st = 0
  · have hs0 : st = 0 := (nI_eq (b := 0) (by omega) (by decide)).mp hs
    obtain ⟨er, ps, nx, cf, Rr, e6, p32, hE⟩ := zc_resI (n := n) (by omega) hT n 0 [] (fun _ => 0) (fun _ _ => 0) (by omega) zc_init
    refine xc_comp (by omega) hT hs Rr (fun oc af oT oS oC cs sa sc => ?_)
    refine yc_comp (by omega) hT hs Rr (fun xt xp nP nK hh => ⟨rfl, ?_⟩)
    by_cases z : er = 0
    · obtain ⟨⟨ic, P, -⟩, -⟩ := hE z
      obtain ⟨sa', sc'⟩ := hh z
      rw [if_pos z]
      exact ⟨⟨rfl, rfl, rfl, rfl, rfl, rfl, rfl, rfl, rfl, rfl⟩, ⟨rfl, rfl, rfl, rfl, rfl⟩, n, mt, mp, 1, on, rfl, rfl, rfl, rfl, rfl, ⟨b1, b2, b3, by omega, b5⟩, hT, fun z => absurd z (by decide), fun z => absurd z (by decide), fun _ => r4 (by omega), fun _ => ⟨nx, cf, ic, P, sa, sc, sa', sc'⟩⟩
    · rw [if_neg z]
      exact ⟨⟨rfl, rfl, rfl, rfl, rfl, rfl, rfl, rfl, rfl, rfl⟩, ⟨rfl, rfl, rfl, rfl, rfl⟩, n, mt, mp, st, on, rfl, rfl, rfl, rfl, rfl, ⟨b1, b2, b3, b4, b5⟩, hT, r2, r3, r4, fun y => absurd hs0 y⟩
  · exact br_f hs (br_f hs ⟨rfl, I'⟩)
theorem vq_fin {K A B C : Nat → Int32} {n : Nat} {nx : Nat → Nat} {cf : Nat → Nat → Nat} {mp mt : Nat} {ec ep : Int32} {ic : Nat → Prop} {z : ZZ} {u : SX} {v : SY} {y1 y2 y3 y4 y5 : Int32} (P : zl_P K A B C n nx cf (zk_cl nx) ic) (hmt : n ≤ mt) (h32 : mt ≤ 32) (h16 : mp ≤ 16)
    (hX : zi_X mp z) (X : xr_R K A B C n nx cf mp (nI mt) ec ep z u) (Y : yr_R K A B C n nx cf mp (nI mt) ec ep z y1 y2 y3 y4 y5 v) : ri_R u (yst v (nI (zst z))) := by
  obtain ⟨f_maxTokens, f_maxPerforms, f_count, f_openCount, f_status, f_errorCode, f_errorPos, f_trapCode, f_trapPos, f_emittedCount, f_performCount, f_resumeCount, f_nodeCount, f_top, f_bindingCount, f_next, f_scope, f_value, a_kinds, a_argA, a_argB, a_argC, a_after, a_openToken, a_openStage, a_openClause, a_caseFor, a_emitted, a_nodeToken, a_nodeStage, a_nodeHeld, a_nodeScope, a_nodeBelow, a_bindingName, a_bindingValue, a_bindingOuter, a_resumptionFrame, a_resumptionTop, a_resumptionBottom⟩ := u
  obtain ⟨f_maxT, f_maxP, f_n, f_st, f_eCode, f_ePos, f_outN, f_perfN, f_resN, f_res, f_trap, f_tpos, f_hp, a_tk, a_ta, a_tb, a_tc, a_nxt, a_par, a_nP, a_nK, a_out, a_ce, a_fp, a_fk, a_fx, a_fb, a_fe, a_rH, a_rTop, a_rBot, a_used⟩ := v
  obtain ⟨fo, v, e, S, R, pn, rn, out, on, st, tc, tp, nc, bc, hc⟩ := z
  obtain ⟨⟨rfl, rfl, rfl, rfl, rfl, rfl, rfl, rfl, rfl, rfl, rfl⟩, ⟨rfl, rfl, rfl, rfl, rfl⟩, sa, sc, x2, -⟩ := X
  obtain ⟨⟨rfl, rfl, rfl, rfl, rfl, rfl, rfl, rfl, rfl, rfl⟩, ⟨rfl, rfl, rfl, rfl, rfl⟩, sa', sc', -, w2, -⟩ := Y
  obtain ⟨o1, o2, o3⟩ := hX
  refine ⟨⟨rfl, rfl, rfl, rfl, rfl, rfl, rfl, rfl, rfl, rfl⟩, ⟨rfl, rfl, rfl, rfl, rfl⟩, n, mt, mp, st, on, rfl, rfl, rfl, rfl, rfl, ⟨hmt, h32, h16, by rcases o3 with ⟨q, -⟩ | ⟨q, -⟩ <;> omega, o1⟩, P.2.2.1, fun z => (w2 z).trans (x2 z).symm, fun _ => rfl, fun z => ?_, fun _ => ⟨nx, cf, ic, P, sa, sc, sa', sc'⟩⟩
  rcases o3 with ⟨-, q⟩ | ⟨q, -⟩
  · exact q
  · exact absurd q z
theorem vq_run {u : SX} {v : SY} (I : ri_R u v) : wpX_run (fun r u' => wpY_run (fun r' v' => r' = r ∧ ri_R u' v') v) u := by
  obtain ⟨f_maxTokens, f_maxPerforms, f_count, f_openCount, f_status, f_errorCode, f_errorPos, f_trapCode, f_trapPos, f_emittedCount, f_performCount, f_resumeCount, f_nodeCount, f_top, f_bindingCount, f_next, f_scope, f_value, a_kinds, a_argA, a_argB, a_argC, a_after, a_openToken, a_openStage, a_openClause, a_caseFor, a_emitted, a_nodeToken, a_nodeStage, a_nodeHeld, a_nodeScope, a_nodeBelow, a_bindingName, a_bindingValue, a_bindingOuter, a_resumptionFrame, a_resumptionTop, a_resumptionBottom⟩ := u
  obtain ⟨f_maxT, f_maxP, f_n, f_st, f_eCode, f_ePos, f_outN, f_perfN, f_resN, f_res, f_trap, f_tpos, f_hp, a_tk, a_ta, a_tb, a_tc, a_nxt, a_par, a_nP, a_nK, a_out, a_ce, a_fp, a_fk, a_fx, a_fb, a_fe, a_rH, a_rTop, a_rBot, a_used⟩ := v
  have I' := I
  obtain ⟨⟨rfl, rfl, rfl, rfl, rfl, rfl, rfl, rfl, rfl, rfl⟩, ⟨rfl, rfl, rfl, rfl, rfl⟩, n, mt, mp, st, on, rfl, rfl, rfl, rfl, rfl, ⟨b1, b2, b3, b4, b5⟩, hT, r2, r3, r4, hP⟩ := I
  by_cases hs : nI st = 0
  · exact br_t hs (br_t hs ⟨rfl, I'⟩)
  · obtain ⟨nx, cf, ic, P, sa, sc, sa', sc'⟩ := hP (fun z => hs (by rw [z]; rfl))
    obtain ⟨I0, hmu⟩ := zz_I P b3 a_out
    obtain ⟨k, hk, hX, hI⟩ := zi_run P 1700 (zz0 a_out) I0 hmu
    refine xs_run P hk hI hX sa sc hs (fun u' X => ?_)
    refine ys_run P hk hI hX sa' sc' hs (fun y1 y2 y3 y4 y5 v' Y => ⟨rfl, ?_⟩)
    exact vq_fin P b1 b2 b3 hX X Y
theorem vq_result {u : SX} {v : SY} (I : ri_R u v) : wpX_result (fun r => wpY_result (fun r' => r' = r ∧ ri_R u v) v) u := by
  obtain ⟨f_maxTokens, f_maxPerforms, f_count, f_openCount, f_status, f_errorCode, f_errorPos, f_trapCode, f_trapPos, f_emittedCount, f_performCount, f_resumeCount, f_nodeCount, f_top, f_bindingCount, f_next, f_scope, f_value, a_kinds, a_argA, a_argB, a_argC, a_after, a_openToken, a_openStage, a_openClause, a_caseFor, a_emitted, a_nodeToken, a_nodeStage, a_nodeHeld, a_nodeScope, a_nodeBelow, a_bindingName, a_bindingValue, a_bindingOuter, a_resumptionFrame, a_resumptionTop, a_resumptionBottom⟩ := u
  obtain ⟨f_maxT, f_maxP, f_n, f_st, f_eCode, f_ePos, f_outN, f_perfN, f_resN, f_res, f_trap, f_tpos, f_hp, a_tk, a_ta, a_tb, a_tc, a_nxt, a_par, a_nP, a_nK, a_out, a_ce, a_fp, a_fk, a_fx, a_fb, a_fe, a_rH, a_rTop, a_rBot, a_used⟩ := v
  have I' := I
  obtain ⟨⟨rfl, rfl, rfl, rfl, rfl, rfl, rfl, rfl, rfl, rfl⟩, ⟨rfl, rfl, rfl, rfl, rfl⟩, n, mt, mp, st, on, rfl, rfl, rfl, rfl, rfl, ⟨b1, b2, b3, b4, b5⟩, hT, r2, r3, r4, hP⟩ := I
  by_cases h : nI st = 2
  · exact br_t h (br_t h ⟨r2 ((nI_eq (b := 2) (by omega) (by decide)).mp h), I'⟩)
  · exact br_f h (br_f h ⟨rfl, I'⟩)
theorem vq_trapCode {u : SX} {v : SY} (I : ri_R u v) : wpX_trapCode (fun r => wpY_trapCode (fun r' => r' = r ∧ ri_R u v) v) u := by
  obtain ⟨f_maxTokens, f_maxPerforms, f_count, f_openCount, f_status, f_errorCode, f_errorPos, f_trapCode, f_trapPos, f_emittedCount, f_performCount, f_resumeCount, f_nodeCount, f_top, f_bindingCount, f_next, f_scope, f_value, a_kinds, a_argA, a_argB, a_argC, a_after, a_openToken, a_openStage, a_openClause, a_caseFor, a_emitted, a_nodeToken, a_nodeStage, a_nodeHeld, a_nodeScope, a_nodeBelow, a_bindingName, a_bindingValue, a_bindingOuter, a_resumptionFrame, a_resumptionTop, a_resumptionBottom⟩ := u
  obtain ⟨f_maxT, f_maxP, f_n, f_st, f_eCode, f_ePos, f_outN, f_perfN, f_resN, f_res, f_trap, f_tpos, f_hp, a_tk, a_ta, a_tb, a_tc, a_nxt, a_par, a_nP, a_nK, a_out, a_ce, a_fp, a_fk, a_fx, a_fb, a_fe, a_rH, a_rTop, a_rBot, a_used⟩ := v
  have I' := I
  obtain ⟨⟨rfl, rfl, rfl, rfl, rfl, rfl, rfl, rfl, rfl, rfl⟩, ⟨rfl, rfl, rfl, rfl, rfl⟩, n, mt, mp, st, on, rfl, rfl, rfl, rfl, rfl, ⟨b1, b2, b3, b4, b5⟩, hT, r2, r3, r4, hP⟩ := I
  by_cases h : nI st = 3
  · exact br_t h ⟨r3 ((nI_eq (b := 3) (by omega) (by decide)).mp h), I'⟩
  · exact br_f h ⟨(r4 (fun z => h (by rw [z]; rfl))).symm, I'⟩
theorem vq_tokenCount {u : SX} {v : SY} (I : ri_R u v) : wpX_tokenCount (fun r => wpY_tokenCount (fun r' => r' = r ∧ ri_R u v) v) u := by
  obtain ⟨f_maxTokens, f_maxPerforms, f_count, f_openCount, f_status, f_errorCode, f_errorPos, f_trapCode, f_trapPos, f_emittedCount, f_performCount, f_resumeCount, f_nodeCount, f_top, f_bindingCount, f_next, f_scope, f_value, a_kinds, a_argA, a_argB, a_argC, a_after, a_openToken, a_openStage, a_openClause, a_caseFor, a_emitted, a_nodeToken, a_nodeStage, a_nodeHeld, a_nodeScope, a_nodeBelow, a_bindingName, a_bindingValue, a_bindingOuter, a_resumptionFrame, a_resumptionTop, a_resumptionBottom⟩ := u
  obtain ⟨f_maxT, f_maxP, f_n, f_st, f_eCode, f_ePos, f_outN, f_perfN, f_resN, f_res, f_trap, f_tpos, f_hp, a_tk, a_ta, a_tb, a_tc, a_nxt, a_par, a_nP, a_nK, a_out, a_ce, a_fp, a_fk, a_fx, a_fb, a_fe, a_rH, a_rTop, a_rBot, a_used⟩ := v
  have h := I
  exact ⟨h.1.2.2.1, I⟩
theorem vq_errorCode {u : SX} {v : SY} (I : ri_R u v) : wpX_errorCode (fun r => wpY_errorCode (fun r' => r' = r ∧ ri_R u v) v) u := by
  obtain ⟨f_maxTokens, f_maxPerforms, f_count, f_openCount, f_status, f_errorCode, f_errorPos, f_trapCode, f_trapPos, f_emittedCount, f_performCount, f_resumeCount, f_nodeCount, f_top, f_bindingCount, f_next, f_scope, f_value, a_kinds, a_argA, a_argB, a_argC, a_after, a_openToken, a_openStage, a_openClause, a_caseFor, a_emitted, a_nodeToken, a_nodeStage, a_nodeHeld, a_nodeScope, a_nodeBelow, a_bindingName, a_bindingValue, a_bindingOuter, a_resumptionFrame, a_resumptionTop, a_resumptionBottom⟩ := u
  obtain ⟨f_maxT, f_maxP, f_n, f_st, f_eCode, f_ePos, f_outN, f_perfN, f_resN, f_res, f_trap, f_tpos, f_hp, a_tk, a_ta, a_tb, a_tc, a_nxt, a_par, a_nP, a_nK, a_out, a_ce, a_fp, a_fk, a_fx, a_fb, a_fe, a_rH, a_rTop, a_rBot, a_used⟩ := v
  have h := I
  exact ⟨h.1.2.2.2.2.1, I⟩
theorem vq_errorPos {u : SX} {v : SY} (I : ri_R u v) : wpX_errorPos (fun r => wpY_errorPos (fun r' => r' = r ∧ ri_R u v) v) u := by
  obtain ⟨f_maxTokens, f_maxPerforms, f_count, f_openCount, f_status, f_errorCode, f_errorPos, f_trapCode, f_trapPos, f_emittedCount, f_performCount, f_resumeCount, f_nodeCount, f_top, f_bindingCount, f_next, f_scope, f_value, a_kinds, a_argA, a_argB, a_argC, a_after, a_openToken, a_openStage, a_openClause, a_caseFor, a_emitted, a_nodeToken, a_nodeStage, a_nodeHeld, a_nodeScope, a_nodeBelow, a_bindingName, a_bindingValue, a_bindingOuter, a_resumptionFrame, a_resumptionTop, a_resumptionBottom⟩ := u
  obtain ⟨f_maxT, f_maxP, f_n, f_st, f_eCode, f_ePos, f_outN, f_perfN, f_resN, f_res, f_trap, f_tpos, f_hp, a_tk, a_ta, a_tb, a_tc, a_nxt, a_par, a_nP, a_nK, a_out, a_ce, a_fp, a_fk, a_fx, a_fb, a_fe, a_rH, a_rTop, a_rBot, a_used⟩ := v
  have h := I
  exact ⟨h.1.2.2.2.2.2.1, I⟩
theorem vq_status {u : SX} {v : SY} (I : ri_R u v) : wpX_status (fun r => wpY_status (fun r' => r' = r ∧ ri_R u v) v) u := by
  obtain ⟨f_maxTokens, f_maxPerforms, f_count, f_openCount, f_status, f_errorCode, f_errorPos, f_trapCode, f_trapPos, f_emittedCount, f_performCount, f_resumeCount, f_nodeCount, f_top, f_bindingCount, f_next, f_scope, f_value, a_kinds, a_argA, a_argB, a_argC, a_after, a_openToken, a_openStage, a_openClause, a_caseFor, a_emitted, a_nodeToken, a_nodeStage, a_nodeHeld, a_nodeScope, a_nodeBelow, a_bindingName, a_bindingValue, a_bindingOuter, a_resumptionFrame, a_resumptionTop, a_resumptionBottom⟩ := u
  obtain ⟨f_maxT, f_maxP, f_n, f_st, f_eCode, f_ePos, f_outN, f_perfN, f_resN, f_res, f_trap, f_tpos, f_hp, a_tk, a_ta, a_tb, a_tc, a_nxt, a_par, a_nP, a_nK, a_out, a_ce, a_fp, a_fk, a_fx, a_fb, a_fe, a_rH, a_rTop, a_rBot, a_used⟩ := v
  have h := I
  exact ⟨h.1.2.2.2.1, I⟩
theorem vq_trapPos {u : SX} {v : SY} (I : ri_R u v) : wpX_trapPos (fun r => wpY_trapPos (fun r' => r' = r ∧ ri_R u v) v) u := by
  obtain ⟨f_maxTokens, f_maxPerforms, f_count, f_openCount, f_status, f_errorCode, f_errorPos, f_trapCode, f_trapPos, f_emittedCount, f_performCount, f_resumeCount, f_nodeCount, f_top, f_bindingCount, f_next, f_scope, f_value, a_kinds, a_argA, a_argB, a_argC, a_after, a_openToken, a_openStage, a_openClause, a_caseFor, a_emitted, a_nodeToken, a_nodeStage, a_nodeHeld, a_nodeScope, a_nodeBelow, a_bindingName, a_bindingValue, a_bindingOuter, a_resumptionFrame, a_resumptionTop, a_resumptionBottom⟩ := u
  obtain ⟨f_maxT, f_maxP, f_n, f_st, f_eCode, f_ePos, f_outN, f_perfN, f_resN, f_res, f_trap, f_tpos, f_hp, a_tk, a_ta, a_tb, a_tc, a_nxt, a_par, a_nP, a_nK, a_out, a_ce, a_fp, a_fk, a_fx, a_fb, a_fe, a_rH, a_rTop, a_rBot, a_used⟩ := v
  have h := I
  exact ⟨h.1.2.2.2.2.2.2.2.2.2, I⟩
theorem vq_outputCount {u : SX} {v : SY} (I : ri_R u v) : wpX_outputCount (fun r => wpY_outputCount (fun r' => r' = r ∧ ri_R u v) v) u := by
  obtain ⟨f_maxTokens, f_maxPerforms, f_count, f_openCount, f_status, f_errorCode, f_errorPos, f_trapCode, f_trapPos, f_emittedCount, f_performCount, f_resumeCount, f_nodeCount, f_top, f_bindingCount, f_next, f_scope, f_value, a_kinds, a_argA, a_argB, a_argC, a_after, a_openToken, a_openStage, a_openClause, a_caseFor, a_emitted, a_nodeToken, a_nodeStage, a_nodeHeld, a_nodeScope, a_nodeBelow, a_bindingName, a_bindingValue, a_bindingOuter, a_resumptionFrame, a_resumptionTop, a_resumptionBottom⟩ := u
  obtain ⟨f_maxT, f_maxP, f_n, f_st, f_eCode, f_ePos, f_outN, f_perfN, f_resN, f_res, f_trap, f_tpos, f_hp, a_tk, a_ta, a_tb, a_tc, a_nxt, a_par, a_nP, a_nK, a_out, a_ce, a_fp, a_fk, a_fx, a_fb, a_fe, a_rH, a_rTop, a_rBot, a_used⟩ := v
  have h := I
  exact ⟨h.1.2.2.2.2.2.2.1, I⟩
theorem vq_performCount {u : SX} {v : SY} (I : ri_R u v) : wpX_performCount (fun r => wpY_performCount (fun r' => r' = r ∧ ri_R u v) v) u := by
  obtain ⟨f_maxTokens, f_maxPerforms, f_count, f_openCount, f_status, f_errorCode, f_errorPos, f_trapCode, f_trapPos, f_emittedCount, f_performCount, f_resumeCount, f_nodeCount, f_top, f_bindingCount, f_next, f_scope, f_value, a_kinds, a_argA, a_argB, a_argC, a_after, a_openToken, a_openStage, a_openClause, a_caseFor, a_emitted, a_nodeToken, a_nodeStage, a_nodeHeld, a_nodeScope, a_nodeBelow, a_bindingName, a_bindingValue, a_bindingOuter, a_resumptionFrame, a_resumptionTop, a_resumptionBottom⟩ := u
  obtain ⟨f_maxT, f_maxP, f_n, f_st, f_eCode, f_ePos, f_outN, f_perfN, f_resN, f_res, f_trap, f_tpos, f_hp, a_tk, a_ta, a_tb, a_tc, a_nxt, a_par, a_nP, a_nK, a_out, a_ce, a_fp, a_fk, a_fx, a_fb, a_fe, a_rH, a_rTop, a_rBot, a_used⟩ := v
  have h := I
  exact ⟨h.1.2.2.2.2.2.2.2.1, I⟩
theorem vq_resumeCount {u : SX} {v : SY} (I : ri_R u v) : wpX_resumeCount (fun r => wpY_resumeCount (fun r' => r' = r ∧ ri_R u v) v) u := by
  obtain ⟨f_maxTokens, f_maxPerforms, f_count, f_openCount, f_status, f_errorCode, f_errorPos, f_trapCode, f_trapPos, f_emittedCount, f_performCount, f_resumeCount, f_nodeCount, f_top, f_bindingCount, f_next, f_scope, f_value, a_kinds, a_argA, a_argB, a_argC, a_after, a_openToken, a_openStage, a_openClause, a_caseFor, a_emitted, a_nodeToken, a_nodeStage, a_nodeHeld, a_nodeScope, a_nodeBelow, a_bindingName, a_bindingValue, a_bindingOuter, a_resumptionFrame, a_resumptionTop, a_resumptionBottom⟩ := u
  obtain ⟨f_maxT, f_maxP, f_n, f_st, f_eCode, f_ePos, f_outN, f_perfN, f_resN, f_res, f_trap, f_tpos, f_hp, a_tk, a_ta, a_tb, a_tc, a_nxt, a_par, a_nP, a_nK, a_out, a_ce, a_fp, a_fk, a_fx, a_fb, a_fe, a_rH, a_rTop, a_rBot, a_used⟩ := v
  have h := I
  exact ⟨h.1.2.2.2.2.2.2.2.2.1, I⟩
