theorem zw_len (K : Nat → Int32) (nx : Nat → Nat) : ∀ S : List ZF, S.length ≤ zw_s (zw_b K nx) S
  | [] => Nat.zero_le _
  | f :: S => by
    have := zw_len K nx S
    simp only [zw_s, zw_b, List.length_cons]
    omega
section
variable {f_maxTokens f_maxPerforms f_count f_openCount f_status f_errorCode f_errorPos f_trapCode f_trapPos f_emittedCount f_performCount f_resumeCount f_nodeCount f_top f_bindingCount f_next f_scope f_value : Int32} {a_kinds a_argA a_argB a_argC a_after a_openToken a_openStage a_openClause a_caseFor a_emitted a_nodeToken a_nodeStage a_nodeHeld a_nodeScope a_nodeBelow a_bindingName a_bindingValue a_bindingOuter a_resumptionFrame a_resumptionTop a_resumptionBottom : Nat → Int32} {K A B C : Nat → Int32} {n : Nat} {nx : Nat → Nat} {cf : Nat → Nat → Nat} {mp : Nat} {mt ec ep : Int32} {post : SX → Prop} {v : Int32} {e0 e : Nat → Int32} {S : List ZF} {R : ZR} {pn rn : Nat} {out : Nat → Int32} {on : Nat} {tc tp : Int32} {nc bc hc t b s : Nat} {h : Int32} {ic : Nat → Prop}
theorem xs_eval {p : Nat} (P : zl_P K A B C n nx cf (zk_cl nx) ic) (I : zi_I K nx mp (zk_cl nx) ic (some p, v, e, S, R, pn, rn, out, on, 1, tc, tp, nc, bc, hc))
    (sa : ∀ p, nx p ≠ 0 → a_after p = nI (nx p)) (sc : ∀ h op, h < 32 → op < 8 → a_caseFor (8 * h + op) = nI (cf h op))
    (HB : xb_B a_bindingOuter bc) (E : xb_E a_bindingName a_bindingValue a_bindingOuter bc b e)
    (G : xs_G a_nodeToken a_nodeStage a_nodeHeld a_nodeScope a_nodeBelow a_bindingName a_bindingValue a_bindingOuter bc nc f_top S R pn a_resumptionFrame a_resumptionTop a_resumptionBottom)
    (H : ∀ u', xr_R K A B C n nx cf mp mt ec ep (zs K A B C nx cf mp (some p, v, e, S, R, pn, rn, out, on, 1, tc, tp, nc, bc, hc)) u' → post u') :
    wpX_evaluate post (mt, nI mp, nI n, f_openCount, 1, ec, ep, tc, tp, nI on, nI pn, nI rn, nI nc, f_top, nI bc, nI p, nI b, f_value, K, A, B, C, a_after, a_openToken, a_openStage, a_openClause, a_caseFor, out, a_nodeToken, a_nodeStage, a_nodeHeld, a_nodeScope, a_nodeBelow, a_bindingName, a_bindingValue, a_bindingOuter, a_resumptionFrame, a_resumptionTop, a_resumptionBottom) (nI p) := by
  obtain ⟨i1, i2, i3, i4, i5, i6, i7, iF, iS, iR, b1, b2, b3⟩ := I
  obtain ⟨hcl, -⟩ := iF p rfl
  have L := P.2.2.2.2.2 p hcl
  have hn := P.1
  have hp : p < n := Nat.lt_of_lt_of_le L.1 L.2.1
  have hcp : (nI p).toNatClampNeg = p := nI_clamp (by omega)
  have hip : vp_in (nI p) 32 := vp_in_nI (by omega) (by decide)
  unfold wpX_evaluate
  dsimp only
  refine xt_kind hn hp ?_
  by_cases k1 : K p = 1
  · rw [zr_leaf1 k1] at H
    refine br_t k1 ⟨hip, ?_⟩
    rw [hcp]
    exact H _ (xr_mk sa sc (fun z => absurd z (by decide)) (fun _ => ⟨rfl, rfl, HB, (fun p z => by cases z), (fun _ => ⟨rfl, rfl⟩), G⟩))
  · by_cases k2 : K p = 2
    · obtain ⟨x, hx, hA⟩ := (P.2.2.1 p hp).2.1 (Or.inl k2)
      rw [zr_leaf2 k2, hA, nI_clamp (by omega)] at H
      refine br_f k1 (br_t k2 ⟨hip, ?_⟩)
      rw [hcp, hA]
      refine xt_lookUp HB (by omega) E (by omega) ?_
      exact H _ (xr_mk sa sc (fun z => absurd z (by decide)) (fun _ => ⟨rfl, rfl, HB, (fun p z => by cases z), (fun _ => ⟨rfl, rfl⟩), G⟩))
    · rw [zr_push k1 k2] at H
      refine br_f k1 (br_f k2 ?_)
      refine xt_push (by omega) (nm_r (nI_1 p) ?_)
      refine H _ (xr_mk sa sc (fun z => absurd z (by decide)) (fun _ => ⟨rfl, rfl, HB, (fun p z => by cases z; exact ⟨rfl, b, rfl, E⟩), (fun z => by cases z), ?_⟩))
      exact hs_push G i6 p 0 0 e (fun _ _ => rfl) (fun z => absurd z (by decide)) (fun x e' hx ⟨b', y1, y2⟩ => ⟨b', (zu_n (Nat.ne_of_lt hx)).trans y1, y2⟩) ⟨b, zu_s, E⟩
theorem xs_done (sa : ∀ p, nx p ≠ 0 → a_after p = nI (nx p)) (sc : ∀ h op, h < 32 → op < 8 → a_caseFor (8 * h + op) = nI (cf h op))
    (G : xs_G a_nodeToken a_nodeStage a_nodeHeld a_nodeScope a_nodeBelow a_bindingName a_bindingValue a_bindingOuter bc nc f_top [] R pn a_resumptionFrame a_resumptionTop a_resumptionBottom)
    (H : ∀ u', xr_R K A B C n nx cf mp mt ec ep (zs K A B C nx cf mp (none, v, e, [], R, pn, rn, out, on, 1, tc, tp, nc, bc, hc)) u' → post u') :
    wpX_handOver post (mt, nI mp, nI n, f_openCount, 1, ec, ep, tc, tp, nI on, nI pn, nI rn, nI nc, f_top, nI bc, -1, f_scope, v, K, A, B, C, a_after, a_openToken, a_openStage, a_openClause, a_caseFor, out, a_nodeToken, a_nodeStage, a_nodeHeld, a_nodeScope, a_nodeBelow, a_bindingName, a_bindingValue, a_bindingOuter, a_resumptionFrame, a_resumptionTop, a_resumptionBottom) := by
  rw [zr_done] at H
  have z := hs_nil G
  subst z
  refine br_t rfl ?_
  exact H _ (xr_mk sa sc (fun _ => rfl) (fun z => absurd z (by decide)))
theorem xs_fin (P : zl_P K A B C n nx cf (zk_cl nx) ic) (I : zi_I K nx mp (zk_cl nx) ic (none, v, e0, (t, s, h, e) :: S, R, pn, rn, out, on, 1, tc, tp, nc, bc, hc)) (hkp : ¬ (s = 0 ∧ zs_kp (K t)))
    (sa : ∀ p, nx p ≠ 0 → a_after p = nI (nx p)) (sc : ∀ h op, h < 32 → op < 8 → a_caseFor (8 * h + op) = nI (cf h op))
    (HB : xb_B a_bindingOuter bc) (E : xb_E a_bindingName a_bindingValue a_bindingOuter bc b e) {h' : Int32} (hh : s = 1 → h' = h)
    (G : xs_G a_nodeToken a_nodeStage a_nodeHeld a_nodeScope a_nodeBelow a_bindingName a_bindingValue a_bindingOuter bc nc f_top S R pn a_resumptionFrame a_resumptionTop a_resumptionBottom)
    (H : ∀ u', xr_R K A B C n nx cf mp mt ec ep (zs K A B C nx cf mp (none, v, e0, (t, s, h, e) :: S, R, pn, rn, out, on, 1, tc, tp, nc, bc, hc)) u' → post u') :
    wpX_finish post (mt, nI mp, nI n, f_openCount, 1, ec, ep, tc, tp, nI on, nI pn, nI rn, nI nc, f_top, nI bc, -1, nI b, v, K, A, B, C, a_after, a_openToken, a_openStage, a_openClause, a_caseFor, out, a_nodeToken, a_nodeStage, a_nodeHeld, a_nodeScope, a_nodeBelow, a_bindingName, a_bindingValue, a_bindingOuter, a_resumptionFrame, a_resumptionTop, a_resumptionBottom) (nI t) h' := by
  obtain ⟨i1, i2, i3, i4, i5, i6, i7, iF, iS, iR, b1, b2, b3⟩ := I
  obtain ⟨f1, f2, f3, f4, f5⟩ := iS _ (List.mem_cons_self ..)
  dsimp only at f1 f2 f3 f4 f5
  have C1 := P.2.2.2.2.2
  have C2 : ∀ p, nx p ≠ 0 → p < nx p ∧ nx p ≤ n := fun p hp => ⟨(C1 p hp).1, (C1 p hp).2.1⟩
  have L := C1 t f1
  have hn := P.1
  have ht : t < n := Nat.lt_of_lt_of_le L.1 L.2.1
  have s0 : ¬ zs_kp (K t) → s = 0 := fun c => f4.elim id (fun q => absurd q.2 c)
  have s1 : zs_kp (K t) → s = 1 := fun c => f4.elim (fun q => absurd ⟨q, c⟩ hkp) (fun q => q.1)
  have hSS : ∀ f ∈ S, f.1 < n ∧ f.2.1 ≤ 1 := by
    intro f hf
    obtain ⟨q1, q2, q3, q4, q5⟩ := iS f (List.mem_cons_of_mem _ hf)
    have Lf := C1 _ q1
    exact ⟨Nat.lt_of_lt_of_le Lf.1 Lf.2.1, by rcases q4 with z | ⟨z, -⟩ <;> omega⟩
  have hlen : S.length < 1000 := by
    have := zw_len K nx S
    simp only [zw_s] at b2
    omega
  have hbc : bc + 3 ≤ 1000 := by omega
  have hnc : nc ≤ 1024 := by omega
  rcases lc_k L f2 f3 with k | k | k | k | k | k | k | k
  · obtain ⟨c1, c2, c3, c4, -⟩ := lc_if L k
    have q1 := C2 _ c1
    have q2 := C2 _ c2
    have q3 := C2 _ c3
    rw [zr_if k] at H
    exact xf_if hn ht k c1 (by omega) (by omega) c2 (by omega) sa sc HB E G H
  · obtain ⟨-, c1, c2, c3, -⟩ := lc_bi L (by simp [k])
    have q1 := C2 _ c1
    have q2 := C2 _ c2
    obtain ⟨x, hx, hA⟩ := (P.2.2.1 t ht).2.1 (by simp [k])
    rw [zr_let k] at H
    exact xf_let hn ht k hA hx c1 (by omega) (by omega) (by omega) i7 sa sc HB E G H
  · obtain ⟨-, c1, c2, c3, -⟩ := lc_bi L (by simp [k])
    have q1 := C2 _ c1
    have q2 := C2 _ c2
    rw [zr_seq k] at H
    exact xf_seq hn ht k c1 (by omega) (by omega) sa sc HB E G H
  · by_cases ho : on = 16
    · rw [zr_em0 k ho] at H
      exact xf_em0 hn ht k ho sa sc H
    · rw [zr_em1 k ho] at H
      exact xf_em1 hn ht k (by omega) sa sc HB G H
  · obtain ⟨op, ho, hA⟩ := (P.2.2.1 t ht).2.1 (by simp [k])
    have hAc : (A t).toNatClampNeg = op := by rw [hA]; exact nI_clamp (by omega)
    by_cases hp : pn = mp
    · rw [zr_pf0 k hp] at H
      exact xf_pf0 hn ht k hp i5 sa sc H
    · cases hf : zs_fnd K cf (A t).toNatClampNeg S with
      | none =>
        rw [zr_pf1 k hp hf] at H
        rw [hAc] at hf
        exact xf_pf1 hn ht k (by omega) i5 hA ho hnc hlen hSS (zf_none hf) sa sc G H
      | some q =>
        obtain ⟨sg, g, sb⟩ := q
        rw [zr_pf2 k hp hf] at H
        rw [hAc] at hf H
        obtain ⟨y1, y2, y3⟩ := zf_some hf
        obtain ⟨g1, -⟩ := iS g (List.mem_cons_of_mem _ (by rw [y1]; simp))
        have Lg := C1 _ g1
        have Lg2 := C2 _ g1
        obtain ⟨-, -, -, -, -, -, -, -, c9⟩ := lc_ha Lg y2.1
        obtain ⟨d1, d2, d3, d4⟩ := c9 op ho y2.2.2
        have q4 := C2 _ d3
        have hcs : cf g.1 op < n := by omega
        obtain ⟨-, ⟨yb, hyb, hB⟩, ⟨w, hw, hC⟩⟩ := (P.2.2.1 _ hcs).2.2.2.2 d2
        exact xf_pf2 hn ht k (by omega) i5 hA ho hnc hlen hSS y1 y2 y3 hcs hC hw hB hyb (by omega) i7 sa sc HB G H
  · have z1 := s1 (by rw [k]; decide)
    rw [hh z1]
    obtain ⟨c1, c2, c3, c4, c5, c6, c7, c8, -⟩ := lc_ha L k
    have q1 := C2 _ c1
    have q2 := C2 _ c2
    have q3 := C2 _ c6
    obtain ⟨⟨x, hx, hA⟩, ⟨y, hy, hB⟩⟩ := (P.2.2.1 (nx (nx (t + 1))) (by omega)).2.2.2.1 c5
    rw [zr_ret k z1] at H
    exact xf_ret hn ht k rfl hA hx hB hy c1 (by omega) (by omega) c2 (by omega) (by omega) i7 sa sc HB E G H
  · have z1 := s1 (by rw [k]; decide)
    rw [hh z1]
    obtain ⟨c0, -⟩ := lc_bi L (by simp [k])
    obtain ⟨r, hr, he⟩ := f5 (c0 k)
    have hcr : (e 8).toNatClampNeg = r := by rw [he]; exact nI_clamp (by omega)
    cases hf : R (e 8).toNatClampNeg with
    | none =>
      rw [zr_rs0 k z1 hf] at H
      rw [hcr] at hf
      exact xf_rs0 hn ht k (by omega) hr he hf (by omega) sa sc HB E G H
    | some q =>
      obtain ⟨sg, g⟩ := q
      rw [zr_rs1 k z1 hf] at H
      rw [hcr] at hf
      obtain ⟨r1, r2, r3, r4⟩ := iR r hr sg g hf
      have Lg := C2 _ r2.1
      exact xf_rs1 hn ht k (by omega) hr he hf (by omega) hnc (by omega) r4 sa sc HB E G H
  · have z1 := s1 (by rcases k with k | k | k | k | k <;> (rw [k]; decide))
    rw [hh z1]
    rw [zr_bin k z1] at H
    exact xf_bin hn ht k sa sc HB G H
theorem xs_hand (P : zl_P K A B C n nx cf (zk_cl nx) ic) (I : zi_I K nx mp (zk_cl nx) ic (none, v, e0, (t, s, h, e) :: S, R, pn, rn, out, on, 1, tc, tp, nc, bc, hc))
    (sa : ∀ p, nx p ≠ 0 → a_after p = nI (nx p)) (sc : ∀ h op, h < 32 → op < 8 → a_caseFor (8 * h + op) = nI (cf h op))
    (HB : xb_B a_bindingOuter bc)
    (G : xs_G a_nodeToken a_nodeStage a_nodeHeld a_nodeScope a_nodeBelow a_bindingName a_bindingValue a_bindingOuter bc nc f_top ((t, s, h, e) :: S) R pn a_resumptionFrame a_resumptionTop a_resumptionBottom)
    (H : ∀ u', xr_R K A B C n nx cf mp mt ec ep (zs K A B C nx cf mp (none, v, e0, (t, s, h, e) :: S, R, pn, rn, out, on, 1, tc, tp, nc, bc, hc)) u' → post u') :
    wpX_handOver post (mt, nI mp, nI n, f_openCount, 1, ec, ep, tc, tp, nI on, nI pn, nI rn, nI nc, f_top, nI bc, -1, f_scope, v, K, A, B, C, a_after, a_openToken, a_openStage, a_openClause, a_caseFor, out, a_nodeToken, a_nodeStage, a_nodeHeld, a_nodeScope, a_nodeBelow, a_bindingName, a_bindingValue, a_bindingOuter, a_resumptionFrame, a_resumptionTop, a_resumptionBottom) := by
  have I' := I
  obtain ⟨i1, i2, i3, i4, i5, i6, i7, iF, iS, iR, b1, b2, b3⟩ := I
  obtain ⟨f1, f2, f3, f4, f5⟩ := iS _ (List.mem_cons_self ..)
  dsimp only at f1 f2 f3 f4 f5
  have C2 : ∀ p, nx p ≠ 0 → p < nx p ∧ nx p ≤ n := fun p hp => ⟨(P.2.2.2.2.2 p hp).1, (P.2.2.2.2.2 p hp).2.1⟩
  have L := P.2.2.2.2.2 t f1
  have hn := P.1
  have ht : t < n := Nat.lt_of_lt_of_le L.1 L.2.1
  obtain ⟨x, x1, x2, x3, x4, x5, x6, ⟨b, x7, x8⟩, x9, x10⟩ := hs_top G
  subst x1
  have hcx : (nI x).toNatClampNeg = x := nI_clamp (by omega)
  have hct : (nI t).toNatClampNeg = t := nI_clamp (by omega)
  have hix : vp_in (nI x) 1024 := vp_in_nI (by omega) (by decide)
  refine br_f (nI_ne0 (by omega) (by omega)) ⟨hix, xm_r hcx x4 ⟨hix, xm_r hcx x7 ⟨hix, ?_⟩⟩⟩
  rw [hcx, x5]
  by_cases hkp : s = 0 ∧ zs_kp (K t)
  · obtain ⟨z0, hk⟩ := hkp
    subst z0
    rw [zr_keep rfl hk] at H
    have hx : zk_cl nx (t + 1) ∧ zk_cl nx (nx (t + 1)) := by
      by_cases k : K t = 13
      · obtain ⟨c1, c2, -⟩ := lc_ha L k
        exact ⟨c1, c2⟩
      · obtain ⟨-, c1, c2, -⟩ := lc_bi L (by rcases hk with k' | k' | k' | k' | k' | k' | k' <;> first | (exact absurd k' k) | simp [k'])
        exact ⟨c1, c2⟩
    have q1 := C2 _ hx.1
    have q2 := C2 _ hx.2
    refine br_t rfl ⟨vp_in_nI (by omega) (by decide), ?_⟩
    rw [hct]
    refine xt_keep1 hk (br_f (by decide) ⟨hix, nm_e ⟨hix, nm_e (xt_after (nI_1 t) hn sa hx.1 (by omega) (by omega) ?_)⟩⟩)
    exact H _ (xr_mk sa sc (fun z => absurd z (by decide)) (fun _ => ⟨rfl, rfl, HB, (fun p z => by cases z; exact ⟨rfl, b, rfl, x8⟩), (fun z => by cases z), x10 v⟩))
  · have F : ∀ post' : SX → Prop, (∀ u, post u → post' u) → wpX_finish post' (mt, nI mp, nI n, f_openCount, 1, ec, ep, tc, tp, nI on, nI pn, nI rn, nI nc, a_nodeBelow x, nI bc, -1, nI b, v, K, A, B, C, a_after, a_openToken, a_openStage, a_openClause, a_caseFor, out, a_nodeToken, a_nodeStage, a_nodeHeld, a_nodeScope, a_nodeBelow, a_bindingName, a_bindingValue, a_bindingOuter, a_resumptionFrame, a_resumptionTop, a_resumptionBottom) (nI t) (a_nodeHeld x) :=
      fun post' hpp => xs_fin P I' hkp sa sc HB x8 x6 x9 (fun u' hu => hpp u' (H u' hu))
    have W : wX_handOver_85 post (nI x) (nI t) mt (nI mp) (nI n) f_openCount 1 ec ep tc tp (nI on) (nI pn) (nI rn) (nI nc) (nI x) (nI bc) (-1) (nI b) v K A B C a_after a_openToken a_openStage a_openClause a_caseFor out a_nodeToken a_nodeStage a_nodeHeld a_nodeScope a_nodeBelow a_bindingName a_bindingValue a_bindingOuter a_resumptionFrame a_resumptionTop a_resumptionBottom := by
      refine ⟨hix, nm_r (by rw [hcx]) ⟨hix, ?_⟩⟩
      rw [hcx]
      exact F _ (fun u hu => hu)
    rcases f4 with z0 | ⟨z1, zk⟩
    · subst z0
      have hnk : ¬ zs_kp (K t) := fun z => hkp ⟨rfl, z⟩
      refine br_t rfl ⟨vp_in_nI (by omega) (by decide), ?_⟩
      rw [hct]
      refine xt_keep0 ?_ (br_t rfl W)
      rcases lc_k L f2 f3 with k | k | k | k | k | k | k | k
      · simp [k]
      · simp [k]
      · simp [k]
      · simp [k]
      · simp [k]
      · exact absurd (by rw [k]; decide) hnk
      · exact absurd (by rw [k]; decide) hnk
      · exact absurd (by rcases k with k | k | k | k | k <;> (rw [k]; decide)) hnk
    · subst z1
      exact br_f (by decide) W
end
