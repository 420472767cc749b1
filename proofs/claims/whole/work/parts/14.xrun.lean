theorem zr_rep (f : ZZ → ZZ) : ∀ (j : Nat) (z : ZZ), Nat.repeat f (j + 1) z = Nat.repeat f j (f z)
  | 0, _ => rfl
  | j + 1, z => by
    show f (Nat.repeat f (j + 1) z) = _
    rw [zr_rep f j z]
    rfl
def zst : ZZ → Nat
  | (_, _, _, _, _, _, _, _, _, st, _, _, _, _, _) => st
def zz0 (out : Nat → Int32) : ZZ := (some 0, 0, (fun _ => 0), [], (fun _ => none), 0, 0, out, 0, 1, 0, -1, 1, 1, 0)
theorem zm_1 {p : Nat} (h : p < 2 ^ 31) : ¬ nI p = -1 := by
  intro z
  have := congrArg Int32.toInt z
  rw [nI_toInt h] at this
  have e : (-1 : Int32).toInt = -1 := by decide
  rw [e] at this
  omega
theorem zz_I {K A B C : Nat → Int32} {n : Nat} {nx : Nat → Nat} {cf : Nat → Nat → Nat} {mp : Nat} {cl ic : Nat → Prop} (P : zl_P K A B C n nx cf cl ic) (hmp : mp ≤ 16) (out : Nat → Int32) : zi_I K nx mp cl ic (zz0 out) ∧ zi_mu K nx mp (zz0 out) < 1700 := by
  have hn := P.1
  have L := P.2.2.2.2.2 0 P.2.2.2.1
  have l1 := L.1
  have l2 := L.2.1
  refine ⟨⟨rfl, rfl, by omega, by omega, hmp, by omega, by omega, (fun p hp => by cases hp; exact ⟨P.2.2.2.1, fun z => absurd z P.2.2.2.2.1⟩), (fun f hf => by cases hf), (fun r hr => by omega), ?_, ?_, ?_⟩, ?_⟩
  · simp only [zi_os, zw_s, zw_r]; omega
  · simp only [zi_os, zw_s, zw_r]; omega
  · simp only [zi_os, zw_s, zw_r]; omega
  · show zi_m K nx mp (some 0) [] (fun _ => none) 0 < 1700
    simp only [zi_m, zi_os, zw_s, zw_r]; omega
section
variable {f_maxTokens f_maxPerforms f_count f_openCount f_status f_errorCode f_errorPos f_trapCode f_trapPos f_emittedCount f_performCount f_resumeCount f_nodeCount f_top f_bindingCount f_next f_scope f_value : Int32} {a_kinds a_argA a_argB a_argC a_after a_openToken a_openStage a_openClause a_caseFor a_emitted a_nodeToken a_nodeStage a_nodeHeld a_nodeScope a_nodeBelow a_bindingName a_bindingValue a_bindingOuter a_resumptionFrame a_resumptionTop a_resumptionBottom : Nat → Int32} {K A B C : Nat → Int32} {n : Nat} {nx : Nat → Nat} {cf : Nat → Nat → Nat} {mp : Nat} {mt ec ep : Int32} {ic : Nat → Prop} {post : Int32 → SX → Prop}
def xl_run (post : Int32 → SX → Prop) (fu : Nat) (i : Int32) (u : SX) : Prop :=
  match u with
  | (f_maxTokens, f_maxPerforms, f_count, f_openCount, f_status, f_errorCode, f_errorPos, f_trapCode, f_trapPos, f_emittedCount, f_performCount, f_resumeCount, f_nodeCount, f_top, f_bindingCount, f_next, f_scope, f_value, a_kinds, a_argA, a_argB, a_argC, a_after, a_openToken, a_openStage, a_openClause, a_caseFor, a_emitted, a_nodeToken, a_nodeStage, a_nodeHeld, a_nodeScope, a_nodeBelow, a_bindingName, a_bindingValue, a_bindingOuter, a_resumptionFrame, a_resumptionTop, a_resumptionBottom) => wX_run_45 post fu i f_maxTokens f_maxPerforms f_count f_openCount f_status f_errorCode f_errorPos f_trapCode f_trapPos f_emittedCount f_performCount f_resumeCount f_nodeCount f_top f_bindingCount f_next f_scope f_value a_kinds a_argA a_argB a_argC a_after a_openToken a_openStage a_openClause a_caseFor a_emitted a_nodeToken a_nodeStage a_nodeHeld a_nodeScope a_nodeBelow a_bindingName a_bindingValue a_bindingOuter a_resumptionFrame a_resumptionTop a_resumptionBottom
theorem xs_one (P : zl_P K A B C n nx cf (zk_cl nx) ic) {z : ZZ} {u : SX} {i fu : Nat} (I : zi_I K nx mp (zk_cl nx) ic z) (X : xr_R K A B C n nx cf mp mt ec ep z u) (hi : i < 1000000)
    (H : ∀ u', xr_R K A B C n nx cf mp mt ec ep (zs K A B C nx cf mp z) u' → xl_run post fu (nI (i + 1)) u') : xl_run post (fu + 1) (nI i) u := by
  obtain ⟨f_maxTokens, f_maxPerforms, f_count, f_openCount, f_status, f_errorCode, f_errorPos, f_trapCode, f_trapPos, f_emittedCount, f_performCount, f_resumeCount, f_nodeCount, f_top, f_bindingCount, f_next, f_scope, f_value, a_kinds, a_argA, a_argB, a_argC, a_after, a_openToken, a_openStage, a_openClause, a_caseFor, a_emitted, a_nodeToken, a_nodeStage, a_nodeHeld, a_nodeScope, a_nodeBelow, a_bindingName, a_bindingValue, a_bindingOuter, a_resumptionFrame, a_resumptionTop, a_resumptionBottom⟩ := u
  obtain ⟨fo, v, e, S, R, pn, rn, out, on, st, tc, tp, nc, bc, hc⟩ := z
  have i1 : st = 1 := I.1
  subst i1
  obtain ⟨⟨rfl, rfl, rfl, rfl, rfl, rfl, rfl, rfl, rfl, rfl, rfl⟩, ⟨rfl, rfl, rfl, rfl, rfl⟩, sa, sc, -, h1⟩ := X
  obtain ⟨r1, r2, HB, hfo, hno, G⟩ := h1 rfl
  subst r1 r2
  refine br_f (nI_ge (b := 1000000) hi (by decide)) (br_t rfl ?_)
  cases fo with
  | some p =>
    obtain ⟨r3, b, r4, E⟩ := hfo p rfl
    subst r3 r4
    have hcl := (I.2.2.2.2.2.2.2.1 p rfl).1
    have L := P.2.2.2.2.2 p hcl
    have hn := P.1
    have l1 := L.1
    have l2 := L.2.1
    refine br_f (zm_1 (by omega)) (xs_eval P I sa sc HB E G ?_)
    intro u' h
    obtain ⟨f_maxTokens, f_maxPerforms, f_count, f_openCount, f_status, f_errorCode, f_errorPos, f_trapCode, f_trapPos, f_emittedCount, f_performCount, f_resumeCount, f_nodeCount, f_top, f_bindingCount, f_next, f_scope, f_value, a_kinds, a_argA, a_argB, a_argC, a_after, a_openToken, a_openStage, a_openClause, a_caseFor, a_emitted, a_nodeToken, a_nodeStage, a_nodeHeld, a_nodeScope, a_nodeBelow, a_bindingName, a_bindingValue, a_bindingOuter, a_resumptionFrame, a_resumptionTop, a_resumptionBottom⟩ := u'
    exact nm_r (nI_1 i) (H _ h)
  | none =>
    obtain ⟨r3, r4⟩ := hno rfl
    subst r3 r4
    refine br_t rfl ?_
    cases S with
    | nil =>
      refine xs_done sa sc G ?_ (e := e) (hc := hc)
      intro u' h
      obtain ⟨f_maxTokens, f_maxPerforms, f_count, f_openCount, f_status, f_errorCode, f_errorPos, f_trapCode, f_trapPos, f_emittedCount, f_performCount, f_resumeCount, f_nodeCount, f_top, f_bindingCount, f_next, f_scope, f_value, a_kinds, a_argA, a_argB, a_argC, a_after, a_openToken, a_openStage, a_openClause, a_caseFor, a_emitted, a_nodeToken, a_nodeStage, a_nodeHeld, a_nodeScope, a_nodeBelow, a_bindingName, a_bindingValue, a_bindingOuter, a_resumptionFrame, a_resumptionTop, a_resumptionBottom⟩ := u'
      exact nm_r (nI_1 i) (H _ h)
    | cons f S =>
      obtain ⟨t, s, h, e1⟩ := f
      refine xs_hand P I sa sc HB G ?_
      intro u' h
      obtain ⟨f_maxTokens, f_maxPerforms, f_count, f_openCount, f_status, f_errorCode, f_errorPos, f_trapCode, f_trapPos, f_emittedCount, f_performCount, f_resumeCount, f_nodeCount, f_top, f_bindingCount, f_next, f_scope, f_value, a_kinds, a_argA, a_argB, a_argC, a_after, a_openToken, a_openStage, a_openClause, a_caseFor, a_emitted, a_nodeToken, a_nodeStage, a_nodeHeld, a_nodeScope, a_nodeBelow, a_bindingName, a_bindingValue, a_bindingOuter, a_resumptionFrame, a_resumptionTop, a_resumptionBottom⟩ := u'
      exact nm_r (nI_1 i) (H _ h)
theorem xs_end {z : ZZ} {u : SX} {i fu : Nat} (X : xr_R K A B C n nx cf mp mt ec ep z u) (hi : i < 1000000) (hX : zi_X mp z) (H : post (nI (zst z)) u) : xl_run post (fu + 1) (nI i) u := by
  obtain ⟨f_maxTokens, f_maxPerforms, f_count, f_openCount, f_status, f_errorCode, f_errorPos, f_trapCode, f_trapPos, f_emittedCount, f_performCount, f_resumeCount, f_nodeCount, f_top, f_bindingCount, f_next, f_scope, f_value, a_kinds, a_argA, a_argB, a_argC, a_after, a_openToken, a_openStage, a_openClause, a_caseFor, a_emitted, a_nodeToken, a_nodeStage, a_nodeHeld, a_nodeScope, a_nodeBelow, a_bindingName, a_bindingValue, a_bindingOuter, a_resumptionFrame, a_resumptionTop, a_resumptionBottom⟩ := u
  obtain ⟨fo, v, e, S, R, pn, rn, out, on, st, tc, tp, nc, bc, hc⟩ := z
  obtain ⟨⟨rfl, rfl, rfl, rfl, rfl, rfl, rfl, rfl, rfl, rfl, rfl⟩, ⟨rfl, rfl, rfl, rfl, rfl⟩, sa, sc, -, h1⟩ := X
  obtain ⟨-, -, h⟩ := hX
  refine br_f (nI_ge (b := 1000000) hi (by decide)) (br_f ?_ H)
  rcases h with ⟨h, -⟩ | ⟨h, -⟩
  · subst h; decide
  · subst h; decide
theorem xs_loop (P : zl_P K A B C n nx cf (zk_cl nx) ic) : ∀ (k : Nat) (z : ZZ) (i fu : Nat) (u : SX), (∀ j, j ≤ k → zi_I K nx mp (zk_cl nx) ic (Nat.repeat (zs K A B C nx cf mp) j z)) → zi_X mp (Nat.repeat (zs K A B C nx cf mp) (k + 1) z) →
    xr_R K A B C n nx cf mp mt ec ep z u → i + k + 1 < 1000000 → k + 2 ≤ fu → (∀ u', xr_R K A B C n nx cf mp mt ec ep (Nat.repeat (zs K A B C nx cf mp) (k + 1) z) u' → post (nI (zst (Nat.repeat (zs K A B C nx cf mp) (k + 1) z))) u') → xl_run post fu (nI i) u := by
  intro k
  induction k with
  | zero =>
    intro z i fu u hI hX X hi hf H
    obtain ⟨fu, rfl⟩ : ∃ f', fu = f' + 2 := ⟨fu - 2, by omega⟩
    exact xs_one P (hI 0 (Nat.le_refl _)) X (by omega) (fun u' h => xs_end h (by omega) hX (H u' h))
  | succ k ih =>
    intro z i fu u hI hX X hi hf H
    obtain ⟨fu, rfl⟩ : ∃ f', fu = f' + 1 := ⟨fu - 1, by omega⟩
    rw [zr_rep] at hX H
    exact xs_one P (hI 0 (Nat.zero_le _)) X (by omega) (fun u' h => ih _ (i + 1) fu u' (fun j hj => by rw [← zr_rep]; exact hI (j + 1) (by omega)) hX h (by omega) (by omega) H)
theorem xs_run {out : Nat → Int32} {k : Nat} (P : zl_P K A B C n nx cf (zk_cl nx) ic) (hk : k < 1700) (hI : ∀ j, j ≤ k → zi_I K nx mp (zk_cl nx) ic (Nat.repeat (zs K A B C nx cf mp) j (zz0 out))) (hX : zi_X mp (Nat.repeat (zs K A B C nx cf mp) (k + 1) (zz0 out)))
    (sa : ∀ p, nx p ≠ 0 → a_after p = nI (nx p)) (sc : ∀ h op, h < 32 → op < 8 → a_caseFor (8 * h + op) = nI (cf h op)) (hst : ¬ f_status = 0)
    (H : ∀ u', xr_R K A B C n nx cf mp mt ec ep (Nat.repeat (zs K A B C nx cf mp) (k + 1) (zz0 out)) u' → post (nI (zst (Nat.repeat (zs K A B C nx cf mp) (k + 1) (zz0 out)))) u') :
    wpX_run post (mt, nI mp, nI n, f_openCount, f_status, ec, ep, f_trapCode, f_trapPos, f_emittedCount, f_performCount, f_resumeCount, f_nodeCount, f_top, f_bindingCount, f_next, f_scope, f_value, K, A, B, C, a_after, a_openToken, a_openStage, a_openClause, a_caseFor, out, a_nodeToken, a_nodeStage, a_nodeHeld, a_nodeScope, a_nodeBelow, a_bindingName, a_bindingValue, a_bindingOuter, a_resumptionFrame, a_resumptionTop, a_resumptionBottom) := by
  refine br_f hst ?_
  show ∃ n45 : Nat, wX_run_45 post n45 0 mt (nI mp) (nI n) f_openCount 1 ec ep 0 (-1) 0 0 0 1 0 1 0 0 f_value K A B C a_after a_openToken a_openStage a_openClause a_caseFor out a_nodeToken a_nodeStage a_nodeHeld a_nodeScope a_nodeBelow a_bindingName a_bindingValue a_bindingOuter a_resumptionFrame a_resumptionTop a_resumptionBottom
  refine ⟨1702, ?_⟩
  refine xs_loop (u := (mt, nI mp, nI n, f_openCount, 1, ec, ep, 0, -1, 0, 0, 0, 1, 0, 1, 0, 0, f_value, K, A, B, C, a_after, a_openToken, a_openStage, a_openClause, a_caseFor, out, a_nodeToken, a_nodeStage, a_nodeHeld, a_nodeScope, a_nodeBelow, a_bindingName, a_bindingValue, a_bindingOuter, a_resumptionFrame, a_resumptionTop, a_resumptionBottom)) P k (zz0 out) 0 1702 hI hX ?_ (by omega) (by omega) H
  refine xr_mk (tc := 0) (tp := -1) (on := 0) (pn := 0) (rn := 0) (st := 1) (nc := 1) (bc := 1) sa sc (fun z => absurd z (by decide)) (fun _ => ⟨rfl, rfl, (fun b h1 h2 => by omega), (fun p z => by cases z; exact ⟨rfl, 0, rfl, by omega, fun j hj => rfl⟩), (fun z => by cases z), ?_⟩)
  refine ⟨fun _ => [], ⟨fun _ => 0, fun k => ⟨⟨0, 0, rfl⟩, trivial, fun p hp => by cases hp⟩⟩, rfl, rfl, fun r hr => by omega⟩
end
