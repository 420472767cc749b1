theorem xn_a {af : Nat → Int32} {nx : Nat → Nat} {t x : Nat} (sa : ∀ p, nx p ≠ 0 → af p = nI (nx p)) : ∀ p, zn_set nx t x p ≠ 0 → upd af t (nI x) p = nI (zn_set nx t x p) := by
  intro p hp
  by_cases c : p = t
  · subst c; rw [zu_s, zn_s]
  · rw [zn_n c] at hp
    rw [zu_n c, zn_n c]
    exact sa p hp
theorem xn_c {cs : Nat → Int32} {cf : Nat → Nat → Nat} {t op x : Nat} (ho : op < 8) (sc : ∀ h op, h < 32 → op < 8 → cs (8 * h + op) = nI (cf h op)) :
    ∀ h op', h < 32 → op' < 8 → upd cs (8 * t + op) (nI x) (8 * h + op') = nI (zn_set2 cf t op x h op') := by
  intro h op' h1 h2
  by_cases c : h = t ∧ op' = op
  · obtain ⟨rfl, rfl⟩ := c
    rw [zu_s, zn_s2]
  · rw [zu_n (by omega), zn_n2 c]
    exact sc h op' h1 h2
theorem yl_z {a : Nat → Int32} {m k : Nat} (h : k < m) : yl_ce yz0 a 0 m k = 0 := by
  unfold yl_ce
  rw [if_pos h]
  rfl
section
variable {f_maxTokens f_maxPerforms f_count f_openCount f_status f_errorCode f_errorPos f_trapCode f_trapPos f_emittedCount f_performCount f_resumeCount f_nodeCount f_top f_bindingCount f_next f_scope f_value : Int32} {a_kinds a_argA a_argB a_argC a_after a_openToken a_openStage a_openClause a_caseFor a_emitted a_nodeToken a_nodeStage a_nodeHeld a_nodeScope a_nodeBelow a_bindingName a_bindingValue a_bindingOuter a_resumptionFrame a_resumptionTop a_resumptionBottom : Nat → Int32} {K A B C : Nat → Int32} {n : Nat} {i : Nat}
theorem xc_pc {post : Int32 → Prop} {k : Int32} (H : post (nI (zc_pc k))) : wpX_partCount post k := by
  unfold zc_pc at H
  by_cases k11 : k = 11
  · rw [if_pos (Or.inl k11)] at H
    exact br_t k11 H
  · by_cases k12 : k = 12
    · rw [if_pos (Or.inr k12)] at H
      exact br_f k11 (br_t k12 H)
    · rw [if_neg (fun z => z.elim k11 k12)] at H
      by_cases k8 : k = 8
      · rw [if_pos k8] at H
        exact br_f k11 (br_f k12 (br_t k8 H))
      · rw [if_neg k8] at H
        exact br_f k11 (br_f k12 (br_f k8 H))
theorem xc_pc3 (k : Int32) : zc_pc k ≤ 3 := by
  unfold zc_pc
  split
  · omega
  · split <;> omega
theorem xc_fin {post : SX → Prop} (hn : n ≤ 32) (hi : i < n) : ∀ (stk : List ZE) (fu : Nat) (nx : Nat → Nat) (af oS : Nat → Int32), stk.length < fu → zk_W a_kinds n stk → zk_A a_kinds stk → (∀ p, nx p ≠ 0 → af p = nI (nx p)) → xk_S a_openToken oS a_openClause stk →
    (∀ af' oS', (∀ p, (zc_fin a_kinds i nx stk).1 p ≠ 0 → af' p = nI ((zc_fin a_kinds i nx stk).1 p)) → xk_S a_openToken oS' a_openClause (zc_fin a_kinds i nx stk).2 → post (f_maxTokens, f_maxPerforms, f_count, nI (zc_fin a_kinds i nx stk).2.length, f_status, f_errorCode, f_errorPos, f_trapCode, f_trapPos, f_emittedCount, f_performCount, f_resumeCount, f_nodeCount, f_top, f_bindingCount, f_next, f_scope, f_value, a_kinds, a_argA, a_argB, a_argC, af', a_openToken, oS', a_openClause, a_caseFor, a_emitted, a_nodeToken, a_nodeStage, a_nodeHeld, a_nodeScope, a_nodeBelow, a_bindingName, a_bindingValue, a_bindingOuter, a_resumptionFrame, a_resumptionTop, a_resumptionBottom)) →
    wX_finishPart_7 post (nI (i + 1)) f_maxTokens f_maxPerforms f_count f_status f_errorCode f_errorPos f_trapCode f_trapPos f_emittedCount f_performCount f_resumeCount f_nodeCount f_top f_bindingCount f_next f_scope f_value fu (nI stk.length) a_kinds a_argA a_argB a_argC af a_openToken oS a_openClause a_caseFor a_emitted a_nodeToken a_nodeStage a_nodeHeld a_nodeScope a_nodeBelow a_bindingName a_bindingValue a_bindingOuter a_resumptionFrame a_resumptionTop a_resumptionBottom := by
  intro stk
  induction stk with
  | nil =>
    intro fu nx af oS hf W ZA sa S H
    obtain ⟨fu, rfl⟩ : ∃ f', fu = f' + 1 := ⟨fu - 1, by simp at hf; omega⟩
    exact br_t (by decide) (H af oS sa trivial)
  | cons e es ih =>
    intro fu nx af oS hf W ZA sa S H
    obtain ⟨fu, rfl⟩ : ∃ f', fu = f' + 1 := ⟨fu - 1, by simp at hf; omega⟩
    obtain ⟨t, s, c⟩ := e
    obtain ⟨s1, s2, s3, s4⟩ := S
    have hl := W.1
    rw [List.length_cons] at hl hf
    obtain ⟨w1, w2, w3⟩ := W.2 _ (List.mem_cons_self ..)
    dsimp only at w1 w2 w3
    have hcl : (nI es.length).toNatClampNeg = es.length := nI_clamp (by omega)
    have hil : vp_in (nI es.length) 32 := vp_in_nI (by omega) (by decide)
    have hct : (nI t).toNatClampNeg = t := nI_clamp (by omega)
    have hit : vp_in (nI t) 32 := vp_in_nI (by omega) (by decide)
    rw [List.length_cons]
    refine br_f (nI_nle (by omega) (by omega)) (nm_r (nI_pred _) ⟨hil, xm_r hcl s1 ⟨hil, hil, nm_r (e' := upd oS es.length (nI (s + 1))) (by rw [hcl, s2, nI_1]) ⟨hit, ?_⟩⟩⟩)
    rw [hct, hcl]
    by_cases hc : a_kinds t = 13 ∨ s + 1 < zc_pc (a_kinds t)
    · have e : zc_fin a_kinds i nx ((t, s, c) :: es) = (nx, (t, s + 1, c) :: es) := by simp only [zc_fin]; rw [if_pos hc]
      rw [e] at H
      have hS : xk_S a_openToken (upd oS es.length (nI (s + 1))) a_openClause ((t, s + 1, c) :: es) := by
        refine ⟨s1, zu_s, fun y => ?_, xk_m (fun j hj => ⟨rfl, zu_n (by omega), rfl⟩) s4⟩
        exfalso
        have q := ZA _ (List.mem_cons_self ..)
        rcases hc with z | z
        · exact q ⟨z, Or.inl (by dsimp only; omega)⟩
        · have := xc_pc3 (a_kinds t)
          omega
      have P := H af _ sa hS
      by_cases k13 : a_kinds t = 13
      · exact br_t k13 P
      · refine br_f k13 ⟨hil, hit, xc_pc (br_f ?_ P)⟩
        rw [zu_s]
        exact nI_ge (hc.resolve_left k13) (by have := xc_pc3 (a_kinds t); omega)
    · have e : zc_fin a_kinds i nx ((t, s, c) :: es) = zc_fin a_kinds i (zn_set nx t (i + 1)) es := by simp only [zc_fin]; rw [if_neg hc]
      rw [e] at H
      have k13 : ¬ a_kinds t = 13 := fun z => hc (Or.inl z)
      refine br_f k13 ⟨hil, hit, xc_pc (br_t ?_ ⟨hit, nm_e (nm_r (nI_pred _) (ih fu (zn_set nx t (i + 1)) _ _ (by omega) (zk_Wt W) (fun e he => ZA e (List.mem_cons_of_mem _ he)) (xn_a sa) (xk_m (fun j hj => ⟨rfl, zu_n (by omega), rfl⟩) s4) H))⟩)⟩
      rw [zu_s]
      exact nI_le (by have := fun z => hc (Or.inr z); omega) (by omega)
theorem xc_fp {post : SX → Prop} {stk : List ZE} {nx : Nat → Nat} {st : Nat} {a0 a1 : Int32} (hn : n ≤ 32) (hi : i < n) (e0 : a0 = nI st) (e1 : a1 = nI (i + 1)) (hs : st < n) (W : zk_W a_kinds n stk) (ZA : zk_A a_kinds stk) (sa : ∀ p, nx p ≠ 0 → a_after p = nI (nx p)) (S : xk_S a_openToken a_openStage a_openClause stk)
    (H : ∀ af' oS', (∀ p, (zc_fin a_kinds i (zn_set nx st (i + 1)) stk).1 p ≠ 0 → af' p = nI ((zc_fin a_kinds i (zn_set nx st (i + 1)) stk).1 p)) → xk_S a_openToken oS' a_openClause (zc_fin a_kinds i (zn_set nx st (i + 1)) stk).2 → post (f_maxTokens, f_maxPerforms, f_count, nI (zc_fin a_kinds i (zn_set nx st (i + 1)) stk).2.length, f_status, f_errorCode, f_errorPos, f_trapCode, f_trapPos, f_emittedCount, f_performCount, f_resumeCount, f_nodeCount, f_top, f_bindingCount, f_next, f_scope, f_value, a_kinds, a_argA, a_argB, a_argC, af', a_openToken, oS', a_openClause, a_caseFor, a_emitted, a_nodeToken, a_nodeStage, a_nodeHeld, a_nodeScope, a_nodeBelow, a_bindingName, a_bindingValue, a_bindingOuter, a_resumptionFrame, a_resumptionTop, a_resumptionBottom)) :
    wpX_finishPart post (f_maxTokens, f_maxPerforms, f_count, nI stk.length, f_status, f_errorCode, f_errorPos, f_trapCode, f_trapPos, f_emittedCount, f_performCount, f_resumeCount, f_nodeCount, f_top, f_bindingCount, f_next, f_scope, f_value, a_kinds, a_argA, a_argB, a_argC, a_after, a_openToken, a_openStage, a_openClause, a_caseFor, a_emitted, a_nodeToken, a_nodeStage, a_nodeHeld, a_nodeScope, a_nodeBelow, a_bindingName, a_bindingValue, a_bindingOuter, a_resumptionFrame, a_resumptionTop, a_resumptionBottom) a0 a1 := by
  subst e0 e1
  have hct : (nI st).toNatClampNeg = st := nI_clamp (by omega)
  exact ⟨vp_in_nI (by omega) (by decide), nm_r (e' := upd a_after st (nI (i + 1))) (by rw [hct]) ⟨stk.length + 1, xc_fin hn hi stk _ _ _ _ (by omega) W ZA (xn_a sa) S H⟩⟩
theorem xc_take {post : SX → Prop} {stk : List ZE} {nx : Nat → Nat} {cf : Nat → Nat → Nat} {ic : Nat → Prop} (hn : n ≤ 32) (hi : i < n) (hT : zl_T a_kinds a_argA a_argB a_argC i) (F : zc_flt a_kinds a_argA a_argB a_argC i stk cf 0) (Z : zk_S a_kinds nx cf ic i stk) (W : zk_W a_kinds n stk)
    (S : xk_S a_openToken a_openStage a_openClause stk) (sa : ∀ p, nx p ≠ 0 → a_after p = nI (nx p)) (sc : ∀ h op, h < 32 → op < 8 → a_caseFor (8 * h + op) = nI (cf h op))
    (H : ∀ af oT oS oC cs, (∀ p, (zc_take a_kinds a_argA i stk nx cf).2.1 p ≠ 0 → af p = nI ((zc_take a_kinds a_argA i stk nx cf).2.1 p)) → (∀ h op, h < 32 → op < 8 → cs (8 * h + op) = nI ((zc_take a_kinds a_argA i stk nx cf).2.2 h op)) → xk_S oT oS oC (zc_take a_kinds a_argA i stk nx cf).1 →
      post (f_maxTokens, f_maxPerforms, f_count, nI (zc_take a_kinds a_argA i stk nx cf).1.length, f_status, f_errorCode, f_errorPos, f_trapCode, f_trapPos, f_emittedCount, f_performCount, f_resumeCount, f_nodeCount, f_top, f_bindingCount, f_next, f_scope, f_value, a_kinds, a_argA, a_argB, a_argC, af, oT, oS, oC, cs, a_emitted, a_nodeToken, a_nodeStage, a_nodeHeld, a_nodeScope, a_nodeBelow, a_bindingName, a_bindingValue, a_bindingOuter, a_resumptionFrame, a_resumptionTop, a_resumptionBottom)) :
    wpX_take post (f_maxTokens, f_maxPerforms, f_count, nI stk.length, f_status, f_errorCode, f_errorPos, f_trapCode, f_trapPos, f_emittedCount, f_performCount, f_resumeCount, f_nodeCount, f_top, f_bindingCount, f_next, f_scope, f_value, a_kinds, a_argA, a_argB, a_argC, a_after, a_openToken, a_openStage, a_openClause, a_caseFor, a_emitted, a_nodeToken, a_nodeStage, a_nodeHeld, a_nodeScope, a_nodeBelow, a_bindingName, a_bindingValue, a_bindingOuter, a_resumptionFrame, a_resumptionTop, a_resumptionBottom) (nI i) := by
  have hci : (nI i).toNatClampNeg = i := nI_clamp (by omega)
  have hii : vp_in (nI i) 32 := vp_in_nI (by omega) (by decide)
  obtain ⟨-, d2, -, -⟩ := zc_f0 F
  have hl := W.1
  refine ⟨hii, xm_r hci rfl ?_⟩
  unfold zc_take at H
  by_cases k1 : a_kinds i = 1 ∨ a_kinds i = 2
  · rw [if_pos k1] at H
    have hA := zc_okA d2 Z (by rcases k1 with k | k <;> (rw [k]; decide))
    have Q : wX_take_56 post (nI i) f_maxTokens f_maxPerforms f_count (nI stk.length) f_status f_errorCode f_errorPos f_trapCode f_trapPos f_emittedCount f_performCount f_resumeCount f_nodeCount f_top f_bindingCount f_next f_scope f_value a_kinds a_argA a_argB a_argC a_after a_openToken a_openStage a_openClause a_caseFor a_emitted a_nodeToken a_nodeStage a_nodeHeld a_nodeScope a_nodeBelow a_bindingName a_bindingValue a_bindingOuter a_resumptionFrame a_resumptionTop a_resumptionBottom := xc_fp hn hi rfl (nI_1 i) hi W hA sa S (fun af' oS' h1 h2 => H af' _ oS' _ _ h1 sc h2)
    rcases k1 with k | k
    · exact br_t k Q
    · exact br_f (by rw [k]; decide) (br_t k Q)
  · rw [if_neg k1] at H
    refine br_f (fun z => k1 (Or.inl z)) (br_f (fun z => k1 (Or.inr z)) ?_)
    by_cases k14 : a_kinds i = 14
    · rw [if_pos k14] at H
      refine br_t k14 ?_
      rw [k14] at d2
      obtain ⟨t, c, es, rfl, h13⟩ := zc_ok14 d2
      obtain ⟨s1, s2, s3, s4⟩ := S
      rw [List.length_cons] at hl
      have hcl : (nI es.length).toNatClampNeg = es.length := nI_clamp (by omega)
      have hil : vp_in (nI es.length) 32 := vp_in_nI (by omega) (by decide)
      rw [List.length_cons]
      unfold wpX_startClause
      dsimp only
      rw [nI_pred, hcl]
      refine ⟨hil, nm_e ⟨hil, nm_e ?_⟩⟩
      exact H a_after a_openToken _ _ a_caseFor sa sc ⟨s1, zu_s, fun _ => zu_s, xk_m (fun j hj => ⟨rfl, zu_n (by omega), zu_n (by omega)⟩) s4⟩
    · rw [if_neg k14] at H
      refine br_f k14 ?_
      by_cases k15 : a_kinds i = 15
      · rw [if_pos k15] at H
        obtain ⟨t, c, es, rfl, h13⟩ := zc_ok15 (Or.inl k15) d2
        obtain ⟨⟨op, ho, hA⟩, -⟩ := hT.2.2.2.2 k15
        obtain ⟨s1, s2, s3, s4⟩ := S
        rw [List.length_cons] at hl
        have w1 := (W.2 _ (List.mem_cons_self ..)).1
        dsimp only at w1
        have hcl : (nI es.length).toNatClampNeg = es.length := nI_clamp (by omega)
        have hil : vp_in (nI es.length) 32 := vp_in_nI (by omega) (by decide)
        have e8 : nI t * 8 + nI op = nI (8 * t + op) := by
          have : nI t * 8 = nI (t * 8) := (Int32.ofNat_mul t 8).symm
          rw [this, nI_add, Nat.mul_comm]
        have hc8 : (nI (8 * t + op)).toNatClampNeg = 8 * t + op := nI_clamp (by omega)
        rw [hA, nI_clamp (by omega)] at H
        refine br_t k15 ?_
        rw [List.length_cons]
        rw [nI_pred, hcl, s1, hci, hA, e8, hc8]
        refine ⟨hil, hii, vp_in_nI (by omega) (by decide), nm_e ?_⟩
        unfold wpX_startClause
        dsimp only
        rw [nI_pred, hcl]
        refine ⟨hil, nm_e ⟨hil, nm_e ?_⟩⟩
        exact H a_after a_openToken _ _ _ sa (xn_c ho sc) ⟨s1, zu_s, fun _ => zu_s, xk_m (fun j hj => ⟨rfl, zu_n (by omega), zu_n (by omega)⟩) s4⟩
      · rw [if_neg k15] at H
        refine br_f k15 ?_
        by_cases k16 : a_kinds i = 16
        · rw [if_pos k16] at H
          obtain ⟨t, c, es, rfl, h13⟩ := zc_ok15 (Or.inr k16) d2
          obtain ⟨s1, s2, s3, s4⟩ := S
          rw [List.length_cons] at hl
          have w1 := (W.2 _ (List.mem_cons_self ..)).1
          dsimp only at w1
          have hcl : (nI es.length).toNatClampNeg = es.length := nI_clamp (by omega)
          have hil : vp_in (nI es.length) 32 := vp_in_nI (by omega) (by decide)
          refine br_t k16 ?_
          rw [List.length_cons]
          refine nm_r (nI_pred _) ⟨hil, ?_⟩
          rw [hcl]
          exact xc_fp (st := t) hn hi s1 (nI_1 i) w1 (zk_Wt W) Z.2.2 sa s4 (fun af' oS' h1 h2 => H af' _ oS' _ _ h1 sc h2)
        · rw [if_neg k16] at H
          have hs := zk_len Z
          have hcl : (nI stk.length).toNatClampNeg = stk.length := nI_clamp (by omega)
          have hil : vp_in (nI stk.length) 32 := vp_in_nI (by omega) (by decide)
          refine br_f k16 ⟨hil, nm_r (e' := upd a_openToken stk.length (nI i)) (by rw [hcl]) ⟨hil, nm_r (e' := upd a_openStage stk.length 0) (by rw [hcl]) (nm_r (nI_1 _) ?_)⟩⟩
          exact H a_after _ _ a_openClause a_caseFor sa sc ⟨zu_s, zu_s, fun z => absurd z (by decide), xk_m (fun j hj => ⟨zu_n (by omega), zu_n (by omega), rfl⟩) S⟩
theorem xc_49 {post : Int32 → SX → Prop} {f : Nat} (hf : f ≠ 0) (hf5 : f < 100) {x2 : Int32} (H : post (nI f) (f_maxTokens, f_maxPerforms, f_count, f_openCount, f_status, nI f, x2, f_trapCode, f_trapPos, f_emittedCount, f_performCount, f_resumeCount, f_nodeCount, f_top, f_bindingCount, f_next, f_scope, f_value, a_kinds, a_argA, a_argB, a_argC, a_after, a_openToken, a_openStage, a_openClause, a_caseFor, a_emitted, a_nodeToken, a_nodeStage, a_nodeHeld, a_nodeScope, a_nodeBelow, a_bindingName, a_bindingValue, a_bindingOuter, a_resumptionFrame, a_resumptionTop, a_resumptionBottom)) : wX_compile_49 post (nI f) x2 f_maxTokens f_maxPerforms f_count f_openCount f_status f_errorCode f_errorPos f_trapCode f_trapPos f_emittedCount f_performCount f_resumeCount f_nodeCount f_top f_bindingCount f_next f_scope f_value a_kinds a_argA a_argB a_argC a_after a_openToken a_openStage a_openClause a_caseFor a_emitted a_nodeToken a_nodeStage a_nodeHeld a_nodeScope a_nodeBelow a_bindingName a_bindingValue a_bindingOuter a_resumptionFrame a_resumptionTop a_resumptionBottom :=
  br_f (nI_ne0 (by omega) (by omega)) (br_f (nI_ne0 (by omega) (by omega)) H)
theorem zc_fle {stk : List ZE} {cf : Nat → Nat → Nat} {f : Nat} (F : zc_flt K A B C i stk cf f) : f ≤ 5 := by
  unfold zc_flt at F
  split at F
  · omega
  · rcases F with ⟨-, h⟩ | ⟨-, h⟩
    · omega
    · rcases h with ⟨-, -, h⟩ | ⟨-, -, h⟩ | ⟨-, -, h⟩ | ⟨-, -, -, h⟩ <;> omega
theorem xc_main {post : Int32 → SX → Prop} (hn : n ≤ 32) (hT : ∀ j, j < n → zl_T a_kinds a_argA a_argB a_argC j) {er ps : Nat} {nx' : Nat → Nat} {cf' : Nat → Nat → Nat}
    (H : ∀ oc af oT oS oC cs, (∀ p, nx' p ≠ 0 → af p = nI (nx' p)) → (∀ h op, h < 32 → op < 8 → cs (8 * h + op) = nI (cf' h op)) → post (nI er) (f_maxTokens, f_maxPerforms, nI n, oc, (if er = 0 then 1 else f_status), nI er, nI ps, f_trapCode, f_trapPos, f_emittedCount, f_performCount, f_resumeCount, f_nodeCount, f_top, f_bindingCount, f_next, f_scope, f_value, a_kinds, a_argA, a_argB, a_argC, af, oT, oS, oC, cs, a_emitted, a_nodeToken, a_nodeStage, a_nodeHeld, a_nodeScope, a_nodeBelow, a_bindingName, a_bindingValue, a_bindingOuter, a_resumptionFrame, a_resumptionTop, a_resumptionBottom)) :
    ∀ (d i : Nat) (stk : List ZE) (nx : Nat → Nat) (cf : Nat → Nat → Nat) (fu : Nat) (af oT oS oC cs : Nat → Int32), i + d = n → d < fu → zc_I a_kinds i stk nx cf → zc_res a_kinds a_argA a_argB a_argC d i stk nx cf er ps nx' cf' →
      (∀ p, nx p ≠ 0 → af p = nI (nx p)) → (∀ h op, h < 32 → op < 8 → cs (8 * h + op) = nI (cf h op)) → xk_S oT oS oC stk →
      wX_compile_17 post fu 0 (nI i) f_maxTokens f_maxPerforms (nI n) (nI stk.length) f_status f_errorCode f_errorPos f_trapCode f_trapPos f_emittedCount f_performCount f_resumeCount f_nodeCount f_top f_bindingCount f_next f_scope f_value a_kinds a_argA a_argB a_argC af oT oS oC cs a_emitted a_nodeToken a_nodeStage a_nodeHeld a_nodeScope a_nodeBelow a_bindingName a_bindingValue a_bindingOuter a_resumptionFrame a_resumptionTop a_resumptionBottom := by
  intro d
  induction d with
  | zero =>
    intro i stk nx cf fu af oT oS oC cs hi hf I Rr sa sc S
    obtain ⟨fu, rfl⟩ : ∃ f', fu = f' + 1 := ⟨fu - 1, by omega⟩
    have hin : i = n := by omega
    obtain ⟨rfl, rfl, h⟩ := Rr
    have hlen : stk.length ≤ 32 := by
      obtain ⟨ic, -, -, -, hS⟩ := I
      rcases hS with hS | ⟨rfl, -⟩
      · have := zk_len hS; omega
      · simp
    refine br_t (nI_le (by omega) (by omega)) (br_t rfl ?_)
    rw [hin] at h
    rw [hin]
    rcases h with ⟨h1, rfl, hp⟩ | ⟨h1, rfl, hp⟩
    · have Q := H (nI stk.length) af oT oS oC cs sa sc
      rw [if_neg (by decide), hp] at Q
      by_cases z : n = 0
      · have z0 : nI n = 0 := by rw [z]; rfl
        exact br_t z0 (br_f (by decide) Q)
      · have hne := h1.resolve_left z
        have hpos : 0 < stk.length := List.length_pos_iff.mpr hne
        exact br_f (nI_ne0 (by omega) (by omega)) (br_f (nI_nle hpos (by omega)) (br_f (by decide) Q))
    · have z : n ≠ 0 := fun y => h1 (Or.inl y)
      have hs : stk = [] := Classical.byContradiction fun y => h1 (Or.inr y)
      subst hs
      have Q := H (nI 0) af oT oS oC cs sa sc
      rw [if_pos rfl, hp] at Q
      exact br_f (nI_ne0 (by omega) (by omega)) (br_t (by decide) (br_t rfl Q))
  | succ d ih =>
    intro i stk nx cf fu af oT oS oC cs hi hf I Rr sa sc S
    obtain ⟨fu, rfl⟩ : ∃ f', fu = f' + 1 := ⟨fu - 1, by omega⟩
    have I' := I
    obtain ⟨ic, G, hz, hcf, hS⟩ := I
    have W : zk_W a_kinds n stk := by
      rcases hS with hS | ⟨rfl, -⟩
      · refine ⟨by have := zk_len hS; omega, fun e he => ?_⟩
        obtain ⟨y1, y2, y3⟩ := zk_bnd hS e he
        exact ⟨by omega, y2, fun z => ⟨by have := (y3 z).1; omega, (y3 z).2⟩⟩
      · exact ⟨by simp, fun e he => nomatch he⟩
    have hcf31 : ∀ h op, cf h op < 2 ^ 31 := fun h op => by
      rcases Nat.eq_zero_or_pos (cf h op) with z | z
      · omega
      · have := hcf h op (by omega)
        omega
    obtain ⟨f, F, h⟩ := Rr
    refine br_f (nI_ge (by omega) (by omega)) (xc_flt hn (by omega) hT W S sc hcf31 F ?_)
    rcases h with ⟨h0, rfl, rfl, rfl, rfl⟩ | ⟨rfl, h⟩
    · have h5 := zc_fle F
      have Q := H (nI stk.length) af oT oS oC cs sa sc
      rw [if_neg h0] at Q
      exact br_f (nI_ne0 (by omega) (by omega)) (xc_49 h0 (by omega) Q)
    · have Z : zk_S a_kinds nx cf ic i stk := hS.elim id (fun z => absurd ⟨z.2.1, z.1⟩ (zc_f0 F).1)
      refine br_t rfl (xc_take hn (by omega) (hT i (by omega)) F Z W S sa sc ?_)
      intro af' oT' oS' oC' cs' sa' sc' S'
      exact nm_r (nI_1 i) (ih (i + 1) _ _ _ fu af' oT' oS' oC' cs' (by omega) (by omega) (zc_step (hT i (by omega)) I' F) h sa' sc' S')
theorem xc_scan {post : SX → Prop} (H : post (f_maxTokens, f_maxPerforms, f_count, 0, f_status, f_errorCode, f_errorPos, f_trapCode, f_trapPos, f_emittedCount, f_performCount, f_resumeCount, f_nodeCount, f_top, f_bindingCount, f_next, f_scope, f_value, a_kinds, a_argA, a_argB, a_argC, a_after, a_openToken, a_openStage, a_openClause, yl_ce yz0 a_caseFor 0 256, a_emitted, a_nodeToken, a_nodeStage, a_nodeHeld, a_nodeScope, a_nodeBelow, a_bindingName, a_bindingValue, a_bindingOuter, a_resumptionFrame, a_resumptionTop, a_resumptionBottom)) : ∀ (d j fu : Nat), j + d = 256 → d < fu →
    wX_startScan_7 post f_maxTokens f_maxPerforms f_count 0 f_status f_errorCode f_errorPos f_trapCode f_trapPos f_emittedCount f_performCount f_resumeCount f_nodeCount f_top f_bindingCount f_next f_scope f_value fu (nI j) a_kinds a_argA a_argB a_argC a_after a_openToken a_openStage a_openClause (yl_ce yz0 a_caseFor 0 j) a_emitted a_nodeToken a_nodeStage a_nodeHeld a_nodeScope a_nodeBelow a_bindingName a_bindingValue a_bindingOuter a_resumptionFrame a_resumptionTop a_resumptionBottom := by
  intro d
  induction d with
  | zero =>
    intro j fu hj hf
    obtain ⟨fu, rfl⟩ : ∃ f', fu = f' + 1 := ⟨fu - 1, by omega⟩
    have : j = 256 := by omega
    subst this
    exact br_t (nI_le (a := 256) (by omega) (by decide)) H
  | succ d ih =>
    intro j fu hj hf
    obtain ⟨fu, rfl⟩ : ∃ f', fu = f' + 1 := ⟨fu - 1, by omega⟩
    have hcj : (nI j).toNatClampNeg = j := nI_clamp (by omega)
    exact br_f (nI_ge (b := 256) (by omega) (by decide)) ⟨vp_in_nI (by omega) (by decide), nm_r (e' := yl_ce yz0 a_caseFor 0 (j + 1)) (by rw [hcj]; exact yl_s yz0 a_caseFor 0 j) (nm_r (nI_1 j) (ih (j + 1) fu (by omega) (by omega)))⟩
theorem xc_comp {post : Int32 → SX → Prop} (hn : n ≤ 32) (hT : ∀ j, j < n → zl_T a_kinds a_argA a_argB a_argC j) (hst : f_status = 0) {er ps : Nat} {nx' : Nat → Nat} {cf' : Nat → Nat → Nat} (Rr : zc_res a_kinds a_argA a_argB a_argC n 0 [] (fun _ => 0) (fun _ _ => 0) er ps nx' cf')
    (H : ∀ oc af oT oS oC cs, (∀ p, nx' p ≠ 0 → af p = nI (nx' p)) → (∀ h op, h < 32 → op < 8 → cs (8 * h + op) = nI (cf' h op)) → post (nI er) (f_maxTokens, f_maxPerforms, nI n, oc, (if er = 0 then 1 else f_status), nI er, nI ps, f_trapCode, f_trapPos, f_emittedCount, f_performCount, f_resumeCount, f_nodeCount, f_top, f_bindingCount, f_next, f_scope, f_value, a_kinds, a_argA, a_argB, a_argC, af, oT, oS, oC, cs, a_emitted, a_nodeToken, a_nodeStage, a_nodeHeld, a_nodeScope, a_nodeBelow, a_bindingName, a_bindingValue, a_bindingOuter, a_resumptionFrame, a_resumptionTop, a_resumptionBottom)) :
    wpX_compile post (f_maxTokens, f_maxPerforms, nI n, f_openCount, f_status, f_errorCode, f_errorPos, f_trapCode, f_trapPos, f_emittedCount, f_performCount, f_resumeCount, f_nodeCount, f_top, f_bindingCount, f_next, f_scope, f_value, a_kinds, a_argA, a_argB, a_argC, a_after, a_openToken, a_openStage, a_openClause, a_caseFor, a_emitted, a_nodeToken, a_nodeStage, a_nodeHeld, a_nodeScope, a_nodeBelow, a_bindingName, a_bindingValue, a_bindingOuter, a_resumptionFrame, a_resumptionTop, a_resumptionBottom) := by
  refine br_t hst ?_
  have W := xc_scan (post := fun u => match u with | (f_maxTokens, f_maxPerforms, f_count, f_openCount, f_status, f_errorCode, f_errorPos, f_trapCode, f_trapPos, f_emittedCount, f_performCount, f_resumeCount, f_nodeCount, f_top, f_bindingCount, f_next, f_scope, f_value, a_kinds, a_argA, a_argB, a_argC, a_after, a_openToken, a_openStage, a_openClause, a_caseFor, a_emitted, a_nodeToken, a_nodeStage, a_nodeHeld, a_nodeScope, a_nodeBelow, a_bindingName, a_bindingValue, a_bindingOuter, a_resumptionFrame, a_resumptionTop, a_resumptionBottom) => ∃ n17 : Nat, wX_compile_17 post n17 0 0 f_maxTokens f_maxPerforms f_count f_openCount f_status f_errorCode f_errorPos f_trapCode f_trapPos f_emittedCount f_performCount f_resumeCount f_nodeCount f_top f_bindingCount f_next f_scope f_value a_kinds a_argA a_argB a_argC a_after a_openToken a_openStage a_openClause a_caseFor a_emitted a_nodeToken a_nodeStage a_nodeHeld a_nodeScope a_nodeBelow a_bindingName a_bindingValue a_bindingOuter a_resumptionFrame a_resumptionTop a_resumptionBottom) (f_maxTokens := f_maxTokens) (f_maxPerforms := f_maxPerforms) (f_count := nI n) (f_status := f_status) (f_errorCode := f_errorCode) (f_errorPos := f_errorPos) (f_trapCode := f_trapCode) (f_trapPos := f_trapPos) (f_emittedCount := f_emittedCount) (f_performCount := f_performCount) (f_resumeCount := f_resumeCount) (f_nodeCount := f_nodeCount) (f_top := f_top) (f_bindingCount := f_bindingCount) (f_next := f_next) (f_scope := f_scope) (f_value := f_value) (a_kinds := a_kinds) (a_argA := a_argA) (a_argB := a_argB) (a_argC := a_argC) (a_after := a_after) (a_openToken := a_openToken) (a_openStage := a_openStage) (a_openClause := a_openClause) (a_caseFor := a_caseFor) (a_emitted := a_emitted) (a_nodeToken := a_nodeToken) (a_nodeStage := a_nodeStage) (a_nodeHeld := a_nodeHeld) (a_nodeScope := a_nodeScope) (a_nodeBelow := a_nodeBelow) (a_bindingName := a_bindingName) (a_bindingValue := a_bindingValue) (a_bindingOuter := a_bindingOuter) (a_resumptionFrame := a_resumptionFrame) (a_resumptionTop := a_resumptionTop) (a_resumptionBottom := a_resumptionBottom)
    ⟨n + 1, xc_main hn hT H n 0 [] (fun _ => 0) (fun _ _ => 0) (n + 1) a_after a_openToken a_openStage a_openClause _ (by omega) (by omega) zc_init Rr (fun p z => absurd rfl z) (fun h op h1 h2 => yl_z (by omega)) trivial⟩ 256 0 257 (by omega) (by omega)
  rw [yl_0] at W
  exact ⟨257, W⟩
end
