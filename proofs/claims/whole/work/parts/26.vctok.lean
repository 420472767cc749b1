def ri_R (u : SX) (v : SY) : Prop :=
  match u with
  | (f_maxTokens, f_maxPerforms, f_count, f_openCount, f_status, f_errorCode, f_errorPos, f_trapCode, f_trapPos, f_emittedCount, f_performCount, f_resumeCount, f_nodeCount, f_top, f_bindingCount, f_next, f_scope, f_value, a_kinds, a_argA, a_argB, a_argC, a_after, a_openToken, a_openStage, a_openClause, a_caseFor, a_emitted, a_nodeToken, a_nodeStage, a_nodeHeld, a_nodeScope, a_nodeBelow, a_bindingName, a_bindingValue, a_bindingOuter, a_resumptionFrame, a_resumptionTop, a_resumptionBottom) => match v with
    | (f_maxT, f_maxP, f_n, f_st, f_eCode, f_ePos, f_outN, f_perfN, f_resN, f_res, f_trap, f_tpos, f_hp, a_tk, a_ta, a_tb, a_tc, a_nxt, a_par, a_nP, a_nK, a_out, a_ce, a_fp, a_fk, a_fx, a_fb, a_fe, a_rH, a_rTop, a_rBot, a_used) =>
      (f_maxT = f_maxTokens ∧ f_maxP = f_maxPerforms ∧ f_n = f_count ∧ f_st = f_status ∧ f_eCode = f_errorCode ∧ f_ePos = f_errorPos ∧ f_outN = f_emittedCount ∧ f_perfN = f_performCount ∧ f_resN = f_resumeCount ∧ f_tpos = f_trapPos) ∧
      (a_tk = a_kinds ∧ a_ta = a_argA ∧ a_tb = a_argB ∧ a_tc = a_argC ∧ a_out = a_emitted) ∧
      ∃ n mt mp st on : Nat, f_count = nI n ∧ f_maxTokens = nI mt ∧ f_maxPerforms = nI mp ∧ f_status = nI st ∧ f_emittedCount = nI on ∧ (n ≤ mt ∧ mt ≤ 32 ∧ mp ≤ 16 ∧ st ≤ 3 ∧ on ≤ 16) ∧
        (∀ j, j < n → zl_T a_kinds a_argA a_argB a_argC j) ∧ (st = 2 → f_res = f_value) ∧ (st = 3 → f_trap = f_trapCode) ∧ (st ≠ 3 → f_trapCode = 0) ∧
        (st ≠ 0 → ∃ nx cf ic, zl_P a_kinds a_argA a_argB a_argC n nx cf (zk_cl nx) ic ∧ (∀ p, nx p ≠ 0 → a_after p = nI (nx p)) ∧ (∀ h op, h < 32 → op < 8 → a_caseFor (8 * h + op) = nI (cf h op)) ∧
          (∀ p, nx p ≠ 0 → a_nxt p = nI (nx p)) ∧ yr_P a_kinds a_argA n cf a_par)
theorem vc_cl (p lo hi : Int32) (nlo nhi : Nat) (hlo : lo = nI nlo) (hhi : hi = nI nhi) (h : nlo ≤ nhi) (hb : nhi < 2 ^ 31) : ∃ m, m ≤ nhi ∧ ∀ A : Int32 → Prop, A (nI m) → ((lo ≤ p → ((p ≤ hi → A p) ∧ (¬ p ≤ hi → A hi))) ∧ (¬ lo ≤ p → A lo)) := by
  subst hlo hhi
  by_cases c1 : nI nlo ≤ p
  · have h0 : (0 : Int32) ≤ p := Int32.le_trans (nI_pos' (by omega)) c1
    obtain ⟨j, hj, rfl⟩ := nI_of (x := p) (Int32.not_lt.mpr h0)
    by_cases c2 : nI j ≤ nI nhi
    · exact ⟨j, (nI_leI hj hb).mp c2, fun A hA => br_t c1 (br_t c2 hA)⟩
    · exact ⟨nhi, Nat.le_refl _, fun A hA => br_t c1 (br_f c2 hA)⟩
  · exact ⟨nlo, h, fun A hA => br_f c1 hA⟩
theorem vc_sm (x : Int32) : zl_sm x ↔ ¬ x < 0 ∧ x ≤ 7 := by
  constructor
  · rintro ⟨a, ha, rfl⟩
    exact ⟨nI_pos (by omega), nI_le (b := 7) (by omega) (by decide)⟩
  · rintro ⟨h0, h7⟩
    obtain ⟨j, hj, rfl⟩ := nI_of h0
    exact ⟨j, by have := (nI_leI (b := 7) hj (by decide)).mp h7; omega, rfl⟩
def vc_F (k a b c : Int32) : Prop := (k = 2 ∨ k = 9 ∨ k = 12 → zl_sm a) ∧ (k = 13 → a = 0 ∨ a = 1) ∧ (k = 14 → zl_sm a ∧ zl_sm b) ∧ (k = 15 → zl_sm a ∧ zl_sm b ∧ zl_sm c)
theorem vc_is {post : Int32 → Prop} {x : Int32} (H1 : zl_sm x → post 1) (H0 : ¬ zl_sm x → post 0) : wpX_isSmall post x := by
  refine br_c (fun z => H0 (fun y => ((vc_sm x).mp y).1 z)) (fun z => br_c (fun z2 => H0 (fun y => ?_)) (fun z2 => H1 ((vc_sm x).mpr ⟨z, Int32.not_lt.mp z2⟩)))
  exact absurd z2 (Int32.not_lt.mpr ((vc_sm x).mp y).2)
theorem vc_a1 {a b c : Int32} {k : Int32} (h1 : ¬ (k = 2 ∨ k = 9 ∨ k = 12)) (h13 : ¬ k = 13) (h14 : ¬ k = 14) (h15 : ¬ k = 15) : vc_F k a b c := ⟨fun z => absurd z h1, fun z => absurd z h13, fun z => absurd z h14, fun z => absurd z h15⟩
theorem vc_a2 {a b c : Int32} {k : Int32} (h13 : ¬ k = 13) (h14 : ¬ k = 14) (h15 : ¬ k = 15) (ha : zl_sm a) : vc_F k a b c := ⟨fun _ => ha, fun z => absurd z h13, fun z => absurd z h14, fun z => absurd z h15⟩
theorem vc_x1 {post : Int32 → Prop} {a b c : Int32} (H1 : vc_F 1 a b c → post 1) (H0 : ¬ vc_F 1 a b c → post 0) : wpX_argumentsFit post 1 a b c := by
  exact br_t (by decide) (H1 (vc_a1 (by decide) (by decide) (by decide) (by decide)))
theorem vc_x2 {post : Int32 → Prop} {a b c : Int32} (H1 : vc_F 2 a b c → post 1) (H0 : ¬ vc_F 2 a b c → post 0) : wpX_argumentsFit post 2 a b c := by
  refine br_f (by decide) (br_f (by decide) (br_t rfl ?_))
  exact vc_is (fun z => ⟨rfl, H1 (vc_a2 (by decide) (by decide) (by decide) z)⟩) (fun z => ⟨rfl, H0 (fun y => z (y.1 (by decide)))⟩)
theorem vc_x3 {post : Int32 → Prop} {a b c : Int32} (H1 : vc_F 3 a b c → post 1) (H0 : ¬ vc_F 3 a b c → post 0) : wpX_argumentsFit post 3 a b c := by
  exact br_f (by decide) (br_f (by decide) (br_f (by decide) (br_t rfl (H1 (vc_a1 (by decide) (by decide) (by decide) (by decide))))))
theorem vc_x4 {post : Int32 → Prop} {a b c : Int32} (H1 : vc_F 4 a b c → post 1) (H0 : ¬ vc_F 4 a b c → post 0) : wpX_argumentsFit post 4 a b c := by
  exact br_f (by decide) (br_f (by decide) (br_f (by decide) (br_f (by decide) (br_t rfl (H1 (vc_a1 (by decide) (by decide) (by decide) (by decide)))))))
theorem vc_x5 {post : Int32 → Prop} {a b c : Int32} (H1 : vc_F 5 a b c → post 1) (H0 : ¬ vc_F 5 a b c → post 0) : wpX_argumentsFit post 5 a b c := by
  exact br_f (by decide) (br_f (by decide) (br_f (by decide) (br_f (by decide) (br_f (by decide) (br_t rfl (H1 (vc_a1 (by decide) (by decide) (by decide) (by decide))))))))
theorem vc_x6 {post : Int32 → Prop} {a b c : Int32} (H1 : vc_F 6 a b c → post 1) (H0 : ¬ vc_F 6 a b c → post 0) : wpX_argumentsFit post 6 a b c := by
  exact br_f (by decide) (br_f (by decide) (br_f (by decide) (br_f (by decide) (br_f (by decide) (br_f (by decide) (br_t rfl (H1 (vc_a1 (by decide) (by decide) (by decide) (by decide)))))))))
theorem vc_x7 {post : Int32 → Prop} {a b c : Int32} (H1 : vc_F 7 a b c → post 1) (H0 : ¬ vc_F 7 a b c → post 0) : wpX_argumentsFit post 7 a b c := by
  exact br_f (by decide) (br_f (by decide) (br_f (by decide) (br_f (by decide) (br_f (by decide) (br_f (by decide) (br_f (by decide) (br_t rfl (H1 (vc_a1 (by decide) (by decide) (by decide) (by decide))))))))))
theorem vc_x8 {post : Int32 → Prop} {a b c : Int32} (H1 : vc_F 8 a b c → post 1) (H0 : ¬ vc_F 8 a b c → post 0) : wpX_argumentsFit post 8 a b c := by
  exact br_f (by decide) (br_f (by decide) (br_f (by decide) (br_f (by decide) (br_f (by decide) (br_f (by decide) (br_f (by decide) (br_f (by decide) (br_t rfl (H1 (vc_a1 (by decide) (by decide) (by decide) (by decide)))))))))))
theorem vc_x9 {post : Int32 → Prop} {a b c : Int32} (H1 : vc_F 9 a b c → post 1) (H0 : ¬ vc_F 9 a b c → post 0) : wpX_argumentsFit post 9 a b c := by
  refine br_f (by decide) (br_f (by decide) (br_f (by decide) (br_f (by decide) (br_f (by decide) (br_f (by decide) (br_f (by decide) (br_f (by decide) (br_f (by decide) (br_t rfl ?_)))))))))
  exact vc_is (fun z => ⟨rfl, H1 (vc_a2 (by decide) (by decide) (by decide) z)⟩) (fun z => ⟨rfl, H0 (fun y => z (y.1 (by decide)))⟩)
theorem vc_x10 {post : Int32 → Prop} {a b c : Int32} (H1 : vc_F 10 a b c → post 1) (H0 : ¬ vc_F 10 a b c → post 0) : wpX_argumentsFit post 10 a b c := by
  exact br_f (by decide) (br_f (by decide) (br_f (by decide) (br_f (by decide) (br_f (by decide) (br_f (by decide) (br_f (by decide) (br_f (by decide) (br_f (by decide) (br_f (by decide) (br_t rfl (H1 (vc_a1 (by decide) (by decide) (by decide) (by decide)))))))))))))
theorem vc_x11 {post : Int32 → Prop} {a b c : Int32} (H1 : vc_F 11 a b c → post 1) (H0 : ¬ vc_F 11 a b c → post 0) : wpX_argumentsFit post 11 a b c := by
  exact br_f (by decide) (br_f (by decide) (br_f (by decide) (br_f (by decide) (br_f (by decide) (br_f (by decide) (br_f (by decide) (br_f (by decide) (br_f (by decide) (br_f (by decide) (br_f (by decide) (br_t rfl (H1 (vc_a1 (by decide) (by decide) (by decide) (by decide))))))))))))))
theorem vc_x12 {post : Int32 → Prop} {a b c : Int32} (H1 : vc_F 12 a b c → post 1) (H0 : ¬ vc_F 12 a b c → post 0) : wpX_argumentsFit post 12 a b c := by
  refine br_f (by decide) (br_f (by decide) (br_f (by decide) (br_f (by decide) (br_f (by decide) (br_f (by decide) (br_f (by decide) (br_f (by decide) (br_f (by decide) (br_f (by decide) (br_f (by decide) (br_f (by decide) (br_t rfl ?_))))))))))))
  exact vc_is (fun z => ⟨rfl, H1 (vc_a2 (by decide) (by decide) (by decide) z)⟩) (fun z => ⟨rfl, H0 (fun y => z (y.1 (by decide)))⟩)
theorem vc_x13 {post : Int32 → Prop} {a b c : Int32} (H1 : vc_F 13 a b c → post 1) (H0 : ¬ vc_F 13 a b c → post 0) : wpX_argumentsFit post 13 a b c := by
  refine br_f (by decide) (br_f (by decide) (br_f (by decide) (br_f (by decide) (br_f (by decide) (br_f (by decide) (br_f (by decide) (br_f (by decide) (br_f (by decide) (br_f (by decide) (br_f (by decide) (br_f (by decide) (br_f (by decide) (br_t rfl ?_)))))))))))))
  have e : vc_F 13 a b c ↔ (a = 0 ∨ a = 1) := ⟨fun y => y.2.1 rfl, fun y => ⟨(fun z => absurd z (by decide)), fun _ => y, (fun z => absurd z (by decide)), (fun z => absurd z (by decide))⟩⟩
  exact br_c (fun z => H1 (e.mpr (Or.inl z))) (fun z => br_c (fun z2 => H1 (e.mpr (Or.inr z2))) (fun z2 => H0 (fun y => (e.mp y).elim z z2)))
theorem vc_x14 {post : Int32 → Prop} {a b c : Int32} (H1 : vc_F 14 a b c → post 1) (H0 : ¬ vc_F 14 a b c → post 0) : wpX_argumentsFit post 14 a b c := by
  refine br_f (by decide) (br_f (by decide) (br_f (by decide) (br_f (by decide) (br_f (by decide) (br_f (by decide) (br_f (by decide) (br_f (by decide) (br_f (by decide) (br_f (by decide) (br_f (by decide) (br_f (by decide) (br_f (by decide) (br_f (by decide) (br_t rfl ?_))))))))))))))
  have e : vc_F 14 a b c ↔ (zl_sm a ∧ zl_sm b) := ⟨fun y => y.2.2.1 rfl, fun y => ⟨(fun z => absurd z (by decide)), (fun z => absurd z (by decide)), fun _ => y, (fun z => absurd z (by decide))⟩⟩
  exact vc_is (fun z => br_f (by decide) (vc_is (fun z2 => br_f (by decide) (H1 (e.mpr ⟨z, z2⟩))) (fun z2 => br_t rfl (H0 (fun y => z2 (e.mp y).2))))) (fun z => br_t rfl (H0 (fun y => z (e.mp y).1)))
theorem vc_x15 {post : Int32 → Prop} {a b c : Int32} (H1 : vc_F 15 a b c → post 1) (H0 : ¬ vc_F 15 a b c → post 0) : wpX_argumentsFit post 15 a b c := by
  refine br_f (by decide) (br_f (by decide) (br_f (by decide) (br_f (by decide) (br_f (by decide) (br_f (by decide) (br_f (by decide) (br_f (by decide) (br_f (by decide) (br_f (by decide) (br_f (by decide) (br_f (by decide) (br_f (by decide) (br_f (by decide) (br_f (by decide) (br_t rfl ?_)))))))))))))))
  have e : vc_F 15 a b c ↔ (zl_sm a ∧ zl_sm b ∧ zl_sm c) := ⟨fun y => y.2.2.2 rfl, fun y => ⟨(fun z => absurd z (by decide)), (fun z => absurd z (by decide)), (fun z => absurd z (by decide)), fun _ => y⟩⟩
  exact vc_is (fun z => br_f (by decide) (vc_is (fun z2 => br_f (by decide) (vc_is (fun z3 => br_f (by decide) (H1 (e.mpr ⟨z, z2, z3⟩))) (fun z3 => br_t rfl (H0 (fun y => z3 (e.mp y).2.2))))) (fun z2 => br_t rfl (H0 (fun y => z2 (e.mp y).2.1))))) (fun z => br_t rfl (H0 (fun y => z (e.mp y).1)))
theorem vc_x16 {post : Int32 → Prop} {a b c : Int32} (H1 : vc_F 16 a b c → post 1) (H0 : ¬ vc_F 16 a b c → post 0) : wpX_argumentsFit post 16 a b c := by
  exact br_f (by decide) (br_t (by decide) (H1 (vc_a1 (by decide) (by decide) (by decide) (by decide))))
theorem vc_x17 {post : Int32 → Prop} {a b c : Int32} (H1 : vc_F 17 a b c → post 1) (H0 : ¬ vc_F 17 a b c → post 0) : wpX_argumentsFit post 17 a b c := by
  exact br_f (by decide) (br_t (by decide) (H1 (vc_a1 (by decide) (by decide) (by decide) (by decide))))
section
variable {f_maxT f_maxP f_n f_st f_eCode f_ePos f_outN f_perfN f_resN f_res f_trap f_tpos f_hp : Int32} {a_tk a_ta a_tb a_tc a_nxt a_par a_nP a_nK a_out a_ce a_fp a_fk a_fx a_fb a_fe a_rH a_rTop a_rBot a_used : Nat → Int32} {post : Int32 → SY → Prop} {a b c : Int32}
theorem vc_y3 {k x5 x6 : Int32} {T : Int32 → Prop} (hT : T = fun x7 => wY_token_88 post k a b c x5 x6 x7 f_maxT f_maxP f_n f_st f_eCode f_ePos f_outN f_perfN f_resN f_res f_trap f_tpos f_hp a_tk a_ta a_tb a_tc a_nxt a_par a_nP a_nK a_out a_ce a_fp a_fk a_fx a_fb a_fe a_rH a_rTop a_rBot a_used) (H1 : zl_sm c → T 0) (H0 : ¬ zl_sm c → T 1) : wY_token_69 post k a b c x5 x6 f_maxT f_maxP f_n f_st f_eCode f_ePos f_outN f_perfN f_resN f_res f_trap f_tpos f_hp a_tk a_ta a_tb a_tc a_nxt a_par a_nP a_nK a_out a_ce a_fp a_fk a_fx a_fb a_fe a_rH a_rTop a_rBot a_used := by
  subst hT
  exact br_c (fun z => H0 (fun y => ((vc_sm c).mp y).1 z)) (fun z => br_c (fun z2 => H1 ((vc_sm c).mpr ⟨z, z2⟩)) (fun z2 => H0 (fun y => z2 ((vc_sm c).mp y).2)))
theorem vc_y2 {k x5 : Int32} (H1 : zl_sm b → wY_token_69 post k a b c x5 0 f_maxT f_maxP f_n f_st f_eCode f_ePos f_outN f_perfN f_resN f_res f_trap f_tpos f_hp a_tk a_ta a_tb a_tc a_nxt a_par a_nP a_nK a_out a_ce a_fp a_fk a_fx a_fb a_fe a_rH a_rTop a_rBot a_used) (H0 : ¬ zl_sm b → wY_token_69 post k a b c x5 1 f_maxT f_maxP f_n f_st f_eCode f_ePos f_outN f_perfN f_resN f_res f_trap f_tpos f_hp a_tk a_ta a_tb a_tc a_nxt a_par a_nP a_nK a_out a_ce a_fp a_fk a_fx a_fb a_fe a_rH a_rTop a_rBot a_used) : wY_token_52 post k a b c x5 f_maxT f_maxP f_n f_st f_eCode f_ePos f_outN f_perfN f_resN f_res f_trap f_tpos f_hp a_tk a_ta a_tb a_tc a_nxt a_par a_nP a_nK a_out a_ce a_fp a_fk a_fx a_fb a_fe a_rH a_rTop a_rBot a_used :=
  br_c (fun z => H0 (fun y => ((vc_sm b).mp y).1 z)) (fun z => br_c (fun z2 => H1 ((vc_sm b).mpr ⟨z, z2⟩)) (fun z2 => H0 (fun y => z2 ((vc_sm b).mp y).2)))
theorem vc_112 {k x5 x6 x7 : Int32} (h13 : ¬ k = 13) (h14 : ¬ k = 14) (h15 : ¬ k = 15) (H : wY_token_170 post k a b c f_maxT f_maxP f_n f_st f_eCode f_ePos f_outN f_perfN f_resN f_res f_trap f_tpos f_hp a_tk a_ta a_tb a_tc a_nxt a_par a_nP a_nK a_out a_ce a_fp a_fk a_fx a_fb a_fe a_rH a_rTop a_rBot a_used) : wY_token_112 post k a b c x5 x6 x7 f_maxT f_maxP f_n f_st f_eCode f_ePos f_outN f_perfN f_resN f_res f_trap f_tpos f_hp a_tk a_ta a_tb a_tc a_nxt a_par a_nP a_nK a_out a_ce a_fp a_fk a_fx a_fb a_fe a_rH a_rTop a_rBot a_used := br_f h13 (br_f h14 (br_f h15 H))
theorem vc_88 {k x5 x6 x7 : Int32} (hk : k = 1 ∨ k = 2 ∨ k = 3 ∨ k = 4 ∨ k = 5 ∨ k = 6 ∨ k = 7 ∨ k = 8 ∨ k = 9 ∨ k = 10 ∨ k = 11 ∨ k = 12 ∨ k = 13 ∨ k = 14 ∨ k = 15 ∨ k = 16 ∨ k = 17) (a0 : zl_sm a → x5 = 0) (a1 : ¬ zl_sm a → x5 = 1) (b0 : zl_sm b → x6 = 0) (b1 : ¬ zl_sm b → x6 = 1) (c0 : zl_sm c → x7 = 0) (c1 : ¬ zl_sm c → x7 = 1)
    (H1 : vc_F k a b c → wY_token_170 post k a b c f_maxT f_maxP f_n f_st f_eCode f_ePos f_outN f_perfN f_resN f_res f_trap f_tpos f_hp a_tk a_ta a_tb a_tc a_nxt a_par a_nP a_nK a_out a_ce a_fp a_fk a_fx a_fb a_fe a_rH a_rTop a_rBot a_used) (H0 : ¬ vc_F k a b c → post (-4) (f_maxT, f_maxP, f_n, f_st, f_eCode, f_ePos, f_outN, f_perfN, f_resN, f_res, f_trap, f_tpos, f_hp, a_tk, a_ta, a_tb, a_tc, a_nxt, a_par, a_nP, a_nK, a_out, a_ce, a_fp, a_fk, a_fx, a_fb, a_fe, a_rH, a_rTop, a_rBot, a_used)) : wY_token_88 post k a b c x5 x6 x7 f_maxT f_maxP f_n f_st f_eCode f_ePos f_outN f_perfN f_resN f_res f_trap f_tpos f_hp a_tk a_ta a_tb a_tc a_nxt a_par a_nP a_nK a_out a_ce a_fp a_fk a_fx a_fb a_fe a_rH a_rTop a_rBot a_used := by
  rcases hk with rfl | rfl | rfl | rfl | rfl | rfl | rfl | rfl | rfl | rfl | rfl | rfl | rfl | rfl | rfl | rfl | rfl
  · exact br_f (by decide) (br_f (by decide) (br_f (by decide) (vc_112 (by decide) (by decide) (by decide) (H1 (vc_a1 (by decide) (by decide) (by decide) (by decide))))))
  · refine br_t rfl (?_)
    by_cases z : zl_sm a
    · exact br_t (a0 z) (vc_112 (by decide) (by decide) (by decide) (H1 (vc_a2 (by decide) (by decide) (by decide) z)))
    · exact br_f (by rw [a1 z]; decide) (H0 (fun y => z (y.1 (by decide))))
  · exact br_f (by decide) (br_f (by decide) (br_f (by decide) (vc_112 (by decide) (by decide) (by decide) (H1 (vc_a1 (by decide) (by decide) (by decide) (by decide))))))
  · exact br_f (by decide) (br_f (by decide) (br_f (by decide) (vc_112 (by decide) (by decide) (by decide) (H1 (vc_a1 (by decide) (by decide) (by decide) (by decide))))))
  · exact br_f (by decide) (br_f (by decide) (br_f (by decide) (vc_112 (by decide) (by decide) (by decide) (H1 (vc_a1 (by decide) (by decide) (by decide) (by decide))))))
  · exact br_f (by decide) (br_f (by decide) (br_f (by decide) (vc_112 (by decide) (by decide) (by decide) (H1 (vc_a1 (by decide) (by decide) (by decide) (by decide))))))
  · exact br_f (by decide) (br_f (by decide) (br_f (by decide) (vc_112 (by decide) (by decide) (by decide) (H1 (vc_a1 (by decide) (by decide) (by decide) (by decide))))))
  · exact br_f (by decide) (br_f (by decide) (br_f (by decide) (vc_112 (by decide) (by decide) (by decide) (H1 (vc_a1 (by decide) (by decide) (by decide) (by decide))))))
  · refine br_f (by decide) (br_t rfl (?_))
    by_cases z : zl_sm a
    · exact br_t (a0 z) (vc_112 (by decide) (by decide) (by decide) (H1 (vc_a2 (by decide) (by decide) (by decide) z)))
    · exact br_f (by rw [a1 z]; decide) (H0 (fun y => z (y.1 (by decide))))
  · exact br_f (by decide) (br_f (by decide) (br_f (by decide) (vc_112 (by decide) (by decide) (by decide) (H1 (vc_a1 (by decide) (by decide) (by decide) (by decide))))))
  · exact br_f (by decide) (br_f (by decide) (br_f (by decide) (vc_112 (by decide) (by decide) (by decide) (H1 (vc_a1 (by decide) (by decide) (by decide) (by decide))))))
  · refine br_f (by decide) (br_f (by decide) (br_t rfl (?_)))
    by_cases z : zl_sm a
    · exact br_t (a0 z) (vc_112 (by decide) (by decide) (by decide) (H1 (vc_a2 (by decide) (by decide) (by decide) z)))
    · exact br_f (by rw [a1 z]; decide) (H0 (fun y => z (y.1 (by decide))))
  · refine br_f (by decide) (br_f (by decide) (br_f (by decide) (br_t rfl ?_)))
    have e : vc_F 13 a b c ↔ (a = 0 ∨ a = 1) := ⟨fun y => y.2.1 rfl, fun y => ⟨(fun z => absurd z (by decide)), fun _ => y, (fun z => absurd z (by decide)), (fun z => absurd z (by decide))⟩⟩
    refine br_c (fun z => H0 (fun y => ?_)) (fun z => br_c (fun z2 => br_f (by decide) (br_f (by decide) (H1 (e.mpr ?_)))) (fun z2 => H0 (fun y => ?_)))
    · rcases e.mp y with q | q <;> (rw [q] at z; exact absurd z (by decide))
    · obtain ⟨j, hj, rfl⟩ := nI_of z
      have := (nI_leI (b := 1) hj (by decide)).mp z2
      have hj2 : j = 0 ∨ j = 1 := by omega
      rcases hj2 with rfl | rfl
      · exact Or.inl rfl
      · exact Or.inr rfl
    · rcases e.mp y with q | q <;> (rw [q] at z2; exact absurd (by decide) z2)
  · refine br_f (by decide) (br_f (by decide) (br_f (by decide) (br_f (by decide) (br_t rfl ?_))))
    have e : vc_F 14 a b c ↔ (zl_sm a ∧ zl_sm b) := ⟨fun y => y.2.2.1 rfl, fun y => ⟨(fun z => absurd z (by decide)), (fun z => absurd z (by decide)), fun _ => y, (fun z => absurd z (by decide))⟩⟩
    by_cases z : zl_sm a
    · refine br_t (a0 z) ?_
      by_cases z2 : zl_sm b
      · exact br_t (b0 z2) (br_f (by decide) (H1 (e.mpr ⟨z, z2⟩)))
      · exact br_f (by rw [b1 z2]; decide) (H0 (fun y => z2 (e.mp y).2))
    · exact br_f (by rw [a1 z]; decide) (H0 (fun y => z (e.mp y).1))
  · refine br_f (by decide) (br_f (by decide) (br_f (by decide) (br_f (by decide) (br_f (by decide) (br_t rfl ?_)))))
    have e : vc_F 15 a b c ↔ (zl_sm a ∧ zl_sm b ∧ zl_sm c) := ⟨fun y => y.2.2.2 rfl, fun y => ⟨(fun z => absurd z (by decide)), (fun z => absurd z (by decide)), (fun z => absurd z (by decide)), fun _ => y⟩⟩
    by_cases z : zl_sm a
    · refine br_t (a0 z) ?_
      by_cases z2 : zl_sm b
      · refine br_t (b0 z2) ?_
        by_cases z3 : zl_sm c
        · exact br_t (c0 z3) (H1 (e.mpr ⟨z, z2, z3⟩))
        · exact br_f (by rw [c1 z3]; decide) (H0 (fun y => z3 (e.mp y).2.2))
      · exact br_f (by rw [b1 z2]; decide) (H0 (fun y => z2 (e.mp y).2.1))
    · exact br_f (by rw [a1 z]; decide) (H0 (fun y => z (e.mp y).1))
  · exact br_f (by decide) (br_f (by decide) (br_f (by decide) (vc_112 (by decide) (by decide) (by decide) (H1 (vc_a1 (by decide) (by decide) (by decide) (by decide))))))
  · exact br_f (by decide) (br_f (by decide) (br_f (by decide) (vc_112 (by decide) (by decide) (by decide) (H1 (vc_a1 (by decide) (by decide) (by decide) (by decide))))))
theorem vc_yt {k : Int32} (hk : k = 1 ∨ k = 2 ∨ k = 3 ∨ k = 4 ∨ k = 5 ∨ k = 6 ∨ k = 7 ∨ k = 8 ∨ k = 9 ∨ k = 10 ∨ k = 11 ∨ k = 12 ∨ k = 13 ∨ k = 14 ∨ k = 15 ∨ k = 16 ∨ k = 17) (H1 : vc_F k a b c → wY_token_170 post k a b c f_maxT f_maxP f_n f_st f_eCode f_ePos f_outN f_perfN f_resN f_res f_trap f_tpos f_hp a_tk a_ta a_tb a_tc a_nxt a_par a_nP a_nK a_out a_ce a_fp a_fk a_fx a_fb a_fe a_rH a_rTop a_rBot a_used) (H0 : ¬ vc_F k a b c → post (-4) (f_maxT, f_maxP, f_n, f_st, f_eCode, f_ePos, f_outN, f_perfN, f_resN, f_res, f_trap, f_tpos, f_hp, a_tk, a_ta, a_tb, a_tc, a_nxt, a_par, a_nP, a_nK, a_out, a_ce, a_fp, a_fk, a_fx, a_fb, a_fe, a_rH, a_rTop, a_rBot, a_used)) :
    ((a < 0 → (wY_token_47 post k a b c f_maxT f_maxP f_n f_st f_eCode f_ePos f_outN f_perfN f_resN f_res f_trap f_tpos f_hp a_tk a_ta a_tb a_tc a_nxt a_par a_nP a_nK a_out a_ce a_fp a_fk a_fx a_fb a_fe a_rH a_rTop a_rBot a_used)) ∧ (¬ a < 0 → (((a ≤ 7 → (wY_token_52 post k a b c 0 f_maxT f_maxP f_n f_st f_eCode f_ePos f_outN f_perfN f_resN f_res f_trap f_tpos f_hp a_tk a_ta a_tb a_tc a_nxt a_par a_nP a_nK a_out a_ce a_fp a_fk a_fx a_fb a_fe a_rH a_rTop a_rBot a_used)) ∧ (¬ a ≤ 7 → (wY_token_47 post k a b c f_maxT f_maxP f_n f_st f_eCode f_ePos f_outN f_perfN f_resN f_res f_trap f_tpos f_hp a_tk a_ta a_tb a_tc a_nxt a_par a_nP a_nK a_out a_ce a_fp a_fk a_fx a_fb a_fe a_rH a_rTop a_rBot a_used)))))) := by
  have M : ∀ x5, (zl_sm a → x5 = 0) → (¬ zl_sm a → x5 = 1) → wY_token_52 post k a b c x5 f_maxT f_maxP f_n f_st f_eCode f_ePos f_outN f_perfN f_resN f_res f_trap f_tpos f_hp a_tk a_ta a_tb a_tc a_nxt a_par a_nP a_nK a_out a_ce a_fp a_fk a_fx a_fb a_fe a_rH a_rTop a_rBot a_used := fun x5 q0 q1 =>
    vc_y2 (fun z2 => vc_y3 rfl (fun z3 => vc_88 hk q0 q1 (fun _ => rfl) (fun y => absurd z2 y) (fun _ => rfl) (fun y => absurd z3 y) H1 H0) (fun z3 => vc_88 hk q0 q1 (fun _ => rfl) (fun y => absurd z2 y) (fun y => absurd y z3) (fun _ => rfl) H1 H0))
      (fun z2 => vc_y3 rfl (fun z3 => vc_88 hk q0 q1 (fun y => absurd y z2) (fun _ => rfl) (fun _ => rfl) (fun y => absurd z3 y) H1 H0) (fun z3 => vc_88 hk q0 q1 (fun y => absurd y z2) (fun _ => rfl) (fun y => absurd y z3) (fun _ => rfl) H1 H0))
  have N1 : ¬ zl_sm a → wY_token_47 post k a b c f_maxT f_maxP f_n f_st f_eCode f_ePos f_outN f_perfN f_resN f_res f_trap f_tpos f_hp a_tk a_ta a_tb a_tc a_nxt a_par a_nP a_nK a_out a_ce a_fp a_fk a_fx a_fb a_fe a_rH a_rTop a_rBot a_used := fun z => M 1 (fun y => absurd y z) (fun _ => rfl)
  exact br_c (fun z => N1 (fun y => ((vc_sm a).mp y).1 z)) (fun z => br_c (fun z2 => M 0 (fun _ => rfl) (fun y => absurd ((vc_sm a).mpr ⟨z, z2⟩) y)) (fun z2 => N1 (fun y => z2 ((vc_sm a).mp y).2)))
end
theorem vc_xa {post : Int32 → Prop} {k a b c : Int32} (hk : k = 1 ∨ k = 2 ∨ k = 3 ∨ k = 4 ∨ k = 5 ∨ k = 6 ∨ k = 7 ∨ k = 8 ∨ k = 9 ∨ k = 10 ∨ k = 11 ∨ k = 12 ∨ k = 13 ∨ k = 14 ∨ k = 15 ∨ k = 16 ∨ k = 17) (H1 : vc_F k a b c → post 1) (H0 : ¬ vc_F k a b c → post 0) : wpX_argumentsFit post k a b c := by
  rcases hk with rfl | rfl | rfl | rfl | rfl | rfl | rfl | rfl | rfl | rfl | rfl | rfl | rfl | rfl | rfl | rfl | rfl
  · exact vc_x1 H1 H0
  · exact vc_x2 H1 H0
  · exact vc_x3 H1 H0
  · exact vc_x4 H1 H0
  · exact vc_x5 H1 H0
  · exact vc_x6 H1 H0
  · exact vc_x7 H1 H0
  · exact vc_x8 H1 H0
  · exact vc_x9 H1 H0
  · exact vc_x10 H1 H0
  · exact vc_x11 H1 H0
  · exact vc_x12 H1 H0
  · exact vc_x13 H1 H0
  · exact vc_x14 H1 H0
  · exact vc_x15 H1 H0
  · exact vc_x16 H1 H0
  · exact vc_x17 H1 H0
