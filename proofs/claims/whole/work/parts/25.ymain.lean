section
variable {f_maxT f_maxP f_n f_st f_eCode f_ePos f_outN f_perfN f_resN f_res f_trap f_tpos f_hp : Int32} {a_tk a_ta a_tb a_tc a_nxt a_par a_nP a_nK a_out a_ce a_fp a_fk a_fx a_fb a_fe a_rH a_rTop a_rBot a_used : Nat → Int32} {n : Nat} {i : Nat} {post : Int32 → SY → Prop} {J : YC} {x3 : Int32} {nx : Nat → Nat} {cf : Nat → Nat → Nat} {ic : Nat → Prop} {stk : List ZE}
theorem yc_166 {f : Nat} (hn : n ≤ 32) (hi : i < n) (hT : ∀ j, j < n → zl_T a_tk a_ta a_tb a_tc j) (W : yk_W a_tk n stk) (hh : yk_h stk ≤ i) (S : yk_S a_tk a_nP a_nK i stk) (sc : yr_P a_tk a_ta i cf a_par) (ok : zc_ok a_tk (a_tk i) stk)
    (Fx : ((a_tk i = 2 ∧ ¬ (∃ e ∈ stk, zc_bd a_tk a_ta a_tb a_tc (a_ta i) e) ∧ f = 3) ∨ (a_tk i = 17 ∧ ¬ zc_ic a_tk stk ∧ f = 4) ∨ (a_tk i = 15 ∧ cf (zc_top stk) (a_ta i).toNatClampNeg ≠ 0 ∧ f = 5) ∨
     (¬ (a_tk i = 2 ∧ ¬ (∃ e ∈ stk, zc_bd a_tk a_ta a_tb a_tc (a_ta i) e)) ∧ ¬ (a_tk i = 17 ∧ ¬ zc_ic a_tk stk) ∧ ¬ (a_tk i = 15 ∧ cf (zc_top stk) (a_ta i).toNatClampNeg ≠ 0) ∧ f = 0)))
    (H : wY_compile_242 post J (nI (yk_h stk)) (nI f) x3 0 (nI i) (a_tk i) f_maxT f_maxP f_n f_st f_eCode f_ePos f_outN f_perfN f_resN f_res f_trap f_tpos f_hp a_tk a_ta a_tb a_tc a_nxt a_par a_nP a_nK a_out a_ce a_fp a_fk a_fx a_fb a_fe a_rH a_rTop a_rBot a_used) : wY_compile_166 post J (nI (yk_h stk)) 0 x3 0 (nI i) (a_tk i) f_maxT f_maxP f_n f_st f_eCode f_ePos f_outN f_perfN f_resN f_res f_trap f_tpos f_hp a_tk a_ta a_tb a_tc a_nxt a_par a_nP a_nK a_out a_ce a_fp a_fk a_fx a_fb a_fe a_rH a_rTop a_rBot a_used := by
  have hci : (nI i).toNatClampNeg = i := nI_clamp (by omega)
  have hii : vp_in (nI i) 33 := vp_in_nI (by omega) (by decide)
  obtain ⟨B1, B2, B3⟩ := yc_bx (A := a_ta) (B := a_tb) (C := a_tc) (x := a_ta i) hn (by omega) W S
  by_cases k2 : a_tk i = 2
  · have k17 : ¬ a_tk i = 17 := by rw [k2]; decide
    have k15 : ¬ a_tk i = 15 := by rw [k2]; decide
    refine br_t k2 ⟨hii, ?_⟩
    rw [hci]
    refine ⟨yk_h stk + 1, yc_bl (by omega) B3 (fun z => br_f (by decide) (br_f k17 (br_f k15 ?_))) (fun z => br_t rfl ?_) (yk_h stk) 0 _ (by omega) (by omega) (fun j' hj' => absurd hj' (Nat.not_lt_zero _))⟩
    · have z' := B1.mp z
      rcases Fx with ⟨-, y, -⟩ | ⟨y, -⟩ | ⟨y, -⟩ | ⟨-, -, -, y⟩
      · exact absurd z' y
      · exact absurd y k17
      · exact absurd y k15
      · subst y; exact H
    · have z' := fun y => z (B1.mpr y)
      rcases Fx with ⟨-, -, y⟩ | ⟨y, -⟩ | ⟨y, -⟩ | ⟨y, -⟩
      · subst y; exact H
      · exact absurd y k17
      · exact absurd y k15
      · exact absurd ⟨k2, z'⟩ y
  · refine br_f k2 ?_
    by_cases k17 : a_tk i = 17
    · have k15 : ¬ a_tk i = 15 := by rw [k17]; decide
      refine br_t k17 ⟨yk_h stk + 1, yc_il (by omega) B3 (fun z => br_f (by decide) (br_f k15 ?_)) (fun z => br_t rfl ?_) (yk_h stk) 0 _ (by omega) (by omega) (fun j' hj' => absurd hj' (Nat.not_lt_zero _))⟩
      · have z' := B2.mp z
        rcases Fx with ⟨y, -⟩ | ⟨-, y, -⟩ | ⟨y, -⟩ | ⟨-, -, -, y⟩
        · exact absurd y k2
        · exact absurd z' y
        · exact absurd y k15
        · subst y; exact H
      · have z' := fun y => z (B2.mpr y)
        rcases Fx with ⟨y, -⟩ | ⟨-, -, y⟩ | ⟨y, -⟩ | ⟨-, y, -⟩
        · exact absurd y k2
        · subst y; exact H
        · exact absurd y k15
        · exact absurd ⟨k17, z'⟩ y
    · refine br_f k17 ?_
      by_cases k15 : a_tk i = 15
      · rw [k15] at ok
        obtain ⟨t, c0, es, rfl, h13⟩ := zc_ok15 (Or.inl rfl) ok
        obtain ⟨⟨op, ho, hA⟩, -⟩ := (hT i hi).2.2.2.2 k15
        obtain ⟨h1, -, -, -⟩ := S
        have hs : yk_h ((t, 4, c0) :: es) = yk_h es + 1 := yk_hs (by omega)
        have w1 := (W _ (List.mem_cons_self ..)).1
        dsimp only at w1
        have hce : (nI (yk_h es)).toNatClampNeg = yk_h es := nI_clamp (by omega)
        have hAc : (a_ta i).toNatClampNeg = op := by rw [hA]; exact nI_clamp (by omega)
        have ht : zc_top ((t, 4, c0) :: es) = t := rfl
        rw [hAc, ht] at Fx
        rw [hs] at H hh ⊢
        refine br_t k15 (br_f (nI_nle (by omega) (by omega)) ?_)
        rw [nI_pred, hce, h1]
        refine ⟨vp_in_nI (by omega) (by decide), i + 1, yc_dl (cf := cf) (by omega) (by omega) ho hA sc (fun z => br_f (by decide) ?_) (fun z => br_t rfl ?_) i 0 _ (by omega) (by omega) (Or.inr (Nat.zero_le _))⟩
        · rcases Fx with ⟨y, -⟩ | ⟨y, -⟩ | ⟨-, -, y⟩ | ⟨-, -, y, -⟩
          · exact absurd y k2
          · exact absurd y k17
          · subst y; exact H
          · exact absurd ⟨k15, z⟩ y
        · rcases Fx with ⟨y, -⟩ | ⟨y, -⟩ | ⟨-, y, -⟩ | ⟨-, -, -, y⟩
          · exact absurd y k2
          · exact absurd y k17
          · exact absurd z y
          · subst y; exact H
      · refine br_f k15 ?_
        rcases Fx with ⟨y, -⟩ | ⟨y, -⟩ | ⟨y, -⟩ | ⟨-, -, -, y⟩
        · exact absurd y k2
        · exact absurd y k17
        · exact absurd y k15
        · subst y; exact H
def yc_wt (w : Nat) (k : Int32) : Prop := if w = 0 then (k ≠ 14 ∧ k ≠ 15 ∧ k ≠ 16) else if w = 1 then k = 14 else (k = 15 ∨ k = 16)
theorem yc_99 {w : Nat} {k : Nat} {K6 : Int32} (hk : K6 = nI k) (hk1 : k ≤ 17) (hw : w ≤ 2) {x1 x3 : Int32} (H1 : yc_wt w K6 → wY_compile_166 post J x1 0 x3 0 (nI i) K6 f_maxT f_maxP f_n f_st f_eCode f_ePos f_outN f_perfN f_resN f_res f_trap f_tpos f_hp a_tk a_ta a_tb a_tc a_nxt a_par a_nP a_nK a_out a_ce a_fp a_fk a_fx a_fb a_fe a_rH a_rTop a_rBot a_used) (H0 : ¬ yc_wt w K6 → wY_compile_242 post J x1 2 x3 0 (nI i) K6 f_maxT f_maxP f_n f_st f_eCode f_ePos f_outN f_perfN f_resN f_res f_trap f_tpos f_hp a_tk a_ta a_tb a_tc a_nxt a_par a_nP a_nK a_out a_ce a_fp a_fk a_fx a_fb a_fe a_rH a_rTop a_rBot a_used) :
    wY_compile_99 post J x1 0 x3 0 (nI i) K6 (nI w) f_maxT f_maxP f_n f_st f_eCode f_ePos f_outN f_perfN f_resN f_res f_trap f_tpos f_hp a_tk a_ta a_tb a_tc a_nxt a_par a_nP a_nK a_out a_ce a_fp a_fk a_fx a_fb a_fe a_rH a_rTop a_rBot a_used := by
  refine br_t rfl ?_
  have hw3 : w = 0 ∨ w = 1 ∨ w = 2 := by omega
  rcases hw3 with rfl | rfl | rfl
  · refine br_t rfl ?_
    have e : yc_wt 0 K6 = (K6 ≠ 14 ∧ K6 ≠ 15 ∧ K6 ≠ 16) := rfl
    rw [e] at H1 H0
    by_cases c : k < 14
    · refine br_t (by rw [hk]; exact nI_lt (b := 14) c (by decide)) (H1 ⟨fun z => ?_, fun z => ?_, fun z => ?_⟩)
      · exact absurd ((nI_eq (b := 14) (by omega) (by decide)).mp (hk.symm.trans z)) (by omega)
      · exact absurd ((nI_eq (b := 15) (by omega) (by decide)).mp (hk.symm.trans z)) (by omega)
      · exact absurd ((nI_eq (b := 16) (by omega) (by decide)).mp (hk.symm.trans z)) (by omega)
    · refine br_f (by rw [hk]; exact nI_nlt (b := 14) (by omega) (by omega)) ?_
      by_cases d : 16 < k
      · refine br_t (by rw [hk]; exact nI_lt (a := 16) d (by omega)) (H1 ⟨fun z => ?_, fun z => ?_, fun z => ?_⟩)
        · exact absurd ((nI_eq (b := 14) (by omega) (by decide)).mp (hk.symm.trans z)) (by omega)
        · exact absurd ((nI_eq (b := 15) (by omega) (by decide)).mp (hk.symm.trans z)) (by omega)
        · exact absurd ((nI_eq (b := 16) (by omega) (by decide)).mp (hk.symm.trans z)) (by omega)
      · refine br_f (by rw [hk]; exact nI_nlt (a := 16) (by omega) (by decide)) (H0 ?_)
        intro ⟨z1, z2, z3⟩
        have : k = 14 ∨ k = 15 ∨ k = 16 := by omega
        rcases this with rfl | rfl | rfl
        · exact z1 hk
        · exact z2 hk
        · exact z3 hk
  · have e : yc_wt 1 K6 = (K6 = 14) := rfl
    rw [e] at H1 H0
    exact br_f (by decide) (br_t rfl (br_c H1 H0))
  · have e : yc_wt 2 K6 = (K6 = 15 ∨ K6 = 16) := rfl
    rw [e] at H1 H0
    exact br_f (by decide) (br_f (by decide) (br_c (fun z => H1 (Or.inl z)) (fun z1 => br_c (fun z => H1 (Or.inr z)) (fun z2 => H0 (fun z => z.elim z1 z2)))))
theorem yc_tok {f fu : Nat} {x4 : Int32} (hn : n ≤ 32) (hi : i < n) (hT : ∀ j, j < n → zl_T a_tk a_ta a_tb a_tc j) (W : yk_W a_tk n stk) (hh : yk_h stk ≤ i) (S : yk_S a_tk a_nP a_nK i stk) (sc : yr_P a_tk a_ta i cf a_par)
    (F : zc_flt a_tk a_ta a_tb a_tc i stk cf f) (h4 : x4 = if 0 < i ∧ stk = [] then 1 else 0)
    (H : wY_compile_242 post (wY_compile_21 post f_maxT f_maxP (nI n) f_st f_eCode f_ePos f_outN f_perfN f_resN f_res f_trap f_tpos f_hp fu) (nI (yk_h stk)) (nI f) 0 x4 (nI i) (a_tk i) f_maxT f_maxP (nI n) f_st f_eCode f_ePos f_outN f_perfN f_resN f_res f_trap f_tpos f_hp a_tk a_ta a_tb a_tc a_nxt a_par a_nP a_nK a_out a_ce a_fp a_fk a_fx a_fb a_fe a_rH a_rTop a_rBot a_used) :
    wY_compile_21 post f_maxT f_maxP (nI n) f_st f_eCode f_ePos f_outN f_perfN f_resN f_res f_trap f_tpos f_hp (fu + 1) (nI (yk_h stk)) 0 0 x4 (nI i) a_tk a_ta a_tb a_tc a_nxt a_par a_nP a_nK a_out a_ce a_fp a_fk a_fx a_fb a_fe a_rH a_rTop a_rBot a_used := by
  have hci : (nI i).toNatClampNeg = i := nI_clamp (by omega)
  have hii : vp_in (nI i) 33 := vp_in_nI (by omega) (by decide)
  obtain ⟨k, hk1, hk17, hk⟩ := (hT i hi).1
  have M : ∀ w, w ≤ 2 → (0 < i ∧ stk = [] ∨ (yc_wt w (a_tk i) ↔ zc_ok a_tk (a_tk i) stk)) → wY_compile_99 post (wY_compile_21 post f_maxT f_maxP (nI n) f_st f_eCode f_ePos f_outN f_perfN f_resN f_res f_trap f_tpos f_hp fu) (nI (yk_h stk)) 0 0 x4 (nI i) (a_tk i) (nI w) f_maxT f_maxP (nI n) f_st f_eCode f_ePos f_outN f_perfN f_resN f_res f_trap f_tpos f_hp a_tk a_ta a_tb a_tc a_nxt a_par a_nP a_nK a_out a_ce a_fp a_fk a_fx a_fb a_fe a_rH a_rTop a_rBot a_used := by
    intro w hw hwt
    unfold zc_flt at F
    by_cases c : 0 < i ∧ stk = []
    · rw [if_pos c] at F h4
      subst F h4
      exact br_f (by decide) H
    · rw [if_neg c] at F h4
      subst h4
      have hwt := hwt.resolve_left c
      refine yc_99 hk hk17 hw (fun z => ?_) (fun z => ?_)
      · have ok := hwt.mp z
        exact yc_166 hn hi hT W hh S sc ok ((F.resolve_left (fun y => y.1 ok)).2) H
      · have nok : ¬ zc_ok a_tk (a_tk i) stk := fun y => z (hwt.mpr y)
        rcases F with ⟨-, y⟩ | ⟨y, -⟩
        · subst y; exact H
        · exact absurd y nok
  refine br_f (nI_ge hi (by omega)) (br_t rfl ⟨hii, xm_r hci rfl ?_⟩)
  cases stk with
  | nil => exact br_t (by decide) (M 0 (by omega) (Or.inr Iff.rfl))
  | cons e es =>
    obtain ⟨t, s, c⟩ := e
    obtain ⟨w1, w2, w3, w4, w5, w6⟩ := W _ (List.mem_cons_self ..)
    dsimp only at w1 w2 w3 w4 w5 w6
    obtain ⟨h1, ⟨k', h2, q1, q2, q3⟩, h3, -⟩ := S
    rw [zc_okc] at M
    have hct : (nI t).toNatClampNeg = t := nI_clamp (by omega)
    by_cases z : s = 3
    · obtain ⟨z1, z2, z3⟩ := w6 z
      obtain ⟨h5, h6⟩ := h3 z
      subst z
      rw [yk_h3] at M hh ⊢
      have hp1 : nI (yk_h es + 2) - 1 = nI (yk_h es + 1) := nI_pred _
      have hch : (nI (yk_h es + 1)).toNatClampNeg = yk_h es + 1 := nI_clamp (by omega)
      have hcc : (nI c).toNatClampNeg = c := nI_clamp (by omega)
      refine br_f (nI_nle (by omega) (by omega)) ?_
      rw [hp1, hch, h5, hcc]
      refine ⟨vp_in_nI (by omega) (by decide), vp_in_nI (by omega) (by decide), br_f (by rcases z3 with y | y <;> (rw [y]; decide)) (M 0 (by omega) (Or.inr ?_))⟩
      rw [if_neg (fun y => by omega), if_neg (fun y => by omega)]
      exact Iff.rfl
    · rw [yk_hs z] at M hh ⊢
      have hp0 : nI (yk_h es + 1) - 1 = nI (yk_h es) := nI_pred _
      have hce : (nI (yk_h es)).toNatClampNeg = yk_h es := nI_clamp (by omega)
      have hih : vp_in (nI (yk_h es)) 33 := vp_in_nI (by omega) (by decide)
      refine br_f (nI_nle (by omega) (by omega)) ?_
      rw [hp0, hce, h1, h2, hct]
      refine ⟨hih, vp_in_nI (by omega) (by decide), ?_⟩
      by_cases k13 : a_tk t = 13
      · obtain ⟨g1, g2, g3, g4⟩ := q2 k13
        refine br_t k13 ⟨hih, ?_⟩
        by_cases c2 : k' < 2
        · have s2 : s < 2 := by
            rcases Nat.lt_or_ge s 3 with y | y
            · have := g1 (by omega); omega
            · have := g4 (by omega); omega
          refine br_t (nI_lt (b := 2) c2 (by decide)) (M 0 (by omega) (Or.inr ?_))
          rw [if_neg (fun y => by omega), if_neg (fun y => by omega)]
          exact Iff.rfl
        · refine br_f (nI_nlt (b := 2) (by omega) (by omega)) ⟨hih, ?_⟩
          by_cases c3 : k' = 2
          · have s2 : s = 2 := by
              rcases Nat.lt_or_ge s 3 with y | y
              · have := g1 (by omega); omega
              · have := g4 (by omega); omega
            refine br_t (by rw [c3]; rfl) (M 1 (by omega) (Or.inr ?_))
            rw [if_pos ⟨k13, s2⟩]
            exact Iff.rfl
          · have s4 : s = 4 := by
              rcases Nat.lt_or_ge s 3 with y | y
              · have := g1 (by omega); omega
              · omega
            refine br_f (fun y => c3 ((nI_eq (b := 2) (by omega) (by decide)).mp y)) (M 2 (by omega) (Or.inr ?_))
            rw [if_neg (fun y => by omega), if_pos ⟨k13, s4⟩]
            exact Iff.rfl
      · refine br_f k13 (M 0 (by omega) (Or.inr ?_))
        rw [if_neg (fun y => k13 y.1), if_neg (fun y => k13 y.1)]
        exact Iff.rfl
theorem yc_end {f fu : Nat} {x1 x4 x5 : Int32} {ps : Nat} (hf : f ≠ 0) (hf5 : f < 100) (H : post (nI f) (f_maxT, f_maxP, nI n, f_st, nI f, nI ps, f_outN, f_perfN, f_resN, f_res, f_trap, f_tpos, f_hp, a_tk, a_ta, a_tb, a_tc, a_nxt, a_par, a_nP, a_nK, a_out, a_ce, a_fp, a_fk, a_fx, a_fb, a_fe, a_rH, a_rTop, a_rBot, a_used)) : wY_compile_21 post f_maxT f_maxP (nI n) f_st f_eCode f_ePos f_outN f_perfN f_resN f_res f_trap f_tpos f_hp (fu + 1) x1 (nI f) (nI ps) x4 x5 a_tk a_ta a_tb a_tc a_nxt a_par a_nP a_nK a_out a_ce a_fp a_fk a_fx a_fb a_fe a_rH a_rTop a_rBot a_used := by
  have h0 : ¬ nI f = 0 := nI_ne0 (by omega) (by omega)
  have Q : wY_compile_448 post (nI f) (nI ps) x4 f_maxT f_maxP (nI n) f_st f_eCode f_ePos f_outN f_perfN f_resN f_res f_trap f_tpos f_hp a_tk a_ta a_tb a_tc a_nxt a_par a_nP a_nK a_out a_ce a_fp a_fk a_fx a_fb a_fe a_rH a_rTop a_rBot a_used := br_f h0 (br_f h0 H)
  exact br_c (fun _ => Q) (fun _ => br_f h0 Q)
theorem yc_main (hn : n ≤ 32) (hT : ∀ j, j < n → zl_T a_tk a_ta a_tb a_tc j) {er ps : Nat} {nx' : Nat → Nat} {cf' : Nat → Nat → Nat}
    (H : ∀ xt xp nP nK, (er = 0 → (∀ p, nx' p ≠ 0 → xt p = nI (nx' p)) ∧ yr_P a_tk a_ta n cf' xp) → post (nI er) (f_maxT, f_maxP, nI n, (if er = 0 then 1 else f_st), nI er, nI ps, f_outN, f_perfN, f_resN, f_res, f_trap, f_tpos, f_hp, a_tk, a_ta, a_tb, a_tc, xt, xp, nP, nK, a_out, a_ce, a_fp, a_fk, a_fx, a_fb, a_fe, a_rH, a_rTop, a_rBot, a_used)) :
    ∀ (d i : Nat) (stk : List ZE) (nx : Nat → Nat) (cf : Nat → Nat → Nat) (fu : Nat) (xt xp nP nK : Nat → Int32), i + d = n → d + 1 < fu → zc_I a_tk i stk nx cf → zc_res a_tk a_ta a_tb a_tc d i stk nx cf er ps nx' cf' →
      (∀ p, nx p ≠ 0 → xt p = nI (nx p)) → yr_P a_tk a_ta i cf xp → yk_S a_tk nP nK i stk →
      wY_compile_21 post f_maxT f_maxP (nI n) f_st f_eCode f_ePos f_outN f_perfN f_resN f_res f_trap f_tpos f_hp fu (nI (yk_h stk)) 0 0 (if 0 < i ∧ stk = [] then 1 else 0) (nI i) a_tk a_ta a_tb a_tc xt xp nP nK a_out a_ce a_fp a_fk a_fx a_fb a_fe a_rH a_rTop a_rBot a_used := by
  intro d
  induction d with
  | zero =>
    intro i stk nx cf fu xt xp nP nK hi hf I Rr sa sc S
    obtain ⟨fu, rfl⟩ : ∃ f', fu = f' + 1 := ⟨fu - 1, by omega⟩
    have hin : i = n := by omega
    obtain ⟨rfl, rfl, h⟩ := Rr
    rw [hin] at h sc ⊢
    refine br_t (nI_le (by omega) (by omega)) (br_t rfl ?_)
    rcases h with ⟨h1, rfl, hp⟩ | ⟨h1, rfl, hp⟩
    · have Q := H xt xp nP nK (fun z => absurd z (by decide))
      rw [if_neg (by decide), hp] at Q
      have c : ¬ (0 < n ∧ stk = []) := fun y => h1.elim (fun z => by omega) (fun z => z y.2)
      rw [if_neg c]
      exact br_t rfl (br_f (by decide) Q)
    · have Q := H xt xp nP nK (fun _ => ⟨sa, sc⟩)
      rw [if_pos rfl, hp] at Q
      have hs : stk = [] := Classical.byContradiction fun y => h1 (Or.inr y)
      have c : 0 < n ∧ stk = [] := ⟨by
        rcases Nat.eq_zero_or_pos n with y | y
        · exact absurd (Or.inl y) h1
        · exact y, hs⟩
      rw [if_pos c]
      exact br_f (by decide) (br_t rfl Q)
  | succ d ih =>
    intro i stk nx cf fu xt xp nP nK hi hf I Rr sa sc S
    obtain ⟨fu, rfl⟩ : ∃ f', fu = f' + 1 := ⟨fu - 1, by omega⟩
    have I' := I
    obtain ⟨ic, G, hz, hcf, hS⟩ := I
    have WW : yk_W a_tk n stk ∧ yk_h stk ≤ i := by
      rcases hS with hS | ⟨rfl, -⟩
      · exact yk_bnd hS (by omega)
      · exact ⟨(fun e he => nomatch he), Nat.zero_le _⟩
    obtain ⟨f, F, h⟩ := Rr
    refine yc_tok (cf := cf) hn (by omega) hT WW.1 WW.2 S sc F rfl ?_
    rcases h with ⟨h0, rfl, rfl, he, hp⟩ | ⟨rfl, h⟩
    · have h5 := zc_fle F
      have Q := H xt xp nP nK (fun z => absurd (he.symm.trans z) h0)
      rw [he, if_neg h0, hp] at Q
      obtain ⟨fu, rfl⟩ : ∃ f', fu = f' + 1 := ⟨fu - 1, by omega⟩
      exact br_f (nI_ne0 (by omega) (by omega)) (nm_r (nI_1 i) (yc_end h0 (by omega) Q))
    · have c0 := (zc_f0 F).1
      have Z : zk_S a_tk nx cf ic i stk := hS.elim id (fun z => absurd ⟨z.2.1, z.1⟩ c0)
      rw [if_neg c0]
      refine yc_take hn (by omega) (hT i (by omega)) F G Z S sa sc ?_
      intro xt' xp' nP' nK' sa' sc' S'
      have Q := ih (i + 1) _ _ _ fu xt' xp' nP' nK' (by omega) (by omega) (zc_step (hT i (by omega)) I' F) h sa' sc' S'
      have e : (if 0 < i + 1 ∧ (zc_take a_tk a_ta i stk nx cf).1 = [] then (1 : Int32) else 0) = (if (zc_take a_tk a_ta i stk nx cf).1 = [] then 1 else 0) := by
        by_cases c : (zc_take a_tk a_ta i stk nx cf).1 = []
        · rw [if_pos c, if_pos ⟨by omega, c⟩]
        · rw [if_neg c, if_neg (fun y => c y.2)]
      rw [e] at Q
      exact Q
theorem yc_comp (hn : n ≤ 32) (hT : ∀ j, j < n → zl_T a_tk a_ta a_tb a_tc j) (hst : f_st = 0) {er ps : Nat} {nx' : Nat → Nat} {cf' : Nat → Nat → Nat} (Rr : zc_res a_tk a_ta a_tb a_tc n 0 [] (fun _ => 0) (fun _ _ => 0) er ps nx' cf')
    (H : ∀ xt xp nP nK, (er = 0 → (∀ p, nx' p ≠ 0 → xt p = nI (nx' p)) ∧ yr_P a_tk a_ta n cf' xp) → post (nI er) (f_maxT, f_maxP, nI n, (if er = 0 then 1 else f_st), nI er, nI ps, f_outN, f_perfN, f_resN, f_res, f_trap, f_tpos, f_hp, a_tk, a_ta, a_tb, a_tc, xt, xp, nP, nK, a_out, a_ce, a_fp, a_fk, a_fx, a_fb, a_fe, a_rH, a_rTop, a_rBot, a_used)) :
    wpY_compile post (f_maxT, f_maxP, nI n, f_st, f_eCode, f_ePos, f_outN, f_perfN, f_resN, f_res, f_trap, f_tpos, f_hp, a_tk, a_ta, a_tb, a_tc, a_nxt, a_par, a_nP, a_nK, a_out, a_ce, a_fp, a_fk, a_fx, a_fb, a_fe, a_rH, a_rTop, a_rBot, a_used) := by
  refine br_t hst ⟨n + 2, ?_⟩
  have Q := yc_main (f_eCode := f_eCode) (f_ePos := f_ePos) hn hT H n 0 [] (fun _ => 0) (fun _ _ => 0) (n + 2) a_nxt a_par a_nP a_nK (by omega) (by omega) zc_init Rr (fun p z => absurd rfl z) ⟨fun j hj => by omega, fun h op z => absurd rfl z⟩ trivial
  rw [if_neg (by omega)] at Q
  exact Q
end
