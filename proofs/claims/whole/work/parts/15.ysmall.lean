def yr_P (K A : Nat → Int32) (n : Nat) (cf : Nat → Nat → Nat) (par : Nat → Int32) : Prop :=
  (∀ j, j < n → K j = 15 → ∃ h op, h < j ∧ op < 8 ∧ par j = nI h ∧ A j = nI op ∧ cf h op = j) ∧
  (∀ h op, cf h op ≠ 0 → h < cf h op ∧ cf h op < n ∧ K (cf h op) = 15 ∧ par (cf h op) = nI h ∧ A (cf h op) = nI op)
def yr_R (K A B C : Nat → Int32) (n : Nat) (nx : Nat → Nat) (cf : Nat → Nat → Nat) (mp : Nat) (mt ec ep : Int32) (z : ZZ) (x1 x2 x3 x4 x5 : Int32) (u : SY) : Prop :=
  match u with
  | (f_maxT, f_maxP, f_n, f_st, f_eCode, f_ePos, f_outN, f_perfN, f_resN, f_res, f_trap, f_tpos, f_hp, a_tk, a_ta, a_tb, a_tc, a_nxt, a_par, a_nP, a_nK, a_out, a_ce, a_fp, a_fk, a_fx, a_fb, a_fe, a_rH, a_rTop, a_rBot, a_used) => match z with
    | (fo, v, e, S, R, pn, rn, out, on, st, tc, tp, nc, bc, hc) =>
      (f_maxT = mt ∧ f_maxP = nI mp ∧ f_n = nI n ∧ f_eCode = ec ∧ f_ePos = ep ∧ f_trap = tc ∧ f_tpos = tp ∧ f_outN = nI on ∧ f_perfN = nI pn ∧ f_resN = nI rn) ∧
      (a_tk = K ∧ a_ta = A ∧ a_tb = B ∧ a_tc = C ∧ a_out = out) ∧ (∀ p, nx p ≠ 0 → a_nxt p = nI (nx p)) ∧ yr_P K A n cf a_par ∧
      (st ≠ 1 → x5 = 0) ∧ (st = 2 → f_res = v) ∧ (st = 1 → x5 = 1 ∧ ry_I a_fp a_fk a_fx a_fb a_fe f_hp x1 a_ce a_rH a_rTop a_rBot a_used x2 x3 x4 (fo, v, e, S, R, pn, rn, out, on, st, tc, tp, nc, bc, hc))
section
variable {f_maxT f_maxP f_n f_st f_eCode f_ePos f_outN f_perfN f_resN f_res f_trap f_tpos f_hp : Int32} {a_tk a_ta a_tb a_tc a_nxt a_par a_nP a_nK a_out a_ce a_fp a_fk a_fx a_fb a_fe a_rH a_rTop a_rBot a_used : Nat → Int32} {K A B C : Nat → Int32} {n : Nat} {nx : Nat → Nat} {cf : Nat → Nat → Nat} {mp : Nat} {mt ec ep : Int32}
theorem yr_mk {fo : Option Nat} {v : Int32} {e : Nat → Int32} {S : List ZF} {R : ZR} {pn rn : Nat} {out : Nat → Int32} {on st : Nat} {tc tp : Int32} {nc bc hc : Nat} {x1 x2 x3 x4 x5 : Int32}
    (sa : ∀ p, nx p ≠ 0 → a_nxt p = nI (nx p)) (sc : yr_P K A n cf a_par) (h0 : st ≠ 1 → x5 = 0) (h2 : st = 2 → f_res = v)
    (h1 : st = 1 → x5 = 1 ∧ ry_I a_fp a_fk a_fx a_fb a_fe f_hp x1 a_ce a_rH a_rTop a_rBot a_used x2 x3 x4 (fo, v, e, S, R, pn, rn, out, on, st, tc, tp, nc, bc, hc)) :
    yr_R K A B C n nx cf mp mt ec ep (fo, v, e, S, R, pn, rn, out, on, st, tc, tp, nc, bc, hc) x1 x2 x3 x4 x5
      (mt, nI mp, nI n, f_st, ec, ep, nI on, nI pn, nI rn, f_res, tc, tp, f_hp, K, A, B, C, a_nxt, a_par, a_nP, a_nK, out, a_ce, a_fp, a_fk, a_fx, a_fb, a_fe, a_rH, a_rTop, a_rBot, a_used) :=
  ⟨⟨rfl, rfl, rfl, rfl, rfl, rfl, rfl, rfl, rfl, rfl⟩, ⟨rfl, rfl, rfl, rfl, rfl⟩, sa, sc, h0, h2, h1⟩
theorem yt_9 {x j : Nat} : nI x * 9 + nI j = nI (9 * x + j) := by
  have : nI x * 9 = nI (x * 9) := (Int32.ofNat_mul x 9).symm
  rw [this, nI_add, Nat.mul_comm]
theorem yt_ldl {post : SY → Prop} {x : Nat} (hx : x < 1056) : ∀ (d j fu : Nat), j + d = 9 → d < fu → post (f_maxT, f_maxP, f_n, f_st, f_eCode, f_ePos, f_outN, f_perfN, f_resN, f_res, f_trap, f_tpos, f_hp, a_tk, a_ta, a_tb, a_tc, a_nxt, a_par, a_nP, a_nK, a_out, yl_ce a_fe a_ce x 9, a_fp, a_fk, a_fx, a_fb, a_fe, a_rH, a_rTop, a_rBot, a_used) →
    wY_load_2 post (nI x) f_maxT f_maxP f_n f_st f_eCode f_ePos f_outN f_perfN f_resN f_res f_trap f_tpos f_hp fu (nI j) a_tk a_ta a_tb a_tc a_nxt a_par a_nP a_nK a_out (yl_ce a_fe a_ce x j) a_fp a_fk a_fx a_fb a_fe a_rH a_rTop a_rBot a_used := by
  intro d
  induction d with
  | zero =>
    intro j fu hj hf H
    obtain ⟨fu, rfl⟩ : ∃ f', fu = f' + 1 := ⟨fu - 1, by omega⟩
    have : j = 9 := by omega
    subst this
    exact br_t (nI_le (a := 9) (by omega) (by decide)) H
  | succ d ih =>
    intro j fu hj hf H
    obtain ⟨fu, rfl⟩ : ∃ f', fu = f' + 1 := ⟨fu - 1, by omega⟩
    have hc : (nI (9 * x + j)).toNatClampNeg = 9 * x + j := nI_clamp (by omega)
    have hcj : (nI j).toNatClampNeg = j := nI_clamp (by omega)
    refine br_f (nI_ge (b := 9) (by omega) (by decide)) ⟨by rw [yt_9]; exact vp_in_nI (by omega) (by decide), vp_in_nI (by omega) (by decide), nm_r (by rw [yt_9, hc, hcj, yl_s]) (nm_r (nI_1 j) (ih (j + 1) fu (by omega) (by omega) H))⟩
theorem yt_load {post : SY → Prop} {x : Nat} (hx : x < 1056) (H : post (f_maxT, f_maxP, f_n, f_st, f_eCode, f_ePos, f_outN, f_perfN, f_resN, f_res, f_trap, f_tpos, f_hp, a_tk, a_ta, a_tb, a_tc, a_nxt, a_par, a_nP, a_nK, a_out, yl_ce a_fe a_ce x 9, a_fp, a_fk, a_fx, a_fb, a_fe, a_rH, a_rTop, a_rBot, a_used)) : wpY_load post (f_maxT, f_maxP, f_n, f_st, f_eCode, f_ePos, f_outN, f_perfN, f_resN, f_res, f_trap, f_tpos, f_hp, a_tk, a_ta, a_tb, a_tc, a_nxt, a_par, a_nP, a_nK, a_out, a_ce, a_fp, a_fk, a_fx, a_fb, a_fe, a_rH, a_rTop, a_rBot, a_used) (nI x) := by
  have W := yt_ldl (post := post) hx 9 0 10 (by omega) (by omega) H
  rw [yl_0] at W
  exact ⟨10, W⟩
theorem yt_psl {post : Int32 → SY → Prop} {x : Nat} (hx : x < 1056) : ∀ (d j fu : Nat), j + d = 9 → d < fu → post (nI x) (f_maxT, f_maxP, f_n, f_st, f_eCode, f_ePos, f_outN, f_perfN, f_resN, f_res, f_trap, f_tpos, f_hp, a_tk, a_ta, a_tb, a_tc, a_nxt, a_par, a_nP, a_nK, a_out, a_ce, a_fp, a_fk, a_fx, a_fb, yp_fe a_fe a_ce x 9, a_rH, a_rTop, a_rBot, a_used) →
    wY_push_65 post (nI x) f_maxT f_maxP f_n f_st f_eCode f_ePos f_outN f_perfN f_resN f_res f_trap f_tpos f_hp fu (nI j) a_tk a_ta a_tb a_tc a_nxt a_par a_nP a_nK a_out a_ce a_fp a_fk a_fx a_fb (yp_fe a_fe a_ce x j) a_rH a_rTop a_rBot a_used := by
  intro d
  induction d with
  | zero =>
    intro j fu hj hf H
    obtain ⟨fu, rfl⟩ : ∃ f', fu = f' + 1 := ⟨fu - 1, by omega⟩
    have : j = 9 := by omega
    subst this
    exact br_t (nI_le (a := 9) (by omega) (by decide)) H
  | succ d ih =>
    intro j fu hj hf H
    obtain ⟨fu, rfl⟩ : ∃ f', fu = f' + 1 := ⟨fu - 1, by omega⟩
    have hc : (nI (9 * x + j)).toNatClampNeg = 9 * x + j := nI_clamp (by omega)
    have hcj : (nI j).toNatClampNeg = j := nI_clamp (by omega)
    refine br_f (nI_ge (b := 9) (by omega) (by decide)) ⟨vp_in_nI (by omega) (by decide), by rw [yt_9]; exact vp_in_nI (by omega) (by decide), nm_r (by rw [yt_9, hc, hcj, yp_s]) (nm_r (nI_1 j) (ih (j + 1) fu (by omega) (by omega) H))⟩
theorem yt_push {post : Int32 → SY → Prop} {hc : Nat} {q0 q1 q2 : Int32} (hh : hc < 1055) (H : post (nI hc) (f_maxT, f_maxP, f_n, f_st, f_eCode, f_ePos, f_outN, f_perfN, f_resN, f_res, f_trap, f_tpos, nI (hc + 1), a_tk, a_ta, a_tb, a_tc, a_nxt, a_par, a_nP, a_nK, a_out, a_ce, upd a_fp hc q0, upd a_fk hc q1, upd a_fx hc 0, upd a_fb hc q2, yp_fe a_fe a_ce hc 9, a_rH, a_rTop, a_rBot, a_used)) :
    wpY_push post (f_maxT, f_maxP, f_n, f_st, f_eCode, f_ePos, f_outN, f_perfN, f_resN, f_res, f_trap, f_tpos, nI hc, a_tk, a_ta, a_tb, a_tc, a_nxt, a_par, a_nP, a_nK, a_out, a_ce, a_fp, a_fk, a_fx, a_fb, a_fe, a_rH, a_rTop, a_rBot, a_used) q0 q1 q2 := by
  have hi : vp_in (nI hc) 1056 := vp_in_nI (by omega) (by decide)
  have hcc : (nI hc).toNatClampNeg = hc := nI_clamp (by omega)
  refine br_f (nI_ge (b := 1055) hh (by decide)) (nm_r (nI_1 hc) ⟨hi, nm_r (by rw [hcc]) ⟨hi, nm_r (by rw [hcc]) ⟨hi, nm_r (by rw [hcc]) ⟨hi, nm_r (by rw [hcc]) ⟨10, ?_⟩⟩⟩⟩⟩)
  have W := yt_psl (post := post) (f_maxT := f_maxT) (f_maxP := f_maxP) (f_n := f_n) (f_st := f_st) (f_eCode := f_eCode) (f_ePos := f_ePos) (f_outN := f_outN) (f_perfN := f_perfN) (f_resN := f_resN) (f_res := f_res) (f_trap := f_trap) (f_tpos := f_tpos) (f_hp := nI (hc + 1)) (x := hc) (by omega) 9 0 10 (by omega) (by omega) H
  rw [yp_0] at W
  exact W
theorem yt_fcl {post : Int32 → Prop} {h op : Nat} (hn : n ≤ 32) (hh : h < 32) (ho : op < 8) (sc : yr_P a_tk a_ta n cf a_par) (H : post (if cf h op = 0 then -1 else nI (cf h op))) : ∀ (d j fu : Nat), j + d = n → d < fu → h < j → (cf h op = 0 ∨ j ≤ cf h op) →
    wY_findCase_4 post (nI h) (nI op) f_maxT f_maxP (nI n) f_st f_eCode f_ePos f_outN f_perfN f_resN f_res f_trap f_tpos f_hp a_tk a_ta a_tb a_tc a_nxt a_par a_nP a_nK a_out a_ce a_fp a_fk a_fx a_fb a_fe a_rH a_rTop a_rBot a_used fu (nI j) := by
  intro d
  induction d with
  | zero =>
    intro j fu hj hf hhj hm
    obtain ⟨fu, rfl⟩ : ∃ f', fu = f' + 1 := ⟨fu - 1, by omega⟩
    have z : cf h op = 0 := by
      rcases Nat.eq_zero_or_pos (cf h op) with z | z
      · exact z
      · have := (sc.2 h op (by omega)).2.1
        omega
    rw [if_pos z] at H
    exact br_t (nI_le (by omega) (by omega)) H
  | succ d ih =>
    intro j fu hj hf hhj hm
    obtain ⟨fu, rfl⟩ : ∃ f', fu = f' + 1 := ⟨fu - 1, by omega⟩
    have hcj : (nI j).toNatClampNeg = j := nI_clamp (by omega)
    have hij : vp_in (nI j) 33 := vp_in_nI (by omega) (by decide)
    have next : ¬ cf h op = j → wY_findCase_4 post (nI h) (nI op) f_maxT f_maxP (nI n) f_st f_eCode f_ePos f_outN f_perfN f_resN f_res f_trap f_tpos f_hp a_tk a_ta a_tb a_tc a_nxt a_par a_nP a_nK a_out a_ce a_fp a_fk a_fx a_fb a_fe a_rH a_rTop a_rBot a_used fu (nI (j + 1)) := fun z => ih (j + 1) fu (by omega) (by omega) (by omega) (by omega)
    refine br_f (nI_ge (by omega) (by omega)) ⟨hij, ?_⟩
    rw [hcj]
    by_cases k : a_tk j = 15
    · obtain ⟨h', op', y1, y2, y3, y4, y5⟩ := sc.1 j (by omega) k
      refine br_t k ⟨hij, ?_⟩
      by_cases kh : h' = h
      · subst kh
        refine br_t y3 ⟨hij, ?_⟩
        by_cases ko : op' = op
        · subst ko
          rw [y5, if_neg (by omega)] at H
          exact br_t y4 H
        · exact br_f (fun z => ko ((nI_eq (by omega) (by omega)).mp (y4.symm.trans z))) (nm_r (nI_1 j) (next (fun z => by
            have := (sc.2 h' op (by omega)).2.2.2.2
            rw [z, y4] at this
            exact ko ((nI_eq (by omega) (by omega)).mp this))))
      · exact br_f (fun z => kh ((nI_eq (by omega) (by omega)).mp (y3.symm.trans z))) (nm_r (nI_1 j) (next (fun z => by
            have := (sc.2 h op (by omega)).2.2.2.1
            rw [z, y3] at this
            exact kh ((nI_eq (by omega) (by omega)).mp this))))
    · exact br_f k (nm_r (nI_1 j) (next (fun z => by
            have := (sc.2 h op (by omega)).2.2.1
            rw [z] at this
            exact k this)))
theorem yt_find {post : Int32 → Prop} {h op : Nat} (hn : n ≤ 32) (hh : h < n) (ho : op < 8) (sc : yr_P a_tk a_ta n cf a_par) (H : post (if cf h op = 0 then -1 else nI (cf h op))) : wpY_findCase post (f_maxT, f_maxP, nI n, f_st, f_eCode, f_ePos, f_outN, f_perfN, f_resN, f_res, f_trap, f_tpos, f_hp, a_tk, a_ta, a_tb, a_tc, a_nxt, a_par, a_nP, a_nK, a_out, a_ce, a_fp, a_fk, a_fx, a_fb, a_fe, a_rH, a_rTop, a_rBot, a_used) (nI h) (nI op) := by
  refine nm_r (nI_1 h) ⟨n - (h + 1) + 1, yt_fcl hn (by omega) ho sc H (n - (h + 1)) (h + 1) _ (by omega) (by omega) (by omega) ?_⟩
  rcases Nat.eq_zero_or_pos (cf h op) with z | z
  · exact Or.inl z
  · have := (sc.2 h op (by omega)).1
    exact Or.inr (by omega)
theorem yt_ar {post : Int32 → Prop} {k a b : Int32} (hk : k = 3 ∨ k = 4 ∨ k = 5 ∨ k = 6 ∨ k = 7) (H : post (zs_ar k a b)) : wpY_arith post (f_maxT, f_maxP, f_n, f_st, f_eCode, f_ePos, f_outN, f_perfN, f_resN, f_res, f_trap, f_tpos, f_hp, a_tk, a_ta, a_tb, a_tc, a_nxt, a_par, a_nP, a_nK, a_out, a_ce, a_fp, a_fk, a_fx, a_fb, a_fe, a_rH, a_rTop, a_rBot, a_used) k a b := by
  rcases hk with rfl | rfl | rfl | rfl | rfl
  · exact br_t rfl H
  · exact br_f (by decide) (br_t rfl H)
  · exact br_f (by decide) (br_f (by decide) (br_t rfl H))
  · refine br_f (by decide) (br_f (by decide) (br_f (by decide) (br_t rfl ?_)))
    have e : zs_ar 6 a b = if a < b then 1 else 0 := rfl
    rw [e] at H
    by_cases h : a < b
    · rw [if_pos h] at H
      exact br_f (Int32.not_le.mpr h) H
    · rw [if_neg h] at H
      exact br_t (Int32.not_lt.mp h) H
  · refine br_f (by decide) (br_f (by decide) (br_f (by decide) (br_f (by decide) ?_)))
    have e : zs_ar 7 a b = if a = b then 1 else 0 := rfl
    rw [e] at H
    by_cases h : a = b
    · rw [if_pos h] at H
      exact br_t h H
    · rw [if_neg h] at H
      exact br_f h H
end
