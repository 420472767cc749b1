abbrev YJ : Type := Int32 → Int32 → Int32 → Int32 → Int32 → Int32 → Int32 → Int32 → Int32 → Int32 → Int32 → Int32 → Int32 → Int32 → Int32 → Int32 → Int32 → Int32 → Int32 → (Nat → Int32) → (Nat → Int32) → (Nat → Int32) → (Nat → Int32) → (Nat → Int32) → (Nat → Int32) → (Nat → Int32) → (Nat → Int32) → (Nat → Int32) → (Nat → Int32) → (Nat → Int32) → (Nat → Int32) → (Nat → Int32) → (Nat → Int32) → (Nat → Int32) → (Nat → Int32) → (Nat → Int32) → (Nat → Int32) → (Nat → Int32) → Prop
def yj (J : YJ) (x1 x2 x3 x4 x5 x6 : Int32) (u : SY) : Prop :=
  match u with
  | (f_maxT, f_maxP, f_n, f_st, f_eCode, f_ePos, f_outN, f_perfN, f_resN, f_res, f_trap, f_tpos, f_hp, a_tk, a_ta, a_tb, a_tc, a_nxt, a_par, a_nP, a_nK, a_out, a_ce, a_fp, a_fk, a_fx, a_fb, a_fe, a_rH, a_rTop, a_rBot, a_used) => J x1 x2 x3 x4 x5 x6 f_maxT f_maxP f_n f_st f_eCode f_ePos f_outN f_perfN f_resN f_res f_trap f_tpos f_hp a_tk a_ta a_tb a_tc a_nxt a_par a_nP a_nK a_out a_ce a_fp a_fk a_fx a_fb a_fe a_rH a_rTop a_rBot a_used
abbrev ys_G (gP gK gX gB gE : Nat → Int32) (hc : Nat) (topI : Int32) (S : List ZF) (R : ZR) (pn : Nat) (rH rTop rBot us : Nat → Int32) : Prop :=
  hs_G gP gK gX gB (fun x e => ∀ j, j < 9 → gE (9 * x + j) = e j) 0 hc (-1) topI S R pn (fun r => us r = 1) (fun r x L => us r = 0 ∧ rH r = nI x ∧ rTop r = hf_f (-1) L ∧ rBot r = hf_l (nI x) L)
theorem zu_ce {ce e : Nat → Int32} {a : Nat} {v : Int32} (h : ∀ j, j < 9 → ce j = e j) : ∀ j, j < 9 → upd ce a v j = upd e a v j := by
  intro j hj
  by_cases c : j = a
  · subst c; rw [zu_s, zu_s]
  · rw [zu_n c, zu_n c]; exact h j hj
section
variable {f_maxT f_maxP f_n f_st f_eCode f_ePos f_outN f_perfN f_resN f_res f_trap f_tpos f_hp : Int32} {a_tk a_ta a_tb a_tc a_nxt a_par a_nP a_nK a_out a_ce a_fp a_fk a_fx a_fb a_fe a_rH a_rTop a_rBot a_used : Nat → Int32} {K A B C : Nat → Int32} {n : Nat} {nx : Nat → Nat} {cf : Nat → Nat → Nat} {mp : Nat} {mt ec ep : Int32} {post : Int32 → SY → Prop} {J : YJ} {v : Int32} {e : Nat → Int32} {S : List ZF} {R : ZR} {pn rn : Nat} {out : Nat → Int32} {on : Nat} {tc tp : Int32} {nc bc hc t i x : Nat} {h x1 x2 x7 x10 : Int32}
theorem yf_let {a : Nat} (hn : n ≤ 32) (ht : t < n) (hA : A t = nI a) (ha : a < 8) (sa : ∀ p, nx p ≠ 0 → a_nxt p = nI (nx p)) (sc : yr_P K A n cf a_par) (E : ∀ j, j < 9 → a_ce j = e j) (G : ys_G a_fp a_fk a_fx a_fb a_fe hc x1 S R pn a_rH a_rTop a_rBot a_used)
    (H : ∀ y1 y2 y3 y4 y5 u', yr_R K A B C n nx cf mp mt ec ep (some (nx (t + 1)), v, upd e (A t).toNatClampNeg v, S, R, pn, rn, out, on, 1, tc, tp, nc, bc + 1, hc) y1 y2 y3 y4 y5 u' → yj J y1 y2 y3 y4 y5 (nI (i + 1)) u') :
    wY_run_282 post J x1 x2 v 1 1 (nI i) x7 (nI t) 9 (nI (nx (t + 1))) mt (nI mp) (nI n) f_st ec ep (nI on) (nI pn) (nI rn) f_res tc tp (nI hc) K A B C a_nxt a_par a_nP a_nK out a_ce a_fp a_fk a_fx a_fb a_fe a_rH a_rTop a_rBot a_used := by
  have hct : (nI t).toNatClampNeg = t := nI_clamp (by omega)
  have hca : (nI a).toNatClampNeg = a := nI_clamp (by omega)
  rw [hA, hca] at H
  refine br_t (by decide) (br_f (by decide) (br_t rfl ⟨vp_in_nI (by omega) (by decide), by rw [hct, hA]; exact vp_in_nI (by omega) (by decide), nm_r (e' := upd a_ce a v) (by rw [hct, hA, hca]) (nm_r (nI_1 i) ?_)⟩))
  exact H _ _ _ _ _ _ (yr_mk sa sc (fun z => absurd rfl z) (fun z => absurd z (by decide)) (fun _ => ⟨rfl, rfl, (fun p z => by cases z; exact ⟨rfl, rfl, zu_ce E⟩), (fun z => by cases z), G⟩))
theorem yf_seq (sa : ∀ p, nx p ≠ 0 → a_nxt p = nI (nx p)) (sc : yr_P K A n cf a_par) (E : ∀ j, j < 9 → a_ce j = e j) (G : ys_G a_fp a_fk a_fx a_fb a_fe hc x1 S R pn a_rH a_rTop a_rBot a_used)
    (H : ∀ y1 y2 y3 y4 y5 u', yr_R K A B C n nx cf mp mt ec ep (some (nx (t + 1)), v, e, S, R, pn, rn, out, on, 1, tc, tp, nc, bc, hc) y1 y2 y3 y4 y5 u' → yj J y1 y2 y3 y4 y5 (nI (i + 1)) u') :
    wY_run_282 post J x1 x2 v 1 1 (nI i) x7 (nI t) 10 (nI (nx (t + 1))) mt (nI mp) (nI n) f_st ec ep (nI on) (nI pn) (nI rn) f_res tc tp (nI hc) K A B C a_nxt a_par a_nP a_nK out a_ce a_fp a_fk a_fx a_fb a_fe a_rH a_rTop a_rBot a_used := by
  refine br_t (by decide) (br_f (by decide) (br_f (by decide) (br_t rfl (nm_r (nI_1 i) ?_))))
  exact H _ _ _ _ _ _ (yr_mk sa sc (fun z => absurd rfl z) (fun z => absurd z (by decide)) (fun _ => ⟨rfl, rfl, (fun p z => by cases z; exact ⟨rfl, rfl, E⟩), (fun z => by cases z), G⟩))
theorem yf_if (hn : n ≤ 32) (c2 : nx (t + 1) < n) (c3 : nx (nx (t + 1)) ≠ 0) (sa : ∀ p, nx p ≠ 0 → a_nxt p = nI (nx p)) (sc : yr_P K A n cf a_par) (E : ∀ j, j < 9 → a_ce j = e j) (G : ys_G a_fp a_fk a_fx a_fb a_fe hc x1 S R pn a_rH a_rTop a_rBot a_used)
    (H : ∀ y1 y2 y3 y4 y5 u', yr_R K A B C n nx cf mp mt ec ep (some (if v = 0 then nx (nx (t + 1)) else nx (t + 1)), v, e, S, R, pn, rn, out, on, 1, tc, tp, nc, bc, hc) y1 y2 y3 y4 y5 u' → yj J y1 y2 y3 y4 y5 (nI (i + 1)) u') :
    wY_run_282 post J x1 x2 v 1 1 (nI i) x7 (nI t) 8 (nI (nx (t + 1))) mt (nI mp) (nI n) f_st ec ep (nI on) (nI pn) (nI rn) f_res tc tp (nI hc) K A B C a_nxt a_par a_nP a_nK out a_ce a_fp a_fk a_fx a_fb a_fe a_rH a_rTop a_rBot a_used := by
  refine br_t (by decide) (br_t rfl ?_)
  by_cases hv : v = 0
  · rw [if_pos hv] at H
    refine br_t hv ⟨vp_in_nI (by omega) (by decide), xm_r (nI_clamp (by omega)) (sa _ c3) (nm_r (nI_1 i) ?_)⟩
    exact H _ _ _ _ _ _ (yr_mk sa sc (fun z => absurd rfl z) (fun z => absurd z (by decide)) (fun _ => ⟨rfl, rfl, (fun p z => by cases z; exact ⟨rfl, rfl, E⟩), (fun z => by cases z), G⟩))
  · rw [if_neg hv] at H
    refine br_f hv (nm_r (nI_1 i) ?_)
    exact H _ _ _ _ _ _ (yr_mk sa sc (fun z => absurd rfl z) (fun z => absurd z (by decide)) (fun _ => ⟨rfl, rfl, (fun p z => by cases z; exact ⟨rfl, rfl, E⟩), (fun z => by cases z), G⟩))
theorem yf_em0 (ho : on = 16) (sa : ∀ p, nx p ≠ 0 → a_nxt p = nI (nx p)) (sc : yr_P K A n cf a_par)
    (H : ∀ y1 y2 y3 y4 y5 u', yr_R K A B C n nx cf mp mt ec ep (none, v, e, S, R, pn, rn, out, on, 3, 4, nI t, nc, bc, hc) y1 y2 y3 y4 y5 u' → yj J y1 y2 y3 y4 y5 (nI (i + 1)) u') :
    wY_run_282 post J x1 x2 v 1 1 (nI i) x7 (nI t) 11 x10 mt (nI mp) (nI n) f_st ec ep (nI on) (nI pn) (nI rn) f_res tc tp (nI hc) K A B C a_nxt a_par a_nP a_nK out a_ce a_fp a_fk a_fx a_fb a_fe a_rH a_rTop a_rBot a_used := by
  subst ho
  refine br_t (by decide) (br_f (by decide) (br_f (by decide) (br_f (by decide) (br_f (by decide) (br_t rfl (br_t rfl (nm_r (nI_1 i) ?_)))))))
  exact H _ _ _ _ _ _ (yr_mk sa sc (fun _ => rfl) (fun z => absurd z (by decide)) (fun z => absurd z (by decide)))
theorem yf_em1 (ho : on < 16) (sa : ∀ p, nx p ≠ 0 → a_nxt p = nI (nx p)) (sc : yr_P K A n cf a_par) (G : ys_G a_fp a_fk a_fx a_fb a_fe hc x1 S R pn a_rH a_rTop a_rBot a_used)
    (H : ∀ y1 y2 y3 y4 y5 u', yr_R K A B C n nx cf mp mt ec ep (none, v, e, S, R, pn, rn, upd out on v, on + 1, 1, tc, tp, nc, bc, hc) y1 y2 y3 y4 y5 u' → yj J y1 y2 y3 y4 y5 (nI (i + 1)) u') :
    wY_run_282 post J x1 x2 v 1 1 (nI i) x7 (nI t) 11 x10 mt (nI mp) (nI n) f_st ec ep (nI on) (nI pn) (nI rn) f_res tc tp (nI hc) K A B C a_nxt a_par a_nP a_nK out a_ce a_fp a_fk a_fx a_fb a_fe a_rH a_rTop a_rBot a_used := by
  have hco : (nI on).toNatClampNeg = on := nI_clamp (by omega)
  refine br_t (by decide) (br_f (by decide) (br_f (by decide) (br_f (by decide) (br_f (by decide) (br_t rfl (br_f (fun z => absurd ((nI_eq (b := 16) (by omega) (by decide)).mp z) (by omega)) ⟨vp_in_nI ho (by decide), nm_r (e' := upd out on v) (by rw [hco]) (nm_r (nI_1 on) (nm_r (nI_1 i) ?_))⟩))))))
  exact H _ _ _ _ _ _ (yr_mk sa sc (fun z => absurd rfl z) (fun z => absurd z (by decide)) (fun _ => ⟨rfl, rfl, (fun p z => by cases z), (fun _ => ⟨rfl, rfl⟩), G⟩))
theorem yf_bin {k : Int32} (hk : k = 3 ∨ k = 4 ∨ k = 5 ∨ k = 6 ∨ k = 7) (hx : x < 1056) (hh : a_fx x = h) (sa : ∀ p, nx p ≠ 0 → a_nxt p = nI (nx p)) (sc : yr_P K A n cf a_par) (G : ys_G a_fp a_fk a_fx a_fb a_fe hc x1 S R pn a_rH a_rTop a_rBot a_used)
    (H : ∀ y1 y2 y3 y4 y5 u', yr_R K A B C n nx cf mp mt ec ep (none, zs_ar k h v, e, S, R, pn, rn, out, on, 1, tc, tp, nc, bc, hc) y1 y2 y3 y4 y5 u' → yj J y1 y2 y3 y4 y5 (nI (i + 1)) u') :
    wY_run_282 post J x1 x2 v 1 1 (nI i) (nI x) (nI t) k x10 mt (nI mp) (nI n) f_st ec ep (nI on) (nI pn) (nI rn) f_res tc tp (nI hc) K A B C a_nxt a_par a_nP a_nK out a_ce a_fp a_fk a_fx a_fb a_fe a_rH a_rTop a_rBot a_used := by
  have hcx : (nI x).toNatClampNeg = x := nI_clamp (by omega)
  refine br_f (by rcases hk with rfl | rfl | rfl | rfl | rfl <;> decide) ⟨vp_in_nI hx (by decide), ?_⟩
  rw [hcx, hh]
  refine yt_ar hk (nm_r (nI_1 i) ?_)
  exact H _ _ _ _ _ _ (yr_mk sa sc (fun z => absurd rfl z) (fun z => absurd z (by decide)) (fun _ => ⟨rfl, rfl, (fun p z => by cases z), (fun _ => ⟨rfl, rfl⟩), G⟩))
theorem yf_ret {a y c3 : Nat} (hn : n ≤ 32) (e3 : nx (nx (t + 1)) = c3) (c3' : c3 ≠ 0) (c2 : nx (t + 1) < n) (c4 : c3 < n) (hA : A c3 = nI a) (ha : a < 8) (hB : B c3 = nI y) (hy : y < 8) (hx : x < 1056) (hh : a_fx x = h) (sa : ∀ p, nx p ≠ 0 → a_nxt p = nI (nx p)) (sc : yr_P K A n cf a_par) (E : ∀ j, j < 9 → a_ce j = e j) (G : ys_G a_fp a_fk a_fx a_fb a_fe hc x1 S R pn a_rH a_rTop a_rBot a_used)
    (H : ∀ y1 y2 y3 y4 y5 u', yr_R K A B C n nx cf mp mt ec ep (some (c3 + 1), v, upd (upd e (B c3).toNatClampNeg h) (A c3).toNatClampNeg v, S, R, pn, rn, out, on, 1, tc, tp, nc, bc + 2, hc) y1 y2 y3 y4 y5 u' → yj J y1 y2 y3 y4 y5 (nI (i + 1)) u') :
    wY_run_282 post J x1 x2 v 1 1 (nI i) (nI x) (nI t) 13 (nI (nx (t + 1))) mt (nI mp) (nI n) f_st ec ep (nI on) (nI pn) (nI rn) f_res tc tp (nI hc) K A B C a_nxt a_par a_nP a_nK out a_ce a_fp a_fk a_fx a_fb a_fe a_rH a_rTop a_rBot a_used := by
  have hcx : (nI x).toNatClampNeg = x := nI_clamp (by omega)
  have hcc : (nI c3).toNatClampNeg = c3 := nI_clamp (by omega)
  have hca : (nI a).toNatClampNeg = a := nI_clamp (by omega)
  have hcy : (nI y).toNatClampNeg = y := nI_clamp (by omega)
  have hic : vp_in (nI c3) 33 := vp_in_nI (by omega) (by decide)
  rw [hA, hB, hca, hcy] at H
  refine br_t (by decide) (br_f (by decide) (br_f (by decide) (br_f (by decide) (br_t rfl ⟨vp_in_nI (by omega) (by decide), xm_r (nI_clamp (by omega)) ((sa _ (by rw [e3]; exact c3')).trans (by rw [e3])) ⟨hic, vp_in_nI hx (by decide), by rw [hcc, hB]; exact vp_in_nI (by omega) (by decide), nm_r (e' := upd a_ce y h) (by rw [hcc, hB, hcy, hcx, hh]) ⟨hic, by rw [hcc, hA]; exact vp_in_nI (by omega) (by decide), nm_r (e' := upd (upd a_ce y h) a v) (by rw [hcc, hA, hca]) (nm_r (nI_1 c3) (nm_r (nI_1 i) ?_))⟩⟩⟩))))
  exact H _ _ _ _ _ _ (yr_mk sa sc (fun z => absurd rfl z) (fun z => absurd z (by decide)) (fun _ => ⟨rfl, rfl, (fun p z => by cases z; exact ⟨rfl, rfl, zu_ce (zu_ce E)⟩), (fun z => by cases z), G⟩))
end
