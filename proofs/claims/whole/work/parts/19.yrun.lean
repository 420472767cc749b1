section
variable {f_maxT f_maxP f_n f_st f_eCode f_ePos f_outN f_perfN f_resN f_res f_trap f_tpos f_hp : Int32} {a_tk a_ta a_tb a_tc a_nxt a_par a_nP a_nK a_out a_ce a_fp a_fk a_fx a_fb a_fe a_rH a_rTop a_rBot a_used : Nat → Int32} {K A B C : Nat → Int32} {n : Nat} {nx : Nat → Nat} {cf : Nat → Nat → Nat} {mp : Nat} {mt ec ep : Int32} {post : Int32 → SY → Prop} {ic : Nat → Prop}
def yz0 : Nat → Int32 := fun _ => 0
def yst (u : SY) (s : Int32) : SY :=
  match u with
  | (f_maxT, f_maxP, f_n, f_st, f_eCode, f_ePos, f_outN, f_perfN, f_resN, f_res, f_trap, f_tpos, f_hp, a_tk, a_ta, a_tb, a_tc, a_nxt, a_par, a_nP, a_nK, a_out, a_ce, a_fp, a_fk, a_fx, a_fb, a_fe, a_rH, a_rTop, a_rBot, a_used) => (f_maxT, f_maxP, f_n, s, f_eCode, f_ePos, f_outN, f_perfN, f_resN, f_res, f_trap, f_tpos, f_hp, a_tk, a_ta, a_tb, a_tc, a_nxt, a_par, a_nP, a_nK, a_out, a_ce, a_fp, a_fk, a_fx, a_fb, a_fe, a_rH, a_rTop, a_rBot, a_used)
theorem ys_end {z : ZZ} {u : SY} {i fu : Nat} {y1 y2 y3 y4 y5 : Int32} (X : yr_R K A B C n nx cf mp mt ec ep z y1 y2 y3 y4 y5 u) (hX : zi_X mp z) (H : post (nI (zst z)) (yst u (nI (zst z)))) : yj (wY_run_80 post (fu + 1)) y1 y2 y3 y4 y5 (nI i) u := by
  obtain ⟨f_maxT, f_maxP, f_n, f_st, f_eCode, f_ePos, f_outN, f_perfN, f_resN, f_res, f_trap, f_tpos, f_hp, a_tk, a_ta, a_tb, a_tc, a_nxt, a_par, a_nP, a_nK, a_out, a_ce, a_fp, a_fk, a_fx, a_fb, a_fe, a_rH, a_rTop, a_rBot, a_used⟩ := u
  obtain ⟨fo, v, e, S, R, pn, rn, out, on, st, tc, tp, nc, bc, hc⟩ := z
  obtain ⟨⟨rfl, rfl, rfl, rfl, rfl, rfl, rfl, rfl, rfl, rfl⟩, ⟨rfl, rfl, rfl, rfl, rfl⟩, sa, sc, h0, -, -⟩ := X
  obtain ⟨-, -, h⟩ := hX
  rcases h with ⟨h, ht⟩ | ⟨h, ht⟩
  · subst h
    have z := h0 (by omega)
    subst z
    exact br_t rfl (br_t ht H)
  · subst h
    have z := h0 (by omega)
    subst z
    exact br_t rfl (br_f ht H)
theorem ys_loop (P : zl_P K A B C n nx cf (zk_cl nx) ic) : ∀ (k : Nat) (z : ZZ) (i fu : Nat) (y1 y2 y3 y4 y5 : Int32) (u : SY), (∀ j, j ≤ k → zi_I K nx mp (zk_cl nx) ic (Nat.repeat (zs K A B C nx cf mp) j z)) → zi_X mp (Nat.repeat (zs K A B C nx cf mp) (k + 1) z) →
    yr_R K A B C n nx cf mp mt ec ep z y1 y2 y3 y4 y5 u → i + k + 1 < 65536 → k + 2 ≤ fu → (∀ y1 y2 y3 y4 y5 u', yr_R K A B C n nx cf mp mt ec ep (Nat.repeat (zs K A B C nx cf mp) (k + 1) z) y1 y2 y3 y4 y5 u' → post (nI (zst (Nat.repeat (zs K A B C nx cf mp) (k + 1) z))) (yst u' (nI (zst (Nat.repeat (zs K A B C nx cf mp) (k + 1) z))))) → yj (wY_run_80 post fu) y1 y2 y3 y4 y5 (nI i) u := by
  intro k
  induction k with
  | zero =>
    intro z i fu y1 y2 y3 y4 y5 u hI hX X hi hf H
    obtain ⟨fu, rfl⟩ : ∃ f', fu = f' + 2 := ⟨fu - 2, by omega⟩
    exact ys_one P (hI 0 (Nat.le_refl _)) X (by omega) (fun _ _ _ _ _ u' h => ys_end h hX (H _ _ _ _ _ u' h))
  | succ k ih =>
    intro z i fu y1 y2 y3 y4 y5 u hI hX X hi hf H
    obtain ⟨fu, rfl⟩ : ∃ f', fu = f' + 1 := ⟨fu - 1, by omega⟩
    rw [zr_rep] at hX H
    exact ys_one P (hI 0 (Nat.zero_le _)) X (by omega) (fun _ _ _ _ _ u' h => ih _ (i + 1) fu _ _ _ _ _ u' (fun j hj => by rw [← zr_rep]; exact hI (j + 1) (by omega)) hX h (by omega) (by omega) H)
theorem ys_zero (W : ∃ n80 : Nat, wY_run_80 post n80 (-1) 0 0 1 1 0 f_maxT f_maxP f_n f_st f_eCode f_ePos f_outN f_perfN f_resN f_res f_trap f_tpos f_hp a_tk a_ta a_tb a_tc a_nxt a_par a_nP a_nK a_out (yl_ce yz0 a_ce 0 9) a_fp a_fk a_fx a_fb a_fe a_rH a_rTop a_rBot a_used) : ∀ (d j fu : Nat), j + d = 9 → d < fu →
    wY_run_46 post f_maxT f_maxP f_n f_st f_eCode f_ePos f_outN f_perfN f_resN f_res f_trap f_tpos f_hp fu (nI j) a_tk a_ta a_tb a_tc a_nxt a_par a_nP a_nK a_out (yl_ce yz0 a_ce 0 j) a_fp a_fk a_fx a_fb a_fe a_rH a_rTop a_rBot a_used := by
  intro d
  induction d with
  | zero =>
    intro j fu hj hf
    obtain ⟨fu, rfl⟩ : ∃ f', fu = f' + 1 := ⟨fu - 1, by omega⟩
    have : j = 9 := by omega
    subst this
    exact br_t (nI_le (a := 9) (by omega) (by decide)) W
  | succ d ih =>
    intro j fu hj hf
    obtain ⟨fu, rfl⟩ : ∃ f', fu = f' + 1 := ⟨fu - 1, by omega⟩
    have hcj : (nI j).toNatClampNeg = j := nI_clamp (by omega)
    exact br_f (nI_ge (b := 9) (by omega) (by decide)) ⟨vp_in_nI (by omega) (by decide), nm_r (e' := yl_ce yz0 a_ce 0 (j + 1)) (by rw [hcj]; exact yl_s yz0 a_ce 0 j) (nm_r (nI_1 j) (ih (j + 1) fu (by omega) (by omega)))⟩
theorem ys_run {out : Nat → Int32} {k : Nat} (P : zl_P K A B C n nx cf (zk_cl nx) ic) (hk : k < 1700) (hI : ∀ j, j ≤ k → zi_I K nx mp (zk_cl nx) ic (Nat.repeat (zs K A B C nx cf mp) j (zz0 out))) (hX : zi_X mp (Nat.repeat (zs K A B C nx cf mp) (k + 1) (zz0 out)))
    (sa : ∀ p, nx p ≠ 0 → a_nxt p = nI (nx p)) (sc : yr_P K A n cf a_par) (hst : ¬ f_st = 0)
    (H : ∀ y1 y2 y3 y4 y5 u', yr_R K A B C n nx cf mp mt ec ep (Nat.repeat (zs K A B C nx cf mp) (k + 1) (zz0 out)) y1 y2 y3 y4 y5 u' → post (nI (zst (Nat.repeat (zs K A B C nx cf mp) (k + 1) (zz0 out)))) (yst u' (nI (zst (Nat.repeat (zs K A B C nx cf mp) (k + 1) (zz0 out)))))) :
    wpY_run post (mt, nI mp, nI n, f_st, ec, ep, f_outN, f_perfN, f_resN, f_res, f_trap, f_tpos, f_hp, K, A, B, C, a_nxt, a_par, a_nP, a_nK, out, a_ce, a_fp, a_fk, a_fx, a_fb, a_fe, a_rH, a_rTop, a_rBot, a_used) := by
  refine br_f hst ⟨10, ?_⟩
  have W := ys_zero (post := post) (f_maxT := mt) (f_maxP := nI mp) (f_n := nI n) (f_st := f_st) (f_eCode := ec) (f_ePos := ep) (f_outN := 0) (f_perfN := 0) (f_resN := 0) (f_res := 0) (f_trap := 0) (f_tpos := -1) (f_hp := 0) (a_tk := K) (a_ta := A) (a_tb := B) (a_tc := C) (a_nxt := a_nxt) (a_par := a_par) (a_nP := a_nP) (a_nK := a_nK) (a_out := out) (a_ce := a_ce) (a_fp := a_fp) (a_fk := a_fk) (a_fx := a_fx) (a_fb := a_fb) (a_fe := a_fe) (a_rH := a_rH) (a_rTop := a_rTop) (a_rBot := a_rBot) (a_used := a_used) ?_ 9 0 10 (by omega) (by omega)
  · rw [yl_0] at W
    exact W
  refine ⟨1702, ?_⟩
  refine ys_loop (u := (mt, nI mp, nI n, f_st, ec, ep, 0, 0, 0, 0, 0, -1, 0, K, A, B, C, a_nxt, a_par, a_nP, a_nK, out, yl_ce yz0 a_ce 0 9, a_fp, a_fk, a_fx, a_fb, a_fe, a_rH, a_rTop, a_rBot, a_used)) P k (zz0 out) 0 1702 (-1) 0 0 1 1 hI hX ?_ (by omega) (by omega) H
  refine yr_mk (tc := 0) (tp := -1) (on := 0) (pn := 0) (rn := 0) (st := 1) sa sc (fun z => absurd rfl z) (fun z => absurd z (by decide)) (fun _ => ⟨rfl, rfl, (fun p z => by cases z; exact ⟨rfl, rfl, fun j hj => yl_in hj⟩), (fun z => by cases z), ?_⟩)
  exact ⟨fun _ => [], ⟨fun _ => 0, fun k => ⟨⟨0, 0, rfl⟩, trivial, fun p hp => by cases hp⟩⟩, rfl, rfl, fun r hr => by omega⟩
end
