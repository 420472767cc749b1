theorem yr_P1 {K A par : Nat → Int32} {i : Nat} {cf : Nat → Nat → Nat} {z0 : Int32} (h : yr_P K A i cf par) (hk : K i ≠ 15) : yr_P K A (i + 1) cf (upd par i z0) := by
  refine ⟨fun j hj k => ?_, fun t op z => ?_⟩
  · have hji : j ≠ i := fun y => hk (by rw [← y]; exact k)
    obtain ⟨h', op, y1, y2, y3, y4, y5⟩ := h.1 j (by omega) k
    exact ⟨h', op, y1, y2, by rw [zu_n hji]; exact y3, y4, y5⟩
  · obtain ⟨y1, y2, y3, y4, y5⟩ := h.2 t op z
    exact ⟨y1, by omega, y3, by rw [zu_n (by omega)]; exact y4, y5⟩
theorem yr_P0 {K A par : Nat → Int32} {i : Nat} {cf : Nat → Nat → Nat} (h : yr_P K A i cf par) (hk : K i ≠ 15) : yr_P K A (i + 1) cf par := by
  refine ⟨fun j hj k => ?_, fun t op z => ?_⟩
  · have hji : j ≠ i := fun y => hk (by rw [← y]; exact k)
    exact h.1 j (by omega) k
  · obtain ⟨y1, y2, y3, y4, y5⟩ := h.2 t op z
    exact ⟨y1, by omega, y3, y4, y5⟩
theorem yr_P2 {K A par : Nat → Int32} {i t op : Nat} {cf : Nat → Nat → Nat} (h : yr_P K A i cf par) (hk : K i = 15) (hA : A i = nI op) (ho : op < 8) (ht : t < i) (h0 : cf t op = 0) : yr_P K A (i + 1) (zn_set2 cf t op i) (upd par i (nI t)) := by
  refine ⟨fun j hj k => ?_, fun h' op' z => ?_⟩
  · by_cases hji : j = i
    · subst hji
      exact ⟨t, op, ht, ho, zu_s, hA, zn_s2⟩
    · obtain ⟨h', op', y1, y2, y3, y4, y5⟩ := h.1 j (by omega) k
      refine ⟨h', op', y1, y2, by rw [zu_n hji]; exact y3, y4, ?_⟩
      rw [zn_n2 (fun y => ?_)]
      · exact y5
      · rw [y.1, y.2, h0] at y5
        omega
  · by_cases y : h' = t ∧ op' = op
    · obtain ⟨rfl, rfl⟩ := y
      rw [zn_s2]
      exact ⟨ht, by omega, hk, zu_s, hA⟩
    · rw [zn_n2 y] at z ⊢
      obtain ⟨y1, y2, y3, y4, y5⟩ := h.2 h' op' z
      exact ⟨y1, by omega, y3, by rw [zu_n (by omega)]; exact y4, y5⟩
section
variable {f_maxT f_maxP f_n f_st f_eCode f_ePos f_outN f_perfN f_resN f_res f_trap f_tpos f_hp : Int32} {a_tk a_ta a_tb a_tc a_nxt a_par a_nP a_nK a_out a_ce a_fp a_fk a_fx a_fb a_fe a_rH a_rTop a_rBot a_used : Nat → Int32} {n : Nat} {i : Nat} {post : Int32 → SY → Prop} {J : YC} {x3 : Int32} {nx : Nat → Nat} {cf : Nat → Nat → Nat} {ic : Nat → Prop} {stk : List ZE}
theorem yc_318 {sp : Nat} {z0 x2 x4 x8 : Int32} (hi : i < 32) (hsp : sp ≤ 32) (H : J (nI (sp + 1)) x2 x3 x4 (nI (i + 1)) a_tk a_ta a_tb a_tc a_nxt (upd a_par i z0) (upd a_nP sp (nI i)) (upd a_nK sp 0) a_out a_ce a_fp a_fk a_fx a_fb a_fe a_rH a_rTop a_rBot a_used) :
    wY_compile_318 post J (nI sp) x2 x3 x4 (nI i) x8 z0 (nI i) f_maxT f_maxP f_n f_st f_eCode f_ePos f_outN f_perfN f_resN f_res f_trap f_tpos f_hp a_tk a_ta a_tb a_tc a_nxt a_par a_nP a_nK a_out a_ce a_fp a_fk a_fx a_fb a_fe a_rH a_rTop a_rBot a_used := by
  have hci : (nI i).toNatClampNeg = i := nI_clamp (by omega)
  have hcs : (nI sp).toNatClampNeg = sp := nI_clamp (by omega)
  have his : vp_in (nI sp) 33 := vp_in_nI (by omega) (by decide)
  exact ⟨vp_in_nI (by omega) (by decide), nm_r (e' := upd a_par i z0) (by rw [hci]) ⟨his, nm_r (e' := upd a_nP sp (nI i)) (by rw [hcs]) ⟨his, nm_r (e' := upd a_nK sp 0) (by rw [hcs]) (nm_r (nI_1 sp) ⟨1, yc_go0 H⟩)⟩⟩⟩
theorem yc_take (hn : n ≤ 32) (hi : i < n) (hT : zl_T a_tk a_ta a_tb a_tc i) (F : zc_flt a_tk a_ta a_tb a_tc i stk cf 0) (G : ∀ p, nx p ≠ 0 → zl_C a_tk i nx cf (zk_cl nx) ic p) (Z : zk_S a_tk nx cf ic i stk)
    (S : yk_S a_tk a_nP a_nK i stk) (sa : ∀ p, nx p ≠ 0 → a_nxt p = nI (nx p)) (sc : yr_P a_tk a_ta i cf a_par)
    (H : ∀ xt xp nP nK, (∀ p, (zc_take a_tk a_ta i stk nx cf).2.1 p ≠ 0 → xt p = nI ((zc_take a_tk a_ta i stk nx cf).2.1 p)) → yr_P a_tk a_ta (i + 1) (zc_take a_tk a_ta i stk nx cf).2.2 xp → yk_S a_tk nP nK (i + 1) (zc_take a_tk a_ta i stk nx cf).1 →
      J (nI (yk_h (zc_take a_tk a_ta i stk nx cf).1)) 0 x3 (if (zc_take a_tk a_ta i stk nx cf).1 = [] then 1 else 0) (nI (i + 1)) a_tk a_ta a_tb a_tc xt xp nP nK a_out a_ce a_fp a_fk a_fx a_fb a_fe a_rH a_rTop a_rBot a_used) :
    wY_compile_242 post J (nI (yk_h stk)) 0 x3 0 (nI i) (a_tk i) f_maxT f_maxP f_n f_st f_eCode f_ePos f_outN f_perfN f_resN f_res f_trap f_tpos f_hp a_tk a_ta a_tb a_tc a_nxt a_par a_nP a_nK a_out a_ce a_fp a_fk a_fx a_fb a_fe a_rH a_rTop a_rBot a_used := by
  obtain ⟨W, hh⟩ := yk_bnd Z (n := n) (by omega)
  obtain ⟨-, d2, -, d4⟩ := zc_f0 F
  have hN : ∀ p, a_tk p = 14 ∨ a_tk p = 15 → nx p = 0 := by
    intro p hp
    rcases Nat.eq_zero_or_pos (nx p) with z | z
    · exact z
    · obtain ⟨-, -, L⟩ := G p (by omega)
      rcases L with ⟨c, -⟩ | ⟨c, -⟩ | ⟨c, -⟩ | ⟨c, -⟩ | ⟨c, -⟩ <;> (rcases hp with hp | hp <;> (rw [hp] at c; exact absurd c (by decide)))
  refine br_t rfl ?_
  unfold zc_take at H
  by_cases k1 : a_tk i = 1 ∨ a_tk i = 2
  · rw [if_pos k1] at H
    have hA := zc_okA d2 Z (by rcases k1 with k | k <;> (rw [k]; decide))
    have Q := yc_fin (post := post) (J := J) (x2 := 0) (x3 := x3) (f_maxT := f_maxT) (f_maxP := f_maxP) (f_n := f_n) (f_st := f_st) (f_eCode := f_eCode) (f_ePos := f_ePos) (f_outN := f_outN) (f_perfN := f_perfN) (f_resN := f_resN) (f_res := f_res) (f_trap := f_trap) (f_tpos := f_tpos) (f_hp := f_hp) hn hi stk (yk_h stk + 2) 0 i nx a_nxt a_nK (by omega) (by omega) hi hN (by rcases k1 with k | k <;> (rw [k]; decide)) (by rcases k1 with k | k <;> (rw [k]; decide)) W hA sa S (fun xt xK h1 h2 => H xt a_par a_nP xK h1 (yr_P0 sc (by rcases k1 with k | k <;> (rw [k]; decide))) h2)
    rcases k1 with k | k
    · exact br_f (by rw [k]; decide) (br_t k ⟨_, Q⟩)
    · exact br_f (by rw [k]; decide) (br_f (by rw [k]; decide) (br_t k ⟨_, Q⟩))
  · rw [if_neg k1] at H
    by_cases k14 : a_tk i = 14
    · rw [if_pos k14] at H
      rw [k14] at d2
      obtain ⟨t, c, es, rfl, h13⟩ := zc_ok14 d2
      obtain ⟨h1, ⟨k, h2, q1, q2, q3⟩, h3, h4⟩ := S
      have hs : yk_h ((t, 2, c) :: es) = yk_h es + 1 := yk_hs (by omega)
      rw [hs] at hh ⊢
      refine br_f (by rw [k14]; decide) (br_f (by rw [k14]; decide) (br_f (by rw [k14]; decide) (br_f (nI_nle (by omega) (by omega)) ?_)))
      rw [nI_pred]
      refine ⟨vp_in_nI (by omega) (by decide), yc_318 (by omega) (by omega) ?_⟩
      have Q := H a_nxt (upd a_par i (a_nP (nI (yk_h es)).toNatClampNeg)) (upd a_nP (yk_h es + 1) (nI i)) (upd a_nK (yk_h es + 1) 0) sa (yr_P1 sc (by rw [k14]; decide)) ⟨by rw [zu_n (by omega)]; exact h1, ⟨k, by rw [zu_n (by omega)]; exact h2, fun y => absurd h13 y, fun _ => ⟨fun y => by omega, fun _ _ => (q2 h13).1 (by omega), fun _ y => absurd (k14.symm.trans y) (by decide), fun y => by omega⟩, by omega⟩, fun _ => ⟨zu_s, zu_s⟩, yk_m (Nat.le_succ _) (fun j hj => ⟨zu_n (by omega), zu_n (by omega)⟩) h4⟩
      have e1 : zc_cl i ((t, 2, c) :: es) = (t, 3, i) :: es := rfl
      rw [e1] at Q
      rw [if_neg (by simp)] at Q
      exact Q
    · rw [if_neg k14] at H
      by_cases k15 : a_tk i = 15
      · rw [if_pos k15] at H
        obtain ⟨t, c, es, rfl, h13⟩ := zc_ok15 (Or.inl k15) d2
        obtain ⟨⟨op, ho, hA⟩, -⟩ := hT.2.2.2.2 k15
        have hAc : (a_ta i).toNatClampNeg = op := by rw [hA]; exact nI_clamp (by omega)
        have d4' : cf t op = 0 := by rw [← hAc]; exact d4 k15
        rw [hAc] at H
        have hti := Z.1.1
        obtain ⟨h1, ⟨k, h2, q1, q2, q3⟩, h3, h4⟩ := S
        have hs : yk_h ((t, 4, c) :: es) = yk_h es + 1 := yk_hs (by omega)
        have hce : (nI (yk_h es)).toNatClampNeg = yk_h es := nI_clamp (by omega)
        rw [hs] at hh ⊢
        refine br_f (by rw [k15]; decide) (br_f (by rw [k15]; decide) (br_f (by rw [k15]; decide) (br_f (nI_nle (by omega) (by omega)) ?_)))
        rw [nI_pred, hce, h1]
        refine ⟨vp_in_nI (by omega) (by decide), yc_318 (by omega) (by omega) ?_⟩
        have Q := H a_nxt (upd a_par i (nI t)) (upd a_nP (yk_h es + 1) (nI i)) (upd a_nK (yk_h es + 1) 0) sa (yr_P2 sc k15 hA ho hti d4') ⟨by rw [zu_n (by omega)]; exact h1, ⟨k, by rw [zu_n (by omega)]; exact h2, fun y => absurd h13 y, fun _ => ⟨fun y => by omega, fun _ y => absurd (k15.symm.trans y) (by decide), fun _ _ => (q2 h13).2.2.2 rfl, fun y => by omega⟩, by omega⟩, fun _ => ⟨zu_s, zu_s⟩, yk_m (Nat.le_succ _) (fun j hj => ⟨zu_n (by omega), zu_n (by omega)⟩) h4⟩
        have e1 : zc_cl i ((t, 4, c) :: es) = (t, 3, i) :: es := rfl
        rw [e1] at Q
        rw [if_neg (by simp)] at Q
        exact Q
      · rw [if_neg k15] at H
        by_cases k16 : a_tk i = 16
        · rw [if_pos k16] at H
          obtain ⟨t, c, es, rfl, h13⟩ := zc_ok15 (Or.inr k16) d2
          have w1 := (W _ (List.mem_cons_self ..)).1
          dsimp only at w1
          obtain ⟨h1, -, h3, h4⟩ := S
          have hs : yk_h ((t, 4, c) :: es) = yk_h es + 1 := yk_hs (by omega)
          have hce : (nI (yk_h es)).toNatClampNeg = yk_h es := nI_clamp (by omega)
          rw [hs] at hh ⊢
          have Q := yc_fin (post := post) (J := J) (x2 := 0) (x3 := x3) (f_maxT := f_maxT) (f_maxP := f_maxP) (f_n := f_n) (f_st := f_st) (f_eCode := f_eCode) (f_ePos := f_ePos) (f_outN := f_outN) (f_perfN := f_perfN) (f_resN := f_resN) (f_res := f_res) (f_trap := f_trap) (f_tpos := f_tpos) (f_hp := f_hp) hn hi es (yk_h es + 2) 0 t nx a_nxt a_nK (by omega) (by omega) w1 hN (by rw [h13]; decide) (by rw [h13]; decide) (fun e he => W e (List.mem_cons_of_mem _ he)) Z.2.2 sa h4 (fun xt xK g1 g2 => H xt a_par a_nP xK g1 (yr_P0 sc k15) g2)
          refine br_t k16 (br_f (nI_nle (by omega) (by omega)) (nm_r ((zm_a _).trans (nI_pred _)) ⟨vp_in_nI (by omega) (by decide), xm_r hce h1 ⟨_, Q⟩⟩))
        · rw [if_neg k16] at H
          have hs : yk_h ((i, 0, 0) :: stk) = yk_h stk + 1 := yk_hs (by omega)
          have Q : ∀ z0, J (nI (yk_h stk + 1)) 0 x3 0 (nI (i + 1)) a_tk a_ta a_tb a_tc a_nxt (upd a_par i z0) (upd a_nP (yk_h stk) (nI i)) (upd a_nK (yk_h stk) 0) a_out a_ce a_fp a_fk a_fx a_fb a_fe a_rH a_rTop a_rBot a_used := by
            intro z0
            have Q := H a_nxt (upd a_par i z0) (upd a_nP (yk_h stk) (nI i)) (upd a_nK (yk_h stk) 0) sa (yr_P1 sc k15) ⟨zu_s, ⟨0, zu_s, fun _ => rfl, fun _ => ⟨fun _ => rfl, fun y => by omega, fun y => by omega, fun y => by omega⟩, by omega⟩, fun y => by omega, yk_m (Nat.le_succ _) (fun j hj => ⟨zu_n (by omega), zu_n (by omega)⟩) S⟩
            rw [hs] at Q
            rw [if_neg (by simp)] at Q
            exact Q
          refine br_f k16 (br_f (fun z => k1 (Or.inl z)) (br_f (fun z => k1 (Or.inr z)) (br_c (fun _ => yc_318 (by omega) (by omega) (Q _)) (fun z => ⟨?_, yc_318 (by omega) (by omega) (Q _)⟩))))
          have hpos : 0 < yk_h stk := by
            rcases Nat.eq_zero_or_pos (yk_h stk) with y | y
            · rw [y] at z
              exact absurd (by decide) z
            · exact y
          obtain ⟨m, hm⟩ : ∃ m, yk_h stk = m + 1 := ⟨yk_h stk - 1, by omega⟩
          rw [hm, nI_pred]
          exact vp_in_nI (by omega) (by decide)
end
