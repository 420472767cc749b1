abbrev YC : Type := Int32 → Int32 → Int32 → Int32 → Int32 → (Nat → Int32) → (Nat → Int32) → (Nat → Int32) → (Nat → Int32) → (Nat → Int32) → (Nat → Int32) → (Nat → Int32) → (Nat → Int32) → (Nat → Int32) → (Nat → Int32) → (Nat → Int32) → (Nat → Int32) → (Nat → Int32) → (Nat → Int32) → (Nat → Int32) → (Nat → Int32) → (Nat → Int32) → (Nat → Int32) → (Nat → Int32) → Prop
section
variable {f_maxT f_maxP f_n f_st f_eCode f_ePos f_outN f_perfN f_resN f_res f_trap f_tpos f_hp : Int32} {a_tk a_ta a_tb a_tc a_nxt a_par a_nP a_nK a_out a_ce a_fp a_fk a_fx a_fb a_fe a_rH a_rTop a_rBot a_used : Nat → Int32} {n : Nat} {i : Nat} {post : Int32 → SY → Prop} {J : YC} {x2 x3 x4 : Int32}
theorem yc_ar {post : Int32 → Prop} {k : Int32} (h14 : k ≠ 14) (h15 : k ≠ 15) (H : post (if k = 13 then 99 else nI (zc_pc k))) : wpY_arity post (f_maxT, f_maxP, f_n, f_st, f_eCode, f_ePos, f_outN, f_perfN, f_resN, f_res, f_trap, f_tpos, f_hp, a_tk, a_ta, a_tb, a_tc, a_nxt, a_par, a_nP, a_nK, a_out, a_ce, a_fp, a_fk, a_fx, a_fb, a_fe, a_rH, a_rTop, a_rBot, a_used) k := by
  unfold zc_pc at H
  by_cases k13 : k = 13
  · rw [if_pos k13] at H
    exact br_t k13 H
  · rw [if_neg k13] at H
    by_cases k8 : k = 8
    · rw [if_neg (by rw [k8]; decide), if_pos k8] at H
      exact br_f k13 (br_t k8 H)
    · by_cases k11 : k = 11
      · rw [if_pos (Or.inl k11)] at H
        exact br_f k13 (br_f k8 (br_t k11 H))
      · by_cases k12 : k = 12
        · rw [if_pos (Or.inr k12)] at H
          exact br_f k13 (br_f k8 (br_f k11 (br_t k12 H)))
        · rw [if_neg (fun z => z.elim k11 k12), if_neg k8] at H
          exact br_f k13 (br_f k8 (br_f k11 (br_f k12 (br_f h14 (br_f h15 H)))))
theorem yc_ac {post : Int32 → Prop} {k : Int32} (h : k = 14 ∨ k = 15) (H : post 1) : wpY_arity post (f_maxT, f_maxP, f_n, f_st, f_eCode, f_ePos, f_outN, f_perfN, f_resN, f_res, f_trap, f_tpos, f_hp, a_tk, a_ta, a_tb, a_tc, a_nxt, a_par, a_nP, a_nK, a_out, a_ce, a_fp, a_fk, a_fx, a_fb, a_fe, a_rH, a_rTop, a_rBot, a_used) k := by
  rcases h with rfl | rfl
  · exact br_f (by decide) (br_f (by decide) (br_f (by decide) (br_f (by decide) (br_t rfl H))))
  · exact br_f (by decide) (br_f (by decide) (br_f (by decide) (br_f (by decide) (br_f (by decide) (br_t rfl H)))))
theorem yc_go0 {x1 x8 x10 : Int32} {fu : Nat} (H : J x1 x2 x3 x4 (nI (i + 1)) a_tk a_ta a_tb a_tc a_nxt a_par a_nP a_nK a_out a_ce a_fp a_fk a_fx a_fb a_fe a_rH a_rTop a_rBot a_used) :
    wY_compile_343 post J x2 x3 (nI i) f_maxT f_maxP f_n f_st f_eCode f_ePos f_outN f_perfN f_resN f_res f_trap f_tpos f_hp (fu + 1) x1 x4 x8 0 x10 a_tk a_ta a_tb a_tc a_nxt a_par a_nP a_nK a_out a_ce a_fp a_fk a_fx a_fb a_fe a_rH a_rTop a_rBot a_used := br_t rfl (nm_r (nI_1 i) H)
theorem yc_fin (hn : n ≤ 32) (hi : i < n) : ∀ (stk : List ZE) (fu g st : Nat) (nx : Nat → Nat) (xt xK : Nat → Int32), yk_h stk + 2 ≤ fu → g + yk_h stk ≤ 33 → st < n → (∀ p, a_tk p = 14 ∨ a_tk p = 15 → nx p = 0) → a_tk st ≠ 14 → a_tk st ≠ 15 →
    yk_W a_tk n stk → zk_A a_tk stk → (∀ p, nx p ≠ 0 → xt p = nI (nx p)) → yk_S a_tk a_nP xK i stk →
    (∀ xt' xK', (∀ p, (zc_fin a_tk i (zn_set nx st (i + 1)) stk).1 p ≠ 0 → xt' p = nI ((zc_fin a_tk i (zn_set nx st (i + 1)) stk).1 p)) → yk_S a_tk a_nP xK' (i + 1) (zc_fin a_tk i (zn_set nx st (i + 1)) stk).2 →
      J (nI (yk_h (zc_fin a_tk i (zn_set nx st (i + 1)) stk).2)) x2 x3 (if (zc_fin a_tk i (zn_set nx st (i + 1)) stk).2 = [] then 1 else 0) (nI (i + 1)) a_tk a_ta a_tb a_tc xt' a_par a_nP xK' a_out a_ce a_fp a_fk a_fx a_fb a_fe a_rH a_rTop a_rBot a_used) →
    wY_compile_343 post J x2 x3 (nI i) f_maxT f_maxP f_n f_st f_eCode f_ePos f_outN f_perfN f_resN f_res f_trap f_tpos f_hp fu (nI (yk_h stk)) 0 (nI st) 1 (nI g) a_tk a_ta a_tb a_tc xt a_par a_nP xK a_out a_ce a_fp a_fk a_fx a_fb a_fe a_rH a_rTop a_rBot a_used := by
  intro stk
  induction stk with
  | nil =>
    intro fu g st nx xt xK hf hg hst hN h14 h15 W ZA sa S H
    obtain ⟨fu, rfl⟩ : ∃ f', fu = f' + 2 := ⟨fu - 2, by omega⟩
    have hcs : (nI st).toNatClampNeg = st := nI_clamp (by omega)
    have Q := H (upd xt st (nI (i + 1))) xK (xn_a sa) trivial
    rw [if_pos (c := (zc_fin a_tk i (zn_set nx st (i + 1)) []).2 = []) rfl] at Q
    exact br_f (by decide) (br_f (nI_ge (b := 34) (by simp [yk_h] at hg; omega) (by decide)) ⟨vp_in_nI (by omega) (by decide), nm_r (e' := upd xt st (nI (i + 1))) (by rw [hcs, nI_1]) (br_t rfl (nm_r (nI_1 g) (yc_go0 Q)))⟩)
  | cons e es ih =>
    intro fu g st nx xt xK hf hg hst hN h14 h15 W ZA sa S H
    obtain ⟨t, s, c⟩ := e
    obtain ⟨w1, w2, w3, w4, w5, w6⟩ := W _ (List.mem_cons_self ..)
    dsimp only at w1 w2 w3 w4 w5 w6
    obtain ⟨h1, ⟨k, h2, k1, k2, k3⟩, h3, h4⟩ := S
    have q := ZA _ (List.mem_cons_self ..)
    have hcs : (nI st).toNatClampNeg = st := nI_clamp (by omega)
    have his : vp_in (nI st) 33 := vp_in_nI (by omega) (by decide)
    have hct : (nI t).toNatClampNeg = t := nI_clamp (by omega)
    have hit : vp_in (nI t) 33 := vp_in_nI (by omega) (by decide)
    by_cases z : s = 3
    · obtain ⟨z1, z2, z3⟩ := w6 z
      obtain ⟨h5, h6⟩ := h3 z
      subst z
      rw [yk_h3] at hf hg
      obtain ⟨fu, rfl⟩ : ∃ f', fu = f' + 3 := ⟨fu - 3, by omega⟩
      have e : zc_fin a_tk i (zn_set nx st (i + 1)) ((t, 3, c) :: es) = (zn_set nx st (i + 1), (t, 4, c) :: es) := by simp only [zc_fin]; rw [if_pos (Or.inl z2)]
      rw [e] at H
      have hcc : (nI c).toNatClampNeg = c := nI_clamp (by omega)
      have hic : vp_in (nI c) 33 := vp_in_nI (by omega) (by decide)
      have hch : (nI (yk_h es + 1)).toNatClampNeg = yk_h es + 1 := nI_clamp (by omega)
      have hih : vp_in (nI (yk_h es + 1)) 33 := vp_in_nI (by omega) (by decide)
      have hch0 : (nI (yk_h es)).toNatClampNeg = yk_h es := nI_clamp (by omega)
      have hih0 : vp_in (nI (yk_h es)) 33 := vp_in_nI (by omega) (by decide)
      have hp1 : nI (yk_h es + 2) - 1 = nI (yk_h es + 1) := nI_pred _
      have hp0 : nI (yk_h es + 1) - 1 = nI (yk_h es) := nI_pred _
      have hcst : c ≠ st := fun y => by rw [y] at z3; exact z3.elim h14 h15
      have Q := H (upd (upd xt st (nI (i + 1))) c (nI (i + 1))) (upd (upd xK (yk_h es + 1) 1) (yk_h es) (nI (k + 1))) ?_ ?_
      · rw [yk_h3]
        rw [yk_hs (by omega), if_neg (by simp)] at Q
        refine br_f (by decide) (br_f (nI_ge (b := 34) (by omega) (by decide)) ⟨his, nm_r (e' := upd xt st (nI (i + 1))) (by rw [hcs, nI_1]) (br_f (nI_ne0 (by omega) (by omega)) ?_)⟩)
        rw [hp1, hch, h5, h6, hcc]
        refine ⟨hih, hih, nm_r (e' := upd xK (yk_h es + 1) 1) rfl ⟨hih, hih, hic, yc_ac z3 (br_t zu_s (nm_r ((zm_a _).trans hp1) ⟨hih, xm_r hch h5 (nm_r (nI_1 g) ?_)⟩))⟩⟩
        refine br_f (by decide) (br_f (nI_ge (b := 34) (by omega) (by decide)) ⟨hic, nm_r (e' := upd (upd xt st (nI (i + 1))) c (nI (i + 1))) (by rw [hcc, nI_1]) (br_f (nI_ne0 (by omega) (by omega)) ?_)⟩)
        rw [hp0, hch0, h1, zu_n (by omega), h2, hct]
        refine ⟨hih0, hih0, nm_r (e' := upd (upd xK (yk_h es + 1) 1) (yk_h es) (nI (k + 1))) (by rw [nI_1]) ⟨hih0, hih0, hit, yc_ar w3 w4 ?_⟩⟩
        rw [if_pos z2]
        refine br_f ?_ (nm_r (nI_1 _) (yc_go0 Q))
        rw [zu_s]
        exact fun y => absurd ((nI_eq (b := 99) (by omega) (by decide)).mp y) (by omega)
      · intro p hp
        have hpc : p ≠ c := fun y => hp (by rw [y]; show zn_set nx st (i + 1) c = 0; rw [zn_n hcst]; exact hN c z3)
        rw [zu_n hpc]
        exact xn_a sa p hp
      · refine ⟨h1, ⟨k + 1, zu_s, fun y => absurd z2 y, fun _ => ⟨fun y => by omega, fun y => by omega, fun y => by omega, fun _ => ?_⟩, by omega⟩, fun y => by omega, yk_m (Nat.le_succ _) (fun j hj => ⟨rfl, by rw [zu_n (by omega), zu_n (by omega)]⟩) h4⟩
        obtain ⟨-, a2, a3, -⟩ := k2 z2
        rcases z3 with y | y
        · have := a2 rfl y; omega
        · have := a3 rfl y; omega
    · rw [yk_hs z] at hf hg
      rw [yk_hs z]
      obtain ⟨fu, rfl⟩ : ∃ f', fu = f' + 2 := ⟨fu - 2, by omega⟩
      have hch0 : (nI (yk_h es)).toNatClampNeg = yk_h es := nI_clamp (by omega)
      have hih0 : vp_in (nI (yk_h es)) 33 := vp_in_nI (by omega) (by decide)
      have hp0 : nI (yk_h es + 1) - 1 = nI (yk_h es) := nI_pred _
      refine br_f (by decide) (br_f (nI_ge (b := 34) (by omega) (by decide)) ⟨his, nm_r (e' := upd xt st (nI (i + 1))) (by rw [hcs, nI_1]) (br_f (nI_ne0 (by omega) (by omega)) ?_)⟩)
      rw [hp0, hch0, h1, h2, hct]
      refine ⟨hih0, hih0, nm_r (e' := upd xK (yk_h es) (nI (k + 1))) (by rw [nI_1]) ⟨hih0, hih0, hit, yc_ar w3 w4 ?_⟩⟩
      rw [zu_s]
      by_cases hc : a_tk t = 13 ∨ s + 1 < zc_pc (a_tk t)
      · have e : zc_fin a_tk i (zn_set nx st (i + 1)) ((t, s, c) :: es) = (zn_set nx st (i + 1), (t, s + 1, c) :: es) := by simp only [zc_fin]; rw [if_pos hc]
        rw [e] at H
        have hpc := xc_pc3 (a_tk t)
        have hs3 : s + 1 ≠ 3 := fun y => by
          rcases hc with y1 | y1
          · exact q ⟨y1, Or.inl (by dsimp only; omega)⟩
          · omega
        have hs4 : a_tk t = 13 → s ≠ 4 := fun y1 y => q ⟨y1, Or.inr y⟩
        have Q := H (upd xt st (nI (i + 1))) (upd xK (yk_h es) (nI (k + 1))) (xn_a sa) ?_
        · rw [yk_hs hs3, if_neg (by simp)] at Q
          refine br_f ?_ (nm_r (nI_1 g) (yc_go0 Q))
          by_cases k13 : a_tk t = 13
          · rw [if_pos k13]
            exact fun y => absurd ((nI_eq (b := 99) (by omega) (by decide)).mp y) (by omega)
          · rw [if_neg k13, k1 k13]
            have := hc.resolve_left k13
            exact fun y => absurd ((nI_eq (by omega) (by omega)).mp y) (by omega)
        · refine ⟨h1, ⟨k + 1, zu_s, fun y => by rw [k1 y], fun y => ⟨fun y2 => by rw [(k2 y).1 (by omega)], fun y2 => by omega, fun y2 => by omega, fun y2 => by omega⟩, by omega⟩, fun y => absurd y hs3, yk_m (Nat.le_succ _) (fun j hj => ⟨rfl, zu_n (by omega)⟩) h4⟩
      · have e : zc_fin a_tk i (zn_set nx st (i + 1)) ((t, s, c) :: es) = zc_fin a_tk i (zn_set (zn_set nx st (i + 1)) t (i + 1)) es := by simp only [zc_fin]; rw [if_neg hc]
        rw [e] at H
        have k13 : ¬ a_tk t = 13 := fun y => hc (Or.inl y)
        have hs := w5 k13
        have hs1 : s + 1 = zc_pc (a_tk t) := by
          have : ¬ s + 1 < zc_pc (a_tk t) := fun y => hc (Or.inr y)
          omega
        rw [if_neg k13, k1 k13, hs1]
        refine br_t rfl (nm_r ((zm_a _).trans hp0) ⟨hih0, xm_r hch0 h1 (nm_r (nI_1 g) ?_)⟩)
        refine ih (fu + 1) (g + 1) t (zn_set nx st (i + 1)) _ _ (by omega) (by omega) w1 ?_ w3 w4 (fun e he => W e (List.mem_cons_of_mem _ he)) (fun e he => ZA e (List.mem_cons_of_mem _ he)) (xn_a sa) (yk_m (Nat.le_refl _) (fun j hj => ⟨rfl, zu_n (by omega)⟩) h4) H
        intro p hp
        rw [zn_n (fun y => by rw [y] at hp; exact hp.elim h14 h15)]
        exact hN p hp
end
