theorem yb_0 : vp_nar .boolean 0 = 0 := by decide
theorem yb_1 : vp_nar .boolean 1 = 1 := by decide
theorem hf_fd {d d' : Int32} : ∀ {L : List HPr}, L ≠ [] → hf_f d L = hf_f d' L
  | [], h => absurd rfl h
  | _ :: _, _ => rfl
section
variable {f_maxT f_maxP f_n f_st f_eCode f_ePos f_outN f_perfN f_resN f_res f_trap f_tpos f_hp : Int32} {a_tk a_ta a_tb a_tc a_nxt a_par a_nP a_nK a_out a_ce a_fp a_fk a_fx a_fb a_fe a_rH a_rTop a_rBot a_used : Nat → Int32} {K A B C : Nat → Int32} {n : Nat} {nx : Nat → Nat} {cf : Nat → Nat → Nat} {mp : Nat} {mt ec ep : Int32} {post : Int32 → SY → Prop} {J : YJ} {v : Int32} {e : Nat → Int32} {S : List ZF} {R : ZR} {pn rn : Nat} {out : Nat → Int32} {on : Nat} {tc tp : Int32} {nc bc hc t i x : Nat} {h x1 x2 x3 x4 x5 x6 x7 x10 : Int32}
theorem yw_walk {op : Nat} {e0 : Int32} {EV : Nat → (Nat → Int32) → Prop} (hn : n ≤ 32) (ht : t < n) (ho : op < 8) (hA : a_ta t = nI op) (hhc : hc ≤ 1056) (sc : yr_P a_tk a_ta n cf a_par) :
    ∀ (L : List HPr) (fu g : Nat) (a0 : Int32), hl_C a_fb a0 L e0 → (∀ p ∈ L, hn_N a_fp a_fk a_fx EV 0 hc p) → (∀ p ∈ L, p.2.1 < n ∧ p.2.2.1 ≤ 1 ∧ ¬ zs_hd a_tk cf op p.2) → g + L.length < 1056 →
    wY_run_535 post J x1 x2 x3 x4 x5 x6 (nI t) f_maxT f_maxP (nI n) f_st f_eCode f_ePos f_outN f_perfN f_resN f_res f_trap f_tpos f_hp a_tk a_ta a_tb a_tc a_nxt a_par a_nP a_nK a_out a_ce a_fp a_fk a_fx a_fb a_fe a_rH a_rTop a_rBot a_used fu e0 (-1) (nI (g + L.length)) → wY_run_535 post J x1 x2 x3 x4 x5 x6 (nI t) f_maxT f_maxP (nI n) f_st f_eCode f_ePos f_outN f_perfN f_resN f_res f_trap f_tpos f_hp a_tk a_ta a_tb a_tc a_nxt a_par a_nP a_nK a_out a_ce a_fp a_fk a_fx a_fb a_fe a_rH a_rTop a_rBot a_used (fu + L.length) a0 (-1) (nI g) := by
  have hct : (nI t).toNatClampNeg = t := nI_clamp (by omega)
  intro L
  induction L with
  | nil =>
    intro fu g a0 c nd hs hi W
    have c' : a0 = e0 := c
    subst c'
    exact W
  | cons p L ih =>
    intro fu g a0 c nd hs hi W
    obtain ⟨c1, c2⟩ := c
    subst c1
    rw [List.length_cons] at hi W
    obtain ⟨n1, n2, n3, n4, n5, n6⟩ := nd p (List.mem_cons_self ..)
    obtain ⟨s1, s2, s3⟩ := hs p (List.mem_cons_self ..)
    have hcx : (nI p.1).toNatClampNeg = p.1 := nI_clamp (by omega)
    have hix : vp_in (nI p.1) 1056 := vp_in_nI (by omega) (by decide)
    have hcp : (nI p.2.1).toNatClampNeg = p.2.1 := nI_clamp (by omega)
    have W' := ih fu (g + 1) (a_fb p.1) c2 (fun q hq => nd q (List.mem_cons_of_mem _ hq)) (fun q hq => hs q (List.mem_cons_of_mem _ hq)) (by omega) (by rw [Nat.add_assoc, Nat.add_comm 1]; exact W)
    have Z : wY_run_601 post J (wY_run_535 post J x1 x2 x3 x4 x5 x6 (nI t) f_maxT f_maxP (nI n) f_st f_eCode f_ePos f_outN f_perfN f_resN f_res f_trap f_tpos f_hp a_tk a_ta a_tb a_tc a_nxt a_par a_nP a_nK a_out a_ce a_fp a_fk a_fx a_fb a_fe a_rH a_rTop a_rBot a_used (fu + L.length)) x1 x2 x3 x4 x5 x6 (nI t) (nI p.1) (-1) (nI g) f_maxT f_maxP (nI n) f_st f_eCode f_ePos f_outN f_perfN f_resN f_res f_trap f_tpos f_hp a_tk a_ta a_tb a_tc a_nxt a_par a_nP a_nK a_out a_ce a_fp a_fk a_fx a_fb a_fe a_rH a_rTop a_rBot a_used :=
      br_f (by decide) ⟨hix, xm_r hcx rfl (nm_r (nI_1 g) W')⟩
    show wY_run_535 post J x1 x2 x3 x4 x5 x6 (nI t) f_maxT f_maxP (nI n) f_st f_eCode f_ePos f_outN f_perfN f_resN f_res f_trap f_tpos f_hp a_tk a_ta a_tb a_tc a_nxt a_par a_nP a_nK a_out a_ce a_fp a_fk a_fx a_fb a_fe a_rH a_rTop a_rBot a_used ((fu + L.length) + 1) (nI p.1) (-1) (nI g)
    refine br_f (nI_ge (b := 1056) (by omega) (by decide)) (br_f (nI_pos (by omega)) (br_f (by decide) ⟨hix, ?_⟩))
    rw [hcx, n3, n4, hct, hA]
    refine ⟨vp_in_nI (by omega) (by decide), ?_⟩
    rw [hcp]
    by_cases k : a_tk p.2.1 = 13
    · refine br_t k ⟨hix, ?_⟩
      by_cases k1 : p.2.2.1 = 1
      · have z0 : cf p.2.1 op = 0 := Classical.byContradiction fun y => s3 ⟨k, k1, y⟩
        rw [k1]
        refine br_t rfl ⟨hix, vp_in_nI (by omega) (by decide), yt_find hn s1 ho sc ?_⟩
        rw [if_pos z0]
        exact Z
      · exact br_f (fun z => k1 ((nI_eq (b := 1) (by omega) (by decide)).mp z)) Z
    · exact br_f k Z
theorem yf_pf0 (hp : pn = mp)
    (sa : ∀ p, nx p ≠ 0 → a_nxt p = nI (nx p)) (sc : yr_P K A n cf a_par)
    (H : ∀ y1 y2 y3 y4 y5 u', yr_R K A B C n nx cf mp mt ec ep (none, v, e, S, R, pn, rn, out, on, 3, 3, nI t, nc, bc, hc) y1 y2 y3 y4 y5 u' → yj J y1 y2 y3 y4 y5 (nI (i + 1)) u') :
    wY_run_282 post J x1 x2 v 1 1 (nI i) x7 (nI t) 12 x10 mt (nI mp) (nI n) f_st ec ep (nI on) (nI pn) (nI rn) f_res tc tp (nI hc) K A B C a_nxt a_par a_nP a_nK out a_ce a_fp a_fk a_fx a_fb a_fe a_rH a_rTop a_rBot a_used := by
  subst hp
  refine br_t (by decide) (br_f (by decide) (br_f (by decide) (br_f (by decide) (br_f (by decide) (br_f (by decide) (br_t rfl (br_t rfl (nm_r (nI_1 i) ?_))))))))
  exact H _ _ _ _ _ _ (yr_mk sa sc (fun _ => rfl) (fun z => absurd z (by decide)) (fun z => absurd z (by decide)))
theorem yf_pf1 {op : Nat} (hn : n ≤ 32) (ht : t < n) (hp : pn < mp) (h16 : mp ≤ 16) (hA : A t = nI op) (ho : op < 8) (hhc : hc ≤ 1056) (hlen : S.length < 1000)
    (hS : ∀ f ∈ S, f.1 < n ∧ f.2.1 ≤ 1) (hf : ∀ f ∈ S, ¬ zs_hd K cf op f)
    (sa : ∀ p, nx p ≠ 0 → a_nxt p = nI (nx p)) (sc : yr_P K A n cf a_par) (G : ys_G a_fp a_fk a_fx a_fb a_fe hc x1 S R pn a_rH a_rTop a_rBot a_used)
    (H : ∀ y1 y2 y3 y4 y5 u', yr_R K A B C n nx cf mp mt ec ep (none, v, e, S, R, pn + 1, rn, out, on, 3, 1, nI t, nc, bc, hc) y1 y2 y3 y4 y5 u' → yj J y1 y2 y3 y4 y5 (nI (i + 1)) u') :
    wY_run_282 post J x1 x2 v 1 1 (nI i) x7 (nI t) 12 x10 mt (nI mp) (nI n) f_st ec ep (nI on) (nI pn) (nI rn) f_res tc tp (nI hc) K A B C a_nxt a_par a_nP a_nK out a_ce a_fp a_fk a_fx a_fb a_fe a_rH a_rTop a_rBot a_used := by
  obtain ⟨L, l1, l2, l3⟩ := hs_all G
  have hll : L.length = S.length := by rw [← l1, List.length_map]
  have hm : ∀ p ∈ L, p.2 ∈ S := fun p hp => by rw [← l1]; exact List.mem_map.mpr ⟨p, hp, rfl⟩
  refine br_t (by decide) (br_f (by decide) (br_f (by decide) (br_f (by decide) (br_f (by decide) (br_f (by decide) (br_t rfl (br_f (fun z => absurd ((nI_eq (by omega) (by omega)).mp z) (by omega)) (nm_r (nI_1 pn) ⟨1 + L.length, ?_⟩))))))))
  refine yw_walk (cf := cf) (n := n) (e0 := -1) hn ht ho hA hhc sc L 1 0 _ l2 l3 (fun p hp => ⟨(hS _ (hm p hp)).1, (hS _ (hm p hp)).2, hf _ (hm p hp)⟩) (by omega) ?_
  refine br_f (nI_ge (b := 1056) (by omega) (by decide)) (br_t (by decide) (br_f (by decide) (nm_r (nI_1 i) ?_)))
  exact H _ _ _ _ _ _ (yr_mk sa sc (fun _ => rfl) (fun z => absurd z (by decide)) (fun z => absurd z (by decide)))
theorem yw_bot {x12 x13 : Int32} (hx : x < 1056) : ∀ (L : List HPr) (p : HPr) (fu g : Nat), hl_C a_fb (a_fb p.1) L (nI x) → p.1 < 1056 → (∀ q ∈ L, q.1 < 1056 ∧ q.1 ≠ x) → p.1 ≠ x → g + L.length < 1056 →
    wY_run_699 post J x1 x3 x4 x5 x6 (nI x) x12 x13 (hf_l (nI p.1) L) f_maxT f_maxP f_n f_st f_eCode f_ePos f_outN f_perfN f_resN f_res f_trap f_tpos f_hp a_tk a_ta a_tb a_tc a_nxt a_par a_nP a_nK a_out a_ce a_fp a_fk a_fx a_fb a_fe a_rH a_rTop a_rBot a_used → wY_run_652 post J x1 x3 x4 x5 x6 (nI x) x12 x13 f_maxT f_maxP f_n f_st f_eCode f_ePos f_outN f_perfN f_resN f_res f_trap f_tpos f_hp a_tk a_ta a_tb a_tc a_nxt a_par a_nP a_nK a_out a_ce a_fp a_fk a_fx a_fb a_fe a_rH a_rTop a_rBot a_used (fu + L.length + 1) (nI p.1) (nI g) := by
  intro L
  induction L with
  | nil =>
    intro p fu g c hp hL hpx hg W
    have hcp : (nI p.1).toNatClampNeg = p.1 := nI_clamp (by omega)
    have c' : a_fb p.1 = nI x := c
    exact br_f (nI_ge (b := 1056) (by simp at hg; omega) (by decide)) (br_f (nI_pos (by omega)) (br_f (fun z => hpx ((nI_eq (by omega) (by omega)).mp z)) ⟨vp_in_nI hp (by decide), br_t (by rw [hcp]; exact c') W⟩))
  | cons q L ih =>
    intro p fu g c hp hL hpx hg W
    obtain ⟨c1, c2⟩ := c
    rw [List.length_cons] at hg
    have hq := hL q (List.mem_cons_self ..)
    have hcp : (nI p.1).toNatClampNeg = p.1 := nI_clamp (by omega)
    have W' := ih q fu (g + 1) c2 hq.1 (fun r hr => hL r (List.mem_cons_of_mem _ hr)) hq.2 (by omega) W
    exact br_f (nI_ge (b := 1056) (by omega) (by decide)) (br_f (nI_pos (by omega)) (br_f (fun z => hpx ((nI_eq (by omega) (by omega)).mp z)) ⟨vp_in_nI hp (by decide), br_f (by rw [hcp, c1]; exact fun z => hq.2 ((nI_eq (by omega) (by omega)).mp z)) ⟨vp_in_nI hp (by decide), xm_r hcp c1 (nm_r (nI_1 g) W')⟩⟩))
theorem yf_pf2 {op y w : Nat} {sg : List ZF} {g : ZF} {sb : List ZF} (hn : n ≤ 32) (ht : t < n) (hp : pn < mp) (h16 : mp ≤ 16) (hA : A t = nI op) (ho : op < 8) (hhc : hc ≤ 1056) (hlen : S.length < 1000)
    (hS : ∀ f ∈ S, f.1 < n ∧ f.2.1 ≤ 1) (hSe : S = sg ++ g :: sb) (hg : zs_hd K cf op g) (hf : ∀ f ∈ sg, ¬ zs_hd K cf op f)
    (hcs : cf g.1 op < n) (hC : C (cf g.1 op) = nI w) (hw : w < 8) (hB : B (cf g.1 op) = nI y) (hy : y < 8)
    (sa : ∀ p, nx p ≠ 0 → a_nxt p = nI (nx p)) (sc : yr_P K A n cf a_par) (G : ys_G a_fp a_fk a_fx a_fb a_fe hc x1 S R pn a_rH a_rTop a_rBot a_used)
    (H : ∀ y1 y2 y3 y4 y5 u', yr_R K A B C n nx cf mp mt ec ep (some (cf g.1 op + 1), v, upd (upd (upd g.2.2.2 (C (cf g.1 op)).toNatClampNeg g.2.2.1) (B (cf g.1 op)).toNatClampNeg v) 8 (nI pn), sb, zo_set R pn (some (sg, g)), pn + 1, rn, out, on, 1, tc, tp, nc, bc + 3, hc) y1 y2 y3 y4 y5 u' → yj J y1 y2 y3 y4 y5 (nI (i + 1)) u') :
    wY_run_282 post J x1 x2 v 1 1 (nI i) x7 (nI t) 12 x10 mt (nI mp) (nI n) f_st ec ep (nI on) (nI pn) (nI rn) f_res tc tp (nI hc) K A B C a_nxt a_par a_nP a_nK out a_ce a_fp a_fk a_fx a_fb a_fe a_rH a_rTop a_rBot a_used := by
  have hct : (nI t).toNatClampNeg = t := nI_clamp (by omega)
  have hcw : (nI w).toNatClampNeg = w := nI_clamp (by omega)
  have hcy : (nI y).toNatClampNeg = y := nI_clamp (by omega)
  rw [hB, hC, hcw, hcy] at H
  rw [hSe] at G
  obtain ⟨L, x, l1, l2, l3, ⟨n1, n2, n3, n4, n5, n6⟩, l5, l6⟩ := hs_cap G
  have hll : L.length ≤ S.length := by rw [hSe, ← l1, List.length_append, List.length_map]; omega
  have hm : ∀ p ∈ L, p.2 ∈ sg := fun p hp => by rw [← l1]; exact List.mem_map.mpr ⟨p, hp, rfl⟩
  have hms : ∀ p ∈ L, p.2 ∈ S := fun p hp => by rw [hSe]; exact List.mem_append.mpr (Or.inl (hm p hp))
  have hgS := hS g (by rw [hSe]; simp)
  simp only at n1 n2 n3 n4 n5 n6
  have hNx : ∀ p ∈ L, p.1 ≠ x := fun p hp => ((hl_Na.mp l5).2.2 p hp (x, g) (List.mem_cons_self ..)).symm
  have hcx : (nI x).toNatClampNeg = x := nI_clamp (by omega)
  have hix : vp_in (nI x) 1056 := vp_in_nI (by omega) (by decide)
  have hcp : (nI pn).toNatClampNeg = pn := nI_clamp (by omega)
  have hip : vp_in (nI pn) 16 := vp_in_nI (by omega) (by decide)
  have hcg : (nI g.1).toNatClampNeg = g.1 := nI_clamp (by omega)
  have hcc : (nI (cf g.1 op)).toNatClampNeg = cf g.1 op := nI_clamp (by omega)
  have hic : vp_in (nI (cf g.1 op)) 33 := vp_in_nI (by omega) (by decide)
  have h0c : (0 : Int32) ≤ nI (cf g.1 op) := nI_pos' (by omega)
  refine br_t (by decide) (br_f (by decide) (br_f (by decide) (br_f (by decide) (br_f (by decide) (br_f (by decide) (br_t rfl (br_f (fun z => absurd ((nI_eq (by omega) (by omega)).mp z) (by omega)) (nm_r (nI_1 pn) ⟨2 + L.length, ?_⟩))))))))
  refine yw_walk (cf := cf) (n := n) (e0 := nI x) hn ht ho hA hhc sc L 2 0 _ l2 l3 (fun p hp => ⟨(hS _ (hms p hp)).1, (hS _ (hms p hp)).2, hf _ (hm p hp)⟩) (by omega) ?_
  refine br_f (nI_ge (b := 1056) (by omega) (by decide)) (br_f (nI_pos (by omega)) (br_f (by decide) ⟨hix, ?_⟩))
  rw [hcx, n3, n4, hct, hA]
  refine ⟨vp_in_nI (by omega) (by decide), ?_⟩
  rw [hcg, hg.2.1]
  refine br_t hg.1 ⟨hix, br_t rfl ⟨hix, vp_in_nI (by omega) (by decide), yt_find hn hgS.1 ho sc ?_⟩⟩
  rw [if_neg hg.2.2]
  refine br_t h0c (nm_r (nI_1 _) ?_)
  refine br_f (nI_ge (b := 1056) (by omega) (by decide)) (br_f (nI_pos (by omega)) (br_t h0c (br_t h0c (nm_r (nI_pred pn) ⟨0 + L.length + 1, ?_⟩))))
  have G' := l6 (fun r => upd a_used pn 0 r = 1) (fun r x' M => upd a_used pn 0 r = 0 ∧ upd a_rH pn (nI x) r = nI x' ∧ upd a_rTop pn (hf_f (-1) L) r = hf_f (-1) M ∧ upd a_rBot pn (hf_l (nI x) L) r = hf_l (nI x') M) ?_ ?_ ?_
  · have E : ∀ j, j < 9 → upd (upd (upd (yl_ce a_fe a_ce x 9) w g.2.2.1) y v) 8 (nI pn) j = upd (upd (upd g.2.2.2 w g.2.2.1) y v) 8 (nI pn) j := zu_ce (zu_ce (zu_ce (fun j hj => (yl_in hj).trans (n6 j hj))))
    have D : wY_run_699 post J x1 v 1 1 (nI i) (nI x) (nI (cf g.1 op)) (nI pn) (hf_l (nI x) L) mt (nI mp) (nI n) f_st ec ep (nI on) (nI (pn + 1)) (nI rn) f_res tc tp (nI hc) K A B C a_nxt a_par a_nP a_nK out a_ce a_fp a_fk a_fx a_fb a_fe a_rH a_rTop a_rBot a_used := by
      have D2 : ∀ z0, z0 = hf_f (-1) L → wY_run_725 post J v 1 1 (nI i) (nI x) (nI (cf g.1 op)) (nI pn) (hf_l (nI x) L) z0 (nI pn) mt (nI mp) (nI n) f_st ec ep (nI on) (nI (pn + 1)) (nI rn) f_res tc tp (nI hc) K A B C a_nxt a_par a_nP a_nK out a_ce a_fp a_fk a_fx a_fb a_fe (upd a_rH pn (nI x)) a_rTop a_rBot a_used := by
        intro z0 ez
        subst ez
        refine ⟨hip, nm_r (e' := upd a_rTop pn (hf_f (-1) L)) (by rw [hcp]) ⟨hip, nm_r (e' := upd a_rBot pn (hf_l (nI x) L)) (by rw [hcp]) ⟨hip, nm_r (e' := upd a_used pn 0) (by rw [hcp, yb_0]) ?_⟩⟩⟩
        refine yt_load (by omega) ⟨hic, hix, by rw [hcc, hC]; exact vp_in_nI (by omega) (by decide), nm_r (e' := upd (yl_ce a_fe a_ce x 9) w g.2.2.1) (by rw [hcc, hC, hcw, hcx, n5 hg.2.1]) ⟨hic, by rw [hcc, hB]; exact vp_in_nI (by omega) (by decide), nm_r (e' := upd (upd (yl_ce a_fe a_ce x 9) w g.2.2.1) y v) (by rw [hcc, hB, hcy]) (nm_e ⟨hix, xm_r hcx rfl (nm_r (nI_1 _) (nm_r (nI_1 i) ?_))⟩)⟩⟩
        exact H _ _ _ _ _ _ (yr_mk sa sc (fun z => absurd rfl z) (fun z => absurd z (by decide)) (fun _ => ⟨rfl, rfl, (fun p z => by cases z; exact ⟨rfl, rfl, E⟩), (fun z => by cases z), G'⟩))
      refine ⟨hip, nm_r (e' := upd a_rH pn (nI x)) (by rw [hcp]) ?_⟩
      cases L with
      | nil =>
        have c' : x1 = nI x := l2
        exact br_t c' (D2 _ rfl)
      | cons p L =>
        have c' : x1 = nI p.1 := l2.1
        have hp1 := (l3 p (List.mem_cons_self ..)).2.1
        exact br_f (fun z => hNx p (List.mem_cons_self ..) ((nI_eq (by omega) (by omega)).mp (c'.symm.trans z))) (D2 _ c')
    cases L with
    | nil =>
      have c' : x1 = nI x := l2
      refine br_f (by decide) (br_f (by rw [c']; exact nI_pos (by omega)) (br_t c' ?_))
      rw [c'] at D ⊢
      exact D
    | cons p L =>
      have c' : x1 = nI p.1 := l2.1
      have hp1 := (l3 p (List.mem_cons_self ..)).2.1
      have Wb := yw_bot (post := post) (J := J) (x1 := x1) (x3 := v) (x4 := 1) (x5 := 1) (x6 := nI i) (x12 := nI (cf g.1 op)) (x13 := nI pn) (x := x) (by omega) L p 1 0 l2.2 (by omega) (fun q hq => ⟨by have := (l3 q (List.mem_cons_of_mem _ hq)).2.1; omega, hNx q (List.mem_cons_of_mem _ hq)⟩) (hNx p (List.mem_cons_self ..)) (by rw [List.length_cons] at hll; omega) D
      rw [List.length_cons, c', Nat.zero_add, Nat.add_comm L.length 1]
      rw [c'] at Wb
      exact Wb
  · intro r hr z
    rw [zu_n (by omega)]
    exact z
  · intro r y' L' hr ⟨z1, z2, z3, z4⟩
    rw [zu_n (by omega), zu_n (by omega), zu_n (by omega), zu_n (by omega)]
    exact ⟨z1, z2, z3, z4⟩
  · exact ⟨zu_s, zu_s, zu_s, zu_s⟩
theorem yt_932 {r : Nat} {L : List HPr} {x13 : Int32} {xf : Nat} (hr : r < 16) (hT : a_rTop r = hf_f (-1) L) (hB : a_rBot r = hf_l (nI xf) L) (hL : ∀ p ∈ L, p.1 < 1056)
    (H0 : L = [] → yj J x13 x2 x3 x4 x5 (nI (i + 1)) (f_maxT, f_maxP, f_n, f_st, f_eCode, f_ePos, f_outN, f_perfN, f_resN, f_res, f_trap, f_tpos, f_hp, a_tk, a_ta, a_tb, a_tc, a_nxt, a_par, a_nP, a_nK, a_out, a_ce, a_fp, a_fk, a_fx, a_fb, a_fe, a_rH, a_rTop, a_rBot, a_used)) (H1 : ∀ L' q, L = L' ++ [q] → yj J (hf_f (-1) L) x2 x3 x4 x5 (nI (i + 1)) (f_maxT, f_maxP, f_n, f_st, f_eCode, f_ePos, f_outN, f_perfN, f_resN, f_res, f_trap, f_tpos, f_hp, a_tk, a_ta, a_tb, a_tc, a_nxt, a_par, a_nP, a_nK, a_out, a_ce, a_fp, a_fk, a_fx, upd a_fb q.1 x13, a_fe, a_rH, a_rTop, a_rBot, a_used)) :
    wY_run_932 post J x2 x3 x4 x5 (nI i) (nI r) x13 f_maxT f_maxP f_n f_st f_eCode f_ePos f_outN f_perfN f_resN f_res f_trap f_tpos f_hp a_tk a_ta a_tb a_tc a_nxt a_par a_nP a_nK a_out a_ce a_fp a_fk a_fx a_fb a_fe a_rH a_rTop a_rBot a_used := by
  have hcr : (nI r).toNatClampNeg = r := nI_clamp (by omega)
  have hir : vp_in (nI r) 16 := vp_in_nI hr (by decide)
  rcases hf_sp L with hz | ⟨L', q, hz⟩
  · have e0 : hf_f (-1) L = -1 := by rw [hz]; rfl
    exact ⟨hir, br_t (by rw [hcr, hT, e0]; decide) (nm_r (nI_1 i) (H0 hz))⟩
  · have e0 : hf_l (nI xf) L = nI q.1 := by rw [hz]; exact hf_la
    have hq := hL q (by rw [hz]; simp)
    have hcq : (nI q.1).toNatClampNeg = q.1 := nI_clamp (by omega)
    have ht : ¬ hf_f (-1) L < 0 := by
      cases L with
      | nil => exact absurd hz.symm (by simp)
      | cons p L => have := hL p (List.mem_cons_self ..); exact nI_pos (by omega)
    have hb : a_rBot (nI r).toNatClampNeg = nI q.1 := by rw [hcr, hB, e0]
    refine ⟨hir, br_f (by rw [hcr, hT]; exact ht) ⟨hir, br_f (by rw [hb]; exact nI_pos (by omega)) ⟨hir, by rw [hb]; exact vp_in_nI hq (by decide), nm_r (e' := upd a_fb q.1 x13) (by rw [hb, hcq]) ⟨hir, xm_r hcr hT (nm_r (nI_1 i) (H1 L' q hz))⟩⟩⟩⟩
theorem yf_rs0 {r : Nat} (h16 : pn ≤ 16) (hr : r < pn) (he : e 8 = nI r) (hR : R r = none)
    (sa : ∀ p, nx p ≠ 0 → a_nxt p = nI (nx p)) (sc : yr_P K A n cf a_par) (E : ∀ j, j < 9 → a_ce j = e j) (G : ys_G a_fp a_fk a_fx a_fb a_fe hc x1 S R pn a_rH a_rTop a_rBot a_used)
    (H : ∀ y1 y2 y3 y4 y5 u', yr_R K A B C n nx cf mp mt ec ep (none, v, e, S, R, pn, rn, out, on, 3, 2, nI t, nc, bc, hc) y1 y2 y3 y4 y5 u' → yj J y1 y2 y3 y4 y5 (nI (i + 1)) u') :
    wY_run_282 post J x1 x2 v 1 1 (nI i) x7 (nI t) 17 x10 mt (nI mp) (nI n) f_st ec ep (nI on) (nI pn) (nI rn) f_res tc tp (nI hc) K A B C a_nxt a_par a_nP a_nK out a_ce a_fp a_fk a_fx a_fb a_fe a_rH a_rTop a_rBot a_used := by
  have hcr : (nI r).toNatClampNeg = r := nI_clamp (by omega)
  obtain ⟨Q, -, -, -, q4⟩ := G
  have z0 := (q4 r hr).1 hR
  refine br_t (by decide) (br_f (by decide) (br_f (by decide) (br_f (by decide) (br_f (by decide) (br_f (by decide) (br_f (by decide) (nm_r ((E 8 (by omega)).trans he) (br_f (nI_pos (by omega)) (br_f (nI_nlt (a := 15) (by omega) (by decide)) ⟨vp_in_nI (by omega) (by decide), br_f (by rw [hcr, z0]; decide) (nm_r (nI_1 i) ?_)⟩)))))))))
  exact H _ _ _ _ _ _ (yr_mk sa sc (fun _ => rfl) (fun z => absurd z (by decide)) (fun z => absurd z (by decide)))
end
