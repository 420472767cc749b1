section
variable {f_maxT f_maxP f_n f_st f_eCode f_ePos f_outN f_perfN f_resN f_res f_trap f_tpos f_hp : Int32} {a_tk a_ta a_tb a_tc a_nxt a_par a_nP a_nK a_out a_ce a_fp a_fk a_fx a_fb a_fe a_rH a_rTop a_rBot a_used : Nat → Int32} {K A B C : Nat → Int32} {n : Nat} {nx : Nat → Nat} {cf : Nat → Nat → Nat} {mp : Nat} {mt ec ep : Int32} {post : Int32 → SY → Prop} {J : YJ} {v : Int32} {e0 e : Nat → Int32} {S : List ZF} {R : ZR} {pn rn : Nat} {out : Nat → Int32} {on : Nat} {tc tp : Int32} {nc bc hc t i x s : Nat} {h x1 x2 x3 x10 : Int32} {ic : Nat → Prop}
theorem yf_rs1 {r : Nat} {sg : List ZF} {g : ZF} (hn : n ≤ 32) (h16 : pn ≤ 16) (hr : r < pn) (he : e 8 = nI r) (hR : R r = some (sg, g)) (hg1 : g.1 < n) (hgs : g.2.1 = 1) (hhc : hc < 1055) (hx : x < hc) (hh : a_fx x = h)
    (sa : ∀ p, nx p ≠ 0 → a_nxt p = nI (nx p)) (sc : yr_P K A n cf a_par) (E : ∀ j, j < 9 → a_ce j = e j) (G : ys_G a_fp a_fk a_fx a_fb a_fe hc x1 S R pn a_rH a_rTop a_rBot a_used)
    (H : ∀ y1 y2 y3 y4 y5 u', yr_R K A B C n nx cf mp mt ec ep (none, v, e, sg ++ (if A g.1 = 0 then (g.1, 1, h, g.2.2.2) :: S else S), zo_set R (e 8).toNatClampNeg none, pn, rn + 1, out, on, 1, tc, tp, nc, bc, hc + (if A g.1 = 0 then 1 else 0)) y1 y2 y3 y4 y5 u' → yj J y1 y2 y3 y4 y5 (nI (i + 1)) u') :
    wY_run_282 post J x1 x2 v 1 1 (nI i) (nI x) (nI t) 17 x10 mt (nI mp) (nI n) f_st ec ep (nI on) (nI pn) (nI rn) f_res tc tp (nI hc) K A B C a_nxt a_par a_nP a_nK out a_ce a_fp a_fk a_fx a_fb a_fe a_rH a_rTop a_rBot a_used := by
  have hcr : (nI r).toNatClampNeg = r := nI_clamp (by omega)
  have hir : vp_in (nI r) 16 := vp_in_nI (by omega) (by decide)
  have hcx : (nI x).toNatClampNeg = x := nI_clamp (by omega)
  have hcg : (nI g.1).toNatClampNeg = g.1 := nI_clamp (by omega)
  rw [he, hcr] at H
  have m0 : ∀ r', r' ≠ r → a_used r' = 1 → upd a_used r 1 r' = 1 := fun r' z y => by rw [zu_n z]; exact y
  have m1 : ∀ r' y L, r' ≠ r → (a_used r' = 0 ∧ a_rH r' = nI y ∧ a_rTop r' = hf_f (-1) L ∧ a_rBot r' = hf_l (nI y) L) → (upd a_used r 1 r' = 0 ∧ a_rH r' = nI y ∧ a_rTop r' = hf_f (-1) L ∧ a_rBot r' = hf_l (nI y) L) :=
    fun r' y L z w => by rw [zu_n z]; exact w
  obtain ⟨xf, L0, -, ⟨p0, p1, -⟩, ⟨n1, n2, n3, n4, n5, n6⟩, -⟩ := hs_len G sg g r hr hR
  simp only at n1 n2 n3 n6
  have hcf : (nI xf).toNatClampNeg = xf := nI_clamp (by omega)
  have hif : vp_in (nI xf) 1056 := vp_in_nI (by omega) (by decide)
  refine br_t (by decide) (br_f (by decide) (br_f (by decide) (br_f (by decide) (br_f (by decide) (br_f (by decide) (br_f (by decide) (nm_r ((E 8 (by omega)).trans he) (br_f (nI_pos (by omega)) (br_f (nI_nlt (a := 15) (by omega) (by decide)) ⟨hir, br_t (by rw [hcr]; exact p0) ⟨hir, nm_r (e' := upd a_used r 1) (by rw [hcr, yb_1]) (nm_r (nI_1 rn) ⟨hir, xm_r hcr p1 ⟨hif, ?_⟩⟩)⟩⟩)))))))))
  rw [hcf, n3]
  refine ⟨vp_in_nI (by omega) (by decide), ?_⟩
  rw [hcg]
  by_cases hd : A g.1 = 0
  · rw [if_pos hd, if_pos hd] at H
    refine br_t hd (yt_load (by omega) ⟨hif, ?_⟩)
    rw [n3]
    refine yt_push hhc ⟨vp_in_nI (by omega) (by decide), vp_in_nI (by omega) (by decide), nm_r (e' := upd (upd a_fx hc 0) hc h) (by rw [hcx, zu_n (by omega), hh, nI_clamp (by omega)]) ?_⟩
    have G1 := hs_push (EV' := fun x e => ∀ j, j < 9 → yp_fe a_fe (yl_ce a_fe a_ce xf 9) hc 9 (9 * x + j) = e j) (hld' := upd (upd a_fx hc 0) hc h) G (Nat.zero_le _) g.1 1 h g.2.2.2 (fun y hy => by rw [zu_n (by omega), zu_n (by omega)]) (fun _ => zu_s) (fun y e' hy z j hj => (yp_out hj hy).trans (z j hj)) (fun j hj => (yp_in hj).trans ((yl_in hj).trans (n6 j hj)))
    obtain ⟨x', L, l1, ⟨q0, q1, q2, q3⟩, -, l4, l5, l6⟩ := hs_spl G1 hr hR (P0' := fun r' => upd a_used r 1 r' = 1) (P1' := fun r' y L => upd a_used r 1 r' = 0 ∧ a_rH r' = nI y ∧ a_rTop r' = hf_f (-1) L ∧ a_rBot r' = hf_l (nI y) L) m0 m1 zu_s
    refine yt_932 (L := L) (xf := x') (by omega) q2 q3 (fun p hp => by have := (l4 p hp).2.1; omega) (fun z => ?_) (fun L' q z => ?_)
    · have ez : sg = [] := by rw [← l1, z]; rfl
      rw [ez] at H
      exact H _ _ _ _ _ _ (yr_mk sa sc (fun z => absurd rfl z) (fun z => absurd z (by decide)) (fun _ => ⟨rfl, rfl, (fun p z => by cases z), (fun _ => ⟨rfl, rfl⟩), l5 z⟩))
    · have hne : L ≠ [] := by rw [z]; simp
      have l6' := l6 L' q z
      rw [hf_fd (d' := -1) hne] at l6'
      exact H _ _ _ _ _ _ (yr_mk sa sc (fun z => absurd rfl z) (fun z => absurd z (by decide)) (fun _ => ⟨rfl, rfl, (fun p z => by cases z), (fun _ => ⟨rfl, rfl⟩), l6'⟩))
  · rw [if_neg hd, if_neg hd] at H
    refine br_f hd ?_
    obtain ⟨x', L, l1, ⟨q0, q1, q2, q3⟩, -, l4, l5, l6⟩ := hs_spl G hr hR (P0' := fun r' => upd a_used r 1 r' = 1) (P1' := fun r' y L => upd a_used r 1 r' = 0 ∧ a_rH r' = nI y ∧ a_rTop r' = hf_f (-1) L ∧ a_rBot r' = hf_l (nI y) L) m0 m1 zu_s
    refine yt_932 (L := L) (xf := x') (by omega) q2 q3 (fun p hp => by have := (l4 p hp).2.1; omega) (fun z => ?_) (fun L' q z => ?_)
    · have ez : sg = [] := by rw [← l1, z]; rfl
      rw [ez] at H
      exact H _ _ _ _ _ _ (yr_mk sa sc (fun z => absurd rfl z) (fun z => absurd z (by decide)) (fun _ => ⟨rfl, rfl, (fun p z => by cases z), (fun _ => ⟨rfl, rfl⟩), l5 z⟩))
    · have hne : L ≠ [] := by rw [z]; simp
      have l6' := l6 L' q z
      rw [hf_fd (d' := -1) hne] at l6'
      exact H _ _ _ _ _ _ (yr_mk sa sc (fun z => absurd rfl z) (fun z => absurd z (by decide)) (fun _ => ⟨rfl, rfl, (fun p z => by cases z), (fun _ => ⟨rfl, rfl⟩), l6'⟩))
theorem ys_fin (P : zl_P K A B C n nx cf (zk_cl nx) ic) (I : zi_I K nx mp (zk_cl nx) ic (none, v, e0, (t, s, h, e) :: S, R, pn, rn, out, on, 1, tc, tp, nc, bc, hc)) (hkp : ¬ (s = 0 ∧ zs_kp (K t))) (hx : x < hc) (hh : s = 1 → a_fx x = h)
    (sa : ∀ p, nx p ≠ 0 → a_nxt p = nI (nx p)) (sc : yr_P K A n cf a_par) (E : ∀ j, j < 9 → a_ce j = e j) (G : ys_G a_fp a_fk a_fx a_fb a_fe hc x1 S R pn a_rH a_rTop a_rBot a_used)
    (H : ∀ y1 y2 y3 y4 y5 u', yr_R K A B C n nx cf mp mt ec ep (zs K A B C nx cf mp (none, v, e0, (t, s, h, e) :: S, R, pn, rn, out, on, 1, tc, tp, nc, bc, hc)) y1 y2 y3 y4 y5 u' → yj J y1 y2 y3 y4 y5 (nI (i + 1)) u') :
    wY_run_282 post J x1 x2 v 1 1 (nI i) (nI x) (nI t) (K t) (nI (nx (t + 1))) mt (nI mp) (nI n) f_st ec ep (nI on) (nI pn) (nI rn) f_res tc tp (nI hc) K A B C a_nxt a_par a_nP a_nK out a_ce a_fp a_fk a_fx a_fb a_fe a_rH a_rTop a_rBot a_used := by
  obtain ⟨i1, i2, i3, i4, i5, i6, i7, iF, iS, iR, b1, b2, b3⟩ := I
  obtain ⟨f1, f2, f3, f4, f5⟩ := iS _ (List.mem_cons_self ..)
  dsimp only at f1 f2 f3 f4 f5
  have C1 := P.2.2.2.2.2
  have C2 : ∀ p, nx p ≠ 0 → p < nx p ∧ nx p ≤ n := fun p hp => ⟨(C1 p hp).1, (C1 p hp).2.1⟩
  have L := C1 t f1
  have hn := P.1
  have ht : t < n := Nat.lt_of_lt_of_le L.1 L.2.1
  have s1 : zs_kp (K t) → s = 1 := fun c => f4.elim (fun q => absurd ⟨q, c⟩ hkp) (fun q => q.1)
  have hSS : ∀ f ∈ S, f.1 < n ∧ f.2.1 ≤ 1 := by
    intro f hf
    obtain ⟨q1, q2, q3, q4, q5⟩ := iS f (List.mem_cons_of_mem _ hf)
    have Lf := C1 _ q1
    exact ⟨Nat.lt_of_lt_of_le Lf.1 Lf.2.1, by rcases q4 with z | ⟨z, -⟩ <;> omega⟩
  have hlen : S.length < 1000 := by
    have := zw_len K nx S
    simp only [zw_s] at b2
    omega
  have hhc : hc ≤ 592 := by omega
  rcases lc_k L f2 f3 with k | k | k | k | k | k | k | k
  · obtain ⟨c1, c2, c3, c4, -⟩ := lc_if L k
    have q1 := C2 _ c1
    have q2 := C2 _ c2
    have q3 := C2 _ c3
    rw [zr_if k] at H
    rw [k]
    exact yf_if hn (by omega) c2 sa sc E G H
  · obtain ⟨-, c1, c2, c3, -⟩ := lc_bi L (by simp [k])
    obtain ⟨a, ha, hA⟩ := (P.2.2.1 t ht).2.1 (by simp [k])
    rw [zr_let k] at H
    rw [k]
    exact yf_let hn ht hA ha sa sc E G H
  · rw [zr_seq k] at H
    rw [k]
    exact yf_seq sa sc E G H
  · rw [k]
    by_cases ho : on = 16
    · rw [zr_em0 k ho] at H
      exact yf_em0 ho sa sc H
    · rw [zr_em1 k ho] at H
      exact yf_em1 (by omega) sa sc G H
  · obtain ⟨op, ho, hA⟩ := (P.2.2.1 t ht).2.1 (by simp [k])
    have hAc : (A t).toNatClampNeg = op := by rw [hA]; exact nI_clamp (by omega)
    rw [k]
    by_cases hp : pn = mp
    · rw [zr_pf0 k hp] at H
      exact yf_pf0 hp sa sc H
    · cases hf : zs_fnd K cf (A t).toNatClampNeg S with
      | none =>
        rw [zr_pf1 k hp hf] at H
        rw [hAc] at hf
        exact yf_pf1 hn ht (by omega) i5 hA ho (by omega) hlen hSS (zf_none hf) sa sc G H
      | some q =>
        obtain ⟨sg, g, sb⟩ := q
        rw [zr_pf2 k hp hf] at H
        rw [hAc] at hf H
        obtain ⟨y1, y2, y3⟩ := zf_some hf
        obtain ⟨g1, -⟩ := iS g (List.mem_cons_of_mem _ (by rw [y1]; simp))
        have Lg := C1 _ g1
        have Lg2 := C2 _ g1
        obtain ⟨-, -, -, -, -, -, -, -, c9⟩ := lc_ha Lg y2.1
        obtain ⟨d1, d2, d3, d4⟩ := c9 op ho y2.2.2
        have q4 := C2 _ d3
        have hcs : cf g.1 op < n := by omega
        obtain ⟨-, ⟨yb, hyb, hB⟩, ⟨w, hw, hC⟩⟩ := (P.2.2.1 _ hcs).2.2.2.2 d2
        exact yf_pf2 hn ht (by omega) i5 hA ho (by omega) hlen hSS y1 y2 y3 hcs hC hw hB hyb sa sc G H
  · have z1 := s1 (by rw [k]; decide)
    obtain ⟨c1, c2, c3, c4, c5, c6, c7, c8, -⟩ := lc_ha L k
    have q1 := C2 _ c1
    have q2 := C2 _ c2
    have q3 := C2 _ c6
    obtain ⟨⟨a, ha, hA⟩, ⟨y, hy, hB⟩⟩ := (P.2.2.1 (nx (nx (t + 1))) (by omega)).2.2.2.1 c5
    rw [zr_ret k z1] at H
    rw [k]
    exact yf_ret hn rfl c2 (by omega) (by omega) hA ha hB hy (by omega) (hh z1) sa sc E G H
  · have z1 := s1 (by rw [k]; decide)
    obtain ⟨c0, -⟩ := lc_bi L (by simp [k])
    obtain ⟨r, hr, he⟩ := f5 (c0 k)
    have hcr : (e 8).toNatClampNeg = r := by rw [he]; exact nI_clamp (by omega)
    rw [k]
    cases hf : R (e 8).toNatClampNeg with
    | none =>
      rw [zr_rs0 k z1 hf] at H
      rw [hcr] at hf
      exact yf_rs0 (by omega) hr he hf sa sc E G H
    | some q =>
      obtain ⟨sg, g⟩ := q
      rw [zr_rs1 k z1 hf] at H
      rw [hcr] at hf
      obtain ⟨r1, r2, r3, r4⟩ := iR r hr sg g hf
      have Lg := C2 _ r2.1
      exact yf_rs1 hn (by omega) hr he hf (by omega) r4 (by omega) hx (hh z1) sa sc E G H
  · have z1 := s1 (by rcases k with k | k | k | k | k <;> (rw [k]; decide))
    rw [zr_bin k z1] at H
    exact yf_bin k (by omega) (hh z1) sa sc G H
theorem ys_one (P : zl_P K A B C n nx cf (zk_cl nx) ic) {z : ZZ} {u : SY} {fu : Nat} {y1 y2 y3 y4 y5 : Int32} (I : zi_I K nx mp (zk_cl nx) ic z) (X : yr_R K A B C n nx cf mp mt ec ep z y1 y2 y3 y4 y5 u) (hi : i < 65536)
    (H : ∀ y1 y2 y3 y4 y5 u', yr_R K A B C n nx cf mp mt ec ep (zs K A B C nx cf mp z) y1 y2 y3 y4 y5 u' → yj (wY_run_80 post fu) y1 y2 y3 y4 y5 (nI (i + 1)) u') : yj (wY_run_80 post (fu + 1)) y1 y2 y3 y4 y5 (nI i) u := by
  obtain ⟨f_maxT, f_maxP, f_n, f_st, f_eCode, f_ePos, f_outN, f_perfN, f_resN, f_res, f_trap, f_tpos, f_hp, a_tk, a_ta, a_tb, a_tc, a_nxt, a_par, a_nP, a_nK, a_out, a_ce, a_fp, a_fk, a_fx, a_fb, a_fe, a_rH, a_rTop, a_rBot, a_used⟩ := u
  obtain ⟨fo, v, e, S, R, pn, rn, out, on, st, tc, tp, nc, bc, hc⟩ := z
  have i1 : st = 1 := I.1
  subst i1
  obtain ⟨⟨rfl, rfl, rfl, rfl, rfl, rfl, rfl, rfl, rfl, rfl⟩, ⟨rfl, rfl, rfl, rfl, rfl⟩, sa, sc, -, -, h1⟩ := X
  obtain ⟨r0, r1, hfo, hno, G⟩ := h1 rfl
  subst r0 r1
  have I' := I
  obtain ⟨i1, i2, i3, i4, i5, i6, i7, iF, iS, iR, b1, b2, b3⟩ := I
  have hn := P.1
  have C1 := P.2.2.2.2.2
  have C2 : ∀ p, nx p ≠ 0 → p < nx p ∧ nx p ≤ n := fun p hp => ⟨(C1 p hp).1, (C1 p hp).2.1⟩
  refine br_f (by decide) (br_f (nI_ge (b := 65536) hi (by decide)) ?_)
  cases fo with
  | some p =>
    obtain ⟨r2, r3, E⟩ := hfo p rfl
    subst r2 r3
    have hcl := (iF p rfl).1
    have l := C2 p hcl
    have hcp : (nI p).toNatClampNeg = p := nI_clamp (by omega)
    have hip : vp_in (nI p) 33 := vp_in_nI (by omega) (by decide)
    refine br_f (by decide) ⟨hip, xm_r hcp rfl ?_⟩
    by_cases k1 : a_tk p = 1
    · rw [zr_leaf1 k1] at H
      refine br_t k1 ⟨hip, xm_r hcp rfl (nm_r (nI_1 i) ?_)⟩
      exact H _ _ _ _ _ _ (yr_mk sa sc (fun z => absurd rfl z) (fun z => absurd z (by decide)) (fun _ => ⟨rfl, rfl, (fun p z => by cases z), (fun _ => ⟨rfl, rfl⟩), G⟩))
    · by_cases k2 : a_tk p = 2
      · obtain ⟨a, ha, hA⟩ := (P.2.2.1 p (by omega)).2.1 (Or.inl k2)
        have hca : (nI a).toNatClampNeg = a := nI_clamp (by omega)
        rw [zr_leaf2 k2, hA, hca] at H
        refine br_f k1 (br_t k2 ⟨hip, ?_⟩)
        rw [hcp, hA]
        refine ⟨vp_in_nI (by omega) (by decide), xm_r hca (E a (by omega)) (nm_r (nI_1 i) ?_)⟩
        exact H _ _ _ _ _ _ (yr_mk sa sc (fun z => absurd rfl z) (fun z => absurd z (by decide)) (fun _ => ⟨rfl, rfl, (fun p z => by cases z), (fun _ => ⟨rfl, rfl⟩), G⟩))
      · rw [zr_push k1 k2] at H
        refine br_f k1 (br_f k2 (yt_push (by omega) (nm_r (nI_1 p) (nm_r (nI_1 i) ?_))))
        refine H _ _ _ _ _ _ (yr_mk sa sc (fun z => absurd rfl z) (fun z => absurd z (by decide)) (fun _ => ⟨rfl, rfl, (fun p z => by cases z; exact ⟨rfl, rfl, E⟩), (fun z => by cases z), ?_⟩))
        exact hs_push G (Nat.zero_le _) p 0 0 e (fun y hy => zu_n (by omega)) (fun z => absurd z (by decide)) (fun y e' hy z j hj => (yp_out hj hy).trans (z j hj)) (fun j hj => (yp_in hj).trans (E j hj))
  | none =>
    obtain ⟨r2, r3⟩ := hno rfl
    subst r2 r3
    refine br_t rfl ?_
    cases S with
    | nil =>
      rw [zr_done] at H
      have z := hs_nil G
      subst z
      refine br_f (by decide) (nm_r (nI_1 i) ?_)
      exact H _ _ _ _ _ _ (yr_mk sa sc (fun _ => rfl) (fun _ => rfl) (fun z => absurd z (by decide)))
    | cons f S =>
      obtain ⟨t, s, h, e1⟩ := f
      obtain ⟨f1, f2, f3, f4, f5⟩ := iS _ (List.mem_cons_self ..)
      dsimp only at f1 f2 f3 f4 f5
      have L := C1 t f1
      have lt := C2 t f1
      obtain ⟨x, x1, x2, x3, x4, x5, x6, x7, x9, x10⟩ := hs_top G
      subst x1
      have hcx : (nI x).toNatClampNeg = x := nI_clamp (by omega)
      have hct : (nI t).toNatClampNeg = t := nI_clamp (by omega)
      have hix : vp_in (nI x) 1056 := vp_in_nI (by omega) (by decide)
      have hc1 : nx (t + 1) ≠ 0 := by
        rcases lc_k L f2 f3 with k | k | k | k | k | k | k | k
        · exact (lc_if L k).1
        · exact (lc_bi L (by simp [k])).2.1
        · exact (lc_bi L (by simp [k])).2.1
        · exact (lc_un L (by simp [k])).1
        · exact (lc_un L (by simp [k])).1
        · exact (lc_ha L k).1
        · exact (lc_bi L (by simp [k])).2.1
        · exact (lc_bi L (by rcases k with k | k | k | k | k <;> simp [k])).2.1
      have l1 := C2 _ hc1
      refine br_t (nI_pos' (by omega)) ⟨hix, xm_r hcx x4 ⟨vp_in_nI (by omega) (by decide), xm_r hct rfl ⟨by rw [nI_1]; exact vp_in_nI (by omega) (by decide), nm_r (e' := nI (nx (t + 1))) (by rw [nI_1, nI_clamp (by omega)]; exact sa _ hc1) (yt_load (by omega) ⟨hix, xm_r hcx rfl ⟨hix, ?_⟩⟩)⟩⟩⟩
      rw [hcx, x5]
      have E : ∀ j, j < 9 → yl_ce a_fe a_ce x 9 j = e1 j := fun j hj => (yl_in hj).trans (x7 j hj)
      by_cases hkp : s = 0 ∧ zs_kp (a_tk t)
      · obtain ⟨z0, hk⟩ := hkp
        subst z0
        rw [zr_keep rfl hk] at H
        have W : wY_run_257 post (wY_run_80 post fu) y3 1 1 (nI i) (nI x) (nI (nx (t + 1))) f_maxT (nI mp) (nI n) f_st f_eCode f_ePos (nI on) (nI pn) (nI rn) f_res f_trap f_tpos (nI hc) a_tk a_ta a_tb a_tc a_nxt a_par a_nP a_nK a_out (yl_ce a_fe a_ce x 9) a_fp a_fk a_fx a_fb a_fe a_rH a_rTop a_rBot a_used := by
          refine ⟨hix, nm_r (e' := upd a_fx x y3) (by rw [hcx]) ⟨hix, nm_r (e' := upd a_fk x 1) (by rw [hcx]) (nm_r (nI_1 i) ?_)⟩⟩
          exact H _ _ _ _ _ _ (yr_mk sa sc (fun z => absurd rfl z) (fun z => absurd z (by decide)) (fun _ => ⟨rfl, rfl, (fun p z => by cases z; exact ⟨rfl, rfl, E⟩), (fun z => by cases z), x10 y3⟩))
        refine br_t rfl ?_
        rcases hk with k | k | k | k | k | k | k
        · exact br_t (by rw [k]; decide) W
        · exact br_t (by rw [k]; decide) W
        · exact br_t (by rw [k]; decide) W
        · exact br_t (by rw [k]; decide) W
        · exact br_t (by rw [k]; decide) W
        · exact br_f (by rw [k]; decide) (br_f (by rw [k]; decide) (br_t k W))
        · exact br_f (by rw [k]; decide) (br_t k W)
      · have F := ys_fin (post := post) (x2 := y2) (f_st := f_st) (f_res := f_res) (a_nP := a_nP) (a_nK := a_nK) P I' hkp x3 x6 sa sc E x9 H
        rcases f4 with z0 | ⟨z1, zk⟩
        · subst z0
          have hnk : ¬ zs_kp (a_tk t) := fun z => hkp ⟨rfl, z⟩
          have h5 : a_tk t = 8 ∨ a_tk t = 9 ∨ a_tk t = 10 ∨ a_tk t = 11 ∨ a_tk t = 12 := by
            rcases lc_k L f2 f3 with k | k | k | k | k | k | k | k
            · simp [k]
            · simp [k]
            · simp [k]
            · simp [k]
            · simp [k]
            · exact absurd (by rw [k]; decide) hnk
            · exact absurd (by rw [k]; decide) hnk
            · exact absurd (by rcases k with k | k | k | k | k <;> (rw [k]; decide)) hnk
          refine br_t rfl (br_f ?_ (br_f ?_ (br_f ?_ F)))
          · rcases h5 with k | k | k | k | k <;> (rw [k]; decide)
          · rcases h5 with k | k | k | k | k <;> (rw [k]; decide)
          · rcases h5 with k | k | k | k | k <;> (rw [k]; decide)
        · subst z1
          exact br_f (by decide) F
end
