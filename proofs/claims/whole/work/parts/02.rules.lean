section
variable {K A B C : Nat → Int32} {n : Nat} {nx : Nat → Nat} {cf : Nat → Nat → Nat} {mp : Nat} {cl ic : Nat → Prop} {v : Int32} {e0 e : Nat → Int32} {S : List ZF} {R : ZR} {pn rn : Nat} {out : Nat → Int32} {on st : Nat} {tc tp : Int32} {nc bc hc t s : Nat} {h : Int32}
theorem lc_leaf {p : Nat} (L : zl_C K n nx cf cl ic p) (hk : K p = 1 ∨ K p = 2) : nx p = p + 1 := by
  obtain ⟨-, -, L⟩ := L
  rcases L with ⟨-, r⟩ | ⟨c, -⟩ | ⟨c, -⟩ | ⟨c, -⟩ | ⟨c, -⟩
  · exact r
  all_goals (rcases hk with hk | hk <;> exact absurd c (by rw [hk]; decide))
theorem lc_un {p : Nat} (L : zl_C K n nx cf cl ic p) (hk : K p = 11 ∨ K p = 12) : cl (p + 1) ∧ nx p = nx (p + 1) ∧ (ic (p + 1) → ic p) := by
  obtain ⟨-, -, L⟩ := L
  rcases L with ⟨c, -⟩ | ⟨-, r⟩ | ⟨c, -⟩ | ⟨c, -⟩ | ⟨c, -⟩
  · rcases hk with hk | hk <;> exact absurd c (by rw [hk]; decide)
  · exact r
  all_goals (rcases hk with hk | hk <;> exact absurd c (by rw [hk]; decide))
theorem lc_bi {p : Nat} (L : zl_C K n nx cf cl ic p) (hk : K p = 3 ∨ K p = 4 ∨ K p = 5 ∨ K p = 6 ∨ K p = 7 ∨ K p = 9 ∨ K p = 10 ∨ K p = 17) :
    (K p = 17 → ic p) ∧ cl (p + 1) ∧ cl (nx (p + 1)) ∧ nx p = nx (nx (p + 1)) ∧ (ic (p + 1) → ic p) ∧ (ic (nx (p + 1)) → ic p) := by
  obtain ⟨-, -, L⟩ := L
  rcases L with ⟨c, -⟩ | ⟨c, -⟩ | ⟨-, r⟩ | ⟨c, -⟩ | ⟨c, -⟩
  · rcases hk with hk | hk | hk | hk | hk | hk | hk | hk <;> exact absurd c (by rw [hk]; decide)
  · rcases hk with hk | hk | hk | hk | hk | hk | hk | hk <;> exact absurd c (by rw [hk]; decide)
  · exact r
  all_goals (rcases hk with hk | hk | hk | hk | hk | hk | hk | hk <;> exact absurd c (by rw [hk]; decide))
theorem lc_if {p : Nat} (L : zl_C K n nx cf cl ic p) (hk : K p = 8) :
    cl (p + 1) ∧ cl (nx (p + 1)) ∧ cl (nx (nx (p + 1))) ∧ nx p = nx (nx (nx (p + 1))) ∧ (ic (p + 1) → ic p) ∧ (ic (nx (p + 1)) → ic p) ∧ (ic (nx (nx (p + 1))) → ic p) := by
  obtain ⟨-, -, L⟩ := L
  rcases L with ⟨c, -⟩ | ⟨c, -⟩ | ⟨c, -⟩ | ⟨-, r⟩ | ⟨c, -⟩
  · exact absurd c (by rw [hk]; decide)
  · exact absurd c (by rw [hk]; decide)
  · exact absurd c (by rw [hk]; decide)
  · exact r
  · exact absurd c (by rw [hk]; decide)
theorem lc_ha {p : Nat} (L : zl_C K n nx cf cl ic p) (hk : K p = 13) :
    cl (p + 1) ∧ cl (nx (p + 1)) ∧ (ic (p + 1) → ic p) ∧ (ic (nx (p + 1)) → ic p) ∧
     K (nx (nx (p + 1))) = 14 ∧ cl (nx (nx (p + 1)) + 1) ∧ (ic (nx (nx (p + 1)) + 1) → ic p) ∧ nx (nx (nx (p + 1)) + 1) < nx p ∧
     ∀ op, op < 8 → cf p op ≠ 0 → p < cf p op ∧ K (cf p op) = 15 ∧ cl (cf p op + 1) ∧ nx (cf p op + 1) < nx p := by
  obtain ⟨-, -, L⟩ := L
  rcases L with ⟨c, -⟩ | ⟨c, -⟩ | ⟨c, -⟩ | ⟨c, -⟩ | ⟨-, r⟩
  · exact absurd c (by rw [hk]; decide)
  · exact absurd c (by rw [hk]; decide)
  · exact absurd c (by rw [hk]; decide)
  · exact absurd c (by rw [hk]; decide)
  · exact r
theorem lc_k {p : Nat} (L : zl_C K n nx cf cl ic p) (h1 : K p ≠ 1) (h2 : K p ≠ 2) :
    K p = 8 ∨ K p = 9 ∨ K p = 10 ∨ K p = 11 ∨ K p = 12 ∨ K p = 13 ∨ K p = 17 ∨ (K p = 3 ∨ K p = 4 ∨ K p = 5 ∨ K p = 6 ∨ K p = 7) := by
  obtain ⟨-, -, L⟩ := L
  rcases L with ⟨c, -⟩ | ⟨c, -⟩ | ⟨c, -⟩ | ⟨c, -⟩ | ⟨c, -⟩
  · rcases c with c | c
    · exact absurd c h1
    · exact absurd c h2
  · rcases c with c | c <;> simp [c]
  · rcases c with c | c | c | c | c | c | c | c <;> simp [c]
  · simp [c]
  · simp [c]
theorem zk_no {x : Int32} {a : Int32} (hx : x = a) (h : ¬ zs_kp a) : ¬ (s = 0 ∧ zs_kp x) := fun c => h (hx ▸ c.2)
theorem zr_leaf1 {p : Nat} (hk : K p = 1) : zs K A B C nx cf mp (some p, v, e, S, R, pn, rn, out, on, st, tc, tp, nc, bc, hc) = (none, A p, e, S, R, pn, rn, out, on, 1, tc, tp, nc, bc, hc) := by
  show (if _ then _ else _) = _
  rw [if_pos hk]
theorem zr_leaf2 {p : Nat} (hk : K p = 2) : zs K A B C nx cf mp (some p, v, e, S, R, pn, rn, out, on, st, tc, tp, nc, bc, hc) = (none, e (A p).toNatClampNeg, e, S, R, pn, rn, out, on, 1, tc, tp, nc, bc, hc) := by
  show (if _ then _ else _) = _
  rw [if_neg (by rw [hk]; decide), if_pos hk]
theorem zr_push {p : Nat} (h1 : K p ≠ 1) (h2 : K p ≠ 2) : zs K A B C nx cf mp (some p, v, e, S, R, pn, rn, out, on, st, tc, tp, nc, bc, hc) = (some (p + 1), v, e, (p, 0, 0, e) :: S, R, pn, rn, out, on, 1, tc, tp, nc + 1, bc, hc + 1) := by
  show (if _ then _ else _) = _
  rw [if_neg h1, if_neg h2]
theorem zr_done : zs K A B C nx cf mp (none, v, e, [], R, pn, rn, out, on, st, tc, tp, nc, bc, hc) = (none, v, e, [], R, pn, rn, out, on, 2, tc, tp, nc, bc, hc) := rfl
theorem zr_keep (hs : s = 0) (hk : zs_kp (K t)) : zs K A B C nx cf mp (none, v, e0, (t, s, h, e) :: S, R, pn, rn, out, on, st, tc, tp, nc, bc, hc) = (some (nx (t + 1)), v, e, (t, 1, v, e) :: S, R, pn, rn, out, on, 1, tc, tp, nc, bc, hc) := by
  show zs_h K A B C nx cf mp v t s h e S R pn rn out on tc tp nc bc hc = _
  unfold zs_h
  rw [if_pos ⟨hs, hk⟩]
theorem zr_if (hk : K t = 8) : zs K A B C nx cf mp (none, v, e0, (t, s, h, e) :: S, R, pn, rn, out, on, st, tc, tp, nc, bc, hc) = (some (if v = 0 then nx (nx (t + 1)) else nx (t + 1)), v, e, S, R, pn, rn, out, on, 1, tc, tp, nc, bc, hc) := by
  show zs_h K A B C nx cf mp v t s h e S R pn rn out on tc tp nc bc hc = _
  unfold zs_h
  rw [if_neg (zk_no hk (by decide)), if_pos hk]
theorem zr_let (hk : K t = 9) : zs K A B C nx cf mp (none, v, e0, (t, s, h, e) :: S, R, pn, rn, out, on, st, tc, tp, nc, bc, hc) = (some (nx (t + 1)), v, upd e (A t).toNatClampNeg v, S, R, pn, rn, out, on, 1, tc, tp, nc, bc + 1, hc) := by
  show zs_h K A B C nx cf mp v t s h e S R pn rn out on tc tp nc bc hc = _
  unfold zs_h
  rw [if_neg (zk_no hk (by decide)), if_neg (by rw [hk]; decide), if_pos hk]
theorem zr_seq (hk : K t = 10) : zs K A B C nx cf mp (none, v, e0, (t, s, h, e) :: S, R, pn, rn, out, on, st, tc, tp, nc, bc, hc) = (some (nx (t + 1)), v, e, S, R, pn, rn, out, on, 1, tc, tp, nc, bc, hc) := by
  show zs_h K A B C nx cf mp v t s h e S R pn rn out on tc tp nc bc hc = _
  unfold zs_h
  rw [if_neg (zk_no hk (by decide)), if_neg (by rw [hk]; decide), if_neg (by rw [hk]; decide), if_pos hk]
theorem zr_em0 (hk : K t = 11) (ho : on = 16) : zs K A B C nx cf mp (none, v, e0, (t, s, h, e) :: S, R, pn, rn, out, on, st, tc, tp, nc, bc, hc) = (none, v, e, S, R, pn, rn, out, on, 3, 4, nI t, nc, bc, hc) := by
  show zs_h K A B C nx cf mp v t s h e S R pn rn out on tc tp nc bc hc = _
  unfold zs_h
  rw [if_neg (zk_no hk (by decide)), if_neg (by rw [hk]; decide), if_neg (by rw [hk]; decide), if_neg (by rw [hk]; decide), if_pos hk, if_pos ho]
theorem zr_em1 (hk : K t = 11) (ho : on ≠ 16) : zs K A B C nx cf mp (none, v, e0, (t, s, h, e) :: S, R, pn, rn, out, on, st, tc, tp, nc, bc, hc) = (none, v, e, S, R, pn, rn, upd out on v, on + 1, 1, tc, tp, nc, bc, hc) := by
  show zs_h K A B C nx cf mp v t s h e S R pn rn out on tc tp nc bc hc = _
  unfold zs_h
  rw [if_neg (zk_no hk (by decide)), if_neg (by rw [hk]; decide), if_neg (by rw [hk]; decide), if_neg (by rw [hk]; decide), if_pos hk, if_neg ho]
theorem zr_pf0 (hk : K t = 12) (hp : pn = mp) : zs K A B C nx cf mp (none, v, e0, (t, s, h, e) :: S, R, pn, rn, out, on, st, tc, tp, nc, bc, hc) = (none, v, e, S, R, pn, rn, out, on, 3, 3, nI t, nc, bc, hc) := by
  show zs_h K A B C nx cf mp v t s h e S R pn rn out on tc tp nc bc hc = _
  unfold zs_h
  rw [if_neg (zk_no hk (by decide)), if_neg (by rw [hk]; decide), if_neg (by rw [hk]; decide), if_neg (by rw [hk]; decide), if_neg (by rw [hk]; decide), if_pos hk, if_pos hp]
theorem zr_pf1 (hk : K t = 12) (hp : pn ≠ mp) (hf : zs_fnd K cf (A t).toNatClampNeg S = none) : zs K A B C nx cf mp (none, v, e0, (t, s, h, e) :: S, R, pn, rn, out, on, st, tc, tp, nc, bc, hc) = (none, v, e, S, R, pn + 1, rn, out, on, 3, 1, nI t, nc, bc, hc) := by
  show zs_h K A B C nx cf mp v t s h e S R pn rn out on tc tp nc bc hc = _
  unfold zs_h
  rw [if_neg (zk_no hk (by decide)), if_neg (by rw [hk]; decide), if_neg (by rw [hk]; decide), if_neg (by rw [hk]; decide), if_neg (by rw [hk]; decide), if_pos hk, if_neg hp, hf]
theorem zr_pf2 (hk : K t = 12) (hp : pn ≠ mp) {a : List ZF} {g : ZF} {b : List ZF} (hf : zs_fnd K cf (A t).toNatClampNeg S = some (a, g, b)) : zs K A B C nx cf mp (none, v, e0, (t, s, h, e) :: S, R, pn, rn, out, on, st, tc, tp, nc, bc, hc) =
    (some (cf g.1 (A t).toNatClampNeg + 1), v, upd (upd (upd g.2.2.2 (C (cf g.1 (A t).toNatClampNeg)).toNatClampNeg g.2.2.1) (B (cf g.1 (A t).toNatClampNeg)).toNatClampNeg v) 8 (nI pn),
          b, zo_set R pn (some (a, g)), pn + 1, rn, out, on, 1, tc, tp, nc, bc + 3, hc) := by
  show zs_h K A B C nx cf mp v t s h e S R pn rn out on tc tp nc bc hc = _
  unfold zs_h
  rw [if_neg (zk_no hk (by decide)), if_neg (by rw [hk]; decide), if_neg (by rw [hk]; decide), if_neg (by rw [hk]; decide), if_neg (by rw [hk]; decide), if_pos hk, if_neg hp, hf]
theorem zr_ret (hk : K t = 13) (hs : s = 1) : zs K A B C nx cf mp (none, v, e0, (t, s, h, e) :: S, R, pn, rn, out, on, st, tc, tp, nc, bc, hc) =
    (some (nx (nx (t + 1)) + 1), v, upd (upd e (B (nx (nx (t + 1)))).toNatClampNeg h) (A (nx (nx (t + 1)))).toNatClampNeg v, S, R, pn, rn, out, on, 1, tc, tp, nc, bc + 2, hc) := by
  show zs_h K A B C nx cf mp v t s h e S R pn rn out on tc tp nc bc hc = _
  unfold zs_h
  rw [if_neg (fun c => absurd c.1 (by omega)), if_neg (by rw [hk]; decide), if_neg (by rw [hk]; decide), if_neg (by rw [hk]; decide), if_neg (by rw [hk]; decide), if_neg (by rw [hk]; decide), if_pos hk]
theorem zr_rs0 (hk : K t = 17) (hs : s = 1) (hr : R (e 8).toNatClampNeg = none) : zs K A B C nx cf mp (none, v, e0, (t, s, h, e) :: S, R, pn, rn, out, on, st, tc, tp, nc, bc, hc) = (none, v, e, S, R, pn, rn, out, on, 3, 2, nI t, nc, bc, hc) := by
  show zs_h K A B C nx cf mp v t s h e S R pn rn out on tc tp nc bc hc = _
  unfold zs_h
  rw [if_neg (fun c => absurd c.1 (by omega)), if_neg (by rw [hk]; decide), if_neg (by rw [hk]; decide), if_neg (by rw [hk]; decide), if_neg (by rw [hk]; decide), if_neg (by rw [hk]; decide), if_neg (by rw [hk]; decide), if_pos hk, hr]
theorem zr_rs1 (hk : K t = 17) (hs : s = 1) {a : List ZF} {g : ZF} (hr : R (e 8).toNatClampNeg = some (a, g)) : zs K A B C nx cf mp (none, v, e0, (t, s, h, e) :: S, R, pn, rn, out, on, st, tc, tp, nc, bc, hc) =
    (none, v, e, a ++ (if A g.1 = 0 then (g.1, 1, h, g.2.2.2) :: S else S), zo_set R (e 8).toNatClampNeg none, pn, rn + 1, out, on, 1, tc, tp, nc, bc, hc + (if A g.1 = 0 then 1 else 0)) := by
  show zs_h K A B C nx cf mp v t s h e S R pn rn out on tc tp nc bc hc = _
  unfold zs_h
  rw [if_neg (fun c => absurd c.1 (by omega)), if_neg (by rw [hk]; decide), if_neg (by rw [hk]; decide), if_neg (by rw [hk]; decide), if_neg (by rw [hk]; decide), if_neg (by rw [hk]; decide), if_neg (by rw [hk]; decide), if_pos hk, hr]
theorem zr_bin (hk : K t = 3 ∨ K t = 4 ∨ K t = 5 ∨ K t = 6 ∨ K t = 7) (hs : s = 1) : zs K A B C nx cf mp (none, v, e0, (t, s, h, e) :: S, R, pn, rn, out, on, st, tc, tp, nc, bc, hc) = (none, zs_ar (K t) h v, e, S, R, pn, rn, out, on, 1, tc, tp, nc, bc, hc) := by
  have q : ∀ a : Int32, (∀ b : Int32, b = 3 ∨ b = 4 ∨ b = 5 ∨ b = 6 ∨ b = 7 → b ≠ a) → K t ≠ a := fun a ha => ha _ hk
  have d : ∀ a : Int32, (3 ≠ a ∧ 4 ≠ a ∧ 5 ≠ a ∧ 6 ≠ a ∧ 7 ≠ a) → K t ≠ a := by
    intro a ⟨d1, d2, d3, d4, d5⟩
    refine q a fun b hb => ?_
    rcases hb with rfl | rfl | rfl | rfl | rfl
    · exact d1
    · exact d2
    · exact d3
    · exact d4
    · exact d5
  show zs_h K A B C nx cf mp v t s h e S R pn rn out on tc tp nc bc hc = _
  unfold zs_h
  rw [if_neg (fun c => absurd c.1 (by omega)), if_neg (d 8 (by decide)), if_neg (d 9 (by decide)), if_neg (d 10 (by decide)), if_neg (d 11 (by decide)), if_neg (d 12 (by decide)), if_neg (d 13 (by decide)), if_neg (d 17 (by decide))]
end
