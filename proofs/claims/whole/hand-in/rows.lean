section
abbrev ZF : Type := Nat × Nat × Int32 × (Nat → Int32)
abbrev ZR : Type := Nat → Option (List ZF × ZF)
abbrev ZZ : Type := Option Nat × Int32 × (Nat → Int32) × List ZF × ZR × Nat × Nat × (Nat → Int32) × Nat × Nat × Int32 × Int32 × Nat × Nat × Nat
theorem zu_s {f : Nat → Int32} {k : Nat} {x : Int32} : upd f k x k = x := by unfold upd; rw [if_pos rfl]
theorem zu_n {f : Nat → Int32} {k j : Nat} {x : Int32} (h : j ≠ k) : upd f k x j = f j := by unfold upd; rw [if_neg h]
abbrev zs_kp (k : Int32) : Prop := k = 3 ∨ k = 4 ∨ k = 5 ∨ k = 6 ∨ k = 7 ∨ k = 13 ∨ k = 17
abbrev zs_hd (K : Nat → Int32) (cf : Nat → Nat → Nat) (op : Nat) (f : ZF) : Prop := K f.1 = 13 ∧ f.2.1 = 1 ∧ cf f.1 op ≠ 0
def zs_fnd (K : Nat → Int32) (cf : Nat → Nat → Nat) (op : Nat) : List ZF → Option (List ZF × ZF × List ZF)
  | [] => none
  | f :: S => if zs_hd K cf op f then some ([], f, S) else
      match zs_fnd K cf op S with
      | none => none
      | some (a, g, b) => some (f :: a, g, b)
theorem zf_some {K : Nat → Int32} {cf : Nat → Nat → Nat} {op : Nat} : ∀ {S : List ZF} {a : List ZF} {g : ZF} {b : List ZF}, zs_fnd K cf op S = some (a, g, b) →
    S = a ++ g :: b ∧ zs_hd K cf op g ∧ ∀ x ∈ a, ¬ zs_hd K cf op x
  | [], a, g, b, h => by simp [zs_fnd] at h
  | f :: S, a, g, b, h => by
    by_cases c : zs_hd K cf op f
    · simp only [zs_fnd, if_pos c, Option.some.injEq, Prod.mk.injEq] at h
      obtain ⟨rfl, rfl, rfl⟩ := h
      exact ⟨rfl, c, fun x hx => nomatch hx⟩
    · simp only [zs_fnd, if_neg c] at h
      cases e : zs_fnd K cf op S with
      | none => rw [e] at h; simp at h
      | some q =>
        obtain ⟨a', g', b'⟩ := q
        rw [e] at h
        simp only [Option.some.injEq, Prod.mk.injEq] at h
        obtain ⟨rfl, rfl, rfl⟩ := h
        obtain ⟨h1, h2, h3⟩ := zf_some e
        refine ⟨by rw [h1]; rfl, h2, fun x hx => ?_⟩
        rcases List.mem_cons.mp hx with rfl | hx
        · exact c
        · exact h3 x hx
theorem zf_none {K : Nat → Int32} {cf : Nat → Nat → Nat} {op : Nat} : ∀ {S : List ZF}, zs_fnd K cf op S = none → ∀ x ∈ S, ¬ zs_hd K cf op x
  | [], _, x, hx => nomatch hx
  | f :: S, h, x, hx => by
    by_cases c : zs_hd K cf op f
    · simp only [zs_fnd, if_pos c] at h
      exact absurd h (by simp)
    · simp only [zs_fnd, if_neg c] at h
      cases e : zs_fnd K cf op S with
      | none =>
        rcases List.mem_cons.mp hx with rfl | hx
        · exact c
        · exact zf_none e x hx
      | some q =>
        obtain ⟨a', g', b'⟩ := q
        rw [e] at h; simp at h
def zo_set (R : ZR) (r : Nat) (x : Option (List ZF × ZF)) : ZR := fun j => if j = r then x else R j
theorem zo_s {R : ZR} {r : Nat} {x : Option (List ZF × ZF)} : zo_set R r x r = x := by unfold zo_set; rw [if_pos rfl]
theorem zo_n {R : ZR} {r j : Nat} {x : Option (List ZF × ZF)} (h : j ≠ r) : zo_set R r x j = R j := by unfold zo_set; rw [if_neg h]
def zs_ar (k x y : Int32) : Int32 := if k = 3 then x + y else if k = 4 then x - y else if k = 5 then x * y else if k = 6 then (if x < y then 1 else 0) else (if x = y then 1 else 0)
def zs_h (K A B C : Nat → Int32) (nx : Nat → Nat) (cf : Nat → Nat → Nat) (mp : Nat) (v : Int32) (t s : Nat) (h : Int32) (e : Nat → Int32) (S : List ZF) (R : ZR) (pn rn : Nat) (out : Nat → Int32) (on : Nat) (tc tp : Int32) (nc bc hc : Nat) : ZZ :=
  if s = 0 ∧ zs_kp (K t) then (some (nx (t + 1)), v, e, (t, 1, v, e) :: S, R, pn, rn, out, on, 1, tc, tp, nc, bc, hc)
  else if K t = 8 then (some (if v = 0 then nx (nx (t + 1)) else nx (t + 1)), v, e, S, R, pn, rn, out, on, 1, tc, tp, nc, bc, hc)
  else if K t = 9 then (some (nx (t + 1)), v, upd e (A t).toNatClampNeg v, S, R, pn, rn, out, on, 1, tc, tp, nc, bc + 1, hc)
  else if K t = 10 then (some (nx (t + 1)), v, e, S, R, pn, rn, out, on, 1, tc, tp, nc, bc, hc)
  else if K t = 11 then
    if on = 16 then (none, v, e, S, R, pn, rn, out, on, 3, 4, nI t, nc, bc, hc)
    else (none, v, e, S, R, pn, rn, upd out on v, on + 1, 1, tc, tp, nc, bc, hc)
  else if K t = 12 then
    if pn = mp then (none, v, e, S, R, pn, rn, out, on, 3, 3, nI t, nc, bc, hc)
    else match zs_fnd K cf (A t).toNatClampNeg S with
      | none => (none, v, e, S, R, pn + 1, rn, out, on, 3, 1, nI t, nc, bc, hc)
      | some (a, g, b) => (some (cf g.1 (A t).toNatClampNeg + 1), v,
          upd (upd (upd g.2.2.2 (C (cf g.1 (A t).toNatClampNeg)).toNatClampNeg g.2.2.1) (B (cf g.1 (A t).toNatClampNeg)).toNatClampNeg v) 8 (nI pn),
          b, zo_set R pn (some (a, g)), pn + 1, rn, out, on, 1, tc, tp, nc, bc + 3, hc)
  else if K t = 13 then (some (nx (nx (t + 1)) + 1), v, upd (upd e (B (nx (nx (t + 1)))).toNatClampNeg h) (A (nx (nx (t + 1)))).toNatClampNeg v, S, R, pn, rn, out, on, 1, tc, tp, nc, bc + 2, hc)
  else if K t = 17 then
    match R (e 8).toNatClampNeg with
    | none => (none, v, e, S, R, pn, rn, out, on, 3, 2, nI t, nc, bc, hc)
    | some (a, g) => (none, v, e, a ++ (if A g.1 = 0 then (g.1, 1, h, g.2.2.2) :: S else S), zo_set R (e 8).toNatClampNeg none, pn, rn + 1, out, on, 1, tc, tp, nc, bc, hc + (if A g.1 = 0 then 1 else 0))
  else (none, zs_ar (K t) h v, e, S, R, pn, rn, out, on, 1, tc, tp, nc, bc, hc)
def zs (K A B C : Nat → Int32) (nx : Nat → Nat) (cf : Nat → Nat → Nat) (mp : Nat) : ZZ → ZZ
  | (some p, v, e, S, R, pn, rn, out, on, st, tc, tp, nc, bc, hc) =>
    if K p = 1 then (none, A p, e, S, R, pn, rn, out, on, 1, tc, tp, nc, bc, hc)
    else if K p = 2 then (none, e (A p).toNatClampNeg, e, S, R, pn, rn, out, on, 1, tc, tp, nc, bc, hc)
    else (some (p + 1), v, e, (p, 0, 0, e) :: S, R, pn, rn, out, on, 1, tc, tp, nc + 1, bc, hc + 1)
  | (none, v, e, [], R, pn, rn, out, on, st, tc, tp, nc, bc, hc) => (none, v, e, [], R, pn, rn, out, on, 2, tc, tp, nc, bc, hc)
  | (none, v, e, f :: S, R, pn, rn, out, on, st, tc, tp, nc, bc, hc) =>
    zs_h K A B C nx cf mp v f.1 f.2.1 f.2.2.1 f.2.2.2 S R pn rn out on tc tp nc bc hc
def zl_sm (x : Int32) : Prop := ∃ a : Nat, a < 8 ∧ x = nI a
def zl_T (K A B C : Nat → Int32) (j : Nat) : Prop :=
  (∃ k : Nat, 1 ≤ k ∧ k ≤ 17 ∧ K j = nI k) ∧ (K j = 2 ∨ K j = 9 ∨ K j = 12 → zl_sm (A j)) ∧ (K j = 13 → A j = 0 ∨ A j = 1) ∧
  (K j = 14 → zl_sm (A j) ∧ zl_sm (B j)) ∧ (K j = 15 → zl_sm (A j) ∧ zl_sm (B j) ∧ zl_sm (C j))
def zl_C (K : Nat → Int32) (n : Nat) (nx : Nat → Nat) (cf : Nat → Nat → Nat) (cl ic : Nat → Prop) (p : Nat) : Prop :=
  p < nx p ∧ nx p ≤ n ∧
  (((K p = 1 ∨ K p = 2) ∧ nx p = p + 1) ∨
   ((K p = 11 ∨ K p = 12) ∧ cl (p + 1) ∧ nx p = nx (p + 1) ∧ (ic (p + 1) → ic p)) ∨
   ((K p = 3 ∨ K p = 4 ∨ K p = 5 ∨ K p = 6 ∨ K p = 7 ∨ K p = 9 ∨ K p = 10 ∨ K p = 17) ∧ (K p = 17 → ic p) ∧ cl (p + 1) ∧ cl (nx (p + 1)) ∧ nx p = nx (nx (p + 1)) ∧ (ic (p + 1) → ic p) ∧ (ic (nx (p + 1)) → ic p)) ∨
   (K p = 8 ∧ cl (p + 1) ∧ cl (nx (p + 1)) ∧ cl (nx (nx (p + 1))) ∧ nx p = nx (nx (nx (p + 1))) ∧ (ic (p + 1) → ic p) ∧ (ic (nx (p + 1)) → ic p) ∧ (ic (nx (nx (p + 1))) → ic p)) ∨
   (K p = 13 ∧ cl (p + 1) ∧ cl (nx (p + 1)) ∧ (ic (p + 1) → ic p) ∧ (ic (nx (p + 1)) → ic p) ∧
     K (nx (nx (p + 1))) = 14 ∧ cl (nx (nx (p + 1)) + 1) ∧ (ic (nx (nx (p + 1)) + 1) → ic p) ∧ nx (nx (nx (p + 1)) + 1) < nx p ∧
     ∀ op, op < 8 → cf p op ≠ 0 → p < cf p op ∧ K (cf p op) = 15 ∧ cl (cf p op + 1) ∧ nx (cf p op + 1) < nx p))
def zl_P (K A B C : Nat → Int32) (n : Nat) (nx : Nat → Nat) (cf : Nat → Nat → Nat) (cl ic : Nat → Prop) : Prop :=
  n ≤ 32 ∧ 0 < n ∧ (∀ j, j < n → zl_T K A B C j) ∧ cl 0 ∧ ¬ ic 0 ∧ ∀ p, cl p → zl_C K n nx cf cl ic p
def zw_s (w : ZF → Nat) : List ZF → Nat
  | [] => 0
  | f :: S => w f + zw_s w S
theorem zw_app (w : ZF → Nat) (b : List ZF) : ∀ a : List ZF, zw_s w (a ++ b) = zw_s w a + zw_s w b
  | [] => by simp [zw_s]
  | f :: a => by simp only [List.cons_append, zw_s, zw_app w b a]; omega
def zw_o (w : ZF → Nat) (c : Nat) : Option (List ZF × ZF) → Nat
  | none => 0
  | some (a, f) => zw_s w a + w f + c
def zw_r (w : ZF → Nat) (c : Nat) (R : ZR) : Nat → Nat
  | 0 => 0
  | r + 1 => zw_r w c R r + zw_o w c (R r)
theorem zw_ge (w : ZF → Nat) (c : Nat) (R : ZR) (r : Nat) (x : Option (List ZF × ZF)) : ∀ pn, pn ≤ r → zw_r w c (zo_set R r x) pn = zw_r w c R pn
  | 0, _ => rfl
  | pn + 1, h => by
    simp only [zw_r]
    rw [zw_ge w c R r x pn (by omega), zo_n (by omega)]
theorem zw_lt (w : ZF → Nat) (c : Nat) (R : ZR) (r : Nat) (x : Option (List ZF × ZF)) : ∀ pn, r < pn → zw_r w c (zo_set R r x) pn + zw_o w c (R r) = zw_r w c R pn + zw_o w c x
  | 0, h => by omega
  | pn + 1, h => by
    simp only [zw_r]
    by_cases e : r = pn
    · subst e
      rw [zw_ge w c R r x r (by omega), zo_s]; omega
    · have := zw_lt w c R r x pn (by omega)
      rw [zo_n (j := pn) (by omega)]; omega
def zt_T (K : Nat → Int32) (nx : Nat → Nat) (t s : Nat) : Nat := if s = 0 then nx t - nx (t + 1) else if K t = 13 then nx t - nx (nx (t + 1)) else 0
theorem zt_0 {K : Nat → Int32} {nx : Nat → Nat} {t : Nat} : zt_T K nx t 0 = nx t - nx (t + 1) := by simp [zt_T]
theorem zt_h {K : Nat → Int32} {nx : Nat → Nat} {t : Nat} (h : K t = 13) : zt_T K nx t 1 = nx t - nx (nx (t + 1)) := by simp [zt_T, h]
theorem zt_1 {K : Nat → Int32} {nx : Nat → Nat} {t : Nat} (h : K t ≠ 13) : zt_T K nx t 1 = 0 := by simp [zt_T, h]
def zw_a (K : Nat → Int32) (nx : Nat → Nat) (f : ZF) : Nat := zt_T K nx f.1 f.2.1
def zw_b (K : Nat → Int32) (nx : Nat → Nat) (f : ZF) : Nat := zt_T K nx f.1 f.2.1 + 1
def zw_d (K : Nat → Int32) (nx : Nat → Nat) (f : ZF) : Nat := 3 * zt_T K nx f.1 f.2.1 + (2 - f.2.1)
def zi_E (ic : Nat → Prop) (pn t : Nat) (e : Nat → Int32) : Prop := ic t → ∃ r, r < pn ∧ e 8 = nI r
def zi_F (K : Nat → Int32) (cl ic : Nat → Prop) (pn : Nat) (f : ZF) : Prop :=
  cl f.1 ∧ K f.1 ≠ 1 ∧ K f.1 ≠ 2 ∧ (f.2.1 = 0 ∨ (f.2.1 = 1 ∧ zs_kp (K f.1))) ∧ zi_E ic pn f.1 f.2.2.2
def zi_R (K : Nat → Int32) (cl ic : Nat → Prop) (pn : Nat) (R : ZR) : Prop :=
  ∀ r, r < pn → ∀ a g, R r = some (a, g) → (∀ f ∈ a, zi_F K cl ic pn f) ∧ zi_F K cl ic pn g ∧ K g.1 = 13 ∧ g.2.1 = 1
def zi_o (nx : Nat → Nat) : Option Nat → Nat
  | none => 0
  | some p => nx p - p
def zi_B (K : Nat → Int32) (nx : Nat → Nat) (mp : Nat) (fo : Option Nat) (S : List ZF) (R : ZR) (pn nc bc hc : Nat) : Prop :=
  nc + zi_o nx fo + zw_s (zw_a K nx) S + zw_r (zw_a K nx) 0 R pn + 35 * (mp - pn) ≤ 593 ∧
  bc + zi_o nx fo + zw_s (zw_b K nx) S + zw_r (zw_b K nx) 0 R pn + 35 * (mp - pn) ≤ 593 ∧
  hc + zi_o nx fo + zw_s (zw_a K nx) S + zw_r (zw_a K nx) 1 R pn + 35 * (mp - pn) ≤ 592
def zi_m (K : Nat → Int32) (nx : Nat → Nat) (mp : Nat) (fo : Option Nat) (S : List ZF) (R : ZR) (pn : Nat) : Nat :=
  3 * zi_o nx fo + zw_s (zw_d K nx) S + zw_r (zw_d K nx) 0 R pn + 100 * (mp - pn)
def zi_I (K : Nat → Int32) (nx : Nat → Nat) (mp : Nat) (cl ic : Nat → Prop) : ZZ → Prop
  | (fo, _, e, S, R, pn, _, _, on, st, tc, _, nc, bc, hc) =>
    st = 1 ∧ tc = 0 ∧ on ≤ 16 ∧ pn ≤ mp ∧ mp ≤ 16 ∧ 0 < nc ∧ 0 < bc ∧ (∀ p, fo = some p → cl p ∧ zi_E ic pn p e) ∧ (∀ f ∈ S, zi_F K cl ic pn f) ∧ zi_R K cl ic pn R ∧
    zi_B K nx mp fo S R pn nc bc hc
def zi_mu (K : Nat → Int32) (nx : Nat → Nat) (mp : Nat) : ZZ → Nat
  | (fo, _, _, S, R, pn, _, _, _, _, _, _, _, _, _) => zi_m K nx mp fo S R pn
def zi_X (mp : Nat) : ZZ → Prop
  | (_, _, _, _, _, pn, _, _, on, st, tc, _, _, _, _) => on ≤ 16 ∧ pn ≤ mp ∧ ((st = 2 ∧ tc = 0) ∨ (st = 3 ∧ tc ≠ 0))
theorem zi_Fm {K : Nat → Int32} {cl ic : Nat → Prop} {pn pn' : Nat} {f : ZF} (hp : pn ≤ pn') (h : zi_F K cl ic pn f) : zi_F K cl ic pn' f := by
  obtain ⟨h1, h2, h3, h4, h5⟩ := h
  refine ⟨h1, h2, h3, h4, fun hi => ?_⟩
  obtain ⟨r, hr, he⟩ := h5 hi
  exact ⟨r, by omega, he⟩
theorem zi_Rm {K : Nat → Int32} {cl ic : Nat → Prop} {pn : Nat} {R : ZR} {x : List ZF} {g : ZF} (h : zi_R K cl ic pn R) (hx : ∀ f ∈ x, zi_F K cl ic pn f) (hg : zi_F K cl ic pn g) (h13 : K g.1 = 13) (h1 : g.2.1 = 1) :
    zi_R K cl ic (pn + 1) (zo_set R pn (some (x, g))) := by
  intro r hr a b e
  by_cases c : r = pn
  · subst c
    rw [zo_s] at e
    simp only [Option.some.injEq, Prod.mk.injEq] at e
    obtain ⟨rfl, rfl⟩ := e
    exact ⟨fun f hf => zi_Fm (by omega) (hx f hf), zi_Fm (by omega) hg, h13, h1⟩
  · rw [zo_n c] at e
    obtain ⟨q1, q2, q3, q4⟩ := h r (by omega) a b e
    exact ⟨fun f hf => zi_Fm (by omega) (q1 f hf), zi_Fm (by omega) q2, q3, q4⟩
theorem zi_Rn {K : Nat → Int32} {cl ic : Nat → Prop} {pn r0 : Nat} {R : ZR} (h : zi_R K cl ic pn R) : zi_R K cl ic pn (zo_set R r0 none) := by
  intro r hr a b e
  by_cases c : r = r0
  · subst c; rw [zo_s] at e; cases e
  · rw [zo_n c] at e; exact h r hr a b e
end
section
section
variable {K A B C : Nat → Int32} {n : Nat} {nx : Nat → Nat} {cf : Nat → Nat → Nat} {mp : Nat} {cl ic : Nat → Prop} {v : Int32} {e0 e : Nat → Int32} {S : List ZF} {R : ZR} {pn rn : Nat} {out : Nat → Int32} {on st : Nat} {tc tp : Int32} {nc bc hc t s : Nat} {h : Int32}
theorem lc_leaf {p : Nat} (L : zl_C K n nx cf cl ic p) (hk : K p = 1 ∨ K p = 2) : nx p = p + 1 := by
  obtain ⟨-, -, L⟩ := L
  rcases L with ⟨-, r⟩ | ⟨c, -⟩ | ⟨c, -⟩ | ⟨c, -⟩ | ⟨c, -⟩
  · exact r
  all_goals (rcases hk with hk | hk <;> exact absurd c (by rw [hk]; decide))
theorem lc_un {p : Nat} (L : zl_C K n nx cf cl ic p) (hk : K p = 11 ∨ K p = 12) : cl (p + 1) ∧ nx p = nx (p + 1) ∧ (ic (p + 1) → ic p) := by
  obtain ⟨-, -, L⟩ := L
  rcases L with ⟨c, -⟩ | ⟨-, r⟩ | ⟨c, -⟩ | ⟨c, -⟩ | ⟨c, -⟩
  · rcases hk with hk | hk <;> exact absurd c (by rw [hk]; decide)
  · exact r
  all_goals (rcases hk with hk | hk <;> exact absurd c (by rw [hk]; decide))
theorem lc_bi {p : Nat} (L : zl_C K n nx cf cl ic p) (hk : K p = 3 ∨ K p = 4 ∨ K p = 5 ∨ K p = 6 ∨ K p = 7 ∨ K p = 9 ∨ K p = 10 ∨ K p = 17) :
    (K p = 17 → ic p) ∧ cl (p + 1) ∧ cl (nx (p + 1)) ∧ nx p = nx (nx (p + 1)) ∧ (ic (p + 1) → ic p) ∧ (ic (nx (p + 1)) → ic p) := by
  obtain ⟨-, -, L⟩ := L
  rcases L with ⟨c, -⟩ | ⟨c, -⟩ | ⟨-, r⟩ | ⟨c, -⟩ | ⟨c, -⟩
  · rcases hk with hk | hk | hk | hk | hk | hk | hk | hk <;> exact absurd c (by rw [hk]; decide)
  · rcases hk with hk | hk | hk | hk | hk | hk | hk | hk <;> exact absurd c (by rw [hk]; decide)
  · exact r
  all_goals (rcases hk with hk | hk | hk | hk | hk | hk | hk | hk <;> exact absurd c (by rw [hk]; decide))
theorem lc_if {p : Nat} (L : zl_C K n nx cf cl ic p) (hk : K p = 8) :
    cl (p + 1) ∧ cl (nx (p + 1)) ∧ cl (nx (nx (p + 1))) ∧ nx p = nx (nx (nx (p + 1))) ∧ (ic (p + 1) → ic p) ∧ (ic (nx (p + 1)) → ic p) ∧ (ic (nx (nx (p + 1))) → ic p) := by
  obtain ⟨-, -, L⟩ := L
  rcases L with ⟨c, -⟩ | ⟨c, -⟩ | ⟨c, -⟩ | ⟨-, r⟩ | ⟨c, -⟩
  · exact absurd c (by rw [hk]; decide)
  · exact absurd c (by rw [hk]; decide)
  · exact absurd c (by rw [hk]; decide)
  · exact r
  · exact absurd c (by rw [hk]; decide)
theorem lc_ha {p : Nat} (L : zl_C K n nx cf cl ic p) (hk : K p = 13) :
    cl (p + 1) ∧ cl (nx (p + 1)) ∧ (ic (p + 1) → ic p) ∧ (ic (nx (p + 1)) → ic p) ∧
     K (nx (nx (p + 1))) = 14 ∧ cl (nx (nx (p + 1)) + 1) ∧ (ic (nx (nx (p + 1)) + 1) → ic p) ∧ nx (nx (nx (p + 1)) + 1) < nx p ∧
     ∀ op, op < 8 → cf p op ≠ 0 → p < cf p op ∧ K (cf p op) = 15 ∧ cl (cf p op + 1) ∧ nx (cf p op + 1) < nx p := by
  obtain ⟨-, -, L⟩ := L
  rcases L with ⟨c, -⟩ | ⟨c, -⟩ | ⟨c, -⟩ | ⟨c, -⟩ | ⟨-, r⟩
  · exact absurd c (by rw [hk]; decide)
  · exact absurd c (by rw [hk]; decide)
  · exact absurd c (by rw [hk]; decide)
  · exact absurd c (by rw [hk]; decide)
  · exact r
theorem lc_k {p : Nat} (L : zl_C K n nx cf cl ic p) (h1 : K p ≠ 1) (h2 : K p ≠ 2) :
    K p = 8 ∨ K p = 9 ∨ K p = 10 ∨ K p = 11 ∨ K p = 12 ∨ K p = 13 ∨ K p = 17 ∨ (K p = 3 ∨ K p = 4 ∨ K p = 5 ∨ K p = 6 ∨ K p = 7) := by
  obtain ⟨-, -, L⟩ := L
  rcases L with ⟨c, -⟩ | ⟨c, -⟩ | ⟨c, -⟩ | ⟨c, -⟩ | ⟨c, -⟩
  · rcases c with c | c
    · exact absurd c h1
    · exact absurd c h2
  · rcases c with c | c <;> simp [c]
  · rcases c with c | c | c | c | c | c | c | c <;> simp [c]
  · simp [c]
  · simp [c]
theorem zk_no {x : Int32} {a : Int32} (hx : x = a) (h : ¬ zs_kp a) : ¬ (s = 0 ∧ zs_kp x) := fun c => h (hx ▸ c.2)
theorem zr_leaf1 {p : Nat} (hk : K p = 1) : zs K A B C nx cf mp (some p, v, e, S, R, pn, rn, out, on, st, tc, tp, nc, bc, hc) = (none, A p, e, S, R, pn, rn, out, on, 1, tc, tp, nc, bc, hc) := by
  show (if _ then _ else _) = _
  rw [if_pos hk]
theorem zr_leaf2 {p : Nat} (hk : K p = 2) : zs K A B C nx cf mp (some p, v, e, S, R, pn, rn, out, on, st, tc, tp, nc, bc, hc) = (none, e (A p).toNatClampNeg, e, S, R, pn, rn, out, on, 1, tc, tp, nc, bc, hc) := by
  show (if _ then _ else _) = _
  rw [if_neg (by rw [hk]; decide), if_pos hk]
theorem zr_push {p : Nat} (h1 : K p ≠ 1) (h2 : K p ≠ 2) : zs K A B C nx cf mp (some p, v, e, S, R, pn, rn, out, on, st, tc, tp, nc, bc, hc) = (some (p + 1), v, e, (p, 0, 0, e) :: S, R, pn, rn, out, on, 1, tc, tp, nc + 1, bc, hc + 1) := by
  show (if _ then _ else _) = _
  rw [if_neg h1, if_neg h2]
theorem zr_done : zs K A B C nx cf mp (none, v, e, [], R, pn, rn, out, on, st, tc, tp, nc, bc, hc) = (none, v, e, [], R, pn, rn, out, on, 2, tc, tp, nc, bc, hc) := rfl
theorem zr_keep (hs : s = 0) (hk : zs_kp (K t)) : zs K A B C nx cf mp (none, v, e0, (t, s, h, e) :: S, R, pn, rn, out, on, st, tc, tp, nc, bc, hc) = (some (nx (t + 1)), v, e, (t, 1, v, e) :: S, R, pn, rn, out, on, 1, tc, tp, nc, bc, hc) := by
  show zs_h K A B C nx cf mp v t s h e S R pn rn out on tc tp nc bc hc = _
  unfold zs_h
  rw [if_pos ⟨hs, hk⟩]
theorem zr_if (hk : K t = 8) : zs K A B C nx cf mp (none, v, e0, (t, s, h, e) :: S, R, pn, rn, out, on, st, tc, tp, nc, bc, hc) = (some (if v = 0 then nx (nx (t + 1)) else nx (t + 1)), v, e, S, R, pn, rn, out, on, 1, tc, tp, nc, bc, hc) := by
  show zs_h K A B C nx cf mp v t s h e S R pn rn out on tc tp nc bc hc = _
  unfold zs_h
  rw [if_neg (zk_no hk (by decide)), if_pos hk]
theorem zr_let (hk : K t = 9) : zs K A B C nx cf mp (none, v, e0, (t, s, h, e) :: S, R, pn, rn, out, on, st, tc, tp, nc, bc, hc) = (some (nx (t + 1)), v, upd e (A t).toNatClampNeg v, S, R, pn, rn, out, on, 1, tc, tp, nc, bc + 1, hc) := by
  show zs_h K A B C nx cf mp v t s h e S R pn rn out on tc tp nc bc hc = _
  unfold zs_h
  rw [if_neg (zk_no hk (by decide)), if_neg (by rw [hk]; decide), if_pos hk]
theorem zr_seq (hk : K t = 10) : zs K A B C nx cf mp (none, v, e0, (t, s, h, e) :: S, R, pn, rn, out, on, st, tc, tp, nc, bc, hc) = (some (nx (t + 1)), v, e, S, R, pn, rn, out, on, 1, tc, tp, nc, bc, hc) := by
  show zs_h K A B C nx cf mp v t s h e S R pn rn out on tc tp nc bc hc = _
  unfold zs_h
  rw [if_neg (zk_no hk (by decide)), if_neg (by rw [hk]; decide), if_neg (by rw [hk]; decide), if_pos hk]
theorem zr_em0 (hk : K t = 11) (ho : on = 16) : zs K A B C nx cf mp (none, v, e0, (t, s, h, e) :: S, R, pn, rn, out, on, st, tc, tp, nc, bc, hc) = (none, v, e, S, R, pn, rn, out, on, 3, 4, nI t, nc, bc, hc) := by
  show zs_h K A B C nx cf mp v t s h e S R pn rn out on tc tp nc bc hc = _
  unfold zs_h
  rw [if_neg (zk_no hk (by decide)), if_neg (by rw [hk]; decide), if_neg (by rw [hk]; decide), if_neg (by rw [hk]; decide), if_pos hk, if_pos ho]
theorem zr_em1 (hk : K t = 11) (ho : on ≠ 16) : zs K A B C nx cf mp (none, v, e0, (t, s, h, e) :: S, R, pn, rn, out, on, st, tc, tp, nc, bc, hc) = (none, v, e, S, R, pn, rn, upd out on v, on + 1, 1, tc, tp, nc, bc, hc) := by
  show zs_h K A B C nx cf mp v t s h e S R pn rn out on tc tp nc bc hc = _
  unfold zs_h
  rw [if_neg (zk_no hk (by decide)), if_neg (by rw [hk]; decide), if_neg (by rw [hk]; decide), if_neg (by rw [hk]; decide), if_pos hk, if_neg ho]
theorem zr_pf0 (hk : K t = 12) (hp : pn = mp) : zs K A B C nx cf mp (none, v, e0, (t, s, h, e) :: S, R, pn, rn, out, on, st, tc, tp, nc, bc, hc) = (none, v, e, S, R, pn, rn, out, on, 3, 3, nI t, nc, bc, hc) := by
  show zs_h K A B C nx cf mp v t s h e S R pn rn out on tc tp nc bc hc = _
  unfold zs_h
  rw [if_neg (zk_no hk (by decide)), if_neg (by rw [hk]; decide), if_neg (by rw [hk]; decide), if_neg (by rw [hk]; decide), if_neg (by rw [hk]; decide), if_pos hk, if_pos hp]
theorem zr_pf1 (hk : K t = 12) (hp : pn ≠ mp) (hf : zs_fnd K cf (A t).toNatClampNeg S = none) : zs K A B C nx cf mp (none, v, e0, (t, s, h, e) :: S, R, pn, rn, out, on, st, tc, tp, nc, bc, hc) = (none, v, e, S, R, pn + 1, rn, out, on, 3, 1, nI t, nc, bc, hc) := by
  show zs_h K A B C nx cf mp v t s h e S R pn rn out on tc tp nc bc hc = _
  unfold zs_h
  rw [if_neg (zk_no hk (by decide)), if_neg (by rw [hk]; decide), if_neg (by rw [hk]; decide), if_neg (by rw [hk]; decide), if_neg (by rw [hk]; decide), if_pos hk, if_neg hp, hf]
theorem zr_pf2 (hk : K t = 12) (hp : pn ≠ mp) {a : List ZF} {g : ZF} {b : List ZF} (hf : zs_fnd K cf (A t).toNatClampNeg S = some (a, g, b)) : zs K A B C nx cf mp (none, v, e0, (t, s, h, e) :: S, R, pn, rn, out, on, st, tc, tp, nc, bc, hc) =
    (some (cf g.1 (A t).toNatClampNeg + 1), v, upd (upd (upd g.2.2.2 (C (cf g.1 (A t).toNatClampNeg)).toNatClampNeg g.2.2.1) (B (cf g.1 (A t).toNatClampNeg)).toNatClampNeg v) 8 (nI pn),
          b, zo_set R pn (some (a, g)), pn + 1, rn, out, on, 1, tc, tp, nc, bc + 3, hc) := by
  show zs_h K A B C nx cf mp v t s h e S R pn rn out on tc tp nc bc hc = _
  unfold zs_h
  rw [if_neg (zk_no hk (by decide)), if_neg (by rw [hk]; decide), if_neg (by rw [hk]; decide), if_neg (by rw [hk]; decide), if_neg (by rw [hk]; decide), if_pos hk, if_neg hp, hf]
theorem zr_ret (hk : K t = 13) (hs : s = 1) : zs K A B C nx cf mp (none, v, e0, (t, s, h, e) :: S, R, pn, rn, out, on, st, tc, tp, nc, bc, hc) =
    (some (nx (nx (t + 1)) + 1), v, upd (upd e (B (nx (nx (t + 1)))).toNatClampNeg h) (A (nx (nx (t + 1)))).toNatClampNeg v, S, R, pn, rn, out, on, 1, tc, tp, nc, bc + 2, hc) := by
  show zs_h K A B C nx cf mp v t s h e S R pn rn out on tc tp nc bc hc = _
  unfold zs_h
  rw [if_neg (fun c => absurd c.1 (by omega)), if_neg (by rw [hk]; decide), if_neg (by rw [hk]; decide), if_neg (by rw [hk]; decide), if_neg (by rw [hk]; decide), if_neg (by rw [hk]; decide), if_pos hk]
theorem zr_rs0 (hk : K t = 17) (hs : s = 1) (hr : R (e 8).toNatClampNeg = none) : zs K A B C nx cf mp (none, v, e0, (t, s, h, e) :: S, R, pn, rn, out, on, st, tc, tp, nc, bc, hc) = (none, v, e, S, R, pn, rn, out, on, 3, 2, nI t, nc, bc, hc) := by
  show zs_h K A B C nx cf mp v t s h e S R pn rn out on tc tp nc bc hc = _
  unfold zs_h
  rw [if_neg (fun c => absurd c.1 (by omega)), if_neg (by rw [hk]; decide), if_neg (by rw [hk]; decide), if_neg (by rw [hk]; decide), if_neg (by rw [hk]; decide), if_neg (by rw [hk]; decide), if_neg (by rw [hk]; decide), if_pos hk, hr]
theorem zr_rs1 (hk : K t = 17) (hs : s = 1) {a : List ZF} {g : ZF} (hr : R (e 8).toNatClampNeg = some (a, g)) : zs K A B C nx cf mp (none, v, e0, (t, s, h, e) :: S, R, pn, rn, out, on, st, tc, tp, nc, bc, hc) =
    (none, v, e, a ++ (if A g.1 = 0 then (g.1, 1, h, g.2.2.2) :: S else S), zo_set R (e 8).toNatClampNeg none, pn, rn + 1, out, on, 1, tc, tp, nc, bc, hc + (if A g.1 = 0 then 1 else 0)) := by
  show zs_h K A B C nx cf mp v t s h e S R pn rn out on tc tp nc bc hc = _
  unfold zs_h
  rw [if_neg (fun c => absurd c.1 (by omega)), if_neg (by rw [hk]; decide), if_neg (by rw [hk]; decide), if_neg (by rw [hk]; decide), if_neg (by rw [hk]; decide), if_neg (by rw [hk]; decide), if_neg (by rw [hk]; decide), if_pos hk, hr]
theorem zr_bin (hk : K t = 3 ∨ K t = 4 ∨ K t = 5 ∨ K t = 6 ∨ K t = 7) (hs : s = 1) : zs K A B C nx cf mp (none, v, e0, (t, s, h, e) :: S, R, pn, rn, out, on, st, tc, tp, nc, bc, hc) = (none, zs_ar (K t) h v, e, S, R, pn, rn, out, on, 1, tc, tp, nc, bc, hc) := by
  have q : ∀ a : Int32, (∀ b : Int32, b = 3 ∨ b = 4 ∨ b = 5 ∨ b = 6 ∨ b = 7 → b ≠ a) → K t ≠ a := fun a ha => ha _ hk
  have d : ∀ a : Int32, (3 ≠ a ∧ 4 ≠ a ∧ 5 ≠ a ∧ 6 ≠ a ∧ 7 ≠ a) → K t ≠ a := by
    intro a ⟨d1, d2, d3, d4, d5⟩
    refine q a fun b hb => ?_
    rcases hb with rfl | rfl | rfl | rfl | rfl
    · exact d1
    · exact d2
    · exact d3
    · exact d4
    · exact d5
  show zs_h K A B C nx cf mp v t s h e S R pn rn out on tc tp nc bc hc = _
  unfold zs_h
  rw [if_neg (fun c => absurd c.1 (by omega)), if_neg (d 8 (by decide)), if_neg (d 9 (by decide)), if_neg (d 10 (by decide)), if_neg (d 11 (by decide)), if_neg (d 12 (by decide)), if_neg (d 13 (by decide)), if_neg (d 17 (by decide))]
end
end
section
section
variable {K A B C : Nat → Int32} {n : Nat} {nx : Nat → Nat} {cf : Nat → Nat → Nat} {mp : Nat} {cl ic : Nat → Prop} {v : Int32} {e0 e : Nat → Int32} {S : List ZF} {R : ZR} {pn rn : Nat} {out : Nat → Int32} {on st : Nat} {tc tp : Int32} {nc bc hc t s : Nat} {h : Int32}
theorem zi_on : zi_o nx none = 0 := rfl
theorem zi_os {p : Nat} : zi_o nx (some p) = nx p - p := rfl
theorem zi_pop (I : zi_I K nx mp cl ic (none, v, e0, (t, s, h, e) :: S, R, pn, rn, out, on, st, tc, tp, nc, bc, hc)) (fo' : Option Nat) (v' : Int32) (e' : Nat → Int32) (hfo : ∀ p, fo' = some p → cl p ∧ zi_E ic pn p e')
    (d bd : Nat) (hT : zi_o nx fo' + d ≤ zt_T K nx t s) (hs : s ≤ 1) (hd : bd ≤ d + 1) (out' : Nat → Int32) (on' : Nat) (ho : on' ≤ 16) (rn' : Nat) (tp' : Int32) :
    zi_I K nx mp cl ic (fo', v', e', S, R, pn, rn', out', on', 1, tc, tp', nc, bc + bd, hc) ∧
    zi_m K nx mp fo' S R pn < zi_m K nx mp none ((t, s, h, e) :: S) R pn := by
  obtain ⟨i1, i2, i3, i4, i5, i6, i7, iF, iS, iR, b1, b2, b3⟩ := I
  simp only [zi_on, zi_os, zw_s, zw_a, zw_b] at b1 b2 b3
  refine ⟨⟨rfl, i2, ho, i4, i5, i6, by omega, hfo, fun f hf => iS f (List.mem_cons_of_mem _ hf), iR, ?_, ?_, ?_⟩, ?_⟩
  · omega
  · omega
  · omega
  · simp only [zi_m, zi_on, zi_os, zw_s, zw_d]
    omega
theorem zi_leaf {p : Nat} (P : zl_P K A B C n nx cf cl ic) (I : zi_I K nx mp cl ic (some p, v, e, S, R, pn, rn, out, on, st, tc, tp, nc, bc, hc)) (hk : K p = 1 ∨ K p = 2) (v' : Int32) :
    zi_I K nx mp cl ic (none, v', e, S, R, pn, rn, out, on, 1, tc, tp, nc, bc, hc) ∧ zi_m K nx mp none S R pn < zi_m K nx mp (some p) S R pn := by
  obtain ⟨i1, i2, i3, i4, i5, i6, i7, iF, iS, iR, b1, b2, b3⟩ := I
  obtain ⟨hc, -⟩ := iF p rfl
  have hn := lc_leaf (P.2.2.2.2.2 p hc) hk
  simp only [zi_on, zi_os] at b1 b2 b3
  refine ⟨⟨rfl, i2, i3, i4, i5, i6, i7, (fun q hq => by cases hq), iS, iR, ?_, ?_, ?_⟩, ?_⟩
  · simp only [zi_on, zi_os]; omega
  · simp only [zi_on, zi_os]; omega
  · simp only [zi_on, zi_os]; omega
  · simp only [zi_m, zi_on, zi_os]
    omega
theorem zi_push {p : Nat} (P : zl_P K A B C n nx cf cl ic) (I : zi_I K nx mp cl ic (some p, v, e, S, R, pn, rn, out, on, st, tc, tp, nc, bc, hc)) (h1 : K p ≠ 1) (h2 : K p ≠ 2) :
    zi_I K nx mp cl ic (some (p + 1), v, e, (p, 0, 0, e) :: S, R, pn, rn, out, on, 1, tc, tp, nc + 1, bc, hc + 1) ∧ zi_m K nx mp (some (p + 1)) ((p, 0, 0, e) :: S) R pn < zi_m K nx mp (some p) S R pn := by
  obtain ⟨i1, i2, i3, i4, i5, i6, i7, iF, iS, iR, b1, b2, b3⟩ := I
  obtain ⟨hc, hE⟩ := iF p rfl
  have L := P.2.2.2.2.2 p hc
  have hx : cl (p + 1) ∧ nx (p + 1) ≤ nx p ∧ (ic (p + 1) → ic p) := by
    rcases lc_k L h1 h2 with k | k | k | k | k | k | k | k
    · obtain ⟨c1, c2, c3, c4, c5, -⟩ := lc_if L k
      have := (P.2.2.2.2.2 _ c2).1
      have := (P.2.2.2.2.2 _ c3).1
      exact ⟨c1, by omega, c5⟩
    · obtain ⟨-, c1, c2, c3, c4, -⟩ := lc_bi L (by simp [k])
      have := (P.2.2.2.2.2 _ c2).1
      exact ⟨c1, by omega, c4⟩
    · obtain ⟨-, c1, c2, c3, c4, -⟩ := lc_bi L (by simp [k])
      have := (P.2.2.2.2.2 _ c2).1
      exact ⟨c1, by omega, c4⟩
    · obtain ⟨c1, c2, c3⟩ := lc_un L (by simp [k])
      exact ⟨c1, by omega, c3⟩
    · obtain ⟨c1, c2, c3⟩ := lc_un L (by simp [k])
      exact ⟨c1, by omega, c3⟩
    · obtain ⟨c1, c2, c3, c4, c5, c6, c7, c8, -⟩ := lc_ha L k
      have := (P.2.2.2.2.2 _ c2).1
      have := (P.2.2.2.2.2 _ c6).1
      exact ⟨c1, by omega, c3⟩
    · obtain ⟨-, c1, c2, c3, c4, -⟩ := lc_bi L (by simp [k])
      have := (P.2.2.2.2.2 _ c2).1
      exact ⟨c1, by omega, c4⟩
    · obtain ⟨-, c1, c2, c3, c4, -⟩ := lc_bi L (by rcases k with k | k | k | k | k <;> simp [k])
      have := (P.2.2.2.2.2 _ c2).1
      exact ⟨c1, by omega, c4⟩
  obtain ⟨hc1, hx1, hx2⟩ := hx
  have hL := L.1
  have hL1 := (P.2.2.2.2.2 _ hc1).1
  simp only [zi_on, zi_os] at b1 b2 b3
  refine ⟨⟨rfl, i2, i3, i4, i5, by omega, i7, fun q hq => ?_, fun f hf => ?_, iR, ?_, ?_, ?_⟩, ?_⟩
  · cases hq
    exact ⟨hc1, fun z => hE (hx2 z)⟩
  · rcases List.mem_cons.mp hf with rfl | hf
    · exact ⟨hc, h1, h2, Or.inl rfl, hE⟩
    · exact iS f hf
  · simp only [zi_on, zi_os, zw_s, zw_a, zt_0]; omega
  · simp only [zi_on, zi_os, zw_s, zw_b, zt_0]; omega
  · simp only [zi_on, zi_os, zw_s, zw_a, zt_0]; omega
  · simp only [zi_m, zi_on, zi_os, zw_s, zw_d, zt_0]
    omega
theorem zi_keep (P : zl_P K A B C n nx cf cl ic) (I : zi_I K nx mp cl ic (none, v, e0, (t, s, h, e) :: S, R, pn, rn, out, on, st, tc, tp, nc, bc, hc)) (hs : s = 0) (hk : zs_kp (K t)) :
    zi_I K nx mp cl ic (some (nx (t + 1)), v, e, (t, 1, v, e) :: S, R, pn, rn, out, on, 1, tc, tp, nc, bc, hc) ∧ zi_m K nx mp (some (nx (t + 1))) ((t, 1, v, e) :: S) R pn < zi_m K nx mp none ((t, s, h, e) :: S) R pn := by
  subst hs
  obtain ⟨i1, i2, i3, i4, i5, i6, i7, iF, iS, iR, b1, b2, b3⟩ := I
  obtain ⟨f1, f2, f3, f4, f5⟩ := iS _ (List.mem_cons_self ..)
  dsimp only at f1 f2 f3 f4 f5
  have L := P.2.2.2.2.2 t f1
  have hx : cl (nx (t + 1)) ∧ (ic (nx (t + 1)) → ic t) ∧ zi_o nx (some (nx (t + 1))) + zt_T K nx t 1 ≤ zt_T K nx t 0 := by
    simp only [zi_on, zi_os, zt_0]
    by_cases k : K t = 13
    · obtain ⟨c1, c2, c3, c4, c5, c6, c7, c8, -⟩ := lc_ha L k
      have := (P.2.2.2.2.2 _ c2).1
      have := (P.2.2.2.2.2 _ c6).1
      rw [zt_h k]
      exact ⟨c2, c4, by omega⟩
    · obtain ⟨-, c1, c2, c3, c4, c5⟩ := lc_bi L (by rcases hk with k' | k' | k' | k' | k' | k' | k' <;> first | (exact absurd k' k) | simp [k'])
      have := (P.2.2.2.2.2 _ c2).1
      rw [zt_1 k]
      exact ⟨c2, c5, by omega⟩
  obtain ⟨x1, x2, x3⟩ := hx
  simp only [zi_on, zi_os, zw_s, zw_a, zw_b] at b1 b2 b3
  refine ⟨⟨rfl, i2, i3, i4, i5, i6, i7, fun q hq => ?_, fun f hf => ?_, iR, ?_, ?_, ?_⟩, ?_⟩
  · cases hq
    exact ⟨x1, fun z => f5 (x2 z)⟩
  · rcases List.mem_cons.mp hf with rfl | hf
    · exact ⟨f1, f2, f3, Or.inr ⟨rfl, hk⟩, f5⟩
    · exact iS f (List.mem_cons_of_mem _ hf)
  · simp only [zw_s, zw_a]; omega
  · simp only [zw_s, zw_b]; omega
  · simp only [zw_s, zw_a]; omega
  · simp only [zi_m, zw_s, zw_d, zi_on, zi_os] at x3 ⊢
    omega
theorem zi_perf (P : zl_P K A B C n nx cf cl ic) (I : zi_I K nx mp cl ic (none, v, e0, (t, s, h, e) :: S, R, pn, rn, out, on, st, tc, tp, nc, bc, hc)) (hk : K t = 12) (hp : pn ≠ mp) {op : Nat} (h8 : op < 8)
    {a : List ZF} {g : ZF} {b : List ZF} (hf : zs_fnd K cf op S = some (a, g, b)) (e' : Nat → Int32) :
    zi_I K nx mp cl ic (some (cf g.1 op + 1), v, upd e' 8 (nI pn), b, zo_set R pn (some (a, g)), pn + 1, rn, out, on, 1, tc, tp, nc, bc + 3, hc) ∧
    zi_m K nx mp (some (cf g.1 op + 1)) b (zo_set R pn (some (a, g))) (pn + 1) < zi_m K nx mp none ((t, s, h, e) :: S) R pn := by
  obtain ⟨i1, i2, i3, i4, i5, i6, i7, iF, iS, iR, b1, b2, b3⟩ := I
  obtain ⟨hS, ⟨g1, g2, g3⟩, -⟩ := zf_some hf
  have hg := iS g (by rw [hS]; simp)
  have Lg := P.2.2.2.2.2 _ hg.1
  obtain ⟨-, -, -, -, -, -, -, -, c9⟩ := lc_ha Lg g1
  obtain ⟨d1, d2, d3, d4⟩ := c9 op h8 g3
  have hn := P.1
  have hgn := Lg.2.1
  have hq := (P.2.2.2.2.2 _ d3).1
  have key : ∀ w : ZF → Nat, ∀ c, zw_r w c (zo_set R pn (some (a, g))) (pn + 1) + zw_s w b = zw_r w c R pn + zw_s w S + c := by
    intro w c
    rw [hS, zw_app]
    simp only [zw_r, zw_s]
    rw [zw_ge w c R pn _ pn (Nat.le_refl _), zo_s]
    simp only [zw_o]
    omega
  have k1 := key (zw_a K nx) 0
  have k2 := key (zw_b K nx) 0
  have k3 := key (zw_a K nx) 1
  have k4 := key (zw_d K nx) 0
  simp only [zi_on, zi_os, zw_s] at b1 b2 b3
  refine ⟨⟨rfl, i2, i3, by omega, i5, i6, by omega, fun q hq => ?_, fun f hf => ?_, ?_, ?_, ?_, ?_⟩, ?_⟩
  · cases hq
    exact ⟨d3, fun _ => ⟨pn, by omega, zu_s⟩⟩
  · exact zi_Fm (by omega) (iS f (by rw [hS]; simp [hf]))
  · exact zi_Rm iR (fun f hf => iS f (by rw [hS]; simp [hf])) hg g1 g2
  · simp only [zi_on, zi_os]; omega
  · simp only [zi_on, zi_os]; omega
  · simp only [zi_on, zi_os]; omega
  · simp only [zi_m, zi_on, zi_os, zw_s]
    omega
theorem zi_resu (I : zi_I K nx mp cl ic (none, v, e0, (t, s, h, e) :: S, R, pn, rn, out, on, st, tc, tp, nc, bc, hc)) (hs : s = 1) {r : Nat} (hr : r < pn)
    {a : List ZF} {g : ZF} (hf : R r = some (a, g)) (x : Nat) (hx : x ≤ 1) (S' : List ZF) (hS' : S' = S ∨ S' = (g.1, 1, h, g.2.2.2) :: S) (rn' : Nat) :
    zi_I K nx mp cl ic (none, v, e, a ++ S', zo_set R r none, pn, rn', out, on, 1, tc, tp, nc, bc, hc + x) ∧
    zi_m K nx mp none (a ++ S') (zo_set R r none) pn < zi_m K nx mp none ((t, s, h, e) :: S) R pn := by
  obtain ⟨i1, i2, i3, i4, i5, i6, i7, iF, iS, iR, b1, b2, b3⟩ := I
  obtain ⟨r1, r2, r3, r4⟩ := iR r hr a g hf
  have key : ∀ w : ZF → Nat, ∀ c, w (g.1, 1, h, g.2.2.2) = w g → zw_r w c (zo_set R r none) pn + zw_s w (a ++ S') + c ≤ zw_r w c R pn + zw_s w S := by
    intro w c hw
    have q := zw_lt w c R r none pn hr
    rw [hf] at q
    simp only [zw_o] at q
    rw [zw_app]
    rcases hS' with rfl | rfl
    · omega
    · simp only [zw_s]; omega
  have k1 := key (zw_a K nx) 0 (by simp only [zw_a, r4])
  have k2 := key (zw_b K nx) 0 (by simp only [zw_b, r4])
  have k3 := key (zw_a K nx) 1 (by simp only [zw_a, r4])
  have k4 := key (zw_d K nx) 0 (by simp only [zw_d, r4])
  simp only [zi_on, zi_os, zw_s] at b1 b2 b3
  refine ⟨⟨rfl, i2, i3, i4, i5, i6, i7, (fun q hq => by cases hq), fun f hf => ?_, zi_Rn iR, ?_, ?_, ?_⟩, ?_⟩
  · rcases List.mem_append.mp hf with hf | hf
    · exact r1 f hf
    · rcases hS' with rfl | rfl
      · exact iS f (List.mem_cons_of_mem _ hf)
      · rcases List.mem_cons.mp hf with rfl | hf
        · obtain ⟨q1, q2, q3, q4, q5⟩ := r2
          exact ⟨q1, q2, q3, Or.inr ⟨rfl, Or.inr (Or.inr (Or.inr (Or.inr (Or.inr (Or.inl r3)))))⟩, q5⟩
        · exact iS f (List.mem_cons_of_mem _ hf)
  · simp only [zi_on, zi_os]; omega
  · simp only [zi_on, zi_os]; omega
  · simp only [zi_on, zi_os]; omega
  · have : zw_d K nx (t, s, h, e) ≥ 1 := by simp only [zw_d]; omega
    simp only [zi_m, zi_on, zi_os, zw_s]
    omega
theorem zi_op (P : zl_P K A B C n nx cf cl ic) (ht : cl t) (hk : K t = 12) : ∃ op, op < 8 ∧ (A t).toNatClampNeg = op := by
  have L := P.2.2.2.2.2 t ht
  obtain ⟨x, hx, he⟩ := (P.2.2.1 t (Nat.lt_of_lt_of_le L.1 L.2.1)).2.1 (by simp [hk])
  exact ⟨x, hx, by rw [he]; exact nI_clamp (by omega)⟩
theorem zi_step (P : zl_P K A B C n nx cf cl ic) {z : ZZ} (I : zi_I K nx mp cl ic z) :
    (zi_I K nx mp cl ic (zs K A B C nx cf mp z) ∧ zi_mu K nx mp (zs K A B C nx cf mp z) < zi_mu K nx mp z) ∨ zi_X mp (zs K A B C nx cf mp z) := by
  obtain ⟨fo, v, e0, S, R, pn, rn, out, on, st, tc, tp, nc, bc, hc⟩ := z
  cases fo with
  | some p =>
    left
    by_cases h1 : K p = 1
    · rw [zr_leaf1 h1]; exact zi_leaf P I (Or.inl h1) _
    · by_cases h2 : K p = 2
      · rw [zr_leaf2 h2]; exact zi_leaf P I (Or.inr h2) _
      · rw [zr_push h1 h2]; exact zi_push P I h1 h2
  | none =>
    cases S with
    | nil =>
      right
      rw [zr_done]
      exact ⟨I.2.2.1, I.2.2.2.1, Or.inl ⟨rfl, I.2.1⟩⟩
    | cons f S =>
      obtain ⟨t, s, h, e⟩ := f
      obtain ⟨f1, f2, f3, f4, f5⟩ : zi_F K cl ic pn (t, s, h, e) := I.2.2.2.2.2.2.2.2.1 _ (List.mem_cons_self ..)
      dsimp only at f1 f2 f3 f4 f5
      have L := P.2.2.2.2.2 t f1
      have hs1 : s ≤ 1 := by rcases f4 with c | ⟨c, -⟩ <;> omega
      have hon := I.2.2.1
      by_cases hkp : s = 0 ∧ zs_kp (K t)
      · left
        rw [zr_keep hkp.1 hkp.2]
        exact zi_keep P I hkp.1 hkp.2
      · have s0 : ¬ zs_kp (K t) → s = 0 := fun c => f4.elim id (fun q => absurd q.2 c)
        have s1 : zs_kp (K t) → s = 1 := fun c => f4.elim (fun q => absurd ⟨q, c⟩ hkp) (fun q => q.1)
        rcases lc_k L f2 f3 with k | k | k | k | k | k | k | k
        · left
          have z0 := s0 (by rw [k]; decide)
          subst z0
          obtain ⟨c1, c2, c3, c4, c5, c6, c7⟩ := lc_if L k
          have q1 := (P.2.2.2.2.2 _ c2).1
          have q2 := (P.2.2.2.2.2 _ c3).1
          rw [zr_if k]
          refine zi_pop I _ _ _ (fun p hp => ?_) 0 0 ?_ hs1 (by omega) _ _ hon _ _
          · split at hp
            · cases hp; exact ⟨c3, fun z => f5 (c7 z)⟩
            · cases hp; exact ⟨c2, fun z => f5 (c6 z)⟩
          · rw [zt_0]
            split
            · simp only [zi_on, zi_os]; omega
            · simp only [zi_on, zi_os]; omega
        · left
          have z0 := s0 (by rw [k]; decide)
          subst z0
          obtain ⟨-, c1, c2, c3, c4, c5⟩ := lc_bi L (by simp [k])
          have q1 := (P.2.2.2.2.2 _ c2).1
          rw [zr_let k]
          refine zi_pop I _ _ _ (fun p hp => ?_) 0 1 ?_ hs1 (by omega) _ _ hon _ _
          · cases hp
            refine ⟨c2, fun z => ?_⟩
            obtain ⟨r, hr, he⟩ := f5 (c5 z)
            obtain ⟨x, hx, hxe⟩ := (P.2.2.1 t (Nat.lt_of_lt_of_le L.1 L.2.1)).2.1 (by simp [k])
            exact ⟨r, hr, by rw [hxe, nI_clamp (by omega), zu_n (by omega)]; exact he⟩
          · rw [zt_0]; simp only [zi_on, zi_os]; omega
        · left
          have z0 := s0 (by rw [k]; decide)
          subst z0
          obtain ⟨-, c1, c2, c3, c4, c5⟩ := lc_bi L (by simp [k])
          have q1 := (P.2.2.2.2.2 _ c2).1
          rw [zr_seq k]
          refine zi_pop I _ _ _ (fun p hp => ?_) 0 0 ?_ hs1 (by omega) _ _ hon _ _
          · cases hp
            exact ⟨c2, fun z => f5 (c5 z)⟩
          · rw [zt_0]; simp only [zi_on, zi_os]; omega
        · by_cases ho : on = 16
          · right
            rw [zr_em0 k ho]
            exact ⟨hon, I.2.2.2.1, Or.inr ⟨rfl, by decide⟩⟩
          · left
            rw [zr_em1 k ho]
            exact zi_pop I _ _ _ (fun p hp => by cases hp) 0 0 (by simp only [zi_on, zi_os]; omega) hs1 (by omega) _ _ (by omega) _ _
        · by_cases hp : pn = mp
          · right
            rw [zr_pf0 k hp]
            exact ⟨hon, I.2.2.2.1, Or.inr ⟨rfl, by decide⟩⟩
          · cases hf : zs_fnd K cf (A t).toNatClampNeg S with
            | none =>
              right
              rw [zr_pf1 k hp hf]
              have := I.2.2.2.1
              exact ⟨hon, by omega, Or.inr ⟨rfl, by decide⟩⟩
            | some q =>
              left
              obtain ⟨a, g, b⟩ := q
              rw [zr_pf2 k hp hf]
              obtain ⟨op, h8, hop⟩ := zi_op P f1 k
              rw [hop] at hf ⊢
              exact zi_perf P I k hp h8 hf _
        · left
          have z1 := s1 (by rw [k]; decide)
          subst z1
          obtain ⟨c1, c2, c3, c4, c5, c6, c7, c8, -⟩ := lc_ha L k
          have q1 := (P.2.2.2.2.2 _ c2)
          have q2 := (P.2.2.2.2.2 _ c6)
          have q3 := L.2.1
          rw [zr_ret k rfl]
          refine zi_pop I _ _ _ (fun p hp => ?_) 1 2 ?_ hs1 (by omega) _ _ hon _ _
          · cases hp
            refine ⟨c6, fun z => ?_⟩
            obtain ⟨r, hr, he⟩ := f5 (c7 z)
            obtain ⟨⟨x, hx, hxe⟩, ⟨y, hy, hye⟩⟩ := (P.2.2.1 (nx (nx (t + 1))) (by have := q2.1; have := q2.2.1; omega)).2.2.2.1 c5
            exact ⟨r, hr, by rw [hxe, hye, nI_clamp (by omega), nI_clamp (by omega), zu_n (by omega), zu_n (by omega)]; exact he⟩
          · rw [zt_h k]
            have := q2.1
            simp only [zi_on, zi_os]; omega
        · have z1 := s1 (by rw [k]; decide)
          subst z1
          obtain ⟨c0, -⟩ := lc_bi L (by simp [k])
          obtain ⟨r, hr, he⟩ := f5 (c0 k)
          have hpn := I.2.2.2.1
          have h16 := I.2.2.2.2.1
          have hcr : (e 8).toNatClampNeg = r := by rw [he]; exact nI_clamp (by omega)
          cases hf : R (e 8).toNatClampNeg with
          | none =>
            right
            rw [zr_rs0 k rfl hf]
            exact ⟨hon, hpn, Or.inr ⟨rfl, by decide⟩⟩
          | some q =>
            left
            obtain ⟨a, g⟩ := q
            rw [zr_rs1 k rfl hf]
            rw [hcr] at hf ⊢
            refine zi_resu I rfl hr hf _ (by split <;> omega) _ ?_ _
            split
            · exact Or.inr rfl
            · exact Or.inl rfl
        · left
          have z1 := s1 (by rcases k with k | k | k | k | k <;> (rw [k]; decide))
          subst z1
          rw [zr_bin k rfl]
          exact zi_pop I _ _ _ (fun p hp => by cases hp) 0 0 (by simp only [zi_on, zi_os]; omega) hs1 (by omega) _ _ hon _ _
theorem zi_run (P : zl_P K A B C n nx cf cl ic) : ∀ (m : Nat) (z : ZZ), zi_I K nx mp cl ic z → zi_mu K nx mp z < m →
    ∃ k, k < m ∧ zi_X mp (Nat.repeat (zs K A B C nx cf mp) (k + 1) z) ∧ ∀ j, j ≤ k → zi_I K nx mp cl ic (Nat.repeat (zs K A B C nx cf mp) j z) := by
  have rep : ∀ (f : ZZ → ZZ) (j : Nat) (z : ZZ), Nat.repeat f (j + 1) z = Nat.repeat f j (f z) := by
    intro f j
    induction j with
    | zero => intro z; rfl
    | succ j ih => intro z; show f (Nat.repeat f (j + 1) z) = _; rw [ih]; rfl
  intro m
  induction m with
  | zero => intro z _ h; omega
  | succ m ih =>
    intro z I hm
    rcases zi_step P I with ⟨I', hmu⟩ | X
    · obtain ⟨k, hk, hX, hI⟩ := ih _ I' (by omega)
      refine ⟨k + 1, by omega, by rw [rep]; exact hX, fun j hj => ?_⟩
      cases j with
      | zero => exact I
      | succ j => rw [rep]; exact hI j (by omega)
    · refine ⟨0, by omega, X, fun j hj => ?_⟩
      have : j = 0 := by omega
      subst this
      exact I
end
end
section
abbrev HPr : Type := Nat × ZF
def hl_C (bel : Nat → Int32) : Int32 → List HPr → Int32 → Prop
  | a, [], e => a = e
  | a, p :: L, e => a = nI p.1 ∧ hl_C bel (bel p.1) L e
def hl_N : List HPr → Prop
  | [] => True
  | p :: L => (∀ q ∈ L, q.1 ≠ p.1) ∧ hl_N L
def hn_N (tok stg hld : Nat → Int32) (EV : Nat → (Nat → Int32) → Prop) (lo cnt : Nat) (p : HPr) : Prop :=
  lo ≤ p.1 ∧ p.1 < cnt ∧ tok p.1 = nI p.2.1 ∧ stg p.1 = nI p.2.2.1 ∧ (p.2.2.1 = 1 → hld p.1 = p.2.2.2.1) ∧ EV p.1 p.2.2.2.2
def hp_H (tok stg hld bel : Nat → Int32) (EV : Nat → (Nat → Int32) → Prop) (lo cnt : Nat) (Q : Nat → List HPr) : Prop :=
  ∃ own : Nat → Nat, ∀ k, (∃ a e, hl_C bel a (Q k) e) ∧ hl_N (Q k) ∧ ∀ p ∈ Q k, own p.1 = k ∧ hn_N tok stg hld EV lo cnt p
def hq_s (Q : Nat → List HPr) (k : Nat) (L : List HPr) : Nat → List HPr := fun j => if j = k then L else Q j
theorem hq_e {Q : Nat → List HPr} {k : Nat} {L : List HPr} : hq_s Q k L k = L := by unfold hq_s; rw [if_pos rfl]
theorem hq_n {Q : Nat → List HPr} {k j : Nat} {L : List HPr} (h : j ≠ k) : hq_s Q k L j = Q j := by unfold hq_s; rw [if_neg h]
def hf_f (d : Int32) : List HPr → Int32
  | [] => d
  | p :: _ => nI p.1
def hf_l : Int32 → List HPr → Int32
  | d, [] => d
  | _, p :: L => hf_l (nI p.1) L
theorem hf_la {b : HPr} : ∀ {a : List HPr} {d : Int32}, hf_l d (a ++ [b]) = nI b.1
  | [], _ => rfl
  | _ :: a, _ => hf_la (a := a)
theorem hf_c {bel : Nat → Int32} {a e d : Int32} : ∀ {L : List HPr}, L ≠ [] → hl_C bel a L e → a = hf_f d L
  | [], h, _ => absurd rfl h
  | _ :: _, _, c => c.1
theorem hl_upd {bel : Nat → Int32} {k : Nat} {x e : Int32} : ∀ {L : List HPr} {a : Int32}, (∀ p ∈ L, p.1 ≠ k) → hl_C bel a L e → hl_C (upd bel k x) a L e
  | [], _, _, c => c
  | p :: L, a, h, c => ⟨c.1, by rw [zu_n (h p (List.mem_cons_self ..))]; exact hl_upd (fun q hq => h q (List.mem_cons_of_mem _ hq)) c.2⟩
theorem hl_app {bel : Nat → Int32} {M : List HPr} {e : Int32} : ∀ {L : List HPr} {a : Int32}, hl_C bel a (L ++ M) e ↔ ∃ m, hl_C bel a L m ∧ hl_C bel m M e
  | [], a => ⟨fun c => ⟨a, rfl, c⟩, fun ⟨m, h1, h2⟩ => by have h1' : a = m := h1; subst h1'; exact h2⟩
  | p :: L, a => by
    constructor
    · intro c
      obtain ⟨m, h1, h2⟩ := hl_app.mp c.2
      exact ⟨m, ⟨c.1, h1⟩, h2⟩
    · intro ⟨m, h1, h2⟩
      exact ⟨h1.1, hl_app.mpr ⟨m, h1.2, h2⟩⟩
theorem hl_Na {M : List HPr} : ∀ {L : List HPr}, hl_N (L ++ M) ↔ hl_N L ∧ hl_N M ∧ ∀ p ∈ L, ∀ q ∈ M, q.1 ≠ p.1
  | [] => ⟨fun c => ⟨trivial, c, fun _ h => nomatch h⟩, fun c => c.2.1⟩
  | p :: L => by
    constructor
    · intro c
      obtain ⟨h1, h2, h3⟩ := hl_Na.mp c.2
      refine ⟨⟨fun q hq => c.1 q (List.mem_append.mpr (Or.inl hq)), h1⟩, h2, fun x hx q hq => ?_⟩
      rcases List.mem_cons.mp hx with rfl | hx
      · exact c.1 q (List.mem_append.mpr (Or.inr hq))
      · exact h3 x hx q hq
    · intro ⟨h1, h2, h3⟩
      refine ⟨fun q hq => ?_, hl_Na.mpr ⟨h1.2, h2, fun x hx => h3 x (List.mem_cons_of_mem _ hx)⟩⟩
      rcases List.mem_append.mp hq with hq | hq
      · exact h1.1 q hq
      · exact h3 p (List.mem_cons_self ..) q hq
section
variable {tok stg hld bel : Nat → Int32} {EV : Nat → (Nat → Int32) → Prop} {lo cnt : Nat} {Q : Nat → List HPr} {top nil : Int32}
theorem hp_ev {EV' : Nat → (Nat → Int32) → Prop} (H : hp_H tok stg hld bel EV lo cnt Q) (hE : ∀ x e, x < cnt → EV x e → EV' x e) : hp_H tok stg hld bel EV' lo cnt Q := by
  obtain ⟨own, H⟩ := H
  refine ⟨own, fun k => ⟨(H k).1, (H k).2.1, fun p hp => ?_⟩⟩
  obtain ⟨o, n1, n2, n3, n4, n5, n6⟩ := (H k).2.2 p hp
  exact ⟨o, n1, n2, n3, n4, n5, hE _ _ n2 n6⟩
theorem hp_node (H : hp_H tok stg hld bel EV lo cnt Q) {k : Nat} {p : HPr} (hp : p ∈ Q k) : hn_N tok stg hld EV lo cnt p := by
  obtain ⟨own, H⟩ := H
  exact ((H k).2.2 p hp).2
theorem hp_push (H : hp_H tok stg hld bel EV lo cnt Q) (hlo : lo ≤ cnt) (C : hl_C bel top (Q 0) nil) (t s : Nat) (h : Int32) (e : Nat → Int32) {hld' : Nat → Int32} {EV' : Nat → (Nat → Int32) → Prop}
    (hh : ∀ x, x < cnt → hld' x = hld x) (hs : s = 1 → hld' cnt = h) (hE : ∀ x e, x < cnt → EV x e → EV' x e) (hEc : EV' cnt e) :
    hp_H (upd tok cnt (nI t)) (upd stg cnt (nI s)) hld' (upd bel cnt top) EV' lo (cnt + 1) (hq_s Q 0 ((cnt, (t, s, h, e)) :: Q 0)) ∧
    hl_C (upd bel cnt top) (nI cnt) ((cnt, (t, s, h, e)) :: Q 0) nil := by
  obtain ⟨own, H⟩ := H
  have hlt : ∀ k, ∀ p ∈ Q k, p.1 < cnt := fun k p hp => ((H k).2.2 p hp).2.2.1
  have old : ∀ k, ∀ p ∈ Q k, hn_N (upd tok cnt (nI t)) (upd stg cnt (nI s)) hld' EV' lo (cnt + 1) p := by
    intro k p hp
    obtain ⟨o, n1, n2, n3, n4, n5, n6⟩ := (H k).2.2 p hp
    exact ⟨n1, by omega, by rw [zu_n (by omega)]; exact n3, by rw [zu_n (by omega)]; exact n4, fun z => by rw [hh _ n2]; exact n5 z, hE _ _ n2 n6⟩
  have ch : ∀ k a x, hl_C bel a (Q k) x → hl_C (upd bel cnt top) a (Q k) x := fun k a x c => hl_upd (fun p hp => Nat.ne_of_lt (hlt k p hp)) c
  have C' : hl_C (upd bel cnt top) (nI cnt) ((cnt, (t, s, h, e)) :: Q 0) nil := ⟨rfl, by show hl_C _ (upd bel cnt top cnt) _ _; rw [zu_s]; exact ch 0 _ _ C⟩
  refine ⟨⟨fun x => if x = cnt then 0 else own x, fun k => ?_⟩, C'⟩
  by_cases hk : k = 0
  · subst hk
    rw [hq_e]
    refine ⟨⟨_, _, C'⟩, ⟨fun q hq => Nat.ne_of_lt (hlt 0 q hq), (H 0).2.1⟩, fun p hp => ?_⟩
    rcases List.mem_cons.mp hp with rfl | hp
    · exact ⟨if_pos rfl, hlo, Nat.lt_succ_self _, zu_s, zu_s, hs, hEc⟩
    · refine ⟨?_, old 0 p hp⟩
      show (if p.1 = cnt then 0 else own p.1) = 0
      rw [if_neg (Nat.ne_of_lt (hlt 0 p hp))]
      exact ((H 0).2.2 p hp).1
  · rw [hq_n hk]
    obtain ⟨⟨a, x, c⟩, h2, h3⟩ := H k
    refine ⟨⟨a, x, ch k a x c⟩, h2, fun p hp => ⟨?_, old k p hp⟩⟩
    show (if p.1 = cnt then 0 else own p.1) = k
    rw [if_neg (Nat.ne_of_lt (hlt k p hp))]
    exact (h3 p hp).1
theorem hp_keep (H : hp_H tok stg hld bel EV lo cnt Q) {x t s : Nat} {h : Int32} {e : Nat → Int32} {L : List HPr} (hQ : Q 0 = (x, (t, s, h, e)) :: L) (v : Int32) :
    hp_H tok (upd stg x 1) (upd hld x v) bel EV lo cnt (hq_s Q 0 ((x, (t, 1, v, e)) :: L)) := by
  obtain ⟨own, H⟩ := H
  have H0 := H 0
  rw [hQ] at H0
  obtain ⟨⟨a0, x0, c0⟩, ⟨d1, d2⟩, d3⟩ := H0
  obtain ⟨o, n1, n2, n3, n4, n5, n6⟩ := d3 _ (List.mem_cons_self ..)
  have old : ∀ p : HPr, p.1 ≠ x → hn_N tok stg hld EV lo cnt p → hn_N tok (upd stg x 1) (upd hld x v) EV lo cnt p := by
    intro p hp ⟨m1, m2, m3, m4, m5, m6⟩
    exact ⟨m1, m2, m3, by rw [zu_n hp]; exact m4, fun z => by rw [zu_n hp]; exact m5 z, m6⟩
  refine ⟨own, fun k => ?_⟩
  by_cases hk : k = 0
  · subst hk
    rw [hq_e]
    refine ⟨⟨a0, x0, c0⟩, ⟨d1, d2⟩, fun p hp => ?_⟩
    rcases List.mem_cons.mp hp with rfl | hp
    · exact ⟨o, n1, n2, n3, zu_s, fun _ => zu_s, n6⟩
    · exact ⟨(d3 p (List.mem_cons_of_mem _ hp)).1, old p (d1 p hp) (d3 p (List.mem_cons_of_mem _ hp)).2⟩
  · rw [hq_n hk]
    refine ⟨(H k).1, (H k).2.1, fun p hp => ?_⟩
    obtain ⟨op, np⟩ := (H k).2.2 p hp
    refine ⟨op, old p (fun z => hk ?_) np⟩
    rw [z] at op
    exact op.symm.trans o
theorem hp_pop (H : hp_H tok stg hld bel EV lo cnt Q) {p : HPr} {L : List HPr} (hQ : Q 0 = p :: L) : hp_H tok stg hld bel EV lo cnt (hq_s Q 0 L) := by
  obtain ⟨own, H⟩ := H
  refine ⟨own, fun k => ?_⟩
  by_cases hk : k = 0
  · subst hk
    rw [hq_e]
    have H0 := H 0
    rw [hQ] at H0
    obtain ⟨⟨a0, x0, c0⟩, ⟨d1, d2⟩, d3⟩ := H0
    exact ⟨⟨_, _, c0.2⟩, d2, fun q hq => d3 q (List.mem_cons_of_mem _ hq)⟩
  · rw [hq_n hk]; exact H k
theorem hp_cap (H : hp_H tok stg hld bel EV lo cnt Q) {a b : List HPr} {q : HPr} (hQ : Q 0 = a ++ q :: b) {k1 k2 : Nat} (h1 : k1 ≠ 0) (h2 : k2 ≠ 0) (h12 : k1 ≠ k2) :
    hp_H tok stg hld bel EV lo cnt (hq_s (hq_s (hq_s Q 0 b) k1 a) k2 [q]) := by
  classical
  obtain ⟨own, H⟩ := H
  have H0 := H 0
  rw [hQ] at H0
  obtain ⟨⟨a0, x0, c0⟩, d2, d3⟩ := H0
  obtain ⟨m, c1, c2⟩ := hl_app.mp c0
  obtain ⟨e1, e2, e3⟩ := hl_Na.mp d2
  have hq := d3 q (by simp)
  refine ⟨fun x => if (∃ p ∈ a, p.1 = x) then k1 else if x = q.1 then k2 else own x, fun k => ?_⟩
  by_cases z2 : k = k2
  · subst z2
    rw [hq_e]
    refine ⟨⟨nI q.1, bel q.1, rfl, rfl⟩, ⟨(fun _ h => nomatch h), trivial⟩, fun p hp => ?_⟩
    have hp' : p = q := by simpa using hp
    subst hp'
    refine ⟨?_, hq.2⟩
    show (if _ then k1 else if _ then k else _) = k
    rw [if_neg (fun ⟨y, hy, hye⟩ => e3 y hy p (List.mem_cons_self ..) hye.symm), if_pos rfl]
  · rw [hq_n z2]
    by_cases z1 : k = k1
    · subst z1
      rw [hq_e]
      refine ⟨⟨_, _, c1⟩, e1, fun p hp => ⟨?_, (d3 p (List.mem_append.mpr (Or.inl hp))).2⟩⟩
      show (if _ then k else _) = k
      rw [if_pos ⟨p, hp, rfl⟩]
    · rw [hq_n z1]
      by_cases z0 : k = 0
      · subst z0
        rw [hq_e]
        refine ⟨⟨_, _, c2.2⟩, e2.2, fun p hp => ?_⟩
        have hp' : p ∈ q :: b := List.mem_cons_of_mem _ hp
        obtain ⟨o, np⟩ := d3 p (List.mem_append.mpr (Or.inr hp'))
        refine ⟨?_, np⟩
        show (if _ then k1 else if _ then k2 else own p.1) = 0
        rw [if_neg (fun ⟨y, hy, hye⟩ => e3 y hy p hp' hye.symm), if_neg (e2.1 p hp)]
        exact o
      · rw [hq_n z0]
        refine ⟨(H k).1, (H k).2.1, fun p hp => ?_⟩
        obtain ⟨o, np⟩ := (H k).2.2 p hp
        refine ⟨?_, np⟩
        show (if _ then k1 else if _ then k2 else own p.1) = k
        rw [if_neg, if_neg]
        · exact o
        · intro z
          rw [z, hq.1] at o
          exact z0 o.symm
        · intro ⟨y, hy, hye⟩
          have := (d3 y (List.mem_append.mpr (Or.inl hy))).1
          rw [hye, o] at this
          exact z0 this
theorem hp_deep (H : hp_H tok stg hld bel EV lo cnt Q) {x t : Nat} {h : Int32} {e : Nat → Int32} {k2 : Nat} (h2 : k2 ≠ 0) (hQ : Q k2 = [(x, (t, 1, h, e))]) (C : hl_C bel top (Q 0) nil) (v : Int32) :
    hp_H tok stg (upd hld x v) (upd bel x top) EV lo cnt (hq_s (hq_s Q k2 []) 0 ((x, (t, 1, v, e)) :: Q 0)) ∧ hl_C (upd bel x top) (nI x) ((x, (t, 1, v, e)) :: Q 0) nil := by
  obtain ⟨own, H⟩ := H
  have hx := (H k2).2.2 (x, (t, 1, h, e)) (by rw [hQ]; exact List.mem_cons_self ..)
  obtain ⟨o, n1, n2, n3, n4, n5, n6⟩ := hx
  have ne : ∀ k, k ≠ k2 → ∀ p ∈ Q k, p.1 ≠ x := by
    intro k hk p hp z
    have := ((H k).2.2 p hp).1
    rw [z] at this
    exact hk (this.symm.trans o)
  have old : ∀ p : HPr, p.1 ≠ x → hn_N tok stg hld EV lo cnt p → hn_N tok stg (upd hld x v) EV lo cnt p := by
    intro p hp ⟨m1, m2, m3, m4, m5, m6⟩
    exact ⟨m1, m2, m3, m4, fun z => by rw [zu_n hp]; exact m5 z, m6⟩
  have C' : hl_C (upd bel x top) (nI x) ((x, (t, 1, v, e)) :: Q 0) nil := ⟨rfl, by show hl_C _ (upd bel x top x) _ _; rw [zu_s]; exact hl_upd (ne 0 (Ne.symm h2)) C⟩
  refine ⟨⟨fun y => if own y = k2 then 0 else own y, fun k => ?_⟩, C'⟩
  by_cases hk : k = 0
  · subst hk
    rw [hq_e]
    refine ⟨⟨_, _, C'⟩, ⟨ne 0 (Ne.symm h2), (H 0).2.1⟩, fun p hp => ?_⟩
    rcases List.mem_cons.mp hp with rfl | hp
    · exact ⟨if_pos o, n1, n2, n3, n4, fun _ => zu_s, n6⟩
    · obtain ⟨op, np⟩ := (H 0).2.2 p hp
      refine ⟨?_, old p (ne 0 (Ne.symm h2) p hp) np⟩
      show (if own p.1 = k2 then 0 else own p.1) = 0
      rw [op, if_neg (Ne.symm h2)]
  · rw [hq_n hk]
    by_cases hk2 : k = k2
    · subst hk2
      rw [hq_e]
      exact ⟨⟨0, 0, rfl⟩, trivial, fun _ h => nomatch h⟩
    · rw [hq_n hk2]
      obtain ⟨⟨a, y, c⟩, m2, m3⟩ := H k
      refine ⟨⟨a, y, hl_upd (ne k hk2) c⟩, m2, fun p hp => ?_⟩
      obtain ⟨op, np⟩ := m3 p hp
      refine ⟨?_, old p (ne k hk2 p hp) np⟩
      show (if own p.1 = k2 then 0 else own p.1) = k
      rw [op, if_neg hk2]
theorem hp_spl (H : hp_H tok stg hld bel EV lo cnt Q) {a : List HPr} {b : HPr} {k1 : Nat} (h1 : k1 ≠ 0) (hQ : Q k1 = a ++ [b]) (C : hl_C bel top (Q 0) nil) (d : Int32) :
    hp_H tok stg hld (upd bel b.1 top) EV lo cnt (hq_s (hq_s Q k1 []) 0 (Q k1 ++ Q 0)) ∧ hl_C (upd bel b.1 top) (hf_f d (Q k1)) (Q k1 ++ Q 0) nil := by
  obtain ⟨own, H⟩ := H
  have Hk := H k1
  rw [hQ] at Hk
  obtain ⟨⟨a0, x0, c0⟩, d2, d3⟩ := Hk
  obtain ⟨ob, nb⟩ := d3 b (by simp)
  obtain ⟨e1, e2, e3⟩ := hl_Na.mp d2
  obtain ⟨m, c1, c2⟩ := hl_app.mp c0
  have ha0 : a0 = hf_f d (Q k1) := by rw [hQ]; exact hf_c (by simp) c0
  have ne : ∀ k, k ≠ k1 → ∀ p ∈ Q k, p.1 ≠ b.1 := by
    intro k hk p hp z
    have := ((H k).2.2 p hp).1
    rw [z] at this
    exact hk (this.symm.trans ob)
  have C' : hl_C (upd bel b.1 top) (hf_f d (Q k1)) (Q k1 ++ Q 0) nil := by
    rw [← ha0, hQ]
    refine hl_app.mpr ⟨top, hl_app.mpr ⟨m, hl_upd (fun p hp => (e3 p hp b (by simp)).symm) c1, c2.1, ?_⟩, hl_upd (ne 0 (Ne.symm h1)) C⟩
    show upd bel b.1 top b.1 = top
    exact zu_s
  refine ⟨⟨fun y => if own y = k1 then 0 else own y, fun k => ?_⟩, C'⟩
  by_cases hk : k = 0
  · subst hk
    rw [hq_e]
    refine ⟨⟨_, _, C'⟩, ?_, fun p hp => ?_⟩
    · refine hl_Na.mpr ⟨(H k1).2.1, (H 0).2.1, fun p hp q hq z => h1 ?_⟩
      have w1 := ((H k1).2.2 p hp).1
      have w2 := ((H 0).2.2 q hq).1
      rw [z] at w2
      exact w1.symm.trans w2
    · rcases List.mem_append.mp hp with hp | hp
      · obtain ⟨op, np⟩ := (H k1).2.2 p hp
        exact ⟨if_pos op, np⟩
      · obtain ⟨op, np⟩ := (H 0).2.2 p hp
        refine ⟨?_, np⟩
        show (if own p.1 = k1 then 0 else own p.1) = 0
        rw [op, if_neg (Ne.symm h1)]
  · rw [hq_n hk]
    by_cases hk1 : k = k1
    · subst hk1
      rw [hq_e]
      exact ⟨⟨0, 0, rfl⟩, trivial, fun _ h => nomatch h⟩
    · rw [hq_n hk1]
      obtain ⟨⟨a', y, c⟩, m2, m3⟩ := H k
      refine ⟨⟨a', y, hl_upd (ne k hk1) c⟩, m2, fun p hp => ?_⟩
      obtain ⟨op, np⟩ := m3 p hp
      refine ⟨?_, np⟩
      show (if own p.1 = k1 then 0 else own p.1) = k
      rw [op, if_neg hk1]
end
end
section
abbrev ZE : Type := Nat × Nat × Nat
def zn_set (f : Nat → Nat) (k x : Nat) : Nat → Nat := fun j => if j = k then x else f j
theorem zn_s {f : Nat → Nat} {k x : Nat} : zn_set f k x k = x := by unfold zn_set; rw [if_pos rfl]
theorem zn_n {f : Nat → Nat} {k j x : Nat} (h : j ≠ k) : zn_set f k x j = f j := by unfold zn_set; rw [if_neg h]
def zn_set2 (f : Nat → Nat → Nat) (k l x : Nat) : Nat → Nat → Nat := fun j m => if j = k ∧ m = l then x else f j m
theorem zn_s2 {f : Nat → Nat → Nat} {k l x : Nat} : zn_set2 f k l x k l = x := by unfold zn_set2; rw [if_pos ⟨rfl, rfl⟩]
theorem zn_n2 {f : Nat → Nat → Nat} {k l x j m : Nat} (h : ¬ (j = k ∧ m = l)) : zn_set2 f k l x j m = f j m := by unfold zn_set2; rw [if_neg h]
def zc_pc (k : Int32) : Nat := if k = 11 ∨ k = 12 then 1 else if k = 8 then 3 else 2
def zc_fin (K : Nat → Int32) (i : Nat) : (Nat → Nat) → List ZE → (Nat → Nat) × List ZE
  | nx, [] => (nx, [])
  | nx, (t, s, c) :: es => if K t = 13 ∨ s + 1 < zc_pc (K t) then (nx, (t, s + 1, c) :: es) else zc_fin K i (zn_set nx t (i + 1)) es
def zc_cl (i : Nat) : List ZE → List ZE
  | [] => []
  | (t, _, _) :: es => (t, 3, i) :: es
def zc_top : List ZE → Nat
  | [] => 0
  | (t, _, _) :: _ => t
def zc_tl : List ZE → List ZE
  | [] => []
  | _ :: es => es
def zc_take (K A : Nat → Int32) (i : Nat) (stk : List ZE) (nx : Nat → Nat) (cf : Nat → Nat → Nat) : List ZE × (Nat → Nat) × (Nat → Nat → Nat) :=
  if K i = 1 ∨ K i = 2 then ((zc_fin K i (zn_set nx i (i + 1)) stk).2, (zc_fin K i (zn_set nx i (i + 1)) stk).1, cf)
  else if K i = 14 then (zc_cl i stk, nx, cf)
  else if K i = 15 then (zc_cl i stk, nx, zn_set2 cf (zc_top stk) (A i).toNatClampNeg i)
  else if K i = 16 then ((zc_fin K i (zn_set nx (zc_top stk) (i + 1)) (zc_tl stk)).2, (zc_fin K i (zn_set nx (zc_top stk) (i + 1)) (zc_tl stk)).1, cf)
  else ((i, 0, 0) :: stk, nx, cf)
def zc_in (K : Nat → Int32) (e : ZE) : Prop := ¬ (K e.1 = 13 ∧ (e.2.1 = 2 ∨ e.2.1 = 4))
def zc_ok (K : Nat → Int32) (k : Int32) : List ZE → Prop
  | [] => k ≠ 14 ∧ k ≠ 15 ∧ k ≠ 16
  | (t, s, _) :: _ => if K t = 13 ∧ s = 2 then k = 14 else if K t = 13 ∧ s = 4 then (k = 15 ∨ k = 16) else (k ≠ 14 ∧ k ≠ 15 ∧ k ≠ 16)
def zc_bd (K A B C : Nat → Int32) (x : Int32) (e : ZE) : Prop :=
  (K e.1 = 9 ∧ e.2.1 = 1 ∧ A e.1 = x) ∨ (K e.1 = 13 ∧ e.2.1 = 3 ∧ ((K e.2.2 = 14 ∧ (A e.2.2 = x ∨ B e.2.2 = x)) ∨ (K e.2.2 = 15 ∧ (B e.2.2 = x ∨ C e.2.2 = x))))
def zc_ic (K : Nat → Int32) (stk : List ZE) : Prop := ∃ e ∈ stk, K e.1 = 13 ∧ e.2.1 = 3 ∧ K e.2.2 = 15
def zc_flt (K A B C : Nat → Int32) (i : Nat) (stk : List ZE) (cf : Nat → Nat → Nat) (f : Nat) : Prop :=
  if 0 < i ∧ stk = [] then f = 1
  else (¬ zc_ok K (K i) stk ∧ f = 2) ∨ (zc_ok K (K i) stk ∧
    ((K i = 2 ∧ ¬ (∃ e ∈ stk, zc_bd K A B C (A i) e) ∧ f = 3) ∨ (K i = 17 ∧ ¬ zc_ic K stk ∧ f = 4) ∨ (K i = 15 ∧ cf (zc_top stk) (A i).toNatClampNeg ≠ 0 ∧ f = 5) ∨
     (¬ (K i = 2 ∧ ¬ (∃ e ∈ stk, zc_bd K A B C (A i) e)) ∧ ¬ (K i = 17 ∧ ¬ zc_ic K stk) ∧ ¬ (K i = 15 ∧ cf (zc_top stk) (A i).toNatClampNeg ≠ 0) ∧ f = 0)))
def zk_o (nx : Nat → Nat) (ic : Nat → Prop) (t x : Nat) : Prop := nx x ≠ 0 ∧ (ic x → ic t)
def zk_q (nx : Nat → Nat) (ic : Nat → Prop) (t : Nat) : Nat → Nat → Prop
  | 0, q => q = t + 1
  | 1, q => zk_o nx ic t (t + 1) ∧ q = nx (t + 1)
  | _ + 2, q => zk_o nx ic t (t + 1) ∧ zk_o nx ic t (nx (t + 1)) ∧ q = nx (nx (t + 1))
def zk_bi (k : Int32) : Prop := k = 3 ∨ k = 4 ∨ k = 5 ∨ k = 6 ∨ k = 7 ∨ k = 9 ∨ k = 10 ∨ k = 17
def zk_R (K : Nat → Int32) (nx : Nat → Nat) (ic : Nat → Prop) (t : Nat) : Prop := ∃ c, zk_q nx ic t 2 c ∧ K c = 14 ∧ zk_o nx ic t (c + 1)
def zk_c (K : Nat → Int32) (nx : Nat → Nat) (t x : Nat) : Prop := t < x ∧ K x = 15 ∧ nx (x + 1) ≠ 0
def zk_h (K : Nat → Int32) (nx : Nat → Nat) (cf : Nat → Nat → Nat) (ic : Nat → Prop) (q t s c : Nat) : Prop :=
  (s ≤ 2 ∧ zk_q nx ic t s q ∧ ∀ op, cf t op = 0) ∨
  (s = 3 ∧ K c = 14 ∧ zk_q nx ic t 2 c ∧ q = c + 1 ∧ ∀ op, cf t op = 0) ∨
  (s = 3 ∧ K c = 15 ∧ zk_R K nx ic t ∧ t < c ∧ q = c + 1 ∧ ∀ op, cf t op ≠ 0 → cf t op = c ∨ zk_c K nx t (cf t op)) ∨
  (s = 4 ∧ zk_R K nx ic t ∧ ∀ op, cf t op ≠ 0 → zk_c K nx t (cf t op))
def zk_E (K : Nat → Int32) (nx : Nat → Nat) (cf : Nat → Nat → Nat) (ic : Nat → Prop) (q t s c : Nat) (es : List ZE) : Prop :=
  t < q ∧ nx t = 0 ∧ (ic t ↔ zc_ic K es) ∧ (K t = 17 → ic t) ∧
  ((((K t = 11 ∨ K t = 12) ∨ zk_bi (K t) ∨ K t = 8) ∧ s < zc_pc (K t) ∧ zk_q nx ic t s q) ∨ (K t = 13 ∧ zk_h K nx cf ic q t s c))
def zk_A (K : Nat → Int32) (es : List ZE) : Prop := ∀ e ∈ es, zc_in K e
def zk_S (K : Nat → Int32) (nx : Nat → Nat) (cf : Nat → Nat → Nat) (ic : Nat → Prop) : Nat → List ZE → Prop
  | q, [] => q = 0
  | q, (t, s, c) :: es => zk_E K nx cf ic q t s c es ∧ zk_S K nx cf ic t es ∧ zk_A K es
section
variable {K A B C : Nat → Int32} {nx nx' : Nat → Nat} {cf cf' : Nat → Nat → Nat} {ic ic' : Nat → Prop}
theorem zk_om {t x : Nat} (h2 : ∀ p, nx p ≠ 0 → nx' p = nx p) (i1 : ic' t ↔ ic t) (i2 : ∀ p, nx p ≠ 0 → (ic' p ↔ ic p)) (h : zk_o nx ic t x) : zk_o nx' ic' t x :=
  ⟨by rw [h2 x h.1]; exact h.1, fun z => i1.mpr (h.2 ((i2 x h.1).mp z))⟩
theorem zk_qm {t q : Nat} (h2 : ∀ p, nx p ≠ 0 → nx' p = nx p) (i1 : ic' t ↔ ic t) (i2 : ∀ p, nx p ≠ 0 → (ic' p ↔ ic p)) : ∀ {s : Nat}, zk_q nx ic t s q → zk_q nx' ic' t s q
  | 0, h => h
  | 1, h => ⟨zk_om h2 i1 i2 h.1, by rw [h2 _ h.1.1]; exact h.2⟩
  | s + 2, h => by
    obtain ⟨h3, h4, h5⟩ := h
    have e1 := h2 _ h3.1
    have e2 := h2 _ h4.1
    refine ⟨zk_om h2 i1 i2 h3, ?_, ?_⟩
    · rw [e1]; exact zk_om h2 i1 i2 h4
    · rw [e1, e2]; exact h5
theorem zk_cm {t x : Nat} (h2 : ∀ p, nx p ≠ 0 → nx' p = nx p) (h : zk_c K nx t x) : zk_c K nx' t x := ⟨h.1, h.2.1, by rw [h2 _ h.2.2]; exact h.2.2⟩
theorem zk_Rm {t : Nat} (h2 : ∀ p, nx p ≠ 0 → nx' p = nx p) (i1 : ic' t ↔ ic t) (i2 : ∀ p, nx p ≠ 0 → (ic' p ↔ ic p)) (h : zk_R K nx ic t) : zk_R K nx' ic' t := by
  obtain ⟨c, h1, h3, h4⟩ := h
  exact ⟨c, zk_qm h2 i1 i2 h1, h3, zk_om h2 i1 i2 h4⟩
theorem zk_Sm {es : List ZE} : ∀ {q : Nat}, (∀ p, p < q → nx' p = nx p) → (∀ p, nx p ≠ 0 → nx' p = nx p) → (∀ p op, p < q → cf' p op = cf p op) → (∀ p, p < q → (ic' p ↔ ic p)) → (∀ p, nx p ≠ 0 → (ic' p ↔ ic p)) →
    zk_S K nx cf ic q es → zk_S K nx' cf' ic' q es := by
  induction es with
  | nil => intro q _ _ _ _ _ h; exact h
  | cons e es ih =>
    obtain ⟨t, s, c⟩ := e
    intro q a1 a2 a3 a4 a5 ⟨⟨e1, e2, e3, e4, e5⟩, h2, h3⟩
    have it := a4 t e1
    have hcf : ∀ op, cf' t op = cf t op := fun op => a3 t op e1
    refine ⟨⟨e1, by rw [a1 t e1]; exact e2, it.trans e3, fun z => it.mpr (e4 z), ?_⟩, ih (fun p hp => a1 p (by omega)) a2 (fun p op hp => a3 p op (by omega)) (fun p hp => a4 p (by omega)) a5 h2, h3⟩
    rcases e5 with ⟨f1, f2, f3⟩ | ⟨f1, f2⟩
    · exact Or.inl ⟨f1, f2, zk_qm a2 it a5 f3⟩
    · refine Or.inr ⟨f1, ?_⟩
      rcases f2 with ⟨g1, g2, g3⟩ | ⟨g1, g2, g3, g4, g5⟩ | ⟨g1, g2, g3, g4, g5, g6⟩ | ⟨g1, g2, g3⟩
      · exact Or.inl ⟨g1, zk_qm a2 it a5 g2, fun op => by rw [hcf]; exact g3 op⟩
      · exact Or.inr (Or.inl ⟨g1, g2, zk_qm a2 it a5 g3, g4, fun op => by rw [hcf]; exact g5 op⟩)
      · refine Or.inr (Or.inr (Or.inl ⟨g1, g2, zk_Rm a2 it a5 g3, g4, g5, fun op => ?_⟩))
        rw [hcf]
        intro z
        exact (g6 op z).imp id (zk_cm a2)
      · refine Or.inr (Or.inr (Or.inr ⟨g1, zk_Rm a2 it a5 g2, fun op => ?_⟩))
        rw [hcf]
        intro z
        exact zk_cm a2 (g3 op z)
abbrev zk_cl (nx : Nat → Nat) : Nat → Prop := fun p => nx p ≠ 0
theorem zk_Cm {i i' p : Nat} (hi : i ≤ i') (h2 : ∀ p, nx p ≠ 0 → nx' p = nx p) (i2 : ∀ p, nx p ≠ 0 → (ic' p ↔ ic p)) (hc : ∀ p op, nx p ≠ 0 → cf' p op = cf p op) (hp : nx p ≠ 0)
    (h : zl_C K i nx cf (zk_cl nx) ic p) : zl_C K i' nx' cf' (zk_cl nx') ic' p := by
  have ep := h2 p hp
  have ip := i2 p hp
  have C1 : ∀ x, nx x ≠ 0 → zk_cl nx' x := fun x hx => by show nx' x ≠ 0; rw [h2 x hx]; exact hx
  have I1 : ∀ x, nx x ≠ 0 → (ic x → ic p) → (ic' x → ic' p) := fun x hx hi z => ip.mpr (hi ((i2 x hx).mp z))
  obtain ⟨l1, l2, l3⟩ := h
  refine ⟨by rw [ep]; exact l1, by rw [ep]; omega, ?_⟩
  rcases l3 with ⟨k, r⟩ | ⟨k, r1, r2, r3⟩ | ⟨k, r0, r1, r2, r3, r4, r5⟩ | ⟨k, r1, r2, r3, r4, r5, r6, r7⟩ | ⟨k, r1, r2, r3, r4, r5, r6, r7, r8, r9⟩
  · exact Or.inl ⟨k, by rw [ep]; exact r⟩
  · exact Or.inr (Or.inl ⟨k, C1 _ r1, by rw [ep, h2 _ r1]; exact r2, I1 _ r1 r3⟩)
  · refine Or.inr (Or.inr (Or.inl ⟨k, fun z => ip.mpr (r0 z), C1 _ r1, ?_, ?_, I1 _ r1 r4, ?_⟩))
    · rw [h2 _ r1]; exact C1 _ r2
    · rw [ep, h2 _ r1, h2 _ r2]; exact r3
    · rw [h2 _ r1]; exact I1 _ r2 r5
  · refine Or.inr (Or.inr (Or.inr (Or.inl ⟨k, C1 _ r1, ?_, ?_, ?_, I1 _ r1 r5, ?_, ?_⟩)))
    · rw [h2 _ r1]; exact C1 _ r2
    · rw [h2 _ r1, h2 _ r2]; exact C1 _ r3
    · rw [ep, h2 _ r1, h2 _ r2, h2 _ r3]; exact r4
    · rw [h2 _ r1]; exact I1 _ r2 r6
    · rw [h2 _ r1, h2 _ r2]; exact I1 _ r3 r7
  · refine Or.inr (Or.inr (Or.inr (Or.inr ⟨k, C1 _ r1, ?_, I1 _ r1 r3, ?_, ?_, ?_, ?_, ?_, ?_⟩)))
    · rw [h2 _ r1]; exact C1 _ r2
    · rw [h2 _ r1]; exact I1 _ r2 r4
    · rw [h2 _ r1, h2 _ r2]; exact r5
    · rw [h2 _ r1, h2 _ r2]; exact C1 _ r6
    · rw [h2 _ r1, h2 _ r2]; exact I1 _ r6 r7
    · rw [h2 _ r1, h2 _ r2, h2 _ r6, ep]; exact r8
    · intro op ho
      rw [hc p op hp]
      intro z
      obtain ⟨q1, q2, q3, q4⟩ := r9 op ho z
      exact ⟨q1, q2, C1 _ q3, by rw [h2 _ q3, ep]; exact q4⟩
theorem zc_icc {t s c : Nat} {es : List ZE} (h : ¬ (K t = 13 ∧ s = 3 ∧ K c = 15)) : zc_ic K ((t, s, c) :: es) → zc_ic K es := by
  intro ⟨e, he, h1⟩
  rcases List.mem_cons.mp he with rfl | he
  · exact absurd h1 h
  · exact ⟨e, he, h1⟩
theorem zk_qs {t s st i : Nat} (hs : s ≤ 1) (hst : nx st = i + 1) (it : ic st → ic t) (hq : zk_q nx ic t s st) : zk_q nx ic t (s + 1) (i + 1) := by
  have hst0 : nx st ≠ 0 := by omega
  match s, hs, hq with
  | 0, _, hq =>
    have e : st = t + 1 := hq
    subst e
    exact ⟨⟨hst0, it⟩, hst.symm⟩
  | 1, _, hq =>
    obtain ⟨q1, q2⟩ := hq
    subst q2
    exact ⟨q1, ⟨hst0, it⟩, hst.symm⟩
  | s + 2, h, _ => omega
theorem zc_fI {i : Nat} : ∀ (stk : List ZE) (st : Nat) (nx : Nat → Nat), nx st = i + 1 → (∀ p, nx p ≠ 0 → zl_C K (i + 1) nx cf (zk_cl nx) ic p) → zk_S K nx cf ic st stk → zk_A K stk → (ic st → zc_ic K stk) → st ≤ i →
    (∀ p, (zc_fin K i nx stk).1 p ≠ 0 → zl_C K (i + 1) (zc_fin K i nx stk).1 cf (zk_cl (zc_fin K i nx stk).1) ic p) ∧ (∀ p, i < p → nx p = 0 → (zc_fin K i nx stk).1 p = 0) ∧
    ((zc_fin K i nx stk).2 ≠ [] ∧ zk_S K (zc_fin K i nx stk).1 cf ic (i + 1) (zc_fin K i nx stk).2 ∨ (zc_fin K i nx stk).2 = [] ∧ (zc_fin K i nx stk).1 0 = i + 1 ∧ ¬ ic 0) := by
  intro stk
  induction stk with
  | nil =>
    intro st nx hst G hS _ hic _
    have : st = 0 := hS
    subst this
    exact ⟨G, fun _ _ h => h, Or.inr ⟨rfl, hst, fun z => by obtain ⟨e, he, -⟩ := hic z; exact nomatch he⟩⟩
  | cons e es ih =>
    obtain ⟨t, s, c⟩ := e
    intro st nx hst G ⟨⟨e1, e2, e3, e4, e5⟩, hS, hA'⟩ hA hic hi
    have hin : zc_in K (t, s, c) := hA _ (List.mem_cons_self ..)
    have hst0 : nx st ≠ 0 := by omega
    have it : ¬ (K t = 13 ∧ s = 3 ∧ K c = 15) → ic st → ic t := fun a z => e3.mpr (zc_icc a (hic z))
    by_cases hc : K t = 13 ∨ s + 1 < zc_pc (K t)
    · have e : zc_fin K i nx ((t, s, c) :: es) = (nx, (t, s + 1, c) :: es) := by simp only [zc_fin]; rw [if_pos hc]
      rw [e]
      refine ⟨G, fun _ _ h => h, Or.inl ⟨by simp, ⟨⟨by omega, e2, e3, e4, ?_⟩, hS, hA'⟩⟩⟩
      rcases e5 with ⟨f1, f2, f3⟩ | ⟨f1, f2⟩
      · have h13 : K t ≠ 13 := by
          intro z
          rw [z] at f1
          exact absurd f1 (by unfold zk_bi; decide)
        refine Or.inl ⟨f1, hc.resolve_left h13, zk_qs ?_ hst (it (fun z => h13 z.1)) f3⟩
        have : s + 1 < zc_pc (K t) := hc.resolve_left h13
        unfold zc_pc at this
        split at this
        · omega
        · split at this <;> omega
      · refine Or.inr ⟨f1, ?_⟩
        rcases f2 with ⟨g1, g2, g3⟩ | ⟨g1, g2, g3, g4, g5⟩ | ⟨g1, g2, g3, g4, g5, g6⟩ | ⟨g1, g2, g3⟩
        · have : s ≠ 2 := fun z => hin ⟨f1, Or.inl z⟩
          exact Or.inl ⟨by omega, zk_qs (by omega) hst (it (fun z => by omega)) g2, g3⟩
        · refine Or.inr (Or.inr (Or.inr ⟨by omega, ⟨c, g3, g2, ?_⟩, fun op z => absurd (g5 op) z⟩))
          rw [g4] at hst0 it
          exact ⟨hst0, it (fun z => by rw [g2] at z; exact absurd z.2.2 (by decide))⟩
        · refine Or.inr (Or.inr (Or.inr ⟨by omega, g3, fun op z => ?_⟩))
          rcases g6 op z with y | y
          · rw [y]
            rw [g5] at hst0
            exact ⟨g4, g2, hst0⟩
          · exact y
        · exact absurd ⟨f1, Or.inr g1⟩ hin
    · have e : zc_fin K i nx ((t, s, c) :: es) = zc_fin K i (zn_set nx t (i + 1)) es := by simp only [zc_fin]; rw [if_neg hc]
      rw [e]
      have h13 : K t ≠ 13 := fun z => hc (Or.inl z)
      have a2 : ∀ p, nx p ≠ 0 → zn_set nx t (i + 1) p = nx p := fun p hp => zn_n (fun z => hp (by rw [z]; exact e2))
      have iS : ic st → ic t := it (fun z => h13 z.1)
      rcases e5 with ⟨f1, f2, f3⟩ | ⟨f1, f2⟩
      · have hs : zc_pc (K t) ≤ s + 1 := by
          have : ¬ s + 1 < zc_pc (K t) := fun z => hc (Or.inr z)
          omega
        have Lst := G st hst0
        have nt : zn_set nx t (i + 1) t = i + 1 := zn_s
        have C1 : ∀ x, nx x ≠ 0 → zk_cl (zn_set nx t (i + 1)) x := fun x hx => by show zn_set nx t (i + 1) x ≠ 0; rw [a2 x hx]; exact hx
        have Lt : zl_C K (i + 1) (zn_set nx t (i + 1)) cf (zk_cl (zn_set nx t (i + 1))) ic t := by
          refine ⟨by rw [nt]; omega, by rw [nt]; omega, ?_⟩
          rcases f1 with f1 | f1 | f1
          · have : s = 0 := by
              have : zc_pc (K t) = 1 := by unfold zc_pc; rw [if_pos f1]
              omega
            subst this
            have f3' : st = t + 1 := f3
            rw [f3'] at hst0 hst iS
            exact Or.inr (Or.inl ⟨f1, C1 _ hst0, by rw [nt, a2 _ hst0, hst], iS⟩)
          · have : s = 1 := by
              have : zc_pc (K t) = 2 := by
                unfold zc_pc
                rcases f1 with f | f | f | f | f | f | f | f <;> (rw [f]; decide)
              omega
            subst this
            obtain ⟨⟨q1, q1'⟩, q2⟩ := f3
            rw [q2] at hst0 hst iS
            exact Or.inr (Or.inr (Or.inl ⟨f1, e4, C1 _ q1, by rw [a2 _ q1]; exact C1 _ hst0, by rw [nt, a2 _ q1, a2 _ hst0, hst], q1', by rw [a2 _ q1]; exact iS⟩))
          · have : s = 2 := by
              have : zc_pc (K t) = 3 := by
                unfold zc_pc
                rw [f1]; decide
              omega
            subst this
            obtain ⟨⟨q1, q1'⟩, ⟨q2, q2'⟩, q3⟩ := f3
            rw [q3] at hst0 hst iS
            refine Or.inr (Or.inr (Or.inr (Or.inl ⟨f1, C1 _ q1, ?_, ?_, ?_, q1', ?_, ?_⟩)))
            · rw [a2 _ q1]; exact C1 _ q2
            · rw [a2 _ q1, a2 _ q2]; exact C1 _ hst0
            · rw [nt, a2 _ q1, a2 _ q2, a2 _ hst0, hst]
            · rw [a2 _ q1]; exact q2'
            · rw [a2 _ q1, a2 _ q2]; exact iS
        have := ih t (zn_set nx t (i + 1)) nt ?_ ?_ hA' (fun z => e3.mp z) (by omega)
        · refine ⟨this.1, fun p hp h0 => this.2.1 p hp ?_, this.2.2⟩
          rw [zn_n (by omega)]
          exact h0
        · intro p hp
          by_cases hpt : p = t
          · subst hpt; exact Lt
          · rw [zn_n hpt] at hp
            exact zk_Cm (Nat.le_refl _) a2 (fun _ _ => Iff.rfl) (fun _ _ _ => rfl) hp (G p hp)
        · exact zk_Sm (fun p hp => zn_n (by omega)) a2 (fun _ _ _ => rfl) (fun _ _ => Iff.rfl) (fun _ _ => Iff.rfl) hS
      · exact absurd f1 h13
end
end
section
section
variable {K A B C : Nat → Int32} {nx nx' : Nat → Nat} {cf cf' : Nat → Nat → Nat} {ic ic' : Nat → Prop}
theorem zc_okc {k : Int32} {t s c : Nat} {es : List ZE} : zc_ok K k ((t, s, c) :: es) = (if K t = 13 ∧ s = 2 then k = 14 else if K t = 13 ∧ s = 4 then (k = 15 ∨ k = 16) else (k ≠ 14 ∧ k ≠ 15 ∧ k ≠ 16)) := rfl
theorem zc_okA {q : Nat} {k : Int32} : ∀ {stk : List ZE}, zc_ok K k stk → zk_S K nx cf ic q stk → (k ≠ 14 ∧ k ≠ 15 ∧ k ≠ 16) → zk_A K stk
  | [], _, _, _ => fun _ h => nomatch h
  | (t, s, c) :: es, hok, hS, hk => by
    intro e he
    rcases List.mem_cons.mp he with rfl | he
    · intro ⟨h13, hs⟩
      simp only at h13 hs
      rw [zc_okc] at hok
      rcases hs with hs | hs
      · rw [if_pos ⟨h13, hs⟩] at hok
        exact hk.1 hok
      · rw [if_neg (fun z => by omega), if_pos ⟨h13, hs⟩] at hok
        exact hok.elim hk.2.1 hk.2.2
    · exact hS.2.2 e he
theorem zc_ok14 : ∀ {stk : List ZE}, zc_ok K 14 stk → ∃ t c es, stk = (t, 2, c) :: es ∧ K t = 13
  | [], h => absurd rfl h.1
  | (t, s, c) :: es, h => by
    rw [zc_okc] at h
    by_cases c1 : K t = 13 ∧ s = 2
    · obtain ⟨h1, rfl⟩ := c1
      exact ⟨t, c, es, rfl, h1⟩
    · rw [if_neg c1] at h
      by_cases c2 : K t = 13 ∧ s = 4
      · rw [if_pos c2] at h
        exact absurd h (by decide)
      · rw [if_neg c2] at h
        exact absurd rfl h.1
theorem zc_ok15 {k : Int32} (hk : k = 15 ∨ k = 16) : ∀ {stk : List ZE}, zc_ok K k stk → ∃ t c es, stk = (t, 4, c) :: es ∧ K t = 13
  | [], h => by
    rcases hk with hk | hk
    · exact absurd hk h.2.1
    · exact absurd hk h.2.2
  | (t, s, c) :: es, h => by
    rw [zc_okc] at h
    by_cases c1 : K t = 13 ∧ s = 2
    · rw [if_pos c1] at h
      rcases hk with hk | hk <;> (rw [hk] at h; exact absurd h (by decide))
    · rw [if_neg c1] at h
      by_cases c2 : K t = 13 ∧ s = 4
      · obtain ⟨h1, rfl⟩ := c2
        exact ⟨t, c, es, rfl, h1⟩
      · rw [if_neg c2] at h
        rcases hk with hk | hk
        · exact absurd hk h.2.1
        · exact absurd hk h.2.2
def zc_I (K : Nat → Int32) (i : Nat) (stk : List ZE) (nx : Nat → Nat) (cf : Nat → Nat → Nat) : Prop :=
  ∃ ic : Nat → Prop, (∀ p, nx p ≠ 0 → zl_C K i nx cf (zk_cl nx) ic p) ∧ (∀ p, i ≤ p → nx p = 0) ∧ (∀ h op, cf h op ≠ 0 → h < cf h op ∧ cf h op < i ∧ K (cf h op) = 15) ∧
    (zk_S K nx cf ic i stk ∨ (stk = [] ∧ 0 < i ∧ nx 0 = i ∧ ¬ ic 0))
theorem zc_f0 {i : Nat} {stk : List ZE} (h : zc_flt K A B C i stk cf 0) : ¬ (0 < i ∧ stk = []) ∧ zc_ok K (K i) stk ∧ (K i = 17 → zc_ic K stk) ∧ (K i = 15 → cf (zc_top stk) (A i).toNatClampNeg = 0) := by
  unfold zc_flt at h
  by_cases c : 0 < i ∧ stk = []
  · rw [if_pos c] at h
    omega
  · rw [if_neg c] at h
    rcases h with ⟨-, h⟩ | ⟨h1, h⟩
    · omega
    · rcases h with ⟨-, -, h⟩ | ⟨-, -, h⟩ | ⟨-, -, h⟩ | ⟨h2, h3, h4, -⟩
      · omega
      · omega
      · omega
      · exact ⟨c, h1, fun z => Classical.byContradiction fun y => h3 ⟨z, y⟩, fun z => Classical.byContradiction fun y => h4 ⟨z, y⟩⟩
theorem zc_kinds {i : Nat} (hT : zl_T K A B C i) (h1 : ¬ (K i = 1 ∨ K i = 2)) (h14 : K i ≠ 14) (h15 : K i ≠ 15) (h16 : K i ≠ 16) : ((K i = 11 ∨ K i = 12) ∨ zk_bi (K i) ∨ K i = 8) ∨ K i = 13 := by
  obtain ⟨⟨k, k1, k2, hk⟩, -⟩ := hT
  rw [hk] at h1 h14 h15 h16 ⊢
  have : k = 1 ∨ k = 2 ∨ k = 3 ∨ k = 4 ∨ k = 5 ∨ k = 6 ∨ k = 7 ∨ k = 8 ∨ k = 9 ∨ k = 10 ∨ k = 11 ∨ k = 12 ∨ k = 13 ∨ k = 14 ∨ k = 15 ∨ k = 16 ∨ k = 17 := by omega
  unfold zk_bi
  rcases this with rfl | rfl | rfl | rfl | rfl | rfl | rfl | rfl | rfl | rfl | rfl | rfl | rfl | rfl | rfl | rfl | rfl
  · exact absurd (Or.inl rfl) h1
  · exact absurd (Or.inr rfl) h1
  all_goals first | exact absurd rfl h14 | exact absurd rfl h15 | exact absurd rfl h16 | decide
theorem zc_step {i : Nat} {stk : List ZE} (hT : zl_T K A B C i) (I : zc_I K i stk nx cf) (hf : zc_flt K A B C i stk cf 0) :
    zc_I K (i + 1) (zc_take K A i stk nx cf).1 (zc_take K A i stk nx cf).2.1 (zc_take K A i stk nx cf).2.2 := by
  obtain ⟨ic, G, hz, hcf, hS⟩ := I
  obtain ⟨d1, d2, d3, d4⟩ := zc_f0 hf
  have hS : zk_S K nx cf ic i stk := hS.elim id (fun z => absurd ⟨z.2.1, z.1⟩ d1)
  have hcf' : ∀ h op, cf h op ≠ 0 → h < cf h op ∧ cf h op < i + 1 ∧ K (cf h op) = 15 := fun h op z => ⟨(hcf h op z).1, by have := (hcf h op z).2.1; omega, (hcf h op z).2.2⟩
  have ni : nx i = 0 := hz i (Nat.le_refl _)
  have cli : ∀ p, nx p ≠ 0 → p < i := fun p hp => by
    rcases Nat.lt_or_ge p i with z | z
    · exact z
    · exact absurd (hz p z) hp
  have I1 : ∀ p, p < i → ((if p = i then zc_ic K stk else ic p) ↔ ic p) := fun p hp => by rw [if_neg (by omega)]
  unfold zc_take
  by_cases k1 : K i = 1 ∨ K i = 2
  · rw [if_pos k1]
    show zc_I K (i + 1) (zc_fin K i (zn_set nx i (i + 1)) stk).2 (zc_fin K i (zn_set nx i (i + 1)) stk).1 cf
    have hA := zc_okA d2 hS (by rcases k1 with k | k <;> (rw [k]; decide))
    have a2 : ∀ p, nx p ≠ 0 → zn_set nx i (i + 1) p = nx p := fun p hp => zn_n (by have := cli p hp; omega)
    have key := zc_fI (K := K) (cf := cf) (ic := fun p => if p = i then zc_ic K stk else ic p) (i := i) stk i (zn_set nx i (i + 1)) zn_s ?_ ?_ hA (fun z => by rw [if_pos rfl] at z; exact z) (Nat.le_refl _)
    · obtain ⟨r1, r2, r3⟩ := key
      refine ⟨_, r1, fun p hp => r2 p (by omega) (by rw [zn_n (by omega)]; exact hz p (by omega)), hcf', ?_⟩
      rcases r3 with ⟨-, r⟩ | ⟨q1, q2, q3⟩
      · exact Or.inl r
      · exact Or.inr ⟨q1, by omega, q2, q3⟩
    · intro p hp
      by_cases hpi : p = i
      · subst hpi
        exact ⟨by rw [zn_s]; omega, by rw [zn_s]; omega, Or.inl ⟨k1, zn_s⟩⟩
      · rw [zn_n hpi] at hp
        exact zk_Cm (Nat.le_succ _) a2 (fun p hp => I1 p (cli p hp)) (fun _ _ _ => rfl) hp (G p hp)
    · exact zk_Sm (fun p hp => zn_n (by omega)) a2 (fun _ _ _ => rfl) I1 (fun p hp => I1 p (cli p hp)) hS
  · rw [if_neg k1]
    have G' : ∀ p, nx p ≠ 0 → zl_C K (i + 1) nx cf (zk_cl nx) ic p := fun p hp => zk_Cm (Nat.le_succ _) (fun _ _ => rfl) (fun _ _ => Iff.rfl) (fun _ _ _ => rfl) hp (G p hp)
    by_cases k14 : K i = 14
    · rw [if_pos k14]
      rw [k14] at d2
      obtain ⟨t, c, es, rfl, h13⟩ := zc_ok14 d2
      obtain ⟨⟨e1, e2, e3, e4, e5⟩, hS2, hA⟩ := hS
      show zc_I K (i + 1) ((t, 3, i) :: es) nx cf
      refine ⟨ic, G', fun p hp => hz p (by omega), hcf', Or.inl ⟨⟨by omega, e2, e3, e4, Or.inr ⟨h13, ?_⟩⟩, hS2, hA⟩⟩
      rcases e5 with ⟨f1, -⟩ | ⟨-, f2⟩
      · rw [h13] at f1
        exact absurd f1 (by unfold zk_bi; decide)
      · rcases f2 with ⟨g1, g2, g3⟩ | ⟨g1, -⟩ | ⟨g1, -⟩ | ⟨g1, -⟩
        · exact Or.inr (Or.inl ⟨rfl, k14, g2, rfl, g3⟩)
        · omega
        · omega
        · omega
    · rw [if_neg k14]
      by_cases k15 : K i = 15
      · rw [if_pos k15]
        obtain ⟨t, c, es, rfl, h13⟩ := zc_ok15 (Or.inl k15) d2
        obtain ⟨⟨e1, e2, e3, e4, e5⟩, hS2, hA⟩ := hS
        have b1 : ∀ p op, p ≠ t → zn_set2 cf t (A i).toNatClampNeg i p op = cf p op := fun p op hp => zn_n2 (fun z => hp z.1)
        show zc_I K (i + 1) ((t, 3, i) :: es) nx (zn_set2 cf t (A i).toNatClampNeg i)
        refine ⟨ic, fun p hp => ?_, fun p hp => hz p (by omega), fun h op z => ?_, Or.inl ⟨⟨by omega, e2, e3, e4, Or.inr ⟨h13, ?_⟩⟩, ?_, hA⟩⟩
        · exact zk_Cm (Nat.le_succ _) (fun _ _ => rfl) (fun _ _ => Iff.rfl) (fun p op hp => b1 p op (fun y => hp (by rw [y]; exact e2))) hp (G p hp)
        · by_cases y : h = t ∧ op = (A i).toNatClampNeg
          · obtain ⟨rfl, rfl⟩ := y
            rw [zn_s2]
            exact ⟨e1, by omega, k15⟩
          · rw [zn_n2 y] at z ⊢
            exact hcf' h op z
        · rcases e5 with ⟨f1, -⟩ | ⟨-, f2⟩
          · rw [h13] at f1
            exact absurd f1 (by unfold zk_bi; decide)
          · rcases f2 with ⟨g1, -⟩ | ⟨g1, -⟩ | ⟨g1, -⟩ | ⟨g1, g2, g3⟩
            · omega
            · omega
            · omega
            · refine Or.inr (Or.inr (Or.inl ⟨rfl, k15, g2, e1, rfl, fun op z => ?_⟩))
              by_cases y : op = (A i).toNatClampNeg
              · subst y
                exact Or.inl zn_s2
              · rw [zn_n2 (fun w => y w.2)] at z ⊢
                exact Or.inr (g3 op z)
        · exact zk_Sm (fun _ _ => rfl) (fun _ _ => rfl) (fun p op hp => b1 p op (by omega)) (fun _ _ => Iff.rfl) (fun _ _ => Iff.rfl) hS2
      · rw [if_neg k15]
        by_cases k16 : K i = 16
        · rw [if_pos k16]
          obtain ⟨t, c, es, rfl, h13⟩ := zc_ok15 (Or.inr k16) d2
          obtain ⟨⟨e1, e2, e3, e4, e5⟩, hS2, hA⟩ := hS
          have a2 : ∀ p, nx p ≠ 0 → zn_set nx t (i + 1) p = nx p := fun p hp => zn_n (fun z => hp (by rw [z]; exact e2))
          have C1 : ∀ x, nx x ≠ 0 → zk_cl (zn_set nx t (i + 1)) x := fun x hx => by show zn_set nx t (i + 1) x ≠ 0; rw [a2 x hx]; exact hx
          show zc_I K (i + 1) (zc_fin K i (zn_set nx t (i + 1)) es).2 (zc_fin K i (zn_set nx t (i + 1)) es).1 cf
          have key := zc_fI (K := K) (cf := cf) (ic := ic) (i := i) es t (zn_set nx t (i + 1)) zn_s ?_ ?_ hA (fun z => e3.mp z) (by omega)
          · obtain ⟨r1, r2, r3⟩ := key
            refine ⟨_, r1, fun p hp => r2 p (by omega) (by rw [zn_n (by omega)]; exact hz p (by omega)), hcf', ?_⟩
            rcases r3 with ⟨-, r⟩ | ⟨q1, q2, q3⟩
            · exact Or.inl r
            · exact Or.inr ⟨q1, by omega, q2, q3⟩
          · intro p hp
            by_cases hpt : p = t
            · subst hpt
              refine ⟨by rw [zn_s]; omega, by rw [zn_s]; omega, ?_⟩
              rcases e5 with ⟨f1, -⟩ | ⟨-, f2⟩
              · rw [h13] at f1
                exact absurd f1 (by unfold zk_bi; decide)
              · rcases f2 with ⟨g1, -⟩ | ⟨g1, -⟩ | ⟨g1, -⟩ | ⟨g1, ⟨c3, ⟨q1, q2, q3⟩, q4, q5⟩, g3⟩
                · omega
                · omega
                · omega
                · subst q3
                  refine Or.inr (Or.inr (Or.inr (Or.inr ⟨h13, C1 _ q1.1, ?_, q1.2, ?_, ?_, ?_, ?_, ?_, ?_⟩)))
                  · rw [a2 _ q1.1]; exact C1 _ q2.1
                  · rw [a2 _ q1.1]; exact q2.2
                  · rw [a2 _ q1.1, a2 _ q2.1]; exact q4
                  · rw [a2 _ q1.1, a2 _ q2.1]; exact C1 _ q5.1
                  · rw [a2 _ q1.1, a2 _ q2.1]; exact q5.2
                  · rw [a2 _ q1.1, a2 _ q2.1, a2 _ q5.1, zn_s]
                    have := (G _ q5.1).2.1
                    omega
                  · intro op ho z
                    obtain ⟨y1, y2, y3⟩ := g3 op z
                    refine ⟨y1, y2, C1 _ y3, ?_⟩
                    rw [a2 _ y3, zn_s]
                    have := (G _ y3).2.1
                    omega
            · rw [zn_n hpt] at hp
              exact zk_Cm (Nat.le_succ _) a2 (fun _ _ => Iff.rfl) (fun _ _ _ => rfl) hp (G p hp)
          · exact zk_Sm (fun p hp => zn_n (by omega)) a2 (fun _ _ _ => rfl) (fun _ _ => Iff.rfl) (fun _ _ => Iff.rfl) hS2
        · rw [if_neg k16]
          have hA := zc_okA d2 hS ⟨k14, k15, k16⟩
          show zc_I K (i + 1) ((i, 0, 0) :: stk) nx cf
          refine ⟨fun p => if p = i then zc_ic K stk else ic p, fun p hp => zk_Cm (Nat.le_succ _) (fun _ _ => rfl) (fun p hp => I1 p (cli p hp)) (fun _ _ _ => rfl) hp (G p hp), fun p hp => hz p (by omega), hcf', Or.inl ⟨⟨by omega, ni, ?_, ?_, ?_⟩, ?_, hA⟩⟩
          · simp
          · intro z
            rw [if_pos rfl]
            exact d3 z
          · rcases zc_kinds hT k1 k14 k15 k16 with f | f
            · refine Or.inl ⟨f, ?_, rfl⟩
              unfold zc_pc
              split
              · omega
              · split <;> omega
            · refine Or.inr ⟨f, Or.inl ⟨by omega, rfl, fun op => ?_⟩⟩
              rcases Nat.eq_zero_or_pos (cf i op) with z | z
              · exact z
              · have := hcf i op (by omega)
                omega
          · exact zk_Sm (fun _ _ => rfl) (fun _ _ => rfl) (fun _ _ _ => rfl) I1 (fun p hp => I1 p (cli p hp)) hS
theorem zk_len : ∀ {stk : List ZE} {q : Nat}, zk_S K nx cf ic q stk → stk.length ≤ q
  | [], _, _ => Nat.zero_le _
  | (t, s, c) :: es, q, h => by
    have h1 := zk_len h.2.1
    have h2 := h.1.1
    simp only [List.length_cons]
    omega
def zc_res (K A B C : Nat → Int32) : Nat → Nat → List ZE → (Nat → Nat) → (Nat → Nat → Nat) → Nat → Nat → (Nat → Nat) → (Nat → Nat → Nat) → Prop
  | 0, i, stk, nx, cf, er, ps, nx', cf' => nx' = nx ∧ cf' = cf ∧ ((i = 0 ∨ stk ≠ []) ∧ er = 6 ∧ ps = i ∨ ¬ (i = 0 ∨ stk ≠ []) ∧ er = 0 ∧ ps = 0)
  | d + 1, i, stk, nx, cf, er, ps, nx', cf' => ∃ f, zc_flt K A B C i stk cf f ∧ ((f ≠ 0 ∧ nx' = nx ∧ cf' = cf ∧ er = f ∧ ps = i) ∨
      (f = 0 ∧ zc_res K A B C d (i + 1) (zc_take K A i stk nx cf).1 (zc_take K A i stk nx cf).2.1 (zc_take K A i stk nx cf).2.2 er ps nx' cf'))
theorem zc_fex (i : Nat) (stk : List ZE) : ∃ f, f ≤ 5 ∧ zc_flt K A B C i stk cf f := by
  unfold zc_flt
  by_cases c : 0 < i ∧ stk = []
  · exact ⟨1, by omega, by rw [if_pos c]⟩
  · simp only [if_neg c]
    by_cases o : zc_ok K (K i) stk
    · by_cases c2 : K i = 2 ∧ ¬ (∃ e ∈ stk, zc_bd K A B C (A i) e)
      · exact ⟨3, by omega, Or.inr ⟨o, Or.inl ⟨c2.1, c2.2, rfl⟩⟩⟩
      · by_cases c17 : K i = 17 ∧ ¬ zc_ic K stk
        · exact ⟨4, by omega, Or.inr ⟨o, Or.inr (Or.inl ⟨c17.1, c17.2, rfl⟩)⟩⟩
        · by_cases c15 : K i = 15 ∧ cf (zc_top stk) (A i).toNatClampNeg ≠ 0
          · exact ⟨5, by omega, Or.inr ⟨o, Or.inr (Or.inr (Or.inl ⟨c15.1, c15.2, rfl⟩))⟩⟩
          · exact ⟨0, by omega, Or.inr ⟨o, Or.inr (Or.inr (Or.inr ⟨c2, c17, c15, rfl⟩))⟩⟩
    · exact ⟨2, by omega, Or.inl ⟨o, rfl⟩⟩
theorem zc_resI {n : Nat} (hn : n ≤ 32) (hT : ∀ j, j < n → zl_T K A B C j) : ∀ (d i : Nat) (stk : List ZE) (nx : Nat → Nat) (cf : Nat → Nat → Nat), i + d = n → zc_I K i stk nx cf →
    ∃ er ps nx' cf', zc_res K A B C d i stk nx cf er ps nx' cf' ∧ er ≤ 6 ∧ ps ≤ 32 ∧ (er = 0 → (∃ ic, zl_P K A B C n nx' cf' (zk_cl nx') ic ∧ nx' 0 = n) ∧ ∀ h op, cf' h op ≠ 0 → h < cf' h op ∧ cf' h op < n ∧ K (cf' h op) = 15) := by
  intro d
  induction d with
  | zero =>
    intro i stk nx cf hi I
    have : i = n := by omega
    subst this
    by_cases c : i = 0 ∨ stk ≠ []
    · exact ⟨6, i, nx, cf, ⟨rfl, rfl, Or.inl ⟨c, rfl, rfl⟩⟩, by omega, hn, fun z => absurd z (by omega)⟩
    · refine ⟨0, 0, nx, cf, ⟨rfl, rfl, Or.inr ⟨c, rfl, rfl⟩⟩, by omega, by omega, fun _ => ?_⟩
      obtain ⟨ic, G, hz, hcf, hS⟩ := I
      refine ⟨⟨ic, ?_⟩, hcf⟩
      have hs : stk = [] := Classical.byContradiction fun z => c (Or.inr z)
      have hi0 : i ≠ 0 := fun z => c (Or.inl z)
      subst hs
      rcases hS with hS | ⟨-, h1, h2, h3⟩
      · exact absurd hS hi0
      · exact ⟨⟨hn, h1, hT, by show nx 0 ≠ 0; omega, h3, G⟩, h2⟩
  | succ d ih =>
    intro i stk nx cf hi I
    obtain ⟨f, hf5, hf⟩ := zc_fex (K := K) (A := A) (B := B) (C := C) (cf := cf) i stk
    by_cases h0 : f = 0
    · subst h0
      obtain ⟨er, ps, nx', cf', r1, r2, r3, r4⟩ := ih (i + 1) _ _ _ (by omega) (zc_step (hT i (by omega)) I hf)
      exact ⟨er, ps, nx', cf', ⟨0, hf, Or.inr ⟨rfl, r1⟩⟩, r2, r3, r4⟩
    · exact ⟨f, i, nx, cf, ⟨f, hf, Or.inl ⟨h0, rfl, rfl, rfl, rfl⟩⟩, by omega, by omega, fun z => absurd z h0⟩
theorem zc_init : zc_I K 0 [] (fun _ => 0) (fun _ _ => 0) :=
  ⟨fun _ => False, fun p hp => absurd rfl hp, fun _ _ => rfl, fun _ _ z => absurd rfl z, Or.inl rfl⟩
end
end
section
def hr_R (Q : Nat → List HPr) (R : ZR) (pn : Nat) (P0 : Nat → Prop) (P1 : Nat → Nat → List HPr → Prop) : Prop :=
  ∀ r, r < pn → (R r = none → P0 r) ∧ ∀ sg g, R r = some (sg, g) → ∃ x, (Q (2 * r + 1)).map Prod.snd = sg ∧ Q (2 * r + 2) = [(x, g)] ∧ P1 r x (Q (2 * r + 1))
def hs_G (tok stg hld bel : Nat → Int32) (EV : Nat → (Nat → Int32) → Prop) (lo cnt : Nat) (nil top : Int32) (S : List ZF) (R : ZR) (pn : Nat) (P0 : Nat → Prop) (P1 : Nat → Nat → List HPr → Prop) : Prop :=
  ∃ Q, hp_H tok stg hld bel EV lo cnt Q ∧ (Q 0).map Prod.snd = S ∧ hl_C bel top (Q 0) nil ∧ hr_R Q R pn P0 P1
section
variable {tok stg hld bel : Nat → Int32} {EV : Nat → (Nat → Int32) → Prop} {lo cnt : Nat} {nil top : Int32} {S : List ZF} {R : ZR} {pn : Nat} {P0 P0' : Nat → Prop} {P1 P1' : Nat → Nat → List HPr → Prop} {Q : Nat → List HPr}
theorem hr_0 (h : hr_R Q R pn P0 P1) (L : List HPr) : hr_R (hq_s Q 0 L) R pn P0 P1 := by
  intro r hr
  refine ⟨(h r hr).1, fun sg g e => ?_⟩
  rw [hq_n (by omega), hq_n (by omega)]
  exact (h r hr).2 sg g e
theorem hr_cap (h : hr_R Q R pn P0 P1) {a b : List HPr} {x : Nat} {g : ZF} (m0 : ∀ r, r < pn → P0 r → P0' r) (m1 : ∀ r y L, r < pn → P1 r y L → P1' r y L) (hp : P1' pn x a) {sg : List ZF} (hsg : a.map Prod.snd = sg) :
    hr_R (hq_s (hq_s (hq_s Q 0 b) (2 * pn + 1) a) (2 * pn + 2) [(x, g)]) (zo_set R pn (some (sg, g))) (pn + 1) P0' P1' := by
  intro r hr
  by_cases c : r = pn
  · subst c
    rw [zo_s]
    refine ⟨(fun z => by cases z), fun sg' g' e => ?_⟩
    simp only [Option.some.injEq, Prod.mk.injEq] at e
    obtain ⟨rfl, rfl⟩ := e
    refine ⟨x, ?_, ?_, ?_⟩
    · rw [hq_n (by omega), hq_e]; exact hsg
    · rw [hq_e]
    · rw [hq_n (by omega), hq_e]; exact hp
  · rw [zo_n c]
    have hr' : r < pn := by omega
    refine ⟨fun z => m0 r hr' ((h r hr').1 z), fun sg' g' e => ?_⟩
    obtain ⟨y, h1, h2, h3⟩ := (h r hr').2 sg' g' e
    refine ⟨y, ?_, ?_, ?_⟩
    · rw [hq_n (by omega), hq_n (by omega), hq_n (by omega)]; exact h1
    · rw [hq_n (by omega), hq_n (by omega), hq_n (by omega)]; exact h2
    · rw [hq_n (by omega), hq_n (by omega), hq_n (by omega)]; exact m1 _ _ _ hr' h3
theorem hr_res (h : hr_R Q R pn P0 P1) {r : Nat} {Q' : Nat → List HPr} (hQ : ∀ k, k ≠ 0 → k ≠ 2 * r + 1 → k ≠ 2 * r + 2 → Q' k = Q k) (m0 : ∀ r', r' ≠ r → P0 r' → P0' r') (m1 : ∀ r' y L, r' ≠ r → P1 r' y L → P1' r' y L) (hp : P0' r) :
    hr_R Q' (zo_set R r none) pn P0' P1' := by
  intro r' hr
  by_cases c : r' = r
  · subst c
    rw [zo_s]
    exact ⟨fun _ => hp, (fun _ _ z => by cases z)⟩
  · rw [zo_n c]
    refine ⟨fun z => m0 r' c ((h r' hr).1 z), fun sg' g' e => ?_⟩
    obtain ⟨y, h1, h2, h3⟩ := (h r' hr).2 sg' g' e
    refine ⟨y, ?_, ?_, ?_⟩
    · rw [hQ _ (by omega) (by omega) (by omega)]; exact h1
    · rw [hQ _ (by omega) (by omega) (by omega)]; exact h2
    · rw [hQ _ (by omega) (by omega) (by omega)]; exact m1 _ _ _ c h3
theorem hs_ev {EV' : Nat → (Nat → Int32) → Prop} (H : hs_G tok stg hld bel EV lo cnt nil top S R pn P0 P1) (hE : ∀ x e, x < cnt → EV x e → EV' x e) : hs_G tok stg hld bel EV' lo cnt nil top S R pn P0 P1 := by
  obtain ⟨Q, h1, h2, h3, h4⟩ := H
  exact ⟨Q, hp_ev h1 hE, h2, h3, h4⟩
theorem hs_push (H : hs_G tok stg hld bel EV lo cnt nil top S R pn P0 P1) (hlo : lo ≤ cnt) (t s : Nat) (h : Int32) (e : Nat → Int32) {hld' : Nat → Int32} {EV' : Nat → (Nat → Int32) → Prop}
    (hh : ∀ x, x < cnt → hld' x = hld x) (hs : s = 1 → hld' cnt = h) (hE : ∀ x e, x < cnt → EV x e → EV' x e) (hEc : EV' cnt e) :
    hs_G (upd tok cnt (nI t)) (upd stg cnt (nI s)) hld' (upd bel cnt top) EV' lo (cnt + 1) nil (nI cnt) ((t, s, h, e) :: S) R pn P0 P1 := by
  obtain ⟨Q, h1, h2, h3, h4⟩ := H
  obtain ⟨q1, q2⟩ := hp_push h1 hlo h3 t s h e hh hs hE hEc
  refine ⟨_, q1, ?_, ?_, hr_0 h4 _⟩
  · rw [hq_e, List.map_cons, h2]
  · rw [hq_e]; exact q2
theorem hs_nil (H : hs_G tok stg hld bel EV lo cnt nil top [] R pn P0 P1) : top = nil := by
  obtain ⟨Q, h1, h2, h3, h4⟩ := H
  rw [List.map_eq_nil_iff.mp h2] at h3
  exact h3
theorem hs_top {t s : Nat} {h : Int32} {e : Nat → Int32} (H : hs_G tok stg hld bel EV lo cnt nil top ((t, s, h, e) :: S) R pn P0 P1) :
    ∃ x, top = nI x ∧ lo ≤ x ∧ x < cnt ∧ tok x = nI t ∧ stg x = nI s ∧ (s = 1 → hld x = h) ∧ EV x e ∧
      hs_G tok stg hld bel EV lo cnt nil (bel x) S R pn P0 P1 ∧
      ∀ v, hs_G tok (upd stg x 1) (upd hld x v) bel EV lo cnt nil top ((t, 1, v, e) :: S) R pn P0 P1 := by
  obtain ⟨Q, h1, h2, h3, h4⟩ := H
  cases hq : Q 0 with
  | nil => rw [hq] at h2; simp at h2
  | cons p L =>
    rw [hq] at h2 h3
    rw [List.map_cons, List.cons.injEq] at h2
    obtain ⟨e1, e2⟩ := h2
    obtain ⟨x, f⟩ := p
    simp only at e1
    subst e1
    obtain ⟨n1, n2, n3, n4, n5, n6⟩ := hp_node h1 (k := 0) (p := (x, (t, s, h, e))) (by rw [hq]; exact List.mem_cons_self ..)
    refine ⟨x, h3.1, n1, n2, n3, n4, n5, n6, ?_, fun v => ?_⟩
    · exact ⟨_, hp_pop h1 hq, by rw [hq_e]; exact e2, by rw [hq_e]; exact h3.2, hr_0 h4 _⟩
    · exact ⟨_, hp_keep h1 hq v, by rw [hq_e, List.map_cons, e2], by rw [hq_e]; exact h3, hr_0 h4 _⟩
theorem hs_split : ∀ {a : List ZF} {g : ZF} {b : List ZF} {L : List HPr}, L.map Prod.snd = a ++ g :: b → ∃ La x Lb, L = La ++ (x, g) :: Lb ∧ La.map Prod.snd = a ∧ Lb.map Prod.snd = b
  | [], g, b, L, h => by
    cases L with
    | nil => simp at h
    | cons p L =>
      simp only [List.nil_append, List.map_cons, List.cons.injEq] at h
      exact ⟨[], p.1, L, by rw [← h.1]; rfl, rfl, h.2⟩
  | f :: a, g, b, L, h => by
    cases L with
    | nil => simp at h
    | cons p L =>
      simp only [List.cons_append, List.map_cons, List.cons.injEq] at h
      obtain ⟨La, x, Lb, h1, h2, h3⟩ := hs_split h.2
      exact ⟨p :: La, x, Lb, by rw [h1]; rfl, by rw [List.map_cons, h.1, h2], h3⟩
theorem hs_cap {a : List ZF} {g : ZF} {b : List ZF} (H : hs_G tok stg hld bel EV lo cnt nil top (a ++ g :: b) R pn P0 P1) :
    ∃ La x, La.map Prod.snd = a ∧ hl_C bel top La (nI x) ∧ (∀ p ∈ La, hn_N tok stg hld EV lo cnt p) ∧ hn_N tok stg hld EV lo cnt (x, g) ∧ hl_N (La ++ [(x, g)]) ∧
      ∀ P0' P1', (∀ r, r < pn → P0 r → P0' r) → (∀ r y L, r < pn → P1 r y L → P1' r y L) → P1' pn x La →
        hs_G tok stg hld bel EV lo cnt nil (bel x) b (zo_set R pn (some (a, g))) (pn + 1) P0' P1' := by
  obtain ⟨Q, h1, h2, h3, h4⟩ := H
  obtain ⟨La, x, Lb, q1, q2, q3⟩ := hs_split h2
  rw [q1] at h3
  obtain ⟨m, c1, c2, c3⟩ := hl_app.mp h3
  simp only at c2
  have hN : hl_N (La ++ [(x, g)]) := by
    obtain ⟨own, H⟩ := h1
    have := (H 0).2.1
    rw [q1] at this
    obtain ⟨y1, y2, y3⟩ := hl_Na.mp this
    refine hl_Na.mpr ⟨y1, ⟨(fun _ h => nomatch h), trivial⟩, fun p hp q hq => y3 p hp q ?_⟩
    have : q = (x, g) := by simpa using hq
    rw [this]
    exact List.mem_cons_self ..
  refine ⟨La, x, q2, by rw [← c2]; exact c1, fun p hp => hp_node h1 (k := 0) (by rw [q1]; exact List.mem_append.mpr (Or.inl hp)), hp_node h1 (k := 0) (by rw [q1]; simp), hN, fun P0' P1' m0 m1 hp => ?_⟩
  refine ⟨_, hp_cap h1 q1 (k1 := 2 * pn + 1) (k2 := 2 * pn + 2) (by omega) (by omega) (by omega), ?_, ?_, hr_cap h4 m0 m1 hp q2⟩
  · rw [hq_n (by omega), hq_n (by omega), hq_e]; exact q3
  · rw [hq_n (by omega), hq_n (by omega), hq_e]; exact c3
theorem hs_all (H : hs_G tok stg hld bel EV lo cnt nil top S R pn P0 P1) : ∃ L, L.map Prod.snd = S ∧ hl_C bel top L nil ∧ ∀ p ∈ L, hn_N tok stg hld EV lo cnt p := by
  obtain ⟨Q, h1, h2, h3, h4⟩ := H
  exact ⟨Q 0, h2, h3, fun p hp => hp_node h1 hp⟩
theorem hs_len (H : hs_G tok stg hld bel EV lo cnt nil top S R pn P0 P1) : ∀ sg g r, r < pn → R r = some (sg, g) → ∃ x L, L.map Prod.snd = sg ∧ P1 r x L ∧ hn_N tok stg hld EV lo cnt (x, g) ∧ ∀ p ∈ L, hn_N tok stg hld EV lo cnt p := by
  intro sg g r hr e
  obtain ⟨Q, h1, h2, h3, h4⟩ := H
  obtain ⟨x, y1, y2, y3⟩ := (h4 r hr).2 sg g e
  exact ⟨x, _, y1, y3, hp_node h1 (k := 2 * r + 2) (by rw [y2]; exact List.mem_cons_self ..), fun p hp => hp_node h1 hp⟩
theorem hs_spl {r : Nat} {sg : List ZF} {g : ZF} (H : hs_G tok stg hld bel EV lo cnt nil top S R pn P0 P1) (hr : r < pn) (e : R r = some (sg, g))
    (m0 : ∀ r', r' ≠ r → P0 r' → P0' r') (m1 : ∀ r' y L, r' ≠ r → P1 r' y L → P1' r' y L) (hp : P0' r) :
    ∃ x L, L.map Prod.snd = sg ∧ P1 r x L ∧ hn_N tok stg hld EV lo cnt (x, g) ∧ (∀ p ∈ L, hn_N tok stg hld EV lo cnt p) ∧
      (L = [] → hs_G tok stg hld bel EV lo cnt nil top S (zo_set R r none) pn P0' P1') ∧
      (∀ L' b, L = L' ++ [b] → hs_G tok stg hld (upd bel b.1 top) EV lo cnt nil (hf_f 0 L) (sg ++ S) (zo_set R r none) pn P0' P1') := by
  obtain ⟨Q, h1, h2, h3, h4⟩ := H
  obtain ⟨x, y1, y2, y3⟩ := (h4 r hr).2 sg g e
  refine ⟨x, Q (2 * r + 1), y1, y3, hp_node h1 (k := 2 * r + 2) (by rw [y2]; exact List.mem_cons_self ..), fun p hp => hp_node h1 hp, fun z => ?_, fun L' b z => ?_⟩
  · exact ⟨Q, h1, h2, h3, hr_res h4 (fun _ _ _ _ => rfl) m0 m1 hp⟩
  · obtain ⟨w1, w2⟩ := hp_spl h1 (k1 := 2 * r + 1) (by omega) z h3 0
    refine ⟨_, w1, ?_, ?_, hr_res h4 (fun k k0 k1 k2 => ?_) m0 m1 hp⟩
    · rw [hq_e, List.map_append, y1, h2]
    · rw [hq_e]; exact w2
    · rw [hq_n k0, hq_n k1]
theorem hs_deep {r : Nat} {sg : List ZF} {g : ZF} (H : hs_G tok stg hld bel EV lo cnt nil top S R pn P0 P1) (hr : r < pn) (e : R r = some (sg, g)) (hg : g.2.1 = 1) (v : Int32)
    (m0 : ∀ r', r' ≠ r → P0 r' → P0' r') (m1 : ∀ r' y L, r' ≠ r → P1 r' y L → P1' r' y L) (hp : P0' r) :
    ∃ x L, L.map Prod.snd = sg ∧ P1 r x L ∧ hn_N tok stg hld EV lo cnt (x, g) ∧ (∀ p ∈ L, hn_N tok stg hld EV lo cnt p) ∧
      (L = [] → hs_G tok stg (upd hld x v) (upd bel x top) EV lo cnt nil (nI x) ((g.1, 1, v, g.2.2.2) :: S) (zo_set R r none) pn P0' P1') ∧
      (∀ L' b, L = L' ++ [b] → hs_G tok stg (upd hld x v) (upd (upd bel x top) b.1 (nI x)) EV lo cnt nil (hf_f 0 L) (sg ++ (g.1, 1, v, g.2.2.2) :: S) (zo_set R r none) pn P0' P1') := by
  obtain ⟨Q, h1, h2, h3, h4⟩ := H
  obtain ⟨x, y1, y2, y3⟩ := (h4 r hr).2 sg g e
  obtain ⟨t, s, h, en⟩ := g
  simp only at hg
  subst hg
  obtain ⟨w1, w2⟩ := hp_deep h1 (k2 := 2 * r + 2) (by omega) y2 h3 v
  refine ⟨x, Q (2 * r + 1), y1, y3, hp_node h1 (k := 2 * r + 2) (by rw [y2]; exact List.mem_cons_self ..), fun p hp => hp_node h1 hp, fun z => ?_, fun L' b z => ?_⟩
  · refine ⟨_, w1, ?_, ?_, hr_res h4 (fun k k0 k1 k2 => ?_) m0 m1 hp⟩
    · rw [hq_e, List.map_cons, h2]
    · rw [hq_e]; exact w2
    · rw [hq_n k0, hq_n k2]
  · have hk : hq_s (hq_s Q (2 * r + 2) []) 0 ((x, (t, 1, v, en)) :: Q 0) (2 * r + 1) = Q (2 * r + 1) := by rw [hq_n (by omega), hq_n (by omega)]
    have h0 : hq_s (hq_s Q (2 * r + 2) []) 0 ((x, (t, 1, v, en)) :: Q 0) 0 = (x, (t, 1, v, en)) :: Q 0 := hq_e
    obtain ⟨u1, u2⟩ := hp_spl w1 (k1 := 2 * r + 1) (by omega) (hk.trans z) (by rw [h0]; exact w2) 0
    rw [hk, h0] at u1 u2
    refine ⟨_, u1, ?_, ?_, hr_res h4 (fun k k0 k1 k2 => ?_) m0 m1 hp⟩
    · rw [hq_e, List.map_append, y1, List.map_cons, h2]
    · rw [hq_e]; exact u2
    · rw [hq_n k0, hq_n k1, hq_n k0, hq_n k2]
theorem hf_sp : ∀ L : List HPr, L = [] ∨ ∃ L' b, L = L' ++ [b]
  | [] => Or.inl rfl
  | p :: L => by
    rcases hf_sp L with h | ⟨L', b, h⟩
    · exact Or.inr ⟨[], p, by rw [h]; rfl⟩
    · exact Or.inr ⟨p :: L', b, by rw [h]; rfl⟩
end
end
section
def xb_k (bN bV bO : Nat → Int32) (nm : Int32) : Nat → Nat → Int32
  | 0, _ => 0
  | f + 1, b => if b = 0 then 0 else if bN b = nm then bV b else xb_k bN bV bO nm f (bO b).toNatClampNeg
def xb_B (bO : Nat → Int32) (bc : Nat) : Prop := ∀ b, 0 < b → b < bc → ∃ o, bO b = nI o ∧ o < b
def xb_E (bN bV bO : Nat → Int32) (bc b : Nat) (e : Nat → Int32) : Prop := b < bc ∧ ∀ j, j < 9 → xb_k bN bV bO (nI j) b b = e j
section
variable {bN bV bO : Nat → Int32} {bc : Nat}
theorem xb_0 (nm : Int32) : ∀ f, xb_k bN bV bO nm f 0 = 0
  | 0 => rfl
  | f + 1 => by simp [xb_k]
theorem xb_f2 (HB : xb_B bO bc) (hb : bc < 2 ^ 31) (nm : Int32) : ∀ (m b f g : Nat), b ≤ m → b < bc → b ≤ f → b ≤ g → xb_k bN bV bO nm f b = xb_k bN bV bO nm g b := by
  intro m
  induction m with
  | zero =>
    intro b f g h1 _ _ _
    have : b = 0 := by omega
    subst this
    rw [xb_0, xb_0]
  | succ m ih =>
    intro b f g h1 h2 h3 h4
    by_cases hz : b = 0
    · subst hz; rw [xb_0, xb_0]
    · obtain ⟨f, rfl⟩ : ∃ f', f = f' + 1 := ⟨f - 1, by omega⟩
      obtain ⟨g, rfl⟩ : ∃ g', g = g' + 1 := ⟨g - 1, by omega⟩
      obtain ⟨o, ho, hlt⟩ := HB b (by omega) h2
      simp only [xb_k]
      rw [if_neg hz, if_neg hz, ho, nI_clamp (by omega), ih o f g (by omega) (by omega) (by omega) (by omega)]
theorem xb_B1 (HB : xb_B bO bc) {s : Nat} (hs : s < bc) : xb_B (upd bO bc (nI s)) (bc + 1) := by
  intro b h0 h1
  by_cases c : b = bc
  · subst c; exact ⟨s, zu_s, hs⟩
  · rw [zu_n c]; exact HB b h0 (by omega)
theorem xb_app (HB : xb_B bO bc) (hb : bc < 2 ^ 31) (nm n0 v o : Int32) : ∀ (f b : Nat), b < bc → xb_k (upd bN bc n0) (upd bV bc v) (upd bO bc o) nm f b = xb_k bN bV bO nm f b := by
  intro f
  induction f with
  | zero => intro b _; rfl
  | succ f ih =>
    intro b hb'
    simp only [xb_k]
    rw [zu_n (by omega), zu_n (by omega), zu_n (by omega)]
    by_cases hz : b = 0
    · rw [if_pos hz, if_pos hz]
    · obtain ⟨o', ho, hlt⟩ := HB b (by omega) hb'
      rw [ho, nI_clamp (by omega), ih o' (by omega)]
theorem xb_E0 (HB : xb_B bO bc) (hb : bc < 2 ^ 31) {b : Nat} {e : Nat → Int32} (h : xb_E bN bV bO bc b e) (n0 v o : Int32) : xb_E (upd bN bc n0) (upd bV bc v) (upd bO bc o) (bc + 1) b e :=
  ⟨by have := h.1; omega, fun j hj => by rw [xb_app HB hb _ _ _ _ _ _ h.1]; exact h.2 j hj⟩
theorem xb_E1 (HB : xb_B bO bc) (h0 : 0 < bc) (hb : bc < 2 ^ 31) {b : Nat} {e : Nat → Int32} (h : xb_E bN bV bO bc b e) {a : Nat} (ha : a < 9) (v : Int32) :
    xb_E (upd bN bc (nI a)) (upd bV bc v) (upd bO bc (nI b)) (bc + 1) bc (upd e a v) := by
  refine ⟨Nat.lt_succ_self _, fun j hj => ?_⟩
  obtain ⟨c, rfl⟩ : ∃ c, bc = c + 1 := ⟨bc - 1, by omega⟩
  have hbl := h.1
  simp only [xb_k]
  rw [if_neg (by omega), zu_s, zu_s, zu_s, nI_clamp (by omega), xb_app HB hb _ _ _ _ _ _ hbl, xb_f2 HB hb _ b b c b (by omega) hbl (by omega) (by omega), h.2 j hj]
  by_cases c' : j = a
  · subst c'; rw [if_pos rfl, zu_s]
  · rw [if_neg (fun z => c' ((nI_eq (by omega) (by omega)).mp z).symm), zu_n c']
theorem xb_hit {b : Nat} {nm : Int32} (h0 : b ≠ 0) (h : bN b = nm) : xb_k bN bV bO nm b b = bV b := by
  obtain ⟨c, rfl⟩ : ∃ c, b = c + 1 := ⟨b - 1, by omega⟩
  simp only [xb_k]
  rw [if_neg (by omega), if_pos h]
theorem xb_next (HB : xb_B bO bc) (hb : bc < 2 ^ 31) {b : Nat} {nm : Int32} (h0 : b ≠ 0) (hb' : b < bc) (h : ¬ bN b = nm) : ∃ o, bO b = nI o ∧ o < b ∧ xb_k bN bV bO nm b b = xb_k bN bV bO nm o o := by
  obtain ⟨o, ho, hlt⟩ := HB b (by omega) hb'
  refine ⟨o, ho, hlt, ?_⟩
  obtain ⟨c, rfl⟩ : ∃ c, b = c + 1 := ⟨b - 1, by omega⟩
  simp only [xb_k]
  rw [if_neg (by omega), if_neg h, ho, nI_clamp (by omega), xb_f2 HB hb nm o o c o (by omega) (by omega) (by omega) (by omega)]
end
def rx_I (nT nS nH nSc nB : Nat → Int32) (ncI topI : Int32) (bN bV bO : Nat → Int32) (bcI : Int32) (rF rT rB : Nat → Int32) (nextI scopeI valI : Int32) : ZZ → Prop
  | (fo, v, e, S, R, pn, _, _, _, _, _, _, nc, bc, _) =>
    ncI = nI nc ∧ bcI = nI bc ∧ xb_B bO bc ∧
    (∀ p, fo = some p → nextI = nI p ∧ ∃ b, scopeI = nI b ∧ xb_E bN bV bO bc b e) ∧ (fo = none → nextI = -1 ∧ valI = v) ∧
    hs_G nT nS nH nB (fun x e => ∃ b, nSc x = nI b ∧ xb_E bN bV bO bc b e) 1 nc 0 topI S R pn (fun r => rF r = 0) (fun r x L => rF r = nI x ∧ rB r = hf_l 0 L ∧ (L ≠ [] → rT r = hf_f 0 L))
def ry_I (gP gK gX gB gE : Nat → Int32) (hpI topI : Int32) (ce : Nat → Int32) (rH rTop rBot us : Nat → Int32) (pI vI evI : Int32) : ZZ → Prop
  | (fo, v, e, S, R, pn, _, _, _, _, _, _, _, _, hc) =>
    hpI = nI hc ∧
    (∀ p, fo = some p → evI = 1 ∧ pI = nI p ∧ ∀ j, j < 9 → ce j = e j) ∧ (fo = none → evI = 0 ∧ vI = v) ∧
    hs_G gP gK gX gB (fun x e => ∀ j, j < 9 → gE (9 * x + j) = e j) 0 hc (-1) topI S R pn (fun r => us r = 1) (fun r x L => us r = 0 ∧ rH r = nI x ∧ rTop r = hf_f (-1) L ∧ rBot r = hf_l (nI x) L)
end
section
def yp_fe (gE ce : Nat → Int32) (f m : Nat) : Nat → Int32 := fun k => if 9 * f ≤ k ∧ k < 9 * f + m then ce (k - 9 * f) else gE k
def yl_ce (gE ce : Nat → Int32) (f m : Nat) : Nat → Int32 := fun k => if k < m then gE (9 * f + k) else ce k
theorem yp_0 (gE ce : Nat → Int32) (f : Nat) : yp_fe gE ce f 0 = gE := by
  funext k
  unfold yp_fe
  rw [if_neg (by omega)]
theorem yp_s (gE ce : Nat → Int32) (f m : Nat) : upd (yp_fe gE ce f m) (9 * f + m) (ce m) = yp_fe gE ce f (m + 1) := by
  funext k
  by_cases c : k = 9 * f + m
  · subst c
    rw [zu_s]
    unfold yp_fe
    rw [if_pos (by omega), Nat.add_sub_cancel_left]
  · rw [zu_n c]
    unfold yp_fe
    by_cases d : 9 * f ≤ k ∧ k < 9 * f + m
    · rw [if_pos d, if_pos (by omega)]
    · rw [if_neg d, if_neg (by omega)]
theorem yl_0 (gE ce : Nat → Int32) (f : Nat) : yl_ce gE ce f 0 = ce := by
  funext k
  unfold yl_ce
  rw [if_neg (by omega)]
theorem yl_s (gE ce : Nat → Int32) (f m : Nat) : upd (yl_ce gE ce f m) m (gE (9 * f + m)) = yl_ce gE ce f (m + 1) := by
  funext k
  by_cases c : k = m
  · subst c
    rw [zu_s]
    unfold yl_ce
    rw [if_pos (by omega)]
  · rw [zu_n c]
    unfold yl_ce
    by_cases d : k < m
    · rw [if_pos d, if_pos (by omega)]
    · rw [if_neg d, if_neg (by omega)]
theorem yp_in {gE ce : Nat → Int32} {f j : Nat} (h : j < 9) : yp_fe gE ce f 9 (9 * f + j) = ce j := by
  unfold yp_fe
  rw [if_pos (by omega), Nat.add_sub_cancel_left]
theorem yp_out {gE ce : Nat → Int32} {f x j : Nat} (h : j < 9) (hx : x < f) : yp_fe gE ce f 9 (9 * x + j) = gE (9 * x + j) := by
  unfold yp_fe
  rw [if_neg (by omega)]
theorem yl_in {gE ce : Nat → Int32} {f j : Nat} (h : j < 9) : yl_ce gE ce f 9 j = gE (9 * f + j) := by
  unfold yl_ce
  rw [if_pos h]
end
section
def xr_R (K A B C : Nat → Int32) (n : Nat) (nx : Nat → Nat) (cf : Nat → Nat → Nat) (mp : Nat) (mt ec ep : Int32) (z : ZZ) (u : SX) : Prop :=
  match u with
  | (f_maxTokens, f_maxPerforms, f_count, f_openCount, f_status, f_errorCode, f_errorPos, f_trapCode, f_trapPos, f_emittedCount, f_performCount, f_resumeCount, f_nodeCount, f_top, f_bindingCount, f_next, f_scope, f_value, a_kinds, a_argA, a_argB, a_argC, a_after, a_openToken, a_openStage, a_openClause, a_caseFor, a_emitted, a_nodeToken, a_nodeStage, a_nodeHeld, a_nodeScope, a_nodeBelow, a_bindingName, a_bindingValue, a_bindingOuter, a_resumptionFrame, a_resumptionTop, a_resumptionBottom) => match z with
    | (fo, v, e, S, R, pn, rn, out, on, st, tc, tp, nc, bc, hc) =>
      (f_maxTokens = mt ∧ f_maxPerforms = nI mp ∧ f_count = nI n ∧ f_status = nI st ∧ f_errorCode = ec ∧ f_errorPos = ep ∧ f_trapCode = tc ∧ f_trapPos = tp ∧ f_emittedCount = nI on ∧ f_performCount = nI pn ∧ f_resumeCount = nI rn) ∧
      (a_kinds = K ∧ a_argA = A ∧ a_argB = B ∧ a_argC = C ∧ a_emitted = out) ∧ (∀ p, nx p ≠ 0 → a_after p = nI (nx p)) ∧ (∀ h op, h < 32 → op < 8 → a_caseFor (8 * h + op) = nI (cf h op)) ∧
      (st = 2 → f_value = v) ∧
      (st = 1 → rx_I a_nodeToken a_nodeStage a_nodeHeld a_nodeScope a_nodeBelow f_nodeCount f_top a_bindingName a_bindingValue a_bindingOuter f_bindingCount a_resumptionFrame a_resumptionTop a_resumptionBottom f_next f_scope f_value
        (fo, v, e, S, R, pn, rn, out, on, st, tc, tp, nc, bc, hc))
section
variable {f_maxTokens f_maxPerforms f_count f_openCount f_status f_errorCode f_errorPos f_trapCode f_trapPos f_emittedCount f_performCount f_resumeCount f_nodeCount f_top f_bindingCount f_next f_scope f_value : Int32} {a_kinds a_argA a_argB a_argC a_after a_openToken a_openStage a_openClause a_caseFor a_emitted a_nodeToken a_nodeStage a_nodeHeld a_nodeScope a_nodeBelow a_bindingName a_bindingValue a_bindingOuter a_resumptionFrame a_resumptionTop a_resumptionBottom : Nat → Int32} {K A B C : Nat → Int32} {n : Nat} {nx : Nat → Nat} {cf : Nat → Nat → Nat} {mp : Nat} {mt ec ep : Int32} {bc nc : Nat} {post : SX → Prop}
theorem xr_mk {fo : Option Nat} {v : Int32} {e : Nat → Int32} {S : List ZF} {R : ZR} {pn rn : Nat} {out : Nat → Int32} {on st : Nat} {tc tp : Int32} {nc bc hc : Nat}
    (sa : ∀ p, nx p ≠ 0 → a_after p = nI (nx p)) (sc : ∀ h op, h < 32 → op < 8 → a_caseFor (8 * h + op) = nI (cf h op)) (h2 : st = 2 → f_value = v)
    (h1 : st = 1 → rx_I a_nodeToken a_nodeStage a_nodeHeld a_nodeScope a_nodeBelow f_nodeCount f_top a_bindingName a_bindingValue a_bindingOuter f_bindingCount a_resumptionFrame a_resumptionTop a_resumptionBottom f_next f_scope f_value
        (fo, v, e, S, R, pn, rn, out, on, st, tc, tp, nc, bc, hc)) :
    xr_R K A B C n nx cf mp mt ec ep (fo, v, e, S, R, pn, rn, out, on, st, tc, tp, nc, bc, hc)
      (mt, nI mp, nI n, f_openCount, nI st, ec, ep, tc, tp, nI on, nI pn, nI rn, f_nodeCount, f_top, f_bindingCount, f_next, f_scope, f_value, K, A, B, C, a_after, a_openToken, a_openStage, a_openClause, a_caseFor, out, a_nodeToken, a_nodeStage, a_nodeHeld, a_nodeScope, a_nodeBelow, a_bindingName, a_bindingValue, a_bindingOuter, a_resumptionFrame, a_resumptionTop, a_resumptionBottom) :=
  ⟨⟨rfl, rfl, rfl, rfl, rfl, rfl, rfl, rfl, rfl, rfl, rfl⟩, ⟨rfl, rfl, rfl, rfl, rfl⟩, sa, sc, h2, h1⟩
theorem xt_after {post : Int32 → Prop} {p : Nat} {a0 : Int32} (ha : a0 = nI p) (hn : n ≤ 32) (sa : ∀ p, nx p ≠ 0 → a_after p = nI (nx p)) (h0 : nx p ≠ 0) (hp : p < n) (hx : nx p < n) (H : post (nI (nx p))) :
    wpX_tokenAfter post (f_maxTokens, f_maxPerforms, nI n, f_openCount, f_status, f_errorCode, f_errorPos, f_trapCode, f_trapPos, f_emittedCount, f_performCount, f_resumeCount, f_nodeCount, f_top, f_bindingCount, f_next, f_scope, f_value, a_kinds, a_argA, a_argB, a_argC, a_after, a_openToken, a_openStage, a_openClause, a_caseFor, a_emitted, a_nodeToken, a_nodeStage, a_nodeHeld, a_nodeScope, a_nodeBelow, a_bindingName, a_bindingValue, a_bindingOuter, a_resumptionFrame, a_resumptionTop, a_resumptionBottom) a0 := by
  subst ha
  refine br_f (nI_pos (by omega)) (br_f (nI_ge hp (by omega)) ⟨vp_in_nI (by omega) (by omega), ?_⟩)
  rw [nI_clamp (by omega), sa p h0]
  exact br_f (nI_ge hx (by omega)) H
theorem xt_look {post : Int32 → Prop} {nm : Int32} (HB : xb_B a_bindingOuter bc) (hbc : bc ≤ 1024) : ∀ (fu b i : Nat), b < fu → b < bc → b + i < 1024 → post (xb_k a_bindingName a_bindingValue a_bindingOuter nm b b) →
    wX_lookUp_7 post nm f_maxTokens f_maxPerforms f_count f_openCount f_status f_errorCode f_errorPos f_trapCode f_trapPos f_emittedCount f_performCount f_resumeCount f_nodeCount f_top f_bindingCount f_next f_scope f_value a_kinds a_argA a_argB a_argC a_after a_openToken a_openStage a_openClause a_caseFor a_emitted a_nodeToken a_nodeStage a_nodeHeld a_nodeScope a_nodeBelow a_bindingName a_bindingValue a_bindingOuter a_resumptionFrame a_resumptionTop a_resumptionBottom fu (nI b) (nI i) := by
  intro fu
  induction fu with
  | zero => intro b i h; omega
  | succ fu ih =>
    intro b i h1 h2 h3 H
    have hc : (nI b).toNatClampNeg = b := nI_clamp (by omega)
    refine br_f (nI_ge (b := 1024) (by omega) (by decide)) ?_
    by_cases hb : b = 0
    · subst hb
      rw [xb_0] at H
      exact br_t rfl H
    · refine br_f (nI_ne0 (by omega) (by omega)) ⟨vp_in_nI (by omega) (by decide), ?_⟩
      by_cases hn : a_bindingName b = nm
      · rw [xb_hit hb hn] at H
        exact br_t (by rw [hc]; exact hn) ⟨vp_in_nI (by omega) (by decide), by rw [hc]; exact H⟩
      · obtain ⟨o, ho, hlt, hk⟩ := xb_next (bN := a_bindingName) (bV := a_bindingValue) HB (by omega) hb h2 hn
        rw [hk] at H
        exact br_f (by rw [hc]; exact hn) ⟨vp_in_nI (by omega) (by decide), nm_r (by rw [hc]; exact ho) (nm_r (nI_1 i) (ih o (i + 1) (by omega) (by omega) (by omega) H))⟩
theorem xt_lookUp {post : Int32 → Prop} {b j : Nat} {e : Nat → Int32} (HB : xb_B a_bindingOuter bc) (hbc : bc ≤ 1024) (E : xb_E a_bindingName a_bindingValue a_bindingOuter bc b e) (hj : j < 9) (H : post (e j)) :
    wpX_lookUp post (f_maxTokens, f_maxPerforms, f_count, f_openCount, f_status, f_errorCode, f_errorPos, f_trapCode, f_trapPos, f_emittedCount, f_performCount, f_resumeCount, f_nodeCount, f_top, f_bindingCount, f_next, nI b, f_value, a_kinds, a_argA, a_argB, a_argC, a_after, a_openToken, a_openStage, a_openClause, a_caseFor, a_emitted, a_nodeToken, a_nodeStage, a_nodeHeld, a_nodeScope, a_nodeBelow, a_bindingName, a_bindingValue, a_bindingOuter, a_resumptionFrame, a_resumptionTop, a_resumptionBottom) (nI j) := by
  have hb := E.1
  rw [← E.2 j hj] at H
  exact ⟨b + 1, xt_look HB hbc (b + 1) b 0 (by omega) hb (by omega) H⟩
theorem xt_kind {post : Int32 → Prop} {p : Nat} (hn : n ≤ 32) (hp : p < n) (H : post (a_kinds p)) : wpX_tokenKind post (f_maxTokens, f_maxPerforms, nI n, f_openCount, f_status, f_errorCode, f_errorPos, f_trapCode, f_trapPos, f_emittedCount, f_performCount, f_resumeCount, f_nodeCount, f_top, f_bindingCount, f_next, f_scope, f_value, a_kinds, a_argA, a_argB, a_argC, a_after, a_openToken, a_openStage, a_openClause, a_caseFor, a_emitted, a_nodeToken, a_nodeStage, a_nodeHeld, a_nodeScope, a_nodeBelow, a_bindingName, a_bindingValue, a_bindingOuter, a_resumptionFrame, a_resumptionTop, a_resumptionBottom) (nI p) := by
  refine br_f (nI_pos (by omega)) (br_f (nI_ge hp (by omega)) ⟨vp_in_nI (by omega) (by decide), ?_⟩)
  rw [nI_clamp (by omega)]
  exact H
theorem xt_keep1 {post : Int32 → Prop} {k : Int32} (hk : zs_kp k) (H : post 1) : wpX_keepsFirstValue post k := by
  rcases hk with rfl | rfl | rfl | rfl | rfl | rfl | rfl
  · exact br_f (by decide) (br_t (by decide) H)
  · exact br_f (by decide) (br_t (by decide) H)
  · exact br_f (by decide) (br_t (by decide) H)
  · exact br_f (by decide) (br_t (by decide) H)
  · exact br_f (by decide) (br_t (by decide) H)
  · exact br_f (by decide) (br_f (by decide) (br_t rfl H))
  · exact br_f (by decide) (br_f (by decide) (br_f (by decide) (br_t rfl H)))
theorem xt_keep0 {post : Int32 → Prop} {k : Int32} (hk : k = 8 ∨ k = 9 ∨ k = 10 ∨ k = 11 ∨ k = 12) (H : post 0) : wpX_keepsFirstValue post k := by
  rcases hk with rfl | rfl | rfl | rfl | rfl <;> exact br_f (by decide) (br_f (by decide) (br_f (by decide) (br_f (by decide) H)))
theorem xt_comb {post : Int32 → Prop} {k a b : Int32} (hk : k = 3 ∨ k = 4 ∨ k = 5 ∨ k = 6 ∨ k = 7) (H : post (zs_ar k a b)) : wpX_combine post k a b := by
  rcases hk with rfl | rfl | rfl | rfl | rfl
  · exact br_f (by decide) (br_f (by decide) (br_t rfl H))
  · exact br_f (by decide) (br_f (by decide) (br_f (by decide) (br_t rfl H)))
  · exact br_f (by decide) (br_f (by decide) (br_f (by decide) (br_f (by decide) (br_t rfl H))))
  · refine br_f (by decide) (br_f (by decide) (br_f (by decide) (br_f (by decide) (br_f (by decide) (br_t rfl ?_)))))
    have e : zs_ar 6 a b = if a < b then 1 else 0 := rfl
    rw [e] at H
    by_cases h : a < b
    · rw [if_pos h] at H
      exact br_f (Int32.not_le.mpr h) H
    · rw [if_neg h] at H
      exact br_t (Int32.not_lt.mp h) H
  · refine br_f (by decide) (br_t (by decide) ?_)
    have e : zs_ar 7 a b = if a = b then 1 else 0 := rfl
    rw [e] at H
    by_cases h : a = b
    · rw [if_pos h] at H
      exact br_t h H
    · rw [if_neg h] at H
      exact br_f h H
theorem xt_bind {nm0 nm v0 v : Int32} (e1 : nm0 = nm) (e2 : v0 = v) (hb : bc < 1024) (H : post (f_maxTokens, f_maxPerforms, f_count, f_openCount, f_status, f_errorCode, f_errorPos, f_trapCode, f_trapPos, f_emittedCount, f_performCount, f_resumeCount, f_nodeCount, f_top, nI (bc + 1), f_next, nI bc, f_value, a_kinds, a_argA, a_argB, a_argC, a_after, a_openToken, a_openStage, a_openClause, a_caseFor, a_emitted, a_nodeToken, a_nodeStage, a_nodeHeld, a_nodeScope, a_nodeBelow, upd a_bindingName bc nm, upd a_bindingValue bc v, upd a_bindingOuter bc f_scope, a_resumptionFrame, a_resumptionTop, a_resumptionBottom)) :
    wpX_bind post (f_maxTokens, f_maxPerforms, f_count, f_openCount, f_status, f_errorCode, f_errorPos, f_trapCode, f_trapPos, f_emittedCount, f_performCount, f_resumeCount, f_nodeCount, f_top, nI bc, f_next, f_scope, f_value, a_kinds, a_argA, a_argB, a_argC, a_after, a_openToken, a_openStage, a_openClause, a_caseFor, a_emitted, a_nodeToken, a_nodeStage, a_nodeHeld, a_nodeScope, a_nodeBelow, a_bindingName, a_bindingValue, a_bindingOuter, a_resumptionFrame, a_resumptionTop, a_resumptionBottom) nm0 v0 := by
  subst e1 e2
  have hc : (nI bc).toNatClampNeg = bc := nI_clamp (by omega)
  have hi : vp_in (nI bc) 1024 := vp_in_nI hb (by decide)
  exact br_f (nI_ge (b := 1024) hb (by decide)) ⟨hi, nm_r (by rw [hc]) ⟨hi, nm_r (by rw [hc]) ⟨hi, nm_r (by rw [hc]) (nm_r (nI_1 bc) H)⟩⟩⟩
theorem xt_push {q0 : Int32} (hb : nc < 1024) (H : post (f_maxTokens, f_maxPerforms, f_count, f_openCount, f_status, f_errorCode, f_errorPos, f_trapCode, f_trapPos, f_emittedCount, f_performCount, f_resumeCount, nI (nc + 1), nI nc, f_bindingCount, f_next, f_scope, f_value, a_kinds, a_argA, a_argB, a_argC, a_after, a_openToken, a_openStage, a_openClause, a_caseFor, a_emitted, upd a_nodeToken nc q0, upd a_nodeStage nc 0, a_nodeHeld, upd a_nodeScope nc f_scope, upd a_nodeBelow nc f_top, a_bindingName, a_bindingValue, a_bindingOuter, a_resumptionFrame, a_resumptionTop, a_resumptionBottom)) :
    wpX_pushNode post (f_maxTokens, f_maxPerforms, f_count, f_openCount, f_status, f_errorCode, f_errorPos, f_trapCode, f_trapPos, f_emittedCount, f_performCount, f_resumeCount, nI nc, f_top, f_bindingCount, f_next, f_scope, f_value, a_kinds, a_argA, a_argB, a_argC, a_after, a_openToken, a_openStage, a_openClause, a_caseFor, a_emitted, a_nodeToken, a_nodeStage, a_nodeHeld, a_nodeScope, a_nodeBelow, a_bindingName, a_bindingValue, a_bindingOuter, a_resumptionFrame, a_resumptionTop, a_resumptionBottom) q0 := by
  have hc : (nI nc).toNatClampNeg = nc := nI_clamp (by omega)
  have hi : vp_in (nI nc) 1024 := vp_in_nI hb (by decide)
  exact br_f (nI_ge (b := 1024) hb (by decide)) ⟨hi, nm_r (by rw [hc]) ⟨hi, nm_r (by rw [hc]) ⟨hi, nm_r (by rw [hc]) ⟨hi, nm_r (by rw [hc]) (nm_r (nI_1 nc) H)⟩⟩⟩⟩
theorem xt_caseOf {post : Int32 → Prop} {h op : Nat} (sc : ∀ h op, h < 32 → op < 8 → a_caseFor (8 * h + op) = nI (cf h op)) (hh : h < 32) (ho : op < 8) (H : post (nI (cf h op))) :
    wpX_caseOf post (f_maxTokens, f_maxPerforms, f_count, f_openCount, f_status, f_errorCode, f_errorPos, f_trapCode, f_trapPos, f_emittedCount, f_performCount, f_resumeCount, f_nodeCount, f_top, f_bindingCount, f_next, f_scope, f_value, a_kinds, a_argA, a_argB, a_argC, a_after, a_openToken, a_openStage, a_openClause, a_caseFor, a_emitted, a_nodeToken, a_nodeStage, a_nodeHeld, a_nodeScope, a_nodeBelow, a_bindingName, a_bindingValue, a_bindingOuter, a_resumptionFrame, a_resumptionTop, a_resumptionBottom) (nI h) (nI op) := by
  have e : nI h * 8 + nI op = nI (8 * h + op) := by
    have : nI h * 8 = nI (h * 8) := (Int32.ofNat_mul h 8).symm
    rw [this, nI_add, Nat.mul_comm]
  show vp_in (nI h * 8 + nI op) 256 ∧ post (a_caseFor (nI h * 8 + nI op).toNatClampNeg)
  rw [e, nI_clamp (by omega), sc h op hh ho]
  exact ⟨vp_in_nI (by omega) (by decide), H⟩
theorem xt_frame {post : Int32 → Prop} {x t s op : Nat} (hn : n ≤ 32) (ht : t < n) (hs : s ≤ 1) (sc : ∀ h op, h < 32 → op < 8 → a_caseFor (8 * h + op) = nI (cf h op)) (hx : x < 1024) (h1 : a_nodeToken x = nI t) (h2 : a_nodeStage x = nI s) (ho : op < 8)
    (H1 : a_kinds t = 13 ∧ s = 1 → post (nI (cf t op))) (H0 : ¬ (a_kinds t = 13 ∧ s = 1) → post 0) : wpX_caseOfFrame post (f_maxTokens, f_maxPerforms, f_count, f_openCount, f_status, f_errorCode, f_errorPos, f_trapCode, f_trapPos, f_emittedCount, f_performCount, f_resumeCount, f_nodeCount, f_top, f_bindingCount, f_next, f_scope, f_value, a_kinds, a_argA, a_argB, a_argC, a_after, a_openToken, a_openStage, a_openClause, a_caseFor, a_emitted, a_nodeToken, a_nodeStage, a_nodeHeld, a_nodeScope, a_nodeBelow, a_bindingName, a_bindingValue, a_bindingOuter, a_resumptionFrame, a_resumptionTop, a_resumptionBottom) (nI x) (nI op) := by
  have hc : (nI x).toNatClampNeg = x := nI_clamp (by omega)
  have hct : (nI t).toNatClampNeg = t := nI_clamp (by omega)
  have hi : vp_in (nI x) 1024 := vp_in_nI hx (by decide)
  refine ⟨hi, nm_r (by rw [hc]; exact h1) ⟨vp_in_nI (by omega) (by decide), ?_⟩⟩
  rw [hct, hc, h2]
  by_cases k : a_kinds t = 13
  · refine br_t k ⟨hi, ?_⟩
    by_cases s1 : s = 1
    · subst s1
      exact br_t rfl (xt_caseOf sc (by omega) ho (H1 ⟨k, rfl⟩))
    · exact br_f (fun z => s1 ((nI_eq (b := 1) (by omega) (by decide)).mp z)) (H0 (fun z => s1 z.2))
  · exact br_f k (H0 (fun z => k z.1))
end
end
section
abbrev xs_G (nT nS nH nSc nB bN bV bO : Nat → Int32) (bc nc : Nat) (topI : Int32) (S : List ZF) (R : ZR) (pn : Nat) (rF rT rB : Nat → Int32) : Prop :=
  hs_G nT nS nH nB (fun x e => ∃ b, nSc x = nI b ∧ xb_E bN bV bO bc b e) 1 nc 0 topI S R pn (fun r => rF r = 0) (fun r x L => rF r = nI x ∧ rB r = hf_l 0 L ∧ (L ≠ [] → rT r = hf_f 0 L))
section
variable {f_maxTokens f_maxPerforms f_count f_openCount f_status f_errorCode f_errorPos f_trapCode f_trapPos f_emittedCount f_performCount f_resumeCount f_nodeCount f_top f_bindingCount f_next f_scope f_value : Int32} {a_kinds a_argA a_argB a_argC a_after a_openToken a_openStage a_openClause a_caseFor a_emitted a_nodeToken a_nodeStage a_nodeHeld a_nodeScope a_nodeBelow a_bindingName a_bindingValue a_bindingOuter a_resumptionFrame a_resumptionTop a_resumptionBottom : Nat → Int32} {K A B C : Nat → Int32} {n : Nat} {nx : Nat → Nat} {cf : Nat → Nat → Nat} {mp : Nat} {mt ec ep : Int32} {post : SX → Prop} {v : Int32} {e : Nat → Int32} {S : List ZF} {R : ZR} {pn rn : Nat} {out : Nat → Int32} {on : Nat} {tc tp : Int32} {nc bc hc t b : Nat} {h : Int32}
theorem xs_Gb {nT nS nH nSc nB bN bV bO : Nat → Int32} {topI : Int32} {rF rT rB : Nat → Int32} (HB : xb_B bO bc) (hb : bc < 2 ^ 31) (n0 v o : Int32) (G : xs_G nT nS nH nSc nB bN bV bO bc nc topI S R pn rF rT rB) :
    xs_G nT nS nH nSc nB (upd bN bc n0) (upd bV bc v) (upd bO bc o) (bc + 1) nc topI S R pn rF rT rB :=
  hs_ev G (fun _ _ _ ⟨b, h1, h2⟩ => ⟨b, h1, xb_E0 HB hb h2 _ _ _⟩)
theorem xf_let {x : Nat} (hn : n ≤ 32) (ht : t < n) (hk : K t = 9) (hA : A t = nI x) (hx : x < 8) (c0 : nx (t + 1) ≠ 0) (c1 : t + 1 < n) (c2 : nx (t + 1) < n) (hbc : bc < 1024) (h0 : 0 < bc)
    (sa : ∀ p, nx p ≠ 0 → a_after p = nI (nx p)) (sc : ∀ h op, h < 32 → op < 8 → a_caseFor (8 * h + op) = nI (cf h op))
    (HB : xb_B a_bindingOuter bc) (E : xb_E a_bindingName a_bindingValue a_bindingOuter bc b e)
    (G : xs_G a_nodeToken a_nodeStage a_nodeHeld a_nodeScope a_nodeBelow a_bindingName a_bindingValue a_bindingOuter bc nc f_top S R pn a_resumptionFrame a_resumptionTop a_resumptionBottom)
    (H : ∀ u', xr_R K A B C n nx cf mp mt ec ep (some (nx (t + 1)), v, upd e (A t).toNatClampNeg v, S, R, pn, rn, out, on, 1, tc, tp, nc, bc + 1, hc) u' → post u') :
    wpX_finish post (mt, nI mp, nI n, f_openCount, 1, ec, ep, tc, tp, nI on, nI pn, nI rn, nI nc, f_top, nI bc, f_next, nI b, v, K, A, B, C, a_after, a_openToken, a_openStage, a_openClause, a_caseFor, out, a_nodeToken, a_nodeStage, a_nodeHeld, a_nodeScope, a_nodeBelow, a_bindingName, a_bindingValue, a_bindingOuter, a_resumptionFrame, a_resumptionTop, a_resumptionBottom) (nI t) h := by
  have hct : (nI t).toNatClampNeg = t := nI_clamp (by omega)
  rw [hA, nI_clamp (by omega)] at H
  refine ⟨vp_in_nI (by omega) (by decide), nm_r (by rw [hct]; exact hk) (br_f (by decide) (br_f (by decide) (br_f (by decide) (br_t rfl ⟨vp_in_nI (by omega) (by decide), ?_⟩))))⟩
  refine xt_bind (nm := nI x) (by rw [hct]; exact hA) rfl hbc ?_
  refine xt_after (nI_1 t) hn sa c0 c1 c2 ?_
  exact H _ (xr_mk sa sc (fun z => absurd z (by decide)) (fun _ => ⟨rfl, rfl, xb_B1 HB E.1, (fun p z => by cases z; exact ⟨rfl, bc, rfl, xb_E1 HB h0 (by omega) E (by omega) v⟩), (fun z => by cases z), xs_Gb HB (by omega) _ _ _ G⟩))
theorem xf_seq (hn : n ≤ 32) (ht : t < n) (hk : K t = 10) (c0 : nx (t + 1) ≠ 0) (c1 : t + 1 < n) (c2 : nx (t + 1) < n)
    (sa : ∀ p, nx p ≠ 0 → a_after p = nI (nx p)) (sc : ∀ h op, h < 32 → op < 8 → a_caseFor (8 * h + op) = nI (cf h op))
    (HB : xb_B a_bindingOuter bc) (E : xb_E a_bindingName a_bindingValue a_bindingOuter bc b e)
    (G : xs_G a_nodeToken a_nodeStage a_nodeHeld a_nodeScope a_nodeBelow a_bindingName a_bindingValue a_bindingOuter bc nc f_top S R pn a_resumptionFrame a_resumptionTop a_resumptionBottom)
    (H : ∀ u', xr_R K A B C n nx cf mp mt ec ep (some (nx (t + 1)), v, e, S, R, pn, rn, out, on, 1, tc, tp, nc, bc, hc) u' → post u') :
    wpX_finish post (mt, nI mp, nI n, f_openCount, 1, ec, ep, tc, tp, nI on, nI pn, nI rn, nI nc, f_top, nI bc, f_next, nI b, v, K, A, B, C, a_after, a_openToken, a_openStage, a_openClause, a_caseFor, out, a_nodeToken, a_nodeStage, a_nodeHeld, a_nodeScope, a_nodeBelow, a_bindingName, a_bindingValue, a_bindingOuter, a_resumptionFrame, a_resumptionTop, a_resumptionBottom) (nI t) h := by
  have hct : (nI t).toNatClampNeg = t := nI_clamp (by omega)
  refine ⟨vp_in_nI (by omega) (by decide), nm_r (by rw [hct]; exact hk) (br_f (by decide) (br_f (by decide) (br_f (by decide) (br_f (by decide) (br_t rfl ?_)))))⟩
  refine xt_after (nI_1 t) hn sa c0 c1 c2 ?_
  exact H _ (xr_mk sa sc (fun z => absurd z (by decide)) (fun _ => ⟨rfl, rfl, HB, (fun p z => by cases z; exact ⟨rfl, b, rfl, E⟩), (fun z => by cases z), G⟩))
theorem xf_if (hn : n ≤ 32) (ht : t < n) (hk : K t = 8) (c0 : nx (t + 1) ≠ 0) (c1 : t + 1 < n) (c2 : nx (t + 1) < n) (c3 : nx (nx (t + 1)) ≠ 0) (c4 : nx (nx (t + 1)) < n)
    (sa : ∀ p, nx p ≠ 0 → a_after p = nI (nx p)) (sc : ∀ h op, h < 32 → op < 8 → a_caseFor (8 * h + op) = nI (cf h op))
    (HB : xb_B a_bindingOuter bc) (E : xb_E a_bindingName a_bindingValue a_bindingOuter bc b e)
    (G : xs_G a_nodeToken a_nodeStage a_nodeHeld a_nodeScope a_nodeBelow a_bindingName a_bindingValue a_bindingOuter bc nc f_top S R pn a_resumptionFrame a_resumptionTop a_resumptionBottom)
    (H : ∀ u', xr_R K A B C n nx cf mp mt ec ep (some (if v = 0 then nx (nx (t + 1)) else nx (t + 1)), v, e, S, R, pn, rn, out, on, 1, tc, tp, nc, bc, hc) u' → post u') :
    wpX_finish post (mt, nI mp, nI n, f_openCount, 1, ec, ep, tc, tp, nI on, nI pn, nI rn, nI nc, f_top, nI bc, f_next, nI b, v, K, A, B, C, a_after, a_openToken, a_openStage, a_openClause, a_caseFor, out, a_nodeToken, a_nodeStage, a_nodeHeld, a_nodeScope, a_nodeBelow, a_bindingName, a_bindingValue, a_bindingOuter, a_resumptionFrame, a_resumptionTop, a_resumptionBottom) (nI t) h := by
  have hct : (nI t).toNatClampNeg = t := nI_clamp (by omega)
  refine ⟨vp_in_nI (by omega) (by decide), nm_r (by rw [hct]; exact hk) (br_f (by decide) (br_f (by decide) (br_t rfl ?_)))⟩
  unfold wpX_choose
  refine xt_after (nI_1 t) hn sa c0 c1 c2 ?_
  by_cases hv : v = 0
  · rw [if_pos hv] at H
    refine br_t hv ?_
    refine xt_after rfl hn sa c3 c2 c4 ?_
    exact H _ (xr_mk sa sc (fun z => absurd z (by decide)) (fun _ => ⟨rfl, rfl, HB, (fun p z => by cases z; exact ⟨rfl, b, rfl, E⟩), (fun z => by cases z), G⟩))
  · rw [if_neg hv] at H
    refine br_f hv ?_
    exact H _ (xr_mk sa sc (fun z => absurd z (by decide)) (fun _ => ⟨rfl, rfl, HB, (fun p z => by cases z; exact ⟨rfl, b, rfl, E⟩), (fun z => by cases z), G⟩))
theorem xf_em0 (hn : n ≤ 32) (ht : t < n) (hk : K t = 11) (ho : on = 16)
    (sa : ∀ p, nx p ≠ 0 → a_after p = nI (nx p)) (sc : ∀ h op, h < 32 → op < 8 → a_caseFor (8 * h + op) = nI (cf h op))
    (H : ∀ u', xr_R K A B C n nx cf mp mt ec ep (none, v, e, S, R, pn, rn, out, on, 3, 4, nI t, nc, bc, hc) u' → post u') :
    wpX_finish post (mt, nI mp, nI n, f_openCount, 1, ec, ep, tc, tp, nI on, nI pn, nI rn, nI nc, f_top, nI bc, f_next, nI b, v, K, A, B, C, a_after, a_openToken, a_openStage, a_openClause, a_caseFor, out, a_nodeToken, a_nodeStage, a_nodeHeld, a_nodeScope, a_nodeBelow, a_bindingName, a_bindingValue, a_bindingOuter, a_resumptionFrame, a_resumptionTop, a_resumptionBottom) (nI t) h := by
  have hct : (nI t).toNatClampNeg = t := nI_clamp (by omega)
  refine ⟨vp_in_nI (by omega) (by decide), nm_r (by rw [hct]; exact hk) (br_f (by decide) (br_f (by decide) (br_f (by decide) (br_f (by decide) (br_f (by decide) (br_t rfl ?_))))))⟩
  refine br_f (nI_nlt (b := 16) (by omega) (by omega)) ?_
  exact H _ (xr_mk sa sc (fun z => absurd z (by decide)) (fun z => absurd z (by decide)))
theorem xf_em1 (hn : n ≤ 32) (ht : t < n) (hk : K t = 11) (ho : on < 16)
    (sa : ∀ p, nx p ≠ 0 → a_after p = nI (nx p)) (sc : ∀ h op, h < 32 → op < 8 → a_caseFor (8 * h + op) = nI (cf h op))
    (HB : xb_B a_bindingOuter bc)
    (G : xs_G a_nodeToken a_nodeStage a_nodeHeld a_nodeScope a_nodeBelow a_bindingName a_bindingValue a_bindingOuter bc nc f_top S R pn a_resumptionFrame a_resumptionTop a_resumptionBottom)
    (H : ∀ u', xr_R K A B C n nx cf mp mt ec ep (none, v, e, S, R, pn, rn, upd out on v, on + 1, 1, tc, tp, nc, bc, hc) u' → post u') :
    wpX_finish post (mt, nI mp, nI n, f_openCount, 1, ec, ep, tc, tp, nI on, nI pn, nI rn, nI nc, f_top, nI bc, -1, nI b, v, K, A, B, C, a_after, a_openToken, a_openStage, a_openClause, a_caseFor, out, a_nodeToken, a_nodeStage, a_nodeHeld, a_nodeScope, a_nodeBelow, a_bindingName, a_bindingValue, a_bindingOuter, a_resumptionFrame, a_resumptionTop, a_resumptionBottom) (nI t) h := by
  have hct : (nI t).toNatClampNeg = t := nI_clamp (by omega)
  have hco : (nI on).toNatClampNeg = on := nI_clamp (by omega)
  refine ⟨vp_in_nI (by omega) (by decide), nm_r (by rw [hct]; exact hk) (br_f (by decide) (br_f (by decide) (br_f (by decide) (br_f (by decide) (br_f (by decide) (br_t rfl ?_))))))⟩
  refine br_t (nI_lt (b := 16) ho (by decide)) ⟨vp_in_nI ho (by decide), nm_r (by rw [hco]) (nm_r (nI_1 on) ?_)⟩
  exact H _ (xr_mk sa sc (fun z => absurd z (by decide)) (fun _ => ⟨rfl, rfl, HB, (fun p z => by cases z), (fun _ => ⟨rfl, rfl⟩), G⟩))
theorem xf_bin (hn : n ≤ 32) (ht : t < n) (hk : K t = 3 ∨ K t = 4 ∨ K t = 5 ∨ K t = 6 ∨ K t = 7)
    (sa : ∀ p, nx p ≠ 0 → a_after p = nI (nx p)) (sc : ∀ h op, h < 32 → op < 8 → a_caseFor (8 * h + op) = nI (cf h op))
    (HB : xb_B a_bindingOuter bc)
    (G : xs_G a_nodeToken a_nodeStage a_nodeHeld a_nodeScope a_nodeBelow a_bindingName a_bindingValue a_bindingOuter bc nc f_top S R pn a_resumptionFrame a_resumptionTop a_resumptionBottom)
    (H : ∀ u', xr_R K A B C n nx cf mp mt ec ep (none, zs_ar (K t) h v, e, S, R, pn, rn, out, on, 1, tc, tp, nc, bc, hc) u' → post u') :
    wpX_finish post (mt, nI mp, nI n, f_openCount, 1, ec, ep, tc, tp, nI on, nI pn, nI rn, nI nc, f_top, nI bc, -1, nI b, v, K, A, B, C, a_after, a_openToken, a_openStage, a_openClause, a_caseFor, out, a_nodeToken, a_nodeStage, a_nodeHeld, a_nodeScope, a_nodeBelow, a_bindingName, a_bindingValue, a_bindingOuter, a_resumptionFrame, a_resumptionTop, a_resumptionBottom) (nI t) h := by
  have hct : (nI t).toNatClampNeg = t := nI_clamp (by omega)
  have h8 : K t < 8 := by rcases hk with k | k | k | k | k <;> (rw [k]; decide)
  refine ⟨vp_in_nI (by omega) (by decide), nm_r (by rw [hct]) (br_t h8 ⟨vp_in_nI (by omega) (by decide), ?_⟩)⟩
  rw [hct]
  refine xt_comb hk ?_
  exact H _ (xr_mk sa sc (fun z => absurd z (by decide)) (fun _ => ⟨rfl, rfl, HB, (fun p z => by cases z), (fun _ => ⟨rfl, rfl⟩), G⟩))
theorem xf_ret {x y c3 : Nat} (hn : n ≤ 32) (ht : t < n) (hk : K t = 13) (e3 : nx (nx (t + 1)) = c3) (hA : A c3 = nI x) (hx : x < 8) (hB : B c3 = nI y) (hy : y < 8) (c0 : nx (t + 1) ≠ 0) (c1 : t + 1 < n) (c2 : nx (t + 1) < n) (c3' : c3 ≠ 0) (c4 : c3 < n) (hbc : bc + 1 < 1024) (h0 : 0 < bc)
    (sa : ∀ p, nx p ≠ 0 → a_after p = nI (nx p)) (sc : ∀ h op, h < 32 → op < 8 → a_caseFor (8 * h + op) = nI (cf h op))
    (HB : xb_B a_bindingOuter bc) (E : xb_E a_bindingName a_bindingValue a_bindingOuter bc b e)
    (G : xs_G a_nodeToken a_nodeStage a_nodeHeld a_nodeScope a_nodeBelow a_bindingName a_bindingValue a_bindingOuter bc nc f_top S R pn a_resumptionFrame a_resumptionTop a_resumptionBottom)
    (H : ∀ u', xr_R K A B C n nx cf mp mt ec ep (some (c3 + 1), v, upd (upd e (B c3).toNatClampNeg h) (A c3).toNatClampNeg v, S, R, pn, rn, out, on, 1, tc, tp, nc, bc + 2, hc) u' → post u') :
    wpX_finish post (mt, nI mp, nI n, f_openCount, 1, ec, ep, tc, tp, nI on, nI pn, nI rn, nI nc, f_top, nI bc, f_next, nI b, v, K, A, B, C, a_after, a_openToken, a_openStage, a_openClause, a_caseFor, out, a_nodeToken, a_nodeStage, a_nodeHeld, a_nodeScope, a_nodeBelow, a_bindingName, a_bindingValue, a_bindingOuter, a_resumptionFrame, a_resumptionTop, a_resumptionBottom) (nI t) h := by
  have hct : (nI t).toNatClampNeg = t := nI_clamp (by omega)
  have hcc : (nI c3).toNatClampNeg = c3 := nI_clamp (by omega)
  rw [hA, hB, nI_clamp (by omega), nI_clamp (by omega)] at H
  refine ⟨vp_in_nI (by omega) (by decide), nm_r (by rw [hct]; exact hk) (br_f (by decide) (br_f (by decide) (br_f (by decide) (br_f (by decide) (br_f (by decide) (br_f (by decide) (br_f (by decide) (br_t rfl ?_))))))))⟩
  unfold wpX_leaveHandle
  dsimp only
  unfold wpX_returnOf
  refine xt_after (nI_1 t) hn sa c0 c1 c2 ?_
  refine xt_after rfl hn sa (by rw [e3]; exact c3') c2 (by rw [e3]; exact c4) ?_
  rw [e3]
  have E1 := xb_E1 HB h0 (by omega) E (a := y) (by omega) h
  have HB1 := xb_B1 HB E.1
  refine ⟨vp_in_nI (by omega) (by decide), xt_bind (nm := nI y) (by rw [hcc]; exact hB) rfl (by omega) ⟨vp_in_nI (by omega) (by decide), xt_bind (nm := nI x) (by rw [hcc]; exact hA) rfl hbc (nm_r (nI_1 c3) ?_)⟩⟩
  exact H _ (xr_mk sa sc (fun z => absurd z (by decide)) (fun _ => ⟨rfl, rfl, xb_B1 HB1 E1.1, (fun p z => by cases z; exact ⟨rfl, bc + 1, rfl, xb_E1 HB1 (by omega) (by omega) E1 (by omega) v⟩), (fun z => by cases z), xs_Gb HB1 (by omega) _ _ _ (xs_Gb HB (by omega) _ _ _ G)⟩))
end
end
section
theorem xm_r {a : Nat → Int32} {i : Int32} {k : Nat} {y : Int32} {P : Int32 → Prop} (hc : i.toNatClampNeg = k) (ha : a k = y) (h : P y) : ∀ x, x = a i.toNatClampNeg → P x := by
  intro x ex
  rw [ex, hc, ha]
  exact h
theorem zu_c {f : Nat → Int32} {a b : Nat} {x y : Int32} (h : a ≠ b) : upd (upd f a x) b y = upd (upd f b y) a x := by
  funext j
  by_cases c : j = a
  · subst c
    rw [zu_n h, zu_s, zu_s]
  · by_cases d : j = b
    · subst d
      rw [zu_s, zu_n c, zu_s]
    · rw [zu_n d, zu_n c, zu_n c, zu_n d]
section
variable {f_maxTokens f_maxPerforms f_count f_openCount f_status f_errorCode f_errorPos f_trapCode f_trapPos f_emittedCount f_performCount f_resumeCount f_nodeCount f_top f_bindingCount f_next f_scope f_value : Int32} {a_kinds a_argA a_argB a_argC a_after a_openToken a_openStage a_openClause a_caseFor a_emitted a_nodeToken a_nodeStage a_nodeHeld a_nodeScope a_nodeBelow a_bindingName a_bindingValue a_bindingOuter a_resumptionFrame a_resumptionTop a_resumptionBottom : Nat → Int32} {K A B C : Nat → Int32} {n : Nat} {nx : Nat → Nat} {cf : Nat → Nat → Nat} {mp : Nat} {mt ec ep : Int32} {post : SX → Prop} {v : Int32} {e : Nat → Int32} {S : List ZF} {R : ZR} {pn rn : Nat} {out : Nat → Int32} {on : Nat} {tc tp : Int32} {nc bc hc t b : Nat} {h : Int32}
theorem xw_walk {op : Nat} {e0 : Int32} {EV : Nat → (Nat → Int32) → Prop} (hn : n ≤ 32) (ht : t < n) (ho : op < 8) (hA : a_argA t = nI op) (hnc : nc ≤ 1024)
    (sc : ∀ h op, h < 32 → op < 8 → a_caseFor (8 * h + op) = nI (cf h op)) : ∀ (L : List HPr) (fu i : Nat) (a0 lo : Int32), hl_C a_nodeBelow a0 L e0 → (∀ p ∈ L, hn_N a_nodeToken a_nodeStage a_nodeHeld EV 1 nc p) →
    (∀ p ∈ L, p.2.1 < n ∧ p.2.2.1 ≤ 1 ∧ ¬ zs_hd a_kinds cf op p.2) → i + L.length < 1024 → wX_perform_41 post (nI t) f_maxTokens f_maxPerforms f_count f_openCount f_status f_errorCode f_errorPos f_trapCode f_trapPos f_emittedCount f_performCount f_resumeCount f_nodeCount f_top f_bindingCount f_next f_scope f_value a_kinds a_argA a_argB a_argC a_after a_openToken a_openStage a_openClause a_caseFor a_emitted a_nodeToken a_nodeStage a_nodeHeld a_nodeScope a_nodeBelow a_bindingName a_bindingValue a_bindingOuter a_resumptionFrame a_resumptionTop a_resumptionBottom fu 0 e0 (hf_l lo L) (nI (i + L.length)) →
    wX_perform_41 post (nI t) f_maxTokens f_maxPerforms f_count f_openCount f_status f_errorCode f_errorPos f_trapCode f_trapPos f_emittedCount f_performCount f_resumeCount f_nodeCount f_top f_bindingCount f_next f_scope f_value a_kinds a_argA a_argB a_argC a_after a_openToken a_openStage a_openClause a_caseFor a_emitted a_nodeToken a_nodeStage a_nodeHeld a_nodeScope a_nodeBelow a_bindingName a_bindingValue a_bindingOuter a_resumptionFrame a_resumptionTop a_resumptionBottom (fu + L.length) 0 a0 lo (nI i) := by
  have hct : (nI t).toNatClampNeg = t := nI_clamp (by omega)
  intro L
  induction L with
  | nil =>
    intro fu i a0 lo c nd hs hi W
    have c' : a0 = e0 := c
    subst c'
    exact W
  | cons p L ih =>
    intro fu i a0 lo c nd hs hi W
    obtain ⟨c1, c2⟩ := c
    subst c1
    rw [List.length_cons] at hi W
    obtain ⟨n1, n2, n3, n4, n5, n6⟩ := nd p (List.mem_cons_self ..)
    obtain ⟨s1, s2, s3⟩ := hs p (List.mem_cons_self ..)
    have hcx : (nI p.1).toNatClampNeg = p.1 := nI_clamp (by omega)
    have W' := ih fu (i + 1) (a_nodeBelow p.1) (nI p.1) c2 (fun q hq => nd q (List.mem_cons_of_mem _ hq)) (fun q hq => hs q (List.mem_cons_of_mem _ hq)) (by omega) (by rw [Nat.add_assoc, Nat.add_comm 1]; exact W)
    show wX_perform_41 post (nI t) f_maxTokens f_maxPerforms f_count f_openCount f_status f_errorCode f_errorPos f_trapCode f_trapPos f_emittedCount f_performCount f_resumeCount f_nodeCount f_top f_bindingCount f_next f_scope f_value a_kinds a_argA a_argB a_argC a_after a_openToken a_openStage a_openClause a_caseFor a_emitted a_nodeToken a_nodeStage a_nodeHeld a_nodeScope a_nodeBelow a_bindingName a_bindingValue a_bindingOuter a_resumptionFrame a_resumptionTop a_resumptionBottom ((fu + L.length) + 1) 0 (nI p.1) lo (nI i)
    refine br_f (nI_ge (b := 1024) (by omega) (by decide)) (br_f (nI_ne0 (by omega) (by omega)) ⟨vp_in_nI (by omega) (by decide), ?_⟩)
    rw [hct, hA]
    refine xt_frame (cf := cf) (n := n) hn s1 s2 sc (by omega) n3 n4 ho (fun z => ?_) (fun _ => ?_)
    · have e0' : cf p.2.1 op = 0 := Classical.byContradiction fun y => s3 ⟨z.1, z.2, y⟩
      rw [e0']
      exact br_t rfl ⟨vp_in_nI (by omega) (by decide), nm_r (by rw [hcx]) (nm_r (nI_1 i) W')⟩
    · exact br_t rfl ⟨vp_in_nI (by omega) (by decide), nm_r (by rw [hcx]) (nm_r (nI_1 i) W')⟩
theorem xf_pf0 (hn : n ≤ 32) (ht : t < n) (hk : K t = 12) (hp : pn = mp) (h16 : mp ≤ 16)
    (sa : ∀ p, nx p ≠ 0 → a_after p = nI (nx p)) (sc : ∀ h op, h < 32 → op < 8 → a_caseFor (8 * h + op) = nI (cf h op))
    (H : ∀ u', xr_R K A B C n nx cf mp mt ec ep (none, v, e, S, R, pn, rn, out, on, 3, 3, nI t, nc, bc, hc) u' → post u') :
    wpX_finish post (mt, nI mp, nI n, f_openCount, 1, ec, ep, tc, tp, nI on, nI pn, nI rn, nI nc, f_top, nI bc, f_next, nI b, v, K, A, B, C, a_after, a_openToken, a_openStage, a_openClause, a_caseFor, out, a_nodeToken, a_nodeStage, a_nodeHeld, a_nodeScope, a_nodeBelow, a_bindingName, a_bindingValue, a_bindingOuter, a_resumptionFrame, a_resumptionTop, a_resumptionBottom) (nI t) h := by
  have hct : (nI t).toNatClampNeg = t := nI_clamp (by omega)
  refine ⟨vp_in_nI (by omega) (by decide), nm_r (by rw [hct]; exact hk) (br_f (by decide) (br_f (by decide) (br_f (by decide) (br_f (by decide) (br_f (by decide) (br_f (by decide) (br_t rfl ?_)))))))⟩
  refine br_f (nI_nlt (by omega) (by omega)) ?_
  exact H _ (xr_mk sa sc (fun z => absurd z (by decide)) (fun z => absurd z (by decide)))
theorem xf_pf1 {op : Nat} (hn : n ≤ 32) (ht : t < n) (hk : K t = 12) (hp : pn < mp) (h16 : mp ≤ 16) (hA : A t = nI op) (ho : op < 8) (hnc : nc ≤ 1024) (hlen : S.length < 1000)
    (hS : ∀ f ∈ S, f.1 < n ∧ f.2.1 ≤ 1) (hf : ∀ f ∈ S, ¬ zs_hd K cf op f)
    (sa : ∀ p, nx p ≠ 0 → a_after p = nI (nx p)) (sc : ∀ h op, h < 32 → op < 8 → a_caseFor (8 * h + op) = nI (cf h op))
    (G : xs_G a_nodeToken a_nodeStage a_nodeHeld a_nodeScope a_nodeBelow a_bindingName a_bindingValue a_bindingOuter bc nc f_top S R pn a_resumptionFrame a_resumptionTop a_resumptionBottom)
    (H : ∀ u', xr_R K A B C n nx cf mp mt ec ep (none, v, e, S, R, pn + 1, rn, out, on, 3, 1, nI t, nc, bc, hc) u' → post u') :
    wpX_finish post (mt, nI mp, nI n, f_openCount, 1, ec, ep, tc, tp, nI on, nI pn, nI rn, nI nc, f_top, nI bc, f_next, nI b, v, K, A, B, C, a_after, a_openToken, a_openStage, a_openClause, a_caseFor, out, a_nodeToken, a_nodeStage, a_nodeHeld, a_nodeScope, a_nodeBelow, a_bindingName, a_bindingValue, a_bindingOuter, a_resumptionFrame, a_resumptionTop, a_resumptionBottom) (nI t) h := by
  have hct : (nI t).toNatClampNeg = t := nI_clamp (by omega)
  refine ⟨vp_in_nI (by omega) (by decide), nm_r (by rw [hct]; exact hk) (br_f (by decide) (br_f (by decide) (br_f (by decide) (br_f (by decide) (br_f (by decide) (br_f (by decide) (br_t rfl ?_)))))))⟩
  obtain ⟨L, l1, l2, l3⟩ := hs_all G
  have hll : L.length = S.length := by rw [← l1, List.length_map]
  have hm : ∀ p ∈ L, p.2 ∈ S := fun p hp => by rw [← l1]; exact List.mem_map.mpr ⟨p, hp, rfl⟩
  refine br_t (nI_lt hp (by omega)) (nm_r (nI_1 pn) ⟨1 + L.length, ?_⟩)
  refine xw_walk (cf := cf) (n := n) (e0 := 0) hn ht ho hA hnc sc L 1 0 _ 0 l2 l3 (fun p hp => ⟨(hS _ (hm p hp)).1, (hS _ (hm p hp)).2, hf _ (hm p hp)⟩) (by omega) ?_
  refine br_f (nI_ge (b := 1024) (by omega) (by decide)) (br_t rfl (br_t rfl ?_))
  exact H _ (xr_mk sa sc (fun z => absurd z (by decide)) (fun z => absurd z (by decide)))
theorem xt_case {cs x y w : Nat} {gh : Int32} (hn : n ≤ 32) (hcs : cs < n) (hx : x < 1024) (hsc : a_nodeScope x = nI b) (hh : a_nodeHeld x = gh) (hC : a_argC cs = nI w) (hB : a_argB cs = nI y) (hbc : bc + 2 < 1024)
    (H : post (f_maxTokens, f_maxPerforms, f_count, f_openCount, f_status, f_errorCode, f_errorPos, f_trapCode, f_trapPos, f_emittedCount, f_performCount, f_resumeCount, f_nodeCount, f_top, nI (bc + 3), nI (cs + 1), nI (bc + 2), v, a_kinds, a_argA, a_argB, a_argC, a_after, a_openToken, a_openStage, a_openClause, a_caseFor, a_emitted, a_nodeToken, a_nodeStage, a_nodeHeld, a_nodeScope, a_nodeBelow, upd (upd (upd a_bindingName bc 8) (bc + 1) (nI w)) (bc + 2) (nI y), upd (upd (upd a_bindingValue bc (nI pn)) (bc + 1) gh) (bc + 2) v, upd (upd (upd a_bindingOuter bc (nI b)) (bc + 1) (nI bc)) (bc + 2) (nI (bc + 1)), a_resumptionFrame, a_resumptionTop, a_resumptionBottom)) :
    wpX_startCase post (f_maxTokens, f_maxPerforms, f_count, f_openCount, f_status, f_errorCode, f_errorPos, f_trapCode, f_trapPos, f_emittedCount, f_performCount, f_resumeCount, f_nodeCount, f_top, nI bc, f_next, f_scope, v, a_kinds, a_argA, a_argB, a_argC, a_after, a_openToken, a_openStage, a_openClause, a_caseFor, a_emitted, a_nodeToken, a_nodeStage, a_nodeHeld, a_nodeScope, a_nodeBelow, a_bindingName, a_bindingValue, a_bindingOuter, a_resumptionFrame, a_resumptionTop, a_resumptionBottom) (nI cs) (nI x) (nI pn) := by
  have hcc : (nI cs).toNatClampNeg = cs := nI_clamp (by omega)
  have hcx : (nI x).toNatClampNeg = x := nI_clamp (by omega)
  refine ⟨vp_in_nI hx (by decide), xm_r hcx hsc ?_⟩
  refine xt_bind rfl rfl (by omega) ⟨vp_in_nI (by omega) (by decide), ⟨vp_in_nI hx (by decide), ?_⟩⟩
  refine xt_bind (nm := nI w) (v := gh) (by rw [hcc]; exact hC) (by rw [hcx]; exact hh) (by omega) ⟨vp_in_nI (by omega) (by decide), ?_⟩
  refine xt_bind (nm := nI y) (by rw [hcc]; exact hB) rfl (by omega) (nm_r (nI_1 cs) ?_)
  exact H
theorem xf_pf2 {op y w : Nat} {sg : List ZF} {g : ZF} {sb : List ZF} (hn : n ≤ 32) (ht : t < n) (hk : K t = 12) (hp : pn < mp) (h16 : mp ≤ 16) (hA : A t = nI op) (ho : op < 8) (hnc : nc ≤ 1024) (hlen : S.length < 1000)
    (hS : ∀ f ∈ S, f.1 < n ∧ f.2.1 ≤ 1) (hSe : S = sg ++ g :: sb) (hg : zs_hd K cf op g) (hf : ∀ f ∈ sg, ¬ zs_hd K cf op f)
    (hcs : cf g.1 op < n) (hC : C (cf g.1 op) = nI w) (hw : w < 8) (hB : B (cf g.1 op) = nI y) (hy : y < 8) (hbc : bc + 2 < 1024) (h0 : 0 < bc)
    (sa : ∀ p, nx p ≠ 0 → a_after p = nI (nx p)) (sc : ∀ h op, h < 32 → op < 8 → a_caseFor (8 * h + op) = nI (cf h op))
    (HB : xb_B a_bindingOuter bc)
    (G : xs_G a_nodeToken a_nodeStage a_nodeHeld a_nodeScope a_nodeBelow a_bindingName a_bindingValue a_bindingOuter bc nc f_top S R pn a_resumptionFrame a_resumptionTop a_resumptionBottom)
    (H : ∀ u', xr_R K A B C n nx cf mp mt ec ep (some (cf g.1 op + 1), v, upd (upd (upd g.2.2.2 (C (cf g.1 op)).toNatClampNeg g.2.2.1) (B (cf g.1 op)).toNatClampNeg v) 8 (nI pn), sb, zo_set R pn (some (sg, g)), pn + 1, rn, out, on, 1, tc, tp, nc, bc + 3, hc) u' → post u') :
    wpX_finish post (mt, nI mp, nI n, f_openCount, 1, ec, ep, tc, tp, nI on, nI pn, nI rn, nI nc, f_top, nI bc, f_next, nI b, v, K, A, B, C, a_after, a_openToken, a_openStage, a_openClause, a_caseFor, out, a_nodeToken, a_nodeStage, a_nodeHeld, a_nodeScope, a_nodeBelow, a_bindingName, a_bindingValue, a_bindingOuter, a_resumptionFrame, a_resumptionTop, a_resumptionBottom) (nI t) h := by
  have hct : (nI t).toNatClampNeg = t := nI_clamp (by omega)
  rw [hB, hC, nI_clamp (by omega), nI_clamp (by omega)] at H
  refine ⟨vp_in_nI (by omega) (by decide), nm_r (by rw [hct]; exact hk) (br_f (by decide) (br_f (by decide) (br_f (by decide) (br_f (by decide) (br_f (by decide) (br_f (by decide) (br_t rfl ?_)))))))⟩
  rw [hSe] at G
  obtain ⟨L, x, l1, l2, l3, ⟨n1, n2, n3, n4, n5, b0, n6, n7⟩, l5, l6⟩ := hs_cap G
  have hll : L.length ≤ S.length := by rw [hSe, ← l1, List.length_append, List.length_map]; omega
  have hm : ∀ p ∈ L, p.2 ∈ sg := fun p hp => by rw [← l1]; exact List.mem_map.mpr ⟨p, hp, rfl⟩
  have hms : ∀ p ∈ L, p.2 ∈ S := fun p hp => by rw [hSe]; exact List.mem_append.mpr (Or.inl (hm p hp))
  have hgS := hS g (by rw [hSe]; simp)
  simp only at n1 n2 n3 n4 n5 n6 n7
  have hcx : (nI x).toNatClampNeg = x := nI_clamp (by omega)
  have hcp : (nI pn).toNatClampNeg = pn := nI_clamp (by omega)
  have hip : vp_in (nI pn) 16 := vp_in_nI (by omega) (by decide)
  refine br_t (nI_lt hp (by omega)) (nm_r (nI_1 pn) ⟨1 + L.length, ?_⟩)
  refine xw_walk (cf := cf) (n := n) (e0 := nI x) hn ht ho hA hnc sc L 1 0 _ 0 l2 l3 (fun p hp => ⟨(hS _ (hms p hp)).1, (hS _ (hms p hp)).2, hf _ (hm p hp)⟩) (by omega) ?_
  refine br_f (nI_ge (b := 1024) (by omega) (by decide)) (br_f (nI_ne0 (by omega) (by omega)) ⟨vp_in_nI (by omega) (by decide), ?_⟩)
  rw [hct, hA]
  refine xt_frame (cf := cf) (n := n) hn hgS.1 hgS.2 sc (by omega) n3 n4 ho (fun _ => ?_) (fun z => absurd ⟨hg.1, hg.2.1⟩ z)
  refine br_f (nI_ne0 (Nat.pos_of_ne_zero hg.2.2) (by omega)) (br_f (nI_ne0 (Nat.pos_of_ne_zero hg.2.2) (by omega)) (nm_r (nI_pred pn) ⟨hip, nm_r (by rw [hcp]) ⟨hip, nm_r (by rw [hcp]) ⟨hip, nm_r (by rw [hcp]) ⟨vp_in_nI (by omega) (by decide), nm_r (by rw [hcx]) ?_⟩⟩⟩⟩))
  have E1 := xb_E1 HB h0 (by omega) n7 (a := 8) (by omega) (nI pn)
  have HB1 := xb_B1 HB n7.1
  have E2 := xb_E1 HB1 (by omega) (by omega) E1 (a := w) (by omega) g.2.2.1
  have HB2 := xb_B1 HB1 E1.1
  have E3 := xb_E1 HB2 (by omega) (by omega) E2 (a := y) (by omega) v
  have HB3 := xb_B1 HB2 E2.1
  rw [zu_c (a := 8) (b := w) (by omega), zu_c (a := 8) (b := y) (by omega)] at E3
  refine xt_case hn hcs (by omega) n6 (n5 hg.2.1) hC hB hbc ?_
  have G' := l6 (fun r => upd a_resumptionFrame pn (nI x) r = 0) (fun r x' M => upd a_resumptionFrame pn (nI x) r = nI x' ∧ upd a_resumptionBottom pn (hf_l 0 L) r = hf_l 0 M ∧ (M ≠ [] → upd a_resumptionTop pn f_top r = hf_f 0 M)) ?_ ?_ ?_
  · exact H _ (xr_mk sa sc (fun z => absurd z (by decide)) (fun _ => ⟨rfl, rfl, HB3, (fun p z => by cases z; exact ⟨rfl, bc + 2, rfl, E3⟩), (fun z => by cases z), xs_Gb HB2 (by omega) _ _ _ (xs_Gb HB1 (by omega) _ _ _ (xs_Gb HB (by omega) _ _ _ G'))⟩))
  · intro r hr z
    rw [zu_n (by omega)]
    exact z
  · intro r y' L' hr ⟨z1, z2, z3⟩
    rw [zu_n (by omega), zu_n (by omega), zu_n (by omega)]
    exact ⟨z1, z2, z3⟩
  · exact ⟨zu_s, zu_s, fun z => by rw [zu_s]; exact hf_c z l2⟩
theorem xt_r87 {r : Nat} {L : List HPr} (hr : r < 16) (hB : a_resumptionBottom r = hf_l 0 L) (hT : L ≠ [] → a_resumptionTop r = hf_f 0 L) (hL : ∀ p ∈ L, 1 ≤ p.1 ∧ p.1 < 1024)
    (H0 : L = [] → post (f_maxTokens, f_maxPerforms, f_count, f_openCount, f_status, f_errorCode, f_errorPos, f_trapCode, f_trapPos, f_emittedCount, f_performCount, f_resumeCount, f_nodeCount, f_top, f_bindingCount, f_next, f_scope, f_value, a_kinds, a_argA, a_argB, a_argC, a_after, a_openToken, a_openStage, a_openClause, a_caseFor, a_emitted, a_nodeToken, a_nodeStage, a_nodeHeld, a_nodeScope, a_nodeBelow, a_bindingName, a_bindingValue, a_bindingOuter, a_resumptionFrame, a_resumptionTop, a_resumptionBottom)) (H1 : ∀ L' q, L = L' ++ [q] → post (f_maxTokens, f_maxPerforms, f_count, f_openCount, f_status, f_errorCode, f_errorPos, f_trapCode, f_trapPos, f_emittedCount, f_performCount, f_resumeCount, f_nodeCount, hf_f 0 L, f_bindingCount, f_next, f_scope, f_value, a_kinds, a_argA, a_argB, a_argC, a_after, a_openToken, a_openStage, a_openClause, a_caseFor, a_emitted, a_nodeToken, a_nodeStage, a_nodeHeld, a_nodeScope, upd a_nodeBelow q.1 f_top, a_bindingName, a_bindingValue, a_bindingOuter, a_resumptionFrame, a_resumptionTop, a_resumptionBottom)) : wX_resume_87 post (nI r) f_maxTokens f_maxPerforms f_count f_openCount f_status f_errorCode f_errorPos f_trapCode f_trapPos f_emittedCount f_performCount f_resumeCount f_nodeCount f_top f_bindingCount f_next f_scope f_value a_kinds a_argA a_argB a_argC a_after a_openToken a_openStage a_openClause a_caseFor a_emitted a_nodeToken a_nodeStage a_nodeHeld a_nodeScope a_nodeBelow a_bindingName a_bindingValue a_bindingOuter a_resumptionFrame a_resumptionTop a_resumptionBottom := by
  have hcr : (nI r).toNatClampNeg = r := nI_clamp (by omega)
  have hir : vp_in (nI r) 16 := vp_in_nI hr (by decide)
  rcases hf_sp L with hz | ⟨L', q, hz⟩
  · have e0 : hf_l 0 L = 0 := by rw [hz]; rfl
    exact ⟨hir, xm_r hcr (hB.trans e0) (br_t rfl (H0 hz))⟩
  · have e0 : hf_l 0 L = nI q.1 := by rw [hz]; exact hf_la
    have hq := hL q (by rw [hz]; simp)
    have hcq : (nI q.1).toNatClampNeg = q.1 := nI_clamp (by omega)
    have hne : L ≠ [] := by rw [hz]; simp
    exact ⟨hir, xm_r hcr (hB.trans e0) (br_f (nI_ne0 (by omega) (by omega)) ⟨vp_in_nI hq.2 (by decide), nm_r (by rw [hcq]) ⟨hir, xm_r hcr (hT hne) (H1 L' q hz)⟩⟩)⟩
theorem xt_unus {post : Int32 → Prop} {r : Nat} (hr : r < 16) (H0 : a_resumptionFrame r = 0 → post 0) (H1 : ¬ a_resumptionFrame r = 0 → post 1) : wpX_isUnused post (f_maxTokens, f_maxPerforms, f_count, f_openCount, f_status, f_errorCode, f_errorPos, f_trapCode, f_trapPos, f_emittedCount, f_performCount, f_resumeCount, f_nodeCount, f_top, f_bindingCount, f_next, f_scope, f_value, a_kinds, a_argA, a_argB, a_argC, a_after, a_openToken, a_openStage, a_openClause, a_caseFor, a_emitted, a_nodeToken, a_nodeStage, a_nodeHeld, a_nodeScope, a_nodeBelow, a_bindingName, a_bindingValue, a_bindingOuter, a_resumptionFrame, a_resumptionTop, a_resumptionBottom) (nI r) := by
  have hcr : (nI r).toNatClampNeg = r := nI_clamp (by omega)
  refine br_f (nI_pos (by omega)) (br_f (nI_ge (b := 16) hr (by decide)) ⟨vp_in_nI hr (by decide), ?_⟩)
  rw [hcr]
  exact br_c H0 H1
theorem xf_rs0 {r : Nat} (hn : n ≤ 32) (ht : t < n) (hk : K t = 17) (h16 : pn ≤ 16) (hr : r < pn) (he : e 8 = nI r) (hR : R r = none) (hbc : bc ≤ 1024)
    (sa : ∀ p, nx p ≠ 0 → a_after p = nI (nx p)) (sc : ∀ h op, h < 32 → op < 8 → a_caseFor (8 * h + op) = nI (cf h op))
    (HB : xb_B a_bindingOuter bc) (E : xb_E a_bindingName a_bindingValue a_bindingOuter bc b e)
    (G : xs_G a_nodeToken a_nodeStage a_nodeHeld a_nodeScope a_nodeBelow a_bindingName a_bindingValue a_bindingOuter bc nc f_top S R pn a_resumptionFrame a_resumptionTop a_resumptionBottom)
    (H : ∀ u', xr_R K A B C n nx cf mp mt ec ep (none, v, e, S, R, pn, rn, out, on, 3, 2, nI t, nc, bc, hc) u' → post u') :
    wpX_finish post (mt, nI mp, nI n, f_openCount, 1, ec, ep, tc, tp, nI on, nI pn, nI rn, nI nc, f_top, nI bc, f_next, nI b, v, K, A, B, C, a_after, a_openToken, a_openStage, a_openClause, a_caseFor, out, a_nodeToken, a_nodeStage, a_nodeHeld, a_nodeScope, a_nodeBelow, a_bindingName, a_bindingValue, a_bindingOuter, a_resumptionFrame, a_resumptionTop, a_resumptionBottom) (nI t) h := by
  have hct : (nI t).toNatClampNeg = t := nI_clamp (by omega)
  refine ⟨vp_in_nI (by omega) (by decide), nm_r (by rw [hct]; exact hk) (br_f (by decide) (br_f (by decide) (br_f (by decide) (br_f (by decide) (br_f (by decide) (br_f (by decide) (br_f (by decide) (br_f (by decide) (br_f (by decide) (br_f (by decide) (br_f (by decide) (br_t rfl ?_))))))))))))⟩
  unfold wpX_resume
  dsimp only
  refine xt_lookUp (j := 8) HB hbc E (by omega) ?_
  rw [he]
  obtain ⟨Q, -, -, -, q4⟩ := G
  have z0 := (q4 r hr).1 hR
  refine xt_unus (by omega) (fun _ => br_t rfl ?_) (fun z => absurd z0 z)
  exact H _ (xr_mk sa sc (fun z => absurd z (by decide)) (fun z => absurd z (by decide)))
theorem xf_rs1 {r : Nat} {sg : List ZF} {g : ZF} (hn : n ≤ 32) (ht : t < n) (hk : K t = 17) (h16 : pn ≤ 16) (hr : r < pn) (he : e 8 = nI r) (hR : R r = some (sg, g)) (hbc : bc ≤ 1024) (hnc : nc ≤ 1024) (hg1 : g.1 < n) (hgs : g.2.1 = 1)
    (sa : ∀ p, nx p ≠ 0 → a_after p = nI (nx p)) (sc : ∀ h op, h < 32 → op < 8 → a_caseFor (8 * h + op) = nI (cf h op))
    (HB : xb_B a_bindingOuter bc) (E : xb_E a_bindingName a_bindingValue a_bindingOuter bc b e)
    (G : xs_G a_nodeToken a_nodeStage a_nodeHeld a_nodeScope a_nodeBelow a_bindingName a_bindingValue a_bindingOuter bc nc f_top S R pn a_resumptionFrame a_resumptionTop a_resumptionBottom)
    (H : ∀ u', xr_R K A B C n nx cf mp mt ec ep (none, v, e, sg ++ (if A g.1 = 0 then (g.1, 1, h, g.2.2.2) :: S else S), zo_set R (e 8).toNatClampNeg none, pn, rn + 1, out, on, 1, tc, tp, nc, bc, hc + (if A g.1 = 0 then 1 else 0)) u' → post u') :
    wpX_finish post (mt, nI mp, nI n, f_openCount, 1, ec, ep, tc, tp, nI on, nI pn, nI rn, nI nc, f_top, nI bc, -1, nI b, v, K, A, B, C, a_after, a_openToken, a_openStage, a_openClause, a_caseFor, out, a_nodeToken, a_nodeStage, a_nodeHeld, a_nodeScope, a_nodeBelow, a_bindingName, a_bindingValue, a_bindingOuter, a_resumptionFrame, a_resumptionTop, a_resumptionBottom) (nI t) h := by
  have hct : (nI t).toNatClampNeg = t := nI_clamp (by omega)
  have hcr : (nI r).toNatClampNeg = r := nI_clamp (by omega)
  have hir : vp_in (nI r) 16 := vp_in_nI (by omega) (by decide)
  have hcg : (nI g.1).toNatClampNeg = g.1 := nI_clamp (by omega)
  rw [he, hcr] at H
  refine ⟨vp_in_nI (by omega) (by decide), nm_r (by rw [hct]; exact hk) (br_f (by decide) (br_f (by decide) (br_f (by decide) (br_f (by decide) (br_f (by decide) (br_f (by decide) (br_f (by decide) (br_f (by decide) (br_f (by decide) (br_f (by decide) (br_f (by decide) (br_t rfl ?_))))))))))))⟩
  unfold wpX_resume
  dsimp only
  refine xt_lookUp (j := 8) HB hbc E (by omega) ?_
  rw [he]
  have m0 : ∀ r', r' ≠ r → a_resumptionFrame r' = 0 → upd a_resumptionFrame r 0 r' = 0 := fun r' z y => by rw [zu_n z]; exact y
  have m1 : ∀ r' y L, r' ≠ r → (a_resumptionFrame r' = nI y ∧ a_resumptionBottom r' = hf_l 0 L ∧ (L ≠ [] → a_resumptionTop r' = hf_f 0 L)) → (upd a_resumptionFrame r 0 r' = nI y ∧ a_resumptionBottom r' = hf_l 0 L ∧ (L ≠ [] → a_resumptionTop r' = hf_f 0 L)) :=
    fun r' y L z w => by rw [zu_n z]; exact w
  by_cases hd : A g.1 = 0
  · rw [if_pos hd, if_pos hd] at H
    obtain ⟨x, L, l1, ⟨p1, p2, p3⟩, ⟨n1, n2, n3, n4, n5, n6⟩, l4, l5, l6⟩ := hs_deep G hr hR hgs h (P0' := fun r' => upd a_resumptionFrame r 0 r' = 0) (P1' := fun r' x L => upd a_resumptionFrame r 0 r' = nI x ∧ a_resumptionBottom r' = hf_l 0 L ∧ (L ≠ [] → a_resumptionTop r' = hf_f 0 L)) m0 m1 zu_s
    simp only at n1 n2 n3
    have hcx : (nI x).toNatClampNeg = x := nI_clamp (by omega)
    have hix : vp_in (nI x) 1024 := vp_in_nI (by omega) (by decide)
    refine xt_unus (by omega) (fun z => absurd (p1.symm.trans z) (nI_ne0 (by omega) (by omega))) (fun _ => br_f (by decide) ⟨hir, xm_r hcr p1 ⟨hir, nm_r (by rw [hcr]) (nm_r (nI_1 rn) ⟨hix, ⟨?_, br_t ?_ ⟨hix, nm_r (by rw [hcx]) ⟨hix, nm_r (by rw [hcx]) ?_⟩⟩⟩⟩)⟩⟩)
    · rw [hcx, n3]; exact vp_in_nI (by omega) (by decide)
    · rw [hcx, n3, hcg]; exact hd
    · refine xt_r87 (L := L) (by omega) p2 p3 (fun p hp => ⟨(l4 p hp).1, by have := (l4 p hp).2.1; omega⟩) (fun z => ?_) (fun L' q z => ?_)
      · have ez : sg = [] := by rw [← l1, z]; rfl
        rw [ez] at H
        exact H _ (xr_mk sa sc (fun z => absurd z (by decide)) (fun _ => ⟨rfl, rfl, HB, (fun p z => by cases z), (fun _ => ⟨rfl, rfl⟩), l5 z⟩))
      · exact H _ (xr_mk sa sc (fun z => absurd z (by decide)) (fun _ => ⟨rfl, rfl, HB, (fun p z => by cases z), (fun _ => ⟨rfl, rfl⟩), l6 L' q z⟩))
  · rw [if_neg hd, if_neg hd] at H
    obtain ⟨x, L, l1, ⟨p1, p2, p3⟩, ⟨n1, n2, n3, n4, n5, n6⟩, l4, l5, l6⟩ := hs_spl G hr hR (P0' := fun r' => upd a_resumptionFrame r 0 r' = 0) (P1' := fun r' x L => upd a_resumptionFrame r 0 r' = nI x ∧ a_resumptionBottom r' = hf_l 0 L ∧ (L ≠ [] → a_resumptionTop r' = hf_f 0 L)) m0 m1 zu_s
    simp only at n1 n2 n3
    have hcx : (nI x).toNatClampNeg = x := nI_clamp (by omega)
    have hix : vp_in (nI x) 1024 := vp_in_nI (by omega) (by decide)
    refine xt_unus (by omega) (fun z => absurd (p1.symm.trans z) (nI_ne0 (by omega) (by omega))) (fun _ => br_f (by decide) ⟨hir, xm_r hcr p1 ⟨hir, nm_r (by rw [hcr]) (nm_r (nI_1 rn) ⟨hix, ⟨?_, br_f ?_ ?_⟩⟩)⟩⟩)
    · rw [hcx, n3]; exact vp_in_nI (by omega) (by decide)
    · rw [hcx, n3, hcg]; exact hd
    · refine xt_r87 (L := L) (by omega) p2 p3 (fun p hp => ⟨(l4 p hp).1, by have := (l4 p hp).2.1; omega⟩) (fun z => ?_) (fun L' q z => ?_)
      · have ez : sg = [] := by rw [← l1, z]; rfl
        rw [ez] at H
        exact H _ (xr_mk sa sc (fun z => absurd z (by decide)) (fun _ => ⟨rfl, rfl, HB, (fun p z => by cases z), (fun _ => ⟨rfl, rfl⟩), l5 z⟩))
      · exact H _ (xr_mk sa sc (fun z => absurd z (by decide)) (fun _ => ⟨rfl, rfl, HB, (fun p z => by cases z), (fun _ => ⟨rfl, rfl⟩), l6 L' q z⟩))
end
end
section
theorem zw_len (K : Nat → Int32) (nx : Nat → Nat) : ∀ S : List ZF, S.length ≤ zw_s (zw_b K nx) S
  | [] => Nat.zero_le _
  | f :: S => by
    have := zw_len K nx S
    simp only [zw_s, zw_b, List.length_cons]
    omega
section
variable {f_maxTokens f_maxPerforms f_count f_openCount f_status f_errorCode f_errorPos f_trapCode f_trapPos f_emittedCount f_performCount f_resumeCount f_nodeCount f_top f_bindingCount f_next f_scope f_value : Int32} {a_kinds a_argA a_argB a_argC a_after a_openToken a_openStage a_openClause a_caseFor a_emitted a_nodeToken a_nodeStage a_nodeHeld a_nodeScope a_nodeBelow a_bindingName a_bindingValue a_bindingOuter a_resumptionFrame a_resumptionTop a_resumptionBottom : Nat → Int32} {K A B C : Nat → Int32} {n : Nat} {nx : Nat → Nat} {cf : Nat → Nat → Nat} {mp : Nat} {mt ec ep : Int32} {post : SX → Prop} {v : Int32} {e0 e : Nat → Int32} {S : List ZF} {R : ZR} {pn rn : Nat} {out : Nat → Int32} {on : Nat} {tc tp : Int32} {nc bc hc t b s : Nat} {h : Int32} {ic : Nat → Prop}
theorem xs_eval {p : Nat} (P : zl_P K A B C n nx cf (zk_cl nx) ic) (I : zi_I K nx mp (zk_cl nx) ic (some p, v, e, S, R, pn, rn, out, on, 1, tc, tp, nc, bc, hc))
    (sa : ∀ p, nx p ≠ 0 → a_after p = nI (nx p)) (sc : ∀ h op, h < 32 → op < 8 → a_caseFor (8 * h + op) = nI (cf h op))
    (HB : xb_B a_bindingOuter bc) (E : xb_E a_bindingName a_bindingValue a_bindingOuter bc b e)
    (G : xs_G a_nodeToken a_nodeStage a_nodeHeld a_nodeScope a_nodeBelow a_bindingName a_bindingValue a_bindingOuter bc nc f_top S R pn a_resumptionFrame a_resumptionTop a_resumptionBottom)
    (H : ∀ u', xr_R K A B C n nx cf mp mt ec ep (zs K A B C nx cf mp (some p, v, e, S, R, pn, rn, out, on, 1, tc, tp, nc, bc, hc)) u' → post u') :
    wpX_evaluate post (mt, nI mp, nI n, f_openCount, 1, ec, ep, tc, tp, nI on, nI pn, nI rn, nI nc, f_top, nI bc, nI p, nI b, f_value, K, A, B, C, a_after, a_openToken, a_openStage, a_openClause, a_caseFor, out, a_nodeToken, a_nodeStage, a_nodeHeld, a_nodeScope, a_nodeBelow, a_bindingName, a_bindingValue, a_bindingOuter, a_resumptionFrame, a_resumptionTop, a_resumptionBottom) (nI p) := by
  obtain ⟨i1, i2, i3, i4, i5, i6, i7, iF, iS, iR, b1, b2, b3⟩ := I
  obtain ⟨hcl, -⟩ := iF p rfl
  have L := P.2.2.2.2.2 p hcl
  have hn := P.1
  have hp : p < n := Nat.lt_of_lt_of_le L.1 L.2.1
  have hcp : (nI p).toNatClampNeg = p := nI_clamp (by omega)
  have hip : vp_in (nI p) 32 := vp_in_nI (by omega) (by decide)
  unfold wpX_evaluate
  dsimp only
  refine xt_kind hn hp ?_
  by_cases k1 : K p = 1
  · rw [zr_leaf1 k1] at H
    refine br_t k1 ⟨hip, ?_⟩
    rw [hcp]
    exact H _ (xr_mk sa sc (fun z => absurd z (by decide)) (fun _ => ⟨rfl, rfl, HB, (fun p z => by cases z), (fun _ => ⟨rfl, rfl⟩), G⟩))
  · by_cases k2 : K p = 2
    · obtain ⟨x, hx, hA⟩ := (P.2.2.1 p hp).2.1 (Or.inl k2)
      rw [zr_leaf2 k2, hA, nI_clamp (by omega)] at H
      refine br_f k1 (br_t k2 ⟨hip, ?_⟩)
      rw [hcp, hA]
      refine xt_lookUp HB (by omega) E (by omega) ?_
      exact H _ (xr_mk sa sc (fun z => absurd z (by decide)) (fun _ => ⟨rfl, rfl, HB, (fun p z => by cases z), (fun _ => ⟨rfl, rfl⟩), G⟩))
    · rw [zr_push k1 k2] at H
      refine br_f k1 (br_f k2 ?_)
      refine xt_push (by omega) (nm_r (nI_1 p) ?_)
      refine H _ (xr_mk sa sc (fun z => absurd z (by decide)) (fun _ => ⟨rfl, rfl, HB, (fun p z => by cases z; exact ⟨rfl, b, rfl, E⟩), (fun z => by cases z), ?_⟩))
      exact hs_push G i6 p 0 0 e (fun _ _ => rfl) (fun z => absurd z (by decide)) (fun x e' hx ⟨b', y1, y2⟩ => ⟨b', (zu_n (Nat.ne_of_lt hx)).trans y1, y2⟩) ⟨b, zu_s, E⟩
theorem xs_done (sa : ∀ p, nx p ≠ 0 → a_after p = nI (nx p)) (sc : ∀ h op, h < 32 → op < 8 → a_caseFor (8 * h + op) = nI (cf h op))
    (G : xs_G a_nodeToken a_nodeStage a_nodeHeld a_nodeScope a_nodeBelow a_bindingName a_bindingValue a_bindingOuter bc nc f_top [] R pn a_resumptionFrame a_resumptionTop a_resumptionBottom)
    (H : ∀ u', xr_R K A B C n nx cf mp mt ec ep (zs K A B C nx cf mp (none, v, e, [], R, pn, rn, out, on, 1, tc, tp, nc, bc, hc)) u' → post u') :
    wpX_handOver post (mt, nI mp, nI n, f_openCount, 1, ec, ep, tc, tp, nI on, nI pn, nI rn, nI nc, f_top, nI bc, -1, f_scope, v, K, A, B, C, a_after, a_openToken, a_openStage, a_openClause, a_caseFor, out, a_nodeToken, a_nodeStage, a_nodeHeld, a_nodeScope, a_nodeBelow, a_bindingName, a_bindingValue, a_bindingOuter, a_resumptionFrame, a_resumptionTop, a_resumptionBottom) := by
  rw [zr_done] at H
  have z := hs_nil G
  subst z
  refine br_t rfl ?_
  exact H _ (xr_mk sa sc (fun _ => rfl) (fun z => absurd z (by decide)))
theorem xs_fin (P : zl_P K A B C n nx cf (zk_cl nx) ic) (I : zi_I K nx mp (zk_cl nx) ic (none, v, e0, (t, s, h, e) :: S, R, pn, rn, out, on, 1, tc, tp, nc, bc, hc)) (hkp : ¬ (s = 0 ∧ zs_kp (K t)))
    (sa : ∀ p, nx p ≠ 0 → a_after p = nI (nx p)) (sc : ∀ h op, h < 32 → op < 8 → a_caseFor (8 * h + op) = nI (cf h op))
    (HB : xb_B a_bindingOuter bc) (E : xb_E a_bindingName a_bindingValue a_bindingOuter bc b e) {h' : Int32} (hh : s = 1 → h' = h)
    (G : xs_G a_nodeToken a_nodeStage a_nodeHeld a_nodeScope a_nodeBelow a_bindingName a_bindingValue a_bindingOuter bc nc f_top S R pn a_resumptionFrame a_resumptionTop a_resumptionBottom)
    (H : ∀ u', xr_R K A B C n nx cf mp mt ec ep (zs K A B C nx cf mp (none, v, e0, (t, s, h, e) :: S, R, pn, rn, out, on, 1, tc, tp, nc, bc, hc)) u' → post u') :
    wpX_finish post (mt, nI mp, nI n, f_openCount, 1, ec, ep, tc, tp, nI on, nI pn, nI rn, nI nc, f_top, nI bc, -1, nI b, v, K, A, B, C, a_after, a_openToken, a_openStage, a_openClause, a_caseFor, out, a_nodeToken, a_nodeStage, a_nodeHeld, a_nodeScope, a_nodeBelow, a_bindingName, a_bindingValue, a_bindingOuter, a_resumptionFrame, a_resumptionTop, a_resumptionBottom) (nI t) h' := by
  obtain ⟨i1, i2, i3, i4, i5, i6, i7, iF, iS, iR, b1, b2, b3⟩ := I
  obtain ⟨f1, f2, f3, f4, f5⟩ := iS _ (List.mem_cons_self ..)
  dsimp only at f1 f2 f3 f4 f5
  have C1 := P.2.2.2.2.2
  have C2 : ∀ p, nx p ≠ 0 → p < nx p ∧ nx p ≤ n := fun p hp => ⟨(C1 p hp).1, (C1 p hp).2.1⟩
  have L := C1 t f1
  have hn := P.1
  have ht : t < n := Nat.lt_of_lt_of_le L.1 L.2.1
  have s0 : ¬ zs_kp (K t) → s = 0 := fun c => f4.elim id (fun q => absurd q.2 c)
  have s1 : zs_kp (K t) → s = 1 := fun c => f4.elim (fun q => absurd ⟨q, c⟩ hkp) (fun q => q.1)
  have hSS : ∀ f ∈ S, f.1 < n ∧ f.2.1 ≤ 1 := by
    intro f hf
    obtain ⟨q1, q2, q3, q4, q5⟩ := iS f (List.mem_cons_of_mem _ hf)
    have Lf := C1 _ q1
    exact ⟨Nat.lt_of_lt_of_le Lf.1 Lf.2.1, by rcases q4 with z | ⟨z, -⟩ <;> omega⟩
  have hlen : S.length < 1000 := by
    have := zw_len K nx S
    simp only [zw_s] at b2
    omega
  have hbc : bc + 3 ≤ 1000 := by omega
  have hnc : nc ≤ 1024 := by omega
  rcases lc_k L f2 f3 with k | k | k | k | k | k | k | k
  · obtain ⟨c1, c2, c3, c4, -⟩ := lc_if L k
    have q1 := C2 _ c1
    have q2 := C2 _ c2
    have q3 := C2 _ c3
    rw [zr_if k] at H
    exact xf_if hn ht k c1 (by omega) (by omega) c2 (by omega) sa sc HB E G H
  · obtain ⟨-, c1, c2, c3, -⟩ := lc_bi L (by simp [k])
    have q1 := C2 _ c1
    have q2 := C2 _ c2
    obtain ⟨x, hx, hA⟩ := (P.2.2.1 t ht).2.1 (by simp [k])
    rw [zr_let k] at H
    exact xf_let hn ht k hA hx c1 (by omega) (by omega) (by omega) i7 sa sc HB E G H
  · obtain ⟨-, c1, c2, c3, -⟩ := lc_bi L (by simp [k])
    have q1 := C2 _ c1
    have q2 := C2 _ c2
    rw [zr_seq k] at H
    exact xf_seq hn ht k c1 (by omega) (by omega) sa sc HB E G H
  · by_cases ho : on = 16
    · rw [zr_em0 k ho] at H
      exact xf_em0 hn ht k ho sa sc H
    · rw [zr_em1 k ho] at H
      exact xf_em1 hn ht k (by omega) sa sc HB G H
  · obtain ⟨op, ho, hA⟩ := (P.2.2.1 t ht).2.1 (by simp [k])
    have hAc : (A t).toNatClampNeg = op := by rw [hA]; exact nI_clamp (by omega)
    by_cases hp : pn = mp
    · rw [zr_pf0 k hp] at H
      exact xf_pf0 hn ht k hp i5 sa sc H
    · cases hf : zs_fnd K cf (A t).toNatClampNeg S with
      | none =>
        rw [zr_pf1 k hp hf] at H
        rw [hAc] at hf
        exact xf_pf1 hn ht k (by omega) i5 hA ho hnc hlen hSS (zf_none hf) sa sc G H
      | some q =>
        obtain ⟨sg, g, sb⟩ := q
        rw [zr_pf2 k hp hf] at H
        rw [hAc] at hf H
        obtain ⟨y1, y2, y3⟩ := zf_some hf
        obtain ⟨g1, -⟩ := iS g (List.mem_cons_of_mem _ (by rw [y1]; simp))
        have Lg := C1 _ g1
        have Lg2 := C2 _ g1
        obtain ⟨-, -, -, -, -, -, -, -, c9⟩ := lc_ha Lg y2.1
        obtain ⟨d1, d2, d3, d4⟩ := c9 op ho y2.2.2
        have q4 := C2 _ d3
        have hcs : cf g.1 op < n := by omega
        obtain ⟨-, ⟨yb, hyb, hB⟩, ⟨w, hw, hC⟩⟩ := (P.2.2.1 _ hcs).2.2.2.2 d2
        exact xf_pf2 hn ht k (by omega) i5 hA ho hnc hlen hSS y1 y2 y3 hcs hC hw hB hyb (by omega) i7 sa sc HB G H
  · have z1 := s1 (by rw [k]; decide)
    rw [hh z1]
    obtain ⟨c1, c2, c3, c4, c5, c6, c7, c8, -⟩ := lc_ha L k
    have q1 := C2 _ c1
    have q2 := C2 _ c2
    have q3 := C2 _ c6
    obtain ⟨⟨x, hx, hA⟩, ⟨y, hy, hB⟩⟩ := (P.2.2.1 (nx (nx (t + 1))) (by omega)).2.2.2.1 c5
    rw [zr_ret k z1] at H
    exact xf_ret hn ht k rfl hA hx hB hy c1 (by omega) (by omega) c2 (by omega) (by omega) i7 sa sc HB E G H
  · have z1 := s1 (by rw [k]; decide)
    rw [hh z1]
    obtain ⟨c0, -⟩ := lc_bi L (by simp [k])
    obtain ⟨r, hr, he⟩ := f5 (c0 k)
    have hcr : (e 8).toNatClampNeg = r := by rw [he]; exact nI_clamp (by omega)
    cases hf : R (e 8).toNatClampNeg with
    | none =>
      rw [zr_rs0 k z1 hf] at H
      rw [hcr] at hf
      exact xf_rs0 hn ht k (by omega) hr he hf (by omega) sa sc HB E G H
    | some q =>
      obtain ⟨sg, g⟩ := q
      rw [zr_rs1 k z1 hf] at H
      rw [hcr] at hf
      obtain ⟨r1, r2, r3, r4⟩ := iR r hr sg g hf
      have Lg := C2 _ r2.1
      exact xf_rs1 hn ht k (by omega) hr he hf (by omega) hnc (by omega) r4 sa sc HB E G H
  · have z1 := s1 (by rcases k with k | k | k | k | k <;> (rw [k]; decide))
    rw [hh z1]
    rw [zr_bin k z1] at H
    exact xf_bin hn ht k sa sc HB G H
theorem xs_hand (P : zl_P K A B C n nx cf (zk_cl nx) ic) (I : zi_I K nx mp (zk_cl nx) ic (none, v, e0, (t, s, h, e) :: S, R, pn, rn, out, on, 1, tc, tp, nc, bc, hc))
    (sa : ∀ p, nx p ≠ 0 → a_after p = nI (nx p)) (sc : ∀ h op, h < 32 → op < 8 → a_caseFor (8 * h + op) = nI (cf h op))
    (HB : xb_B a_bindingOuter bc)
    (G : xs_G a_nodeToken a_nodeStage a_nodeHeld a_nodeScope a_nodeBelow a_bindingName a_bindingValue a_bindingOuter bc nc f_top ((t, s, h, e) :: S) R pn a_resumptionFrame a_resumptionTop a_resumptionBottom)
    (H : ∀ u', xr_R K A B C n nx cf mp mt ec ep (zs K A B C nx cf mp (none, v, e0, (t, s, h, e) :: S, R, pn, rn, out, on, 1, tc, tp, nc, bc, hc)) u' → post u') :
    wpX_handOver post (mt, nI mp, nI n, f_openCount, 1, ec, ep, tc, tp, nI on, nI pn, nI rn, nI nc, f_top, nI bc, -1, f_scope, v, K, A, B, C, a_after, a_openToken, a_openStage, a_openClause, a_caseFor, out, a_nodeToken, a_nodeStage, a_nodeHeld, a_nodeScope, a_nodeBelow, a_bindingName, a_bindingValue, a_bindingOuter, a_resumptionFrame, a_resumptionTop, a_resumptionBottom) := by
  have I' := I
  obtain ⟨i1, i2, i3, i4, i5, i6, i7, iF, iS, iR, b1, b2, b3⟩ := I
  obtain ⟨f1, f2, f3, f4, f5⟩ := iS _ (List.mem_cons_self ..)
  dsimp only at f1 f2 f3 f4 f5
  have C2 : ∀ p, nx p ≠ 0 → p < nx p ∧ nx p ≤ n := fun p hp => ⟨(P.2.2.2.2.2 p hp).1, (P.2.2.2.2.2 p hp).2.1⟩
  have L := P.2.2.2.2.2 t f1
  have hn := P.1
  have ht : t < n := Nat.lt_of_lt_of_le L.1 L.2.1
  obtain ⟨x, x1, x2, x3, x4, x5, x6, ⟨b, x7, x8⟩, x9, x10⟩ := hs_top G
  subst x1
  have hcx : (nI x).toNatClampNeg = x := nI_clamp (by omega)
  have hct : (nI t).toNatClampNeg = t := nI_clamp (by omega)
  have hix : vp_in (nI x) 1024 := vp_in_nI (by omega) (by decide)
  refine br_f (nI_ne0 (by omega) (by omega)) ⟨hix, xm_r hcx x4 ⟨hix, xm_r hcx x7 ⟨hix, ?_⟩⟩⟩
  rw [hcx, x5]
  by_cases hkp : s = 0 ∧ zs_kp (K t)
  · obtain ⟨z0, hk⟩ := hkp
    subst z0
    rw [zr_keep rfl hk] at H
    have hx : zk_cl nx (t + 1) ∧ zk_cl nx (nx (t + 1)) := by
      by_cases k : K t = 13
      · obtain ⟨c1, c2, -⟩ := lc_ha L k
        exact ⟨c1, c2⟩
      · obtain ⟨-, c1, c2, -⟩ := lc_bi L (by rcases hk with k' | k' | k' | k' | k' | k' | k' <;> first | (exact absurd k' k) | simp [k'])
        exact ⟨c1, c2⟩
    have q1 := C2 _ hx.1
    have q2 := C2 _ hx.2
    refine br_t rfl ⟨vp_in_nI (by omega) (by decide), ?_⟩
    rw [hct]
    refine xt_keep1 hk (br_f (by decide) ⟨hix, nm_e ⟨hix, nm_e (xt_after (nI_1 t) hn sa hx.1 (by omega) (by omega) ?_)⟩⟩)
    exact H _ (xr_mk sa sc (fun z => absurd z (by decide)) (fun _ => ⟨rfl, rfl, HB, (fun p z => by cases z; exact ⟨rfl, b, rfl, x8⟩), (fun z => by cases z), x10 v⟩))
  · have F : ∀ post' : SX → Prop, (∀ u, post u → post' u) → wpX_finish post' (mt, nI mp, nI n, f_openCount, 1, ec, ep, tc, tp, nI on, nI pn, nI rn, nI nc, a_nodeBelow x, nI bc, -1, nI b, v, K, A, B, C, a_after, a_openToken, a_openStage, a_openClause, a_caseFor, out, a_nodeToken, a_nodeStage, a_nodeHeld, a_nodeScope, a_nodeBelow, a_bindingName, a_bindingValue, a_bindingOuter, a_resumptionFrame, a_resumptionTop, a_resumptionBottom) (nI t) (a_nodeHeld x) :=
      fun post' hpp => xs_fin P I' hkp sa sc HB x8 x6 x9 (fun u' hu => hpp u' (H u' hu))
    have W : wX_handOver_85 post (nI x) (nI t) mt (nI mp) (nI n) f_openCount 1 ec ep tc tp (nI on) (nI pn) (nI rn) (nI nc) (nI x) (nI bc) (-1) (nI b) v K A B C a_after a_openToken a_openStage a_openClause a_caseFor out a_nodeToken a_nodeStage a_nodeHeld a_nodeScope a_nodeBelow a_bindingName a_bindingValue a_bindingOuter a_resumptionFrame a_resumptionTop a_resumptionBottom := by
      refine ⟨hix, nm_r (by rw [hcx]) ⟨hix, ?_⟩⟩
      rw [hcx]
      exact F _ (fun u hu => hu)
    rcases f4 with z0 | ⟨z1, zk⟩
    · subst z0
      have hnk : ¬ zs_kp (K t) := fun z => hkp ⟨rfl, z⟩
      refine br_t rfl ⟨vp_in_nI (by omega) (by decide), ?_⟩
      rw [hct]
      refine xt_keep0 ?_ (br_t rfl W)
      rcases lc_k L f2 f3 with k | k | k | k | k | k | k | k
      · simp [k]
      · simp [k]
      · simp [k]
      · simp [k]
      · simp [k]
      · exact absurd (by rw [k]; decide) hnk
      · exact absurd (by rw [k]; decide) hnk
      · exact absurd (by rcases k with k | k | k | k | k <;> (rw [k]; decide)) hnk
    · subst z1
      exact br_f (by decide) W
end
end
section
theorem zr_rep (f : ZZ → ZZ) : ∀ (j : Nat) (z : ZZ), Nat.repeat f (j + 1) z = Nat.repeat f j (f z)
  | 0, _ => rfl
  | j + 1, z => by
    show f (Nat.repeat f (j + 1) z) = _
    rw [zr_rep f j z]
    rfl
def zst : ZZ → Nat
  | (_, _, _, _, _, _, _, _, _, st, _, _, _, _, _) => st
def zz0 (out : Nat → Int32) : ZZ := (some 0, 0, (fun _ => 0), [], (fun _ => none), 0, 0, out, 0, 1, 0, -1, 1, 1, 0)
theorem zm_1 {p : Nat} (h : p < 2 ^ 31) : ¬ nI p = -1 := by
  intro z
  have := congrArg Int32.toInt z
  rw [nI_toInt h] at this
  have e : (-1 : Int32).toInt = -1 := by decide
  rw [e] at this
  omega
theorem zz_I {K A B C : Nat → Int32} {n : Nat} {nx : Nat → Nat} {cf : Nat → Nat → Nat} {mp : Nat} {cl ic : Nat → Prop} (P : zl_P K A B C n nx cf cl ic) (hmp : mp ≤ 16) (out : Nat → Int32) : zi_I K nx mp cl ic (zz0 out) ∧ zi_mu K nx mp (zz0 out) < 1700 := by
  have hn := P.1
  have L := P.2.2.2.2.2 0 P.2.2.2.1
  have l1 := L.1
  have l2 := L.2.1
  refine ⟨⟨rfl, rfl, by omega, by omega, hmp, by omega, by omega, (fun p hp => by cases hp; exact ⟨P.2.2.2.1, fun z => absurd z P.2.2.2.2.1⟩), (fun f hf => by cases hf), (fun r hr => by omega), ?_, ?_, ?_⟩, ?_⟩
  · simp only [zi_os, zw_s, zw_r]; omega
  · simp only [zi_os, zw_s, zw_r]; omega
  · simp only [zi_os, zw_s, zw_r]; omega
  · show zi_m K nx mp (some 0) [] (fun _ => none) 0 < 1700
    simp only [zi_m, zi_os, zw_s, zw_r]; omega
section
variable {f_maxTokens f_maxPerforms f_count f_openCount f_status f_errorCode f_errorPos f_trapCode f_trapPos f_emittedCount f_performCount f_resumeCount f_nodeCount f_top f_bindingCount f_next f_scope f_value : Int32} {a_kinds a_argA a_argB a_argC a_after a_openToken a_openStage a_openClause a_caseFor a_emitted a_nodeToken a_nodeStage a_nodeHeld a_nodeScope a_nodeBelow a_bindingName a_bindingValue a_bindingOuter a_resumptionFrame a_resumptionTop a_resumptionBottom : Nat → Int32} {K A B C : Nat → Int32} {n : Nat} {nx : Nat → Nat} {cf : Nat → Nat → Nat} {mp : Nat} {mt ec ep : Int32} {ic : Nat → Prop} {post : Int32 → SX → Prop}
def xl_run (post : Int32 → SX → Prop) (fu : Nat) (i : Int32) (u : SX) : Prop :=
  match u with
  | (f_maxTokens, f_maxPerforms, f_count, f_openCount, f_status, f_errorCode, f_errorPos, f_trapCode, f_trapPos, f_emittedCount, f_performCount, f_resumeCount, f_nodeCount, f_top, f_bindingCount, f_next, f_scope, f_value, a_kinds, a_argA, a_argB, a_argC, a_after, a_openToken, a_openStage, a_openClause, a_caseFor, a_emitted, a_nodeToken, a_nodeStage, a_nodeHeld, a_nodeScope, a_nodeBelow, a_bindingName, a_bindingValue, a_bindingOuter, a_resumptionFrame, a_resumptionTop, a_resumptionBottom) => wX_run_45 post fu i f_maxTokens f_maxPerforms f_count f_openCount f_status f_errorCode f_errorPos f_trapCode f_trapPos f_emittedCount f_performCount f_resumeCount f_nodeCount f_top f_bindingCount f_next f_scope f_value a_kinds a_argA a_argB a_argC a_after a_openToken a_openStage a_openClause a_caseFor a_emitted a_nodeToken a_nodeStage a_nodeHeld a_nodeScope a_nodeBelow a_bindingName a_bindingValue a_bindingOuter a_resumptionFrame a_resumptionTop a_resumptionBottom
theorem xs_one (P : zl_P K A B C n nx cf (zk_cl nx) ic) {z : ZZ} {u : SX} {i fu : Nat} (I : zi_I K nx mp (zk_cl nx) ic z) (X : xr_R K A B C n nx cf mp mt ec ep z u) (hi : i < 1000000)
    (H : ∀ u', xr_R K A B C n nx cf mp mt ec ep (zs K A B C nx cf mp z) u' → xl_run post fu (nI (i + 1)) u') : xl_run post (fu + 1) (nI i) u := by
  obtain ⟨f_maxTokens, f_maxPerforms, f_count, f_openCount, f_status, f_errorCode, f_errorPos, f_trapCode, f_trapPos, f_emittedCount, f_performCount, f_resumeCount, f_nodeCount, f_top, f_bindingCount, f_next, f_scope, f_value, a_kinds, a_argA, a_argB, a_argC, a_after, a_openToken, a_openStage, a_openClause, a_caseFor, a_emitted, a_nodeToken, a_nodeStage, a_nodeHeld, a_nodeScope, a_nodeBelow, a_bindingName, a_bindingValue, a_bindingOuter, a_resumptionFrame, a_resumptionTop, a_resumptionBottom⟩ := u
  obtain ⟨fo, v, e, S, R, pn, rn, out, on, st, tc, tp, nc, bc, hc⟩ := z
  have i1 : st = 1 := I.1
  subst i1
  obtain ⟨⟨rfl, rfl, rfl, rfl, rfl, rfl, rfl, rfl, rfl, rfl, rfl⟩, ⟨rfl, rfl, rfl, rfl, rfl⟩, sa, sc, -, h1⟩ := X
  obtain ⟨r1, r2, HB, hfo, hno, G⟩ := h1 rfl
  subst r1 r2
  refine br_f (nI_ge (b := 1000000) hi (by decide)) (br_t rfl ?_)
  cases fo with
  | some p =>
    obtain ⟨r3, b, r4, E⟩ := hfo p rfl
    subst r3 r4
    have hcl := (I.2.2.2.2.2.2.2.1 p rfl).1
    have L := P.2.2.2.2.2 p hcl
    have hn := P.1
    have l1 := L.1
    have l2 := L.2.1
    refine br_f (zm_1 (by omega)) (xs_eval P I sa sc HB E G ?_)
    intro u' h
    obtain ⟨f_maxTokens, f_maxPerforms, f_count, f_openCount, f_status, f_errorCode, f_errorPos, f_trapCode, f_trapPos, f_emittedCount, f_performCount, f_resumeCount, f_nodeCount, f_top, f_bindingCount, f_next, f_scope, f_value, a_kinds, a_argA, a_argB, a_argC, a_after, a_openToken, a_openStage, a_openClause, a_caseFor, a_emitted, a_nodeToken, a_nodeStage, a_nodeHeld, a_nodeScope, a_nodeBelow, a_bindingName, a_bindingValue, a_bindingOuter, a_resumptionFrame, a_resumptionTop, a_resumptionBottom⟩ := u'
    exact nm_r (nI_1 i) (H _ h)
  | none =>
    obtain ⟨r3, r4⟩ := hno rfl
    subst r3 r4
    refine br_t rfl ?_
    cases S with
    | nil =>
      refine xs_done sa sc G ?_ (e := e) (hc := hc)
      intro u' h
      obtain ⟨f_maxTokens, f_maxPerforms, f_count, f_openCount, f_status, f_errorCode, f_errorPos, f_trapCode, f_trapPos, f_emittedCount, f_performCount, f_resumeCount, f_nodeCount, f_top, f_bindingCount, f_next, f_scope, f_value, a_kinds, a_argA, a_argB, a_argC, a_after, a_openToken, a_openStage, a_openClause, a_caseFor, a_emitted, a_nodeToken, a_nodeStage, a_nodeHeld, a_nodeScope, a_nodeBelow, a_bindingName, a_bindingValue, a_bindingOuter, a_resumptionFrame, a_resumptionTop, a_resumptionBottom⟩ := u'
      exact nm_r (nI_1 i) (H _ h)
    | cons f S =>
      obtain ⟨t, s, h, e1⟩ := f
      refine xs_hand P I sa sc HB G ?_
      intro u' h
      obtain ⟨f_maxTokens, f_maxPerforms, f_count, f_openCount, f_status, f_errorCode, f_errorPos, f_trapCode, f_trapPos, f_emittedCount, f_performCount, f_resumeCount, f_nodeCount, f_top, f_bindingCount, f_next, f_scope, f_value, a_kinds, a_argA, a_argB, a_argC, a_after, a_openToken, a_openStage, a_openClause, a_caseFor, a_emitted, a_nodeToken, a_nodeStage, a_nodeHeld, a_nodeScope, a_nodeBelow, a_bindingName, a_bindingValue, a_bindingOuter, a_resumptionFrame, a_resumptionTop, a_resumptionBottom⟩ := u'
      exact nm_r (nI_1 i) (H _ h)
theorem xs_end {z : ZZ} {u : SX} {i fu : Nat} (X : xr_R K A B C n nx cf mp mt ec ep z u) (hi : i < 1000000) (hX : zi_X mp z) (H : post (nI (zst z)) u) : xl_run post (fu + 1) (nI i) u := by
  obtain ⟨f_maxTokens, f_maxPerforms, f_count, f_openCount, f_status, f_errorCode, f_errorPos, f_trapCode, f_trapPos, f_emittedCount, f_performCount, f_resumeCount, f_nodeCount, f_top, f_bindingCount, f_next, f_scope, f_value, a_kinds, a_argA, a_argB, a_argC, a_after, a_openToken, a_openStage, a_openClause, a_caseFor, a_emitted, a_nodeToken, a_nodeStage, a_nodeHeld, a_nodeScope, a_nodeBelow, a_bindingName, a_bindingValue, a_bindingOuter, a_resumptionFrame, a_resumptionTop, a_resumptionBottom⟩ := u
  obtain ⟨fo, v, e, S, R, pn, rn, out, on, st, tc, tp, nc, bc, hc⟩ := z
  obtain ⟨⟨rfl, rfl, rfl, rfl, rfl, rfl, rfl, rfl, rfl, rfl, rfl⟩, ⟨rfl, rfl, rfl, rfl, rfl⟩, sa, sc, -, h1⟩ := X
  obtain ⟨-, -, h⟩ := hX
  refine br_f (nI_ge (b := 1000000) hi (by decide)) (br_f ?_ H)
  rcases h with ⟨h, -⟩ | ⟨h, -⟩
  · subst h; decide
  · subst h; decide
theorem xs_loop (P : zl_P K A B C n nx cf (zk_cl nx) ic) : ∀ (k : Nat) (z : ZZ) (i fu : Nat) (u : SX), (∀ j, j ≤ k → zi_I K nx mp (zk_cl nx) ic (Nat.repeat (zs K A B C nx cf mp) j z)) → zi_X mp (Nat.repeat (zs K A B C nx cf mp) (k + 1) z) →
    xr_R K A B C n nx cf mp mt ec ep z u → i + k + 1 < 1000000 → k + 2 ≤ fu → (∀ u', xr_R K A B C n nx cf mp mt ec ep (Nat.repeat (zs K A B C nx cf mp) (k + 1) z) u' → post (nI (zst (Nat.repeat (zs K A B C nx cf mp) (k + 1) z))) u') → xl_run post fu (nI i) u := by
  intro k
  induction k with
  | zero =>
    intro z i fu u hI hX X hi hf H
    obtain ⟨fu, rfl⟩ : ∃ f', fu = f' + 2 := ⟨fu - 2, by omega⟩
    exact xs_one P (hI 0 (Nat.le_refl _)) X (by omega) (fun u' h => xs_end h (by omega) hX (H u' h))
  | succ k ih =>
    intro z i fu u hI hX X hi hf H
    obtain ⟨fu, rfl⟩ : ∃ f', fu = f' + 1 := ⟨fu - 1, by omega⟩
    rw [zr_rep] at hX H
    exact xs_one P (hI 0 (Nat.zero_le _)) X (by omega) (fun u' h => ih _ (i + 1) fu u' (fun j hj => by rw [← zr_rep]; exact hI (j + 1) (by omega)) hX h (by omega) (by omega) H)
theorem xs_run {out : Nat → Int32} {k : Nat} (P : zl_P K A B C n nx cf (zk_cl nx) ic) (hk : k < 1700) (hI : ∀ j, j ≤ k → zi_I K nx mp (zk_cl nx) ic (Nat.repeat (zs K A B C nx cf mp) j (zz0 out))) (hX : zi_X mp (Nat.repeat (zs K A B C nx cf mp) (k + 1) (zz0 out)))
    (sa : ∀ p, nx p ≠ 0 → a_after p = nI (nx p)) (sc : ∀ h op, h < 32 → op < 8 → a_caseFor (8 * h + op) = nI (cf h op)) (hst : ¬ f_status = 0)
    (H : ∀ u', xr_R K A B C n nx cf mp mt ec ep (Nat.repeat (zs K A B C nx cf mp) (k + 1) (zz0 out)) u' → post (nI (zst (Nat.repeat (zs K A B C nx cf mp) (k + 1) (zz0 out)))) u') :
    wpX_run post (mt, nI mp, nI n, f_openCount, f_status, ec, ep, f_trapCode, f_trapPos, f_emittedCount, f_performCount, f_resumeCount, f_nodeCount, f_top, f_bindingCount, f_next, f_scope, f_value, K, A, B, C, a_after, a_openToken, a_openStage, a_openClause, a_caseFor, out, a_nodeToken, a_nodeStage, a_nodeHeld, a_nodeScope, a_nodeBelow, a_bindingName, a_bindingValue, a_bindingOuter, a_resumptionFrame, a_resumptionTop, a_resumptionBottom) := by
  refine br_f hst ?_
  show ∃ n45 : Nat, wX_run_45 post n45 0 mt (nI mp) (nI n) f_openCount 1 ec ep 0 (-1) 0 0 0 1 0 1 0 0 f_value K A B C a_after a_openToken a_openStage a_openClause a_caseFor out a_nodeToken a_nodeStage a_nodeHeld a_nodeScope a_nodeBelow a_bindingName a_bindingValue a_bindingOuter a_resumptionFrame a_resumptionTop a_resumptionBottom
  refine ⟨1702, ?_⟩
  refine xs_loop (u := (mt, nI mp, nI n, f_openCount, 1, ec, ep, 0, -1, 0, 0, 0, 1, 0, 1, 0, 0, f_value, K, A, B, C, a_after, a_openToken, a_openStage, a_openClause, a_caseFor, out, a_nodeToken, a_nodeStage, a_nodeHeld, a_nodeScope, a_nodeBelow, a_bindingName, a_bindingValue, a_bindingOuter, a_resumptionFrame, a_resumptionTop, a_resumptionBottom)) P k (zz0 out) 0 1702 hI hX ?_ (by omega) (by omega) H
  refine xr_mk (tc := 0) (tp := -1) (on := 0) (pn := 0) (rn := 0) (st := 1) (nc := 1) (bc := 1) sa sc (fun z => absurd z (by decide)) (fun _ => ⟨rfl, rfl, (fun b h1 h2 => by omega), (fun p z => by cases z; exact ⟨rfl, 0, rfl, by omega, fun j hj => rfl⟩), (fun z => by cases z), ?_⟩)
  refine ⟨fun _ => [], ⟨fun _ => 0, fun k => ⟨⟨0, 0, rfl⟩, trivial, fun p hp => by cases hp⟩⟩, rfl, rfl, fun r hr => by omega⟩
end
end
section
def yr_P (K A : Nat → Int32) (n : Nat) (cf : Nat → Nat → Nat) (par : Nat → Int32) : Prop :=
  (∀ j, j < n → K j = 15 → ∃ h op, h < j ∧ op < 8 ∧ par j = nI h ∧ A j = nI op ∧ cf h op = j) ∧
  (∀ h op, cf h op ≠ 0 → h < cf h op ∧ cf h op < n ∧ K (cf h op) = 15 ∧ par (cf h op) = nI h ∧ A (cf h op) = nI op)
def yr_R (K A B C : Nat → Int32) (n : Nat) (nx : Nat → Nat) (cf : Nat → Nat → Nat) (mp : Nat) (mt ec ep : Int32) (z : ZZ) (x1 x2 x3 x4 x5 : Int32) (u : SY) : Prop :=
  match u with
  | (f_maxT, f_maxP, f_n, f_st, f_eCode, f_ePos, f_outN, f_perfN, f_resN, f_res, f_trap, f_tpos, f_hp, a_tk, a_ta, a_tb, a_tc, a_nxt, a_par, a_nP, a_nK, a_out, a_ce, a_fp, a_fk, a_fx, a_fb, a_fe, a_rH, a_rTop, a_rBot, a_used) => match z with
    | (fo, v, e, S, R, pn, rn, out, on, st, tc, tp, nc, bc, hc) =>
      (f_maxT = mt ∧ f_maxP = nI mp ∧ f_n = nI n ∧ f_eCode = ec ∧ f_ePos = ep ∧ f_trap = tc ∧ f_tpos = tp ∧ f_outN = nI on ∧ f_perfN = nI pn ∧ f_resN = nI rn) ∧
      (a_tk = K ∧ a_ta = A ∧ a_tb = B ∧ a_tc = C ∧ a_out = out) ∧ (∀ p, nx p ≠ 0 → a_nxt p = nI (nx p)) ∧ yr_P K A n cf a_par ∧
      (st ≠ 1 → x5 = 0) ∧ (st = 2 → f_res = v) ∧ (st = 1 → x5 = 1 ∧ ry_I a_fp a_fk a_fx a_fb a_fe f_hp x1 a_ce a_rH a_rTop a_rBot a_used x2 x3 x4 (fo, v, e, S, R, pn, rn, out, on, st, tc, tp, nc, bc, hc))
section
variable {f_maxT f_maxP f_n f_st f_eCode f_ePos f_outN f_perfN f_resN f_res f_trap f_tpos f_hp : Int32} {a_tk a_ta a_tb a_tc a_nxt a_par a_nP a_nK a_out a_ce a_fp a_fk a_fx a_fb a_fe a_rH a_rTop a_rBot a_used : Nat → Int32} {K A B C : Nat → Int32} {n : Nat} {nx : Nat → Nat} {cf : Nat → Nat → Nat} {mp : Nat} {mt ec ep : Int32}
theorem yr_mk {fo : Option Nat} {v : Int32} {e : Nat → Int32} {S : List ZF} {R : ZR} {pn rn : Nat} {out : Nat → Int32} {on st : Nat} {tc tp : Int32} {nc bc hc : Nat} {x1 x2 x3 x4 x5 : Int32}
    (sa : ∀ p, nx p ≠ 0 → a_nxt p = nI (nx p)) (sc : yr_P K A n cf a_par) (h0 : st ≠ 1 → x5 = 0) (h2 : st = 2 → f_res = v)
    (h1 : st = 1 → x5 = 1 ∧ ry_I a_fp a_fk a_fx a_fb a_fe f_hp x1 a_ce a_rH a_rTop a_rBot a_used x2 x3 x4 (fo, v, e, S, R, pn, rn, out, on, st, tc, tp, nc, bc, hc)) :
    yr_R K A B C n nx cf mp mt ec ep (fo, v, e, S, R, pn, rn, out, on, st, tc, tp, nc, bc, hc) x1 x2 x3 x4 x5
      (mt, nI mp, nI n, f_st, ec, ep, nI on, nI pn, nI rn, f_res, tc, tp, f_hp, K, A, B, C, a_nxt, a_par, a_nP, a_nK, out, a_ce, a_fp, a_fk, a_fx, a_fb, a_fe, a_rH, a_rTop, a_rBot, a_used) :=
  ⟨⟨rfl, rfl, rfl, rfl, rfl, rfl, rfl, rfl, rfl, rfl⟩, ⟨rfl, rfl, rfl, rfl, rfl⟩, sa, sc, h0, h2, h1⟩
theorem yt_9 {x j : Nat} : nI x * 9 + nI j = nI (9 * x + j) := by
  have : nI x * 9 = nI (x * 9) := (Int32.ofNat_mul x 9).symm
  rw [this, nI_add, Nat.mul_comm]
theorem yt_ldl {post : SY → Prop} {x : Nat} (hx : x < 1056) : ∀ (d j fu : Nat), j + d = 9 → d < fu → post (f_maxT, f_maxP, f_n, f_st, f_eCode, f_ePos, f_outN, f_perfN, f_resN, f_res, f_trap, f_tpos, f_hp, a_tk, a_ta, a_tb, a_tc, a_nxt, a_par, a_nP, a_nK, a_out, yl_ce a_fe a_ce x 9, a_fp, a_fk, a_fx, a_fb, a_fe, a_rH, a_rTop, a_rBot, a_used) →
    wY_load_2 post (nI x) f_maxT f_maxP f_n f_st f_eCode f_ePos f_outN f_perfN f_resN f_res f_trap f_tpos f_hp fu (nI j) a_tk a_ta a_tb a_tc a_nxt a_par a_nP a_nK a_out (yl_ce a_fe a_ce x j) a_fp a_fk a_fx a_fb a_fe a_rH a_rTop a_rBot a_used := by
  intro d
  induction d with
  | zero =>
    intro j fu hj hf H
    obtain ⟨fu, rfl⟩ : ∃ f', fu = f' + 1 := ⟨fu - 1, by omega⟩
    have : j = 9 := by omega
    subst this
    exact br_t (nI_le (a := 9) (by omega) (by decide)) H
  | succ d ih =>
    intro j fu hj hf H
    obtain ⟨fu, rfl⟩ : ∃ f', fu = f' + 1 := ⟨fu - 1, by omega⟩
    have hc : (nI (9 * x + j)).toNatClampNeg = 9 * x + j := nI_clamp (by omega)
    have hcj : (nI j).toNatClampNeg = j := nI_clamp (by omega)
    refine br_f (nI_ge (b := 9) (by omega) (by decide)) ⟨by rw [yt_9]; exact vp_in_nI (by omega) (by decide), vp_in_nI (by omega) (by decide), nm_r (by rw [yt_9, hc, hcj, yl_s]) (nm_r (nI_1 j) (ih (j + 1) fu (by omega) (by omega) H))⟩
theorem yt_load {post : SY → Prop} {x : Nat} (hx : x < 1056) (H : post (f_maxT, f_maxP, f_n, f_st, f_eCode, f_ePos, f_outN, f_perfN, f_resN, f_res, f_trap, f_tpos, f_hp, a_tk, a_ta, a_tb, a_tc, a_nxt, a_par, a_nP, a_nK, a_out, yl_ce a_fe a_ce x 9, a_fp, a_fk, a_fx, a_fb, a_fe, a_rH, a_rTop, a_rBot, a_used)) : wpY_load post (f_maxT, f_maxP, f_n, f_st, f_eCode, f_ePos, f_outN, f_perfN, f_resN, f_res, f_trap, f_tpos, f_hp, a_tk, a_ta, a_tb, a_tc, a_nxt, a_par, a_nP, a_nK, a_out, a_ce, a_fp, a_fk, a_fx, a_fb, a_fe, a_rH, a_rTop, a_rBot, a_used) (nI x) := by
  have W := yt_ldl (post := post) hx 9 0 10 (by omega) (by omega) H
  rw [yl_0] at W
  exact ⟨10, W⟩
theorem yt_psl {post : Int32 → SY → Prop} {x : Nat} (hx : x < 1056) : ∀ (d j fu : Nat), j + d = 9 → d < fu → post (nI x) (f_maxT, f_maxP, f_n, f_st, f_eCode, f_ePos, f_outN, f_perfN, f_resN, f_res, f_trap, f_tpos, f_hp, a_tk, a_ta, a_tb, a_tc, a_nxt, a_par, a_nP, a_nK, a_out, a_ce, a_fp, a_fk, a_fx, a_fb, yp_fe a_fe a_ce x 9, a_rH, a_rTop, a_rBot, a_used) →
    wY_push_65 post (nI x) f_maxT f_maxP f_n f_st f_eCode f_ePos f_outN f_perfN f_resN f_res f_trap f_tpos f_hp fu (nI j) a_tk a_ta a_tb a_tc a_nxt a_par a_nP a_nK a_out a_ce a_fp a_fk a_fx a_fb (yp_fe a_fe a_ce x j) a_rH a_rTop a_rBot a_used := by
  intro d
  induction d with
  | zero =>
    intro j fu hj hf H
    obtain ⟨fu, rfl⟩ : ∃ f', fu = f' + 1 := ⟨fu - 1, by omega⟩
    have : j = 9 := by omega
    subst this
    exact br_t (nI_le (a := 9) (by omega) (by decide)) H
  | succ d ih =>
    intro j fu hj hf H
    obtain ⟨fu, rfl⟩ : ∃ f', fu = f' + 1 := ⟨fu - 1, by omega⟩
    have hc : (nI (9 * x + j)).toNatClampNeg = 9 * x + j := nI_clamp (by omega)
    have hcj : (nI j).toNatClampNeg = j := nI_clamp (by omega)
    refine br_f (nI_ge (b := 9) (by omega) (by decide)) ⟨vp_in_nI (by omega) (by decide), by rw [yt_9]; exact vp_in_nI (by omega) (by decide), nm_r (by rw [yt_9, hc, hcj, yp_s]) (nm_r (nI_1 j) (ih (j + 1) fu (by omega) (by omega) H))⟩
theorem yt_push {post : Int32 → SY → Prop} {hc : Nat} {q0 q1 q2 : Int32} (hh : hc < 1055) (H : post (nI hc) (f_maxT, f_maxP, f_n, f_st, f_eCode, f_ePos, f_outN, f_perfN, f_resN, f_res, f_trap, f_tpos, nI (hc + 1), a_tk, a_ta, a_tb, a_tc, a_nxt, a_par, a_nP, a_nK, a_out, a_ce, upd a_fp hc q0, upd a_fk hc q1, upd a_fx hc 0, upd a_fb hc q2, yp_fe a_fe a_ce hc 9, a_rH, a_rTop, a_rBot, a_used)) :
    wpY_push post (f_maxT, f_maxP, f_n, f_st, f_eCode, f_ePos, f_outN, f_perfN, f_resN, f_res, f_trap, f_tpos, nI hc, a_tk, a_ta, a_tb, a_tc, a_nxt, a_par, a_nP, a_nK, a_out, a_ce, a_fp, a_fk, a_fx, a_fb, a_fe, a_rH, a_rTop, a_rBot, a_used) q0 q1 q2 := by
  have hi : vp_in (nI hc) 1056 := vp_in_nI (by omega) (by decide)
  have hcc : (nI hc).toNatClampNeg = hc := nI_clamp (by omega)
  refine br_f (nI_ge (b := 1055) hh (by decide)) (nm_r (nI_1 hc) ⟨hi, nm_r (by rw [hcc]) ⟨hi, nm_r (by rw [hcc]) ⟨hi, nm_r (by rw [hcc]) ⟨hi, nm_r (by rw [hcc]) ⟨10, ?_⟩⟩⟩⟩⟩)
  have W := yt_psl (post := post) (f_maxT := f_maxT) (f_maxP := f_maxP) (f_n := f_n) (f_st := f_st) (f_eCode := f_eCode) (f_ePos := f_ePos) (f_outN := f_outN) (f_perfN := f_perfN) (f_resN := f_resN) (f_res := f_res) (f_trap := f_trap) (f_tpos := f_tpos) (f_hp := nI (hc + 1)) (x := hc) (by omega) 9 0 10 (by omega) (by omega) H
  rw [yp_0] at W
  exact W
theorem yt_fcl {post : Int32 → Prop} {h op : Nat} (hn : n ≤ 32) (hh : h < 32) (ho : op < 8) (sc : yr_P a_tk a_ta n cf a_par) (H : post (if cf h op = 0 then -1 else nI (cf h op))) : ∀ (d j fu : Nat), j + d = n → d < fu → h < j → (cf h op = 0 ∨ j ≤ cf h op) →
    wY_findCase_4 post (nI h) (nI op) f_maxT f_maxP (nI n) f_st f_eCode f_ePos f_outN f_perfN f_resN f_res f_trap f_tpos f_hp a_tk a_ta a_tb a_tc a_nxt a_par a_nP a_nK a_out a_ce a_fp a_fk a_fx a_fb a_fe a_rH a_rTop a_rBot a_used fu (nI j) := by
  intro d
  induction d with
  | zero =>
    intro j fu hj hf hhj hm
    obtain ⟨fu, rfl⟩ : ∃ f', fu = f' + 1 := ⟨fu - 1, by omega⟩
    have z : cf h op = 0 := by
      rcases Nat.eq_zero_or_pos (cf h op) with z | z
      · exact z
      · have := (sc.2 h op (by omega)).2.1
        omega
    rw [if_pos z] at H
    exact br_t (nI_le (by omega) (by omega)) H
  | succ d ih =>
    intro j fu hj hf hhj hm
    obtain ⟨fu, rfl⟩ : ∃ f', fu = f' + 1 := ⟨fu - 1, by omega⟩
    have hcj : (nI j).toNatClampNeg = j := nI_clamp (by omega)
    have hij : vp_in (nI j) 33 := vp_in_nI (by omega) (by decide)
    have next : ¬ cf h op = j → wY_findCase_4 post (nI h) (nI op) f_maxT f_maxP (nI n) f_st f_eCode f_ePos f_outN f_perfN f_resN f_res f_trap f_tpos f_hp a_tk a_ta a_tb a_tc a_nxt a_par a_nP a_nK a_out a_ce a_fp a_fk a_fx a_fb a_fe a_rH a_rTop a_rBot a_used fu (nI (j + 1)) := fun z => ih (j + 1) fu (by omega) (by omega) (by omega) (by omega)
    refine br_f (nI_ge (by omega) (by omega)) ⟨hij, ?_⟩
    rw [hcj]
    by_cases k : a_tk j = 15
    · obtain ⟨h', op', y1, y2, y3, y4, y5⟩ := sc.1 j (by omega) k
      refine br_t k ⟨hij, ?_⟩
      by_cases kh : h' = h
      · subst kh
        refine br_t y3 ⟨hij, ?_⟩
        by_cases ko : op' = op
        · subst ko
          rw [y5, if_neg (by omega)] at H
          exact br_t y4 H
        · exact br_f (fun z => ko ((nI_eq (by omega) (by omega)).mp (y4.symm.trans z))) (nm_r (nI_1 j) (next (fun z => by
            have := (sc.2 h' op (by omega)).2.2.2.2
            rw [z, y4] at this
            exact ko ((nI_eq (by omega) (by omega)).mp this))))
      · exact br_f (fun z => kh ((nI_eq (by omega) (by omega)).mp (y3.symm.trans z))) (nm_r (nI_1 j) (next (fun z => by
            have := (sc.2 h op (by omega)).2.2.2.1
            rw [z, y3] at this
            exact kh ((nI_eq (by omega) (by omega)).mp this))))
    · exact br_f k (nm_r (nI_1 j) (next (fun z => by
            have := (sc.2 h op (by omega)).2.2.1
            rw [z] at this
            exact k this)))
theorem yt_find {post : Int32 → Prop} {h op : Nat} (hn : n ≤ 32) (hh : h < n) (ho : op < 8) (sc : yr_P a_tk a_ta n cf a_par) (H : post (if cf h op = 0 then -1 else nI (cf h op))) : wpY_findCase post (f_maxT, f_maxP, nI n, f_st, f_eCode, f_ePos, f_outN, f_perfN, f_resN, f_res, f_trap, f_tpos, f_hp, a_tk, a_ta, a_tb, a_tc, a_nxt, a_par, a_nP, a_nK, a_out, a_ce, a_fp, a_fk, a_fx, a_fb, a_fe, a_rH, a_rTop, a_rBot, a_used) (nI h) (nI op) := by
  refine nm_r (nI_1 h) ⟨n - (h + 1) + 1, yt_fcl hn (by omega) ho sc H (n - (h + 1)) (h + 1) _ (by omega) (by omega) (by omega) ?_⟩
  rcases Nat.eq_zero_or_pos (cf h op) with z | z
  · exact Or.inl z
  · have := (sc.2 h op (by omega)).1
    exact Or.inr (by omega)
theorem yt_ar {post : Int32 → Prop} {k a b : Int32} (hk : k = 3 ∨ k = 4 ∨ k = 5 ∨ k = 6 ∨ k = 7) (H : post (zs_ar k a b)) : wpY_arith post (f_maxT, f_maxP, f_n, f_st, f_eCode, f_ePos, f_outN, f_perfN, f_resN, f_res, f_trap, f_tpos, f_hp, a_tk, a_ta, a_tb, a_tc, a_nxt, a_par, a_nP, a_nK, a_out, a_ce, a_fp, a_fk, a_fx, a_fb, a_fe, a_rH, a_rTop, a_rBot, a_used) k a b := by
  rcases hk with rfl | rfl | rfl | rfl | rfl
  · exact br_t rfl H
  · exact br_f (by decide) (br_t rfl H)
  · exact br_f (by decide) (br_f (by decide) (br_t rfl H))
  · refine br_f (by decide) (br_f (by decide) (br_f (by decide) (br_t rfl ?_)))
    have e : zs_ar 6 a b = if a < b then 1 else 0 := rfl
    rw [e] at H
    by_cases h : a < b
    · rw [if_pos h] at H
      exact br_f (Int32.not_le.mpr h) H
    · rw [if_neg h] at H
      exact br_t (Int32.not_lt.mp h) H
  · refine br_f (by decide) (br_f (by decide) (br_f (by decide) (br_f (by decide) ?_)))
    have e : zs_ar 7 a b = if a = b then 1 else 0 := rfl
    rw [e] at H
    by_cases h : a = b
    · rw [if_pos h] at H
      exact br_t h H
    · rw [if_neg h] at H
      exact br_f h H
end
end
section
abbrev YJ : Type := Int32 → Int32 → Int32 → Int32 → Int32 → Int32 → Int32 → Int32 → Int32 → Int32 → Int32 → Int32 → Int32 → Int32 → Int32 → Int32 → Int32 → Int32 → Int32 → (Nat → Int32) → (Nat → Int32) → (Nat → Int32) → (Nat → Int32) → (Nat → Int32) → (Nat → Int32) → (Nat → Int32) → (Nat → Int32) → (Nat → Int32) → (Nat → Int32) → (Nat → Int32) → (Nat → Int32) → (Nat → Int32) → (Nat → Int32) → (Nat → Int32) → (Nat → Int32) → (Nat → Int32) → (Nat → Int32) → (Nat → Int32) → Prop
def yj (J : YJ) (x1 x2 x3 x4 x5 x6 : Int32) (u : SY) : Prop :=
  match u with
  | (f_maxT, f_maxP, f_n, f_st, f_eCode, f_ePos, f_outN, f_perfN, f_resN, f_res, f_trap, f_tpos, f_hp, a_tk, a_ta, a_tb, a_tc, a_nxt, a_par, a_nP, a_nK, a_out, a_ce, a_fp, a_fk, a_fx, a_fb, a_fe, a_rH, a_rTop, a_rBot, a_used) => J x1 x2 x3 x4 x5 x6 f_maxT f_maxP f_n f_st f_eCode f_ePos f_outN f_perfN f_resN f_res f_trap f_tpos f_hp a_tk a_ta a_tb a_tc a_nxt a_par a_nP a_nK a_out a_ce a_fp a_fk a_fx a_fb a_fe a_rH a_rTop a_rBot a_used
abbrev ys_G (gP gK gX gB gE : Nat → Int32) (hc : Nat) (topI : Int32) (S : List ZF) (R : ZR) (pn : Nat) (rH rTop rBot us : Nat → Int32) : Prop :=
  hs_G gP gK gX gB (fun x e => ∀ j, j < 9 → gE (9 * x + j) = e j) 0 hc (-1) topI S R pn (fun r => us r = 1) (fun r x L => us r = 0 ∧ rH r = nI x ∧ rTop r = hf_f (-1) L ∧ rBot r = hf_l (nI x) L)
theorem zu_ce {ce e : Nat → Int32} {a : Nat} {v : Int32} (h : ∀ j, j < 9 → ce j = e j) : ∀ j, j < 9 → upd ce a v j = upd e a v j := by
  intro j hj
  by_cases c : j = a
  · subst c; rw [zu_s, zu_s]
  · rw [zu_n c, zu_n c]; exact h j hj
section
variable {f_maxT f_maxP f_n f_st f_eCode f_ePos f_outN f_perfN f_resN f_res f_trap f_tpos f_hp : Int32} {a_tk a_ta a_tb a_tc a_nxt a_par a_nP a_nK a_out a_ce a_fp a_fk a_fx a_fb a_fe a_rH a_rTop a_rBot a_used : Nat → Int32} {K A B C : Nat → Int32} {n : Nat} {nx : Nat → Nat} {cf : Nat → Nat → Nat} {mp : Nat} {mt ec ep : Int32} {post : Int32 → SY → Prop} {J : YJ} {v : Int32} {e : Nat → Int32} {S : List ZF} {R : ZR} {pn rn : Nat} {out : Nat → Int32} {on : Nat} {tc tp : Int32} {nc bc hc t i x : Nat} {h x1 x2 x7 x10 : Int32}
theorem yf_let {a : Nat} (hn : n ≤ 32) (ht : t < n) (hA : A t = nI a) (ha : a < 8) (sa : ∀ p, nx p ≠ 0 → a_nxt p = nI (nx p)) (sc : yr_P K A n cf a_par) (E : ∀ j, j < 9 → a_ce j = e j) (G : ys_G a_fp a_fk a_fx a_fb a_fe hc x1 S R pn a_rH a_rTop a_rBot a_used)
    (H : ∀ y1 y2 y3 y4 y5 u', yr_R K A B C n nx cf mp mt ec ep (some (nx (t + 1)), v, upd e (A t).toNatClampNeg v, S, R, pn, rn, out, on, 1, tc, tp, nc, bc + 1, hc) y1 y2 y3 y4 y5 u' → yj J y1 y2 y3 y4 y5 (nI (i + 1)) u') :
    wY_run_282 post J x1 x2 v 1 1 (nI i) x7 (nI t) 9 (nI (nx (t + 1))) mt (nI mp) (nI n) f_st ec ep (nI on) (nI pn) (nI rn) f_res tc tp (nI hc) K A B C a_nxt a_par a_nP a_nK out a_ce a_fp a_fk a_fx a_fb a_fe a_rH a_rTop a_rBot a_used := by
  have hct : (nI t).toNatClampNeg = t := nI_clamp (by omega)
  have hca : (nI a).toNatClampNeg = a := nI_clamp (by omega)
  rw [hA, hca] at H
  refine br_t (by decide) (br_f (by decide) (br_t rfl ⟨vp_in_nI (by omega) (by decide), by rw [hct, hA]; exact vp_in_nI (by omega) (by decide), nm_r (e' := upd a_ce a v) (by rw [hct, hA, hca]) (nm_r (nI_1 i) ?_)⟩))
  exact H _ _ _ _ _ _ (yr_mk sa sc (fun z => absurd rfl z) (fun z => absurd z (by decide)) (fun _ => ⟨rfl, rfl, (fun p z => by cases z; exact ⟨rfl, rfl, zu_ce E⟩), (fun z => by cases z), G⟩))
theorem yf_seq (sa : ∀ p, nx p ≠ 0 → a_nxt p = nI (nx p)) (sc : yr_P K A n cf a_par) (E : ∀ j, j < 9 → a_ce j = e j) (G : ys_G a_fp a_fk a_fx a_fb a_fe hc x1 S R pn a_rH a_rTop a_rBot a_used)
    (H : ∀ y1 y2 y3 y4 y5 u', yr_R K A B C n nx cf mp mt ec ep (some (nx (t + 1)), v, e, S, R, pn, rn, out, on, 1, tc, tp, nc, bc, hc) y1 y2 y3 y4 y5 u' → yj J y1 y2 y3 y4 y5 (nI (i + 1)) u') :
    wY_run_282 post J x1 x2 v 1 1 (nI i) x7 (nI t) 10 (nI (nx (t + 1))) mt (nI mp) (nI n) f_st ec ep (nI on) (nI pn) (nI rn) f_res tc tp (nI hc) K A B C a_nxt a_par a_nP a_nK out a_ce a_fp a_fk a_fx a_fb a_fe a_rH a_rTop a_rBot a_used := by
  refine br_t (by decide) (br_f (by decide) (br_f (by decide) (br_t rfl (nm_r (nI_1 i) ?_))))
  exact H _ _ _ _ _ _ (yr_mk sa sc (fun z => absurd rfl z) (fun z => absurd z (by decide)) (fun _ => ⟨rfl, rfl, (fun p z => by cases z; exact ⟨rfl, rfl, E⟩), (fun z => by cases z), G⟩))
theorem yf_if (hn : n ≤ 32) (c2 : nx (t + 1) < n) (c3 : nx (nx (t + 1)) ≠ 0) (sa : ∀ p, nx p ≠ 0 → a_nxt p = nI (nx p)) (sc : yr_P K A n cf a_par) (E : ∀ j, j < 9 → a_ce j = e j) (G : ys_G a_fp a_fk a_fx a_fb a_fe hc x1 S R pn a_rH a_rTop a_rBot a_used)
    (H : ∀ y1 y2 y3 y4 y5 u', yr_R K A B C n nx cf mp mt ec ep (some (if v = 0 then nx (nx (t + 1)) else nx (t + 1)), v, e, S, R, pn, rn, out, on, 1, tc, tp, nc, bc, hc) y1 y2 y3 y4 y5 u' → yj J y1 y2 y3 y4 y5 (nI (i + 1)) u') :
    wY_run_282 post J x1 x2 v 1 1 (nI i) x7 (nI t) 8 (nI (nx (t + 1))) mt (nI mp) (nI n) f_st ec ep (nI on) (nI pn) (nI rn) f_res tc tp (nI hc) K A B C a_nxt a_par a_nP a_nK out a_ce a_fp a_fk a_fx a_fb a_fe a_rH a_rTop a_rBot a_used := by
  refine br_t (by decide) (br_t rfl ?_)
  by_cases hv : v = 0
  · rw [if_pos hv] at H
    refine br_t hv ⟨vp_in_nI (by omega) (by decide), xm_r (nI_clamp (by omega)) (sa _ c3) (nm_r (nI_1 i) ?_)⟩
    exact H _ _ _ _ _ _ (yr_mk sa sc (fun z => absurd rfl z) (fun z => absurd z (by decide)) (fun _ => ⟨rfl, rfl, (fun p z => by cases z; exact ⟨rfl, rfl, E⟩), (fun z => by cases z), G⟩))
  · rw [if_neg hv] at H
    refine br_f hv (nm_r (nI_1 i) ?_)
    exact H _ _ _ _ _ _ (yr_mk sa sc (fun z => absurd rfl z) (fun z => absurd z (by decide)) (fun _ => ⟨rfl, rfl, (fun p z => by cases z; exact ⟨rfl, rfl, E⟩), (fun z => by cases z), G⟩))
theorem yf_em0 (ho : on = 16) (sa : ∀ p, nx p ≠ 0 → a_nxt p = nI (nx p)) (sc : yr_P K A n cf a_par)
    (H : ∀ y1 y2 y3 y4 y5 u', yr_R K A B C n nx cf mp mt ec ep (none, v, e, S, R, pn, rn, out, on, 3, 4, nI t, nc, bc, hc) y1 y2 y3 y4 y5 u' → yj J y1 y2 y3 y4 y5 (nI (i + 1)) u') :
    wY_run_282 post J x1 x2 v 1 1 (nI i) x7 (nI t) 11 x10 mt (nI mp) (nI n) f_st ec ep (nI on) (nI pn) (nI rn) f_res tc tp (nI hc) K A B C a_nxt a_par a_nP a_nK out a_ce a_fp a_fk a_fx a_fb a_fe a_rH a_rTop a_rBot a_used := by
  subst ho
  refine br_t (by decide) (br_f (by decide) (br_f (by decide) (br_f (by decide) (br_f (by decide) (br_t rfl (br_t rfl (nm_r (nI_1 i) ?_)))))))
  exact H _ _ _ _ _ _ (yr_mk sa sc (fun _ => rfl) (fun z => absurd z (by decide)) (fun z => absurd z (by decide)))
theorem yf_em1 (ho : on < 16) (sa : ∀ p, nx p ≠ 0 → a_nxt p = nI (nx p)) (sc : yr_P K A n cf a_par) (G : ys_G a_fp a_fk a_fx a_fb a_fe hc x1 S R pn a_rH a_rTop a_rBot a_used)
    (H : ∀ y1 y2 y3 y4 y5 u', yr_R K A B C n nx cf mp mt ec ep (none, v, e, S, R, pn, rn, upd out on v, on + 1, 1, tc, tp, nc, bc, hc) y1 y2 y3 y4 y5 u' → yj J y1 y2 y3 y4 y5 (nI (i + 1)) u') :
    wY_run_282 post J x1 x2 v 1 1 (nI i) x7 (nI t) 11 x10 mt (nI mp) (nI n) f_st ec ep (nI on) (nI pn) (nI rn) f_res tc tp (nI hc) K A B C a_nxt a_par a_nP a_nK out a_ce a_fp a_fk a_fx a_fb a_fe a_rH a_rTop a_rBot a_used := by
  have hco : (nI on).toNatClampNeg = on := nI_clamp (by omega)
  refine br_t (by decide) (br_f (by decide) (br_f (by decide) (br_f (by decide) (br_f (by decide) (br_t rfl (br_f (fun z => absurd ((nI_eq (b := 16) (by omega) (by decide)).mp z) (by omega)) ⟨vp_in_nI ho (by decide), nm_r (e' := upd out on v) (by rw [hco]) (nm_r (nI_1 on) (nm_r (nI_1 i) ?_))⟩))))))
  exact H _ _ _ _ _ _ (yr_mk sa sc (fun z => absurd rfl z) (fun z => absurd z (by decide)) (fun _ => ⟨rfl, rfl, (fun p z => by cases z), (fun _ => ⟨rfl, rfl⟩), G⟩))
theorem yf_bin {k : Int32} (hk : k = 3 ∨ k = 4 ∨ k = 5 ∨ k = 6 ∨ k = 7) (hx : x < 1056) (hh : a_fx x = h) (sa : ∀ p, nx p ≠ 0 → a_nxt p = nI (nx p)) (sc : yr_P K A n cf a_par) (G : ys_G a_fp a_fk a_fx a_fb a_fe hc x1 S R pn a_rH a_rTop a_rBot a_used)
    (H : ∀ y1 y2 y3 y4 y5 u', yr_R K A B C n nx cf mp mt ec ep (none, zs_ar k h v, e, S, R, pn, rn, out, on, 1, tc, tp, nc, bc, hc) y1 y2 y3 y4 y5 u' → yj J y1 y2 y3 y4 y5 (nI (i + 1)) u') :
    wY_run_282 post J x1 x2 v 1 1 (nI i) (nI x) (nI t) k x10 mt (nI mp) (nI n) f_st ec ep (nI on) (nI pn) (nI rn) f_res tc tp (nI hc) K A B C a_nxt a_par a_nP a_nK out a_ce a_fp a_fk a_fx a_fb a_fe a_rH a_rTop a_rBot a_used := by
  have hcx : (nI x).toNatClampNeg = x := nI_clamp (by omega)
  refine br_f (by rcases hk with rfl | rfl | rfl | rfl | rfl <;> decide) ⟨vp_in_nI hx (by decide), ?_⟩
  rw [hcx, hh]
  refine yt_ar hk (nm_r (nI_1 i) ?_)
  exact H _ _ _ _ _ _ (yr_mk sa sc (fun z => absurd rfl z) (fun z => absurd z (by decide)) (fun _ => ⟨rfl, rfl, (fun p z => by cases z), (fun _ => ⟨rfl, rfl⟩), G⟩))
theorem yf_ret {a y c3 : Nat} (hn : n ≤ 32) (e3 : nx (nx (t + 1)) = c3) (c3' : c3 ≠ 0) (c2 : nx (t + 1) < n) (c4 : c3 < n) (hA : A c3 = nI a) (ha : a < 8) (hB : B c3 = nI y) (hy : y < 8) (hx : x < 1056) (hh : a_fx x = h) (sa : ∀ p, nx p ≠ 0 → a_nxt p = nI (nx p)) (sc : yr_P K A n cf a_par) (E : ∀ j, j < 9 → a_ce j = e j) (G : ys_G a_fp a_fk a_fx a_fb a_fe hc x1 S R pn a_rH a_rTop a_rBot a_used)
    (H : ∀ y1 y2 y3 y4 y5 u', yr_R K A B C n nx cf mp mt ec ep (some (c3 + 1), v, upd (upd e (B c3).toNatClampNeg h) (A c3).toNatClampNeg v, S, R, pn, rn, out, on, 1, tc, tp, nc, bc + 2, hc) y1 y2 y3 y4 y5 u' → yj J y1 y2 y3 y4 y5 (nI (i + 1)) u') :
    wY_run_282 post J x1 x2 v 1 1 (nI i) (nI x) (nI t) 13 (nI (nx (t + 1))) mt (nI mp) (nI n) f_st ec ep (nI on) (nI pn) (nI rn) f_res tc tp (nI hc) K A B C a_nxt a_par a_nP a_nK out a_ce a_fp a_fk a_fx a_fb a_fe a_rH a_rTop a_rBot a_used := by
  have hcx : (nI x).toNatClampNeg = x := nI_clamp (by omega)
  have hcc : (nI c3).toNatClampNeg = c3 := nI_clamp (by omega)
  have hca : (nI a).toNatClampNeg = a := nI_clamp (by omega)
  have hcy : (nI y).toNatClampNeg = y := nI_clamp (by omega)
  have hic : vp_in (nI c3) 33 := vp_in_nI (by omega) (by decide)
  rw [hA, hB, hca, hcy] at H
  refine br_t (by decide) (br_f (by decide) (br_f (by decide) (br_f (by decide) (br_t rfl ⟨vp_in_nI (by omega) (by decide), xm_r (nI_clamp (by omega)) ((sa _ (by rw [e3]; exact c3')).trans (by rw [e3])) ⟨hic, vp_in_nI hx (by decide), by rw [hcc, hB]; exact vp_in_nI (by omega) (by decide), nm_r (e' := upd a_ce y h) (by rw [hcc, hB, hcy, hcx, hh]) ⟨hic, by rw [hcc, hA]; exact vp_in_nI (by omega) (by decide), nm_r (e' := upd (upd a_ce y h) a v) (by rw [hcc, hA, hca]) (nm_r (nI_1 c3) (nm_r (nI_1 i) ?_))⟩⟩⟩))))
  exact H _ _ _ _ _ _ (yr_mk sa sc (fun z => absurd rfl z) (fun z => absurd z (by decide)) (fun _ => ⟨rfl, rfl, (fun p z => by cases z; exact ⟨rfl, rfl, zu_ce (zu_ce E)⟩), (fun z => by cases z), G⟩))
end
end
section
theorem yb_0 : vp_nar .boolean 0 = 0 := by decide
theorem yb_1 : vp_nar .boolean 1 = 1 := by decide
theorem hf_fd {d d' : Int32} : ∀ {L : List HPr}, L ≠ [] → hf_f d L = hf_f d' L
  | [], h => absurd rfl h
  | _ :: _, _ => rfl
section
variable {f_maxT f_maxP f_n f_st f_eCode f_ePos f_outN f_perfN f_resN f_res f_trap f_tpos f_hp : Int32} {a_tk a_ta a_tb a_tc a_nxt a_par a_nP a_nK a_out a_ce a_fp a_fk a_fx a_fb a_fe a_rH a_rTop a_rBot a_used : Nat → Int32} {K A B C : Nat → Int32} {n : Nat} {nx : Nat → Nat} {cf : Nat → Nat → Nat} {mp : Nat} {mt ec ep : Int32} {post : Int32 → SY → Prop} {J : YJ} {v : Int32} {e : Nat → Int32} {S : List ZF} {R : ZR} {pn rn : Nat} {out : Nat → Int32} {on : Nat} {tc tp : Int32} {nc bc hc t i x : Nat} {h x1 x2 x3 x4 x5 x6 x7 x10 : Int32}
theorem yw_walk {op : Nat} {e0 : Int32} {EV : Nat → (Nat → Int32) → Prop} (hn : n ≤ 32) (ht : t < n) (ho : op < 8) (hA : a_ta t = nI op) (hhc : hc ≤ 1056) (sc : yr_P a_tk a_ta n cf a_par) :
    ∀ (L : List HPr) (fu g : Nat) (a0 : Int32), hl_C a_fb a0 L e0 → (∀ p ∈ L, hn_N a_fp a_fk a_fx EV 0 hc p) → (∀ p ∈ L, p.2.1 < n ∧ p.2.2.1 ≤ 1 ∧ ¬ zs_hd a_tk cf op p.2) → g + L.length < 1056 →
    wY_run_535 post J x1 x2 x3 x4 x5 x6 (nI t) f_maxT f_maxP (nI n) f_st f_eCode f_ePos f_outN f_perfN f_resN f_res f_trap f_tpos f_hp a_tk a_ta a_tb a_tc a_nxt a_par a_nP a_nK a_out a_ce a_fp a_fk a_fx a_fb a_fe a_rH a_rTop a_rBot a_used fu e0 (-1) (nI (g + L.length)) → wY_run_535 post J x1 x2 x3 x4 x5 x6 (nI t) f_maxT f_maxP (nI n) f_st f_eCode f_ePos f_outN f_perfN f_resN f_res f_trap f_tpos f_hp a_tk a_ta a_tb a_tc a_nxt a_par a_nP a_nK a_out a_ce a_fp a_fk a_fx a_fb a_fe a_rH a_rTop a_rBot a_used (fu + L.length) a0 (-1) (nI g) := by
  have hct : (nI t).toNatClampNeg = t := nI_clamp (by omega)
  intro L
  induction L with
  | nil =>
    intro fu g a0 c nd hs hi W
    have c' : a0 = e0 := c
    subst c'
    exact W
  | cons p L ih =>
    intro fu g a0 c nd hs hi W
    obtain ⟨c1, c2⟩ := c
    subst c1
    rw [List.length_cons] at hi W
    obtain ⟨n1, n2, n3, n4, n5, n6⟩ := nd p (List.mem_cons_self ..)
    obtain ⟨s1, s2, s3⟩ := hs p (List.mem_cons_self ..)
    have hcx : (nI p.1).toNatClampNeg = p.1 := nI_clamp (by omega)
    have hix : vp_in (nI p.1) 1056 := vp_in_nI (by omega) (by decide)
    have hcp : (nI p.2.1).toNatClampNeg = p.2.1 := nI_clamp (by omega)
    have W' := ih fu (g + 1) (a_fb p.1) c2 (fun q hq => nd q (List.mem_cons_of_mem _ hq)) (fun q hq => hs q (List.mem_cons_of_mem _ hq)) (by omega) (by rw [Nat.add_assoc, Nat.add_comm 1]; exact W)
    have Z : wY_run_601 post J (wY_run_535 post J x1 x2 x3 x4 x5 x6 (nI t) f_maxT f_maxP (nI n) f_st f_eCode f_ePos f_outN f_perfN f_resN f_res f_trap f_tpos f_hp a_tk a_ta a_tb a_tc a_nxt a_par a_nP a_nK a_out a_ce a_fp a_fk a_fx a_fb a_fe a_rH a_rTop a_rBot a_used (fu + L.length)) x1 x2 x3 x4 x5 x6 (nI t) (nI p.1) (-1) (nI g) f_maxT f_maxP (nI n) f_st f_eCode f_ePos f_outN f_perfN f_resN f_res f_trap f_tpos f_hp a_tk a_ta a_tb a_tc a_nxt a_par a_nP a_nK a_out a_ce a_fp a_fk a_fx a_fb a_fe a_rH a_rTop a_rBot a_used :=
      br_f (by decide) ⟨hix, xm_r hcx rfl (nm_r (nI_1 g) W')⟩
    show wY_run_535 post J x1 x2 x3 x4 x5 x6 (nI t) f_maxT f_maxP (nI n) f_st f_eCode f_ePos f_outN f_perfN f_resN f_res f_trap f_tpos f_hp a_tk a_ta a_tb a_tc a_nxt a_par a_nP a_nK a_out a_ce a_fp a_fk a_fx a_fb a_fe a_rH a_rTop a_rBot a_used ((fu + L.length) + 1) (nI p.1) (-1) (nI g)
    refine br_f (nI_ge (b := 1056) (by omega) (by decide)) (br_f (nI_pos (by omega)) (br_f (by decide) ⟨hix, ?_⟩))
    rw [hcx, n3, n4, hct, hA]
    refine ⟨vp_in_nI (by omega) (by decide), ?_⟩
    rw [hcp]
    by_cases k : a_tk p.2.1 = 13
    · refine br_t k ⟨hix, ?_⟩
      by_cases k1 : p.2.2.1 = 1
      · have z0 : cf p.2.1 op = 0 := Classical.byContradiction fun y => s3 ⟨k, k1, y⟩
        rw [k1]
        refine br_t rfl ⟨hix, vp_in_nI (by omega) (by decide), yt_find hn s1 ho sc ?_⟩
        rw [if_pos z0]
        exact Z
      · exact br_f (fun z => k1 ((nI_eq (b := 1) (by omega) (by decide)).mp z)) Z
    · exact br_f k Z
theorem yf_pf0 (hp : pn = mp)
    (sa : ∀ p, nx p ≠ 0 → a_nxt p = nI (nx p)) (sc : yr_P K A n cf a_par)
    (H : ∀ y1 y2 y3 y4 y5 u', yr_R K A B C n nx cf mp mt ec ep (none, v, e, S, R, pn, rn, out, on, 3, 3, nI t, nc, bc, hc) y1 y2 y3 y4 y5 u' → yj J y1 y2 y3 y4 y5 (nI (i + 1)) u') :
    wY_run_282 post J x1 x2 v 1 1 (nI i) x7 (nI t) 12 x10 mt (nI mp) (nI n) f_st ec ep (nI on) (nI pn) (nI rn) f_res tc tp (nI hc) K A B C a_nxt a_par a_nP a_nK out a_ce a_fp a_fk a_fx a_fb a_fe a_rH a_rTop a_rBot a_used := by
  subst hp
  refine br_t (by decide) (br_f (by decide) (br_f (by decide) (br_f (by decide) (br_f (by decide) (br_f (by decide) (br_t rfl (br_t rfl (nm_r (nI_1 i) ?_))))))))
  exact H _ _ _ _ _ _ (yr_mk sa sc (fun _ => rfl) (fun z => absurd z (by decide)) (fun z => absurd z (by decide)))
theorem yf_pf1 {op : Nat} (hn : n ≤ 32) (ht : t < n) (hp : pn < mp) (h16 : mp ≤ 16) (hA : A t = nI op) (ho : op < 8) (hhc : hc ≤ 1056) (hlen : S.length < 1000)
    (hS : ∀ f ∈ S, f.1 < n ∧ f.2.1 ≤ 1) (hf : ∀ f ∈ S, ¬ zs_hd K cf op f)
    (sa : ∀ p, nx p ≠ 0 → a_nxt p = nI (nx p)) (sc : yr_P K A n cf a_par) (G : ys_G a_fp a_fk a_fx a_fb a_fe hc x1 S R pn a_rH a_rTop a_rBot a_used)
    (H : ∀ y1 y2 y3 y4 y5 u', yr_R K A B C n nx cf mp mt ec ep (none, v, e, S, R, pn + 1, rn, out, on, 3, 1, nI t, nc, bc, hc) y1 y2 y3 y4 y5 u' → yj J y1 y2 y3 y4 y5 (nI (i + 1)) u') :
    wY_run_282 post J x1 x2 v 1 1 (nI i) x7 (nI t) 12 x10 mt (nI mp) (nI n) f_st ec ep (nI on) (nI pn) (nI rn) f_res tc tp (nI hc) K A B C a_nxt a_par a_nP a_nK out a_ce a_fp a_fk a_fx a_fb a_fe a_rH a_rTop a_rBot a_used := by
  obtain ⟨L, l1, l2, l3⟩ := hs_all G
  have hll : L.length = S.length := by rw [← l1, List.length_map]
  have hm : ∀ p ∈ L, p.2 ∈ S := fun p hp => by rw [← l1]; exact List.mem_map.mpr ⟨p, hp, rfl⟩
  refine br_t (by decide) (br_f (by decide) (br_f (by decide) (br_f (by decide) (br_f (by decide) (br_f (by decide) (br_t rfl (br_f (fun z => absurd ((nI_eq (by omega) (by omega)).mp z) (by omega)) (nm_r (nI_1 pn) ⟨1 + L.length, ?_⟩))))))))
  refine yw_walk (cf := cf) (n := n) (e0 := -1) hn ht ho hA hhc sc L 1 0 _ l2 l3 (fun p hp => ⟨(hS _ (hm p hp)).1, (hS _ (hm p hp)).2, hf _ (hm p hp)⟩) (by omega) ?_
  refine br_f (nI_ge (b := 1056) (by omega) (by decide)) (br_t (by decide) (br_f (by decide) (nm_r (nI_1 i) ?_)))
  exact H _ _ _ _ _ _ (yr_mk sa sc (fun _ => rfl) (fun z => absurd z (by decide)) (fun z => absurd z (by decide)))
theorem yw_bot {x12 x13 : Int32} (hx : x < 1056) : ∀ (L : List HPr) (p : HPr) (fu g : Nat), hl_C a_fb (a_fb p.1) L (nI x) → p.1 < 1056 → (∀ q ∈ L, q.1 < 1056 ∧ q.1 ≠ x) → p.1 ≠ x → g + L.length < 1056 →
    wY_run_699 post J x1 x3 x4 x5 x6 (nI x) x12 x13 (hf_l (nI p.1) L) f_maxT f_maxP f_n f_st f_eCode f_ePos f_outN f_perfN f_resN f_res f_trap f_tpos f_hp a_tk a_ta a_tb a_tc a_nxt a_par a_nP a_nK a_out a_ce a_fp a_fk a_fx a_fb a_fe a_rH a_rTop a_rBot a_used → wY_run_652 post J x1 x3 x4 x5 x6 (nI x) x12 x13 f_maxT f_maxP f_n f_st f_eCode f_ePos f_outN f_perfN f_resN f_res f_trap f_tpos f_hp a_tk a_ta a_tb a_tc a_nxt a_par a_nP a_nK a_out a_ce a_fp a_fk a_fx a_fb a_fe a_rH a_rTop a_rBot a_used (fu + L.length + 1) (nI p.1) (nI g) := by
  intro L
  induction L with
  | nil =>
    intro p fu g c hp hL hpx hg W
    have hcp : (nI p.1).toNatClampNeg = p.1 := nI_clamp (by omega)
    have c' : a_fb p.1 = nI x := c
    exact br_f (nI_ge (b := 1056) (by simp at hg; omega) (by decide)) (br_f (nI_pos (by omega)) (br_f (fun z => hpx ((nI_eq (by omega) (by omega)).mp z)) ⟨vp_in_nI hp (by decide), br_t (by rw [hcp]; exact c') W⟩))
  | cons q L ih =>
    intro p fu g c hp hL hpx hg W
    obtain ⟨c1, c2⟩ := c
    rw [List.length_cons] at hg
    have hq := hL q (List.mem_cons_self ..)
    have hcp : (nI p.1).toNatClampNeg = p.1 := nI_clamp (by omega)
    have W' := ih q fu (g + 1) c2 hq.1 (fun r hr => hL r (List.mem_cons_of_mem _ hr)) hq.2 (by omega) W
    exact br_f (nI_ge (b := 1056) (by omega) (by decide)) (br_f (nI_pos (by omega)) (br_f (fun z => hpx ((nI_eq (by omega) (by omega)).mp z)) ⟨vp_in_nI hp (by decide), br_f (by rw [hcp, c1]; exact fun z => hq.2 ((nI_eq (by omega) (by omega)).mp z)) ⟨vp_in_nI hp (by decide), xm_r hcp c1 (nm_r (nI_1 g) W')⟩⟩))
theorem yf_pf2 {op y w : Nat} {sg : List ZF} {g : ZF} {sb : List ZF} (hn : n ≤ 32) (ht : t < n) (hp : pn < mp) (h16 : mp ≤ 16) (hA : A t = nI op) (ho : op < 8) (hhc : hc ≤ 1056) (hlen : S.length < 1000)
    (hS : ∀ f ∈ S, f.1 < n ∧ f.2.1 ≤ 1) (hSe : S = sg ++ g :: sb) (hg : zs_hd K cf op g) (hf : ∀ f ∈ sg, ¬ zs_hd K cf op f)
    (hcs : cf g.1 op < n) (hC : C (cf g.1 op) = nI w) (hw : w < 8) (hB : B (cf g.1 op) = nI y) (hy : y < 8)
    (sa : ∀ p, nx p ≠ 0 → a_nxt p = nI (nx p)) (sc : yr_P K A n cf a_par) (G : ys_G a_fp a_fk a_fx a_fb a_fe hc x1 S R pn a_rH a_rTop a_rBot a_used)
    (H : ∀ y1 y2 y3 y4 y5 u', yr_R K A B C n nx cf mp mt ec ep (some (cf g.1 op + 1), v, upd (upd (upd g.2.2.2 (C (cf g.1 op)).toNatClampNeg g.2.2.1) (B (cf g.1 op)).toNatClampNeg v) 8 (nI pn), sb, zo_set R pn (some (sg, g)), pn + 1, rn, out, on, 1, tc, tp, nc, bc + 3, hc) y1 y2 y3 y4 y5 u' → yj J y1 y2 y3 y4 y5 (nI (i + 1)) u') :
    wY_run_282 post J x1 x2 v 1 1 (nI i) x7 (nI t) 12 x10 mt (nI mp) (nI n) f_st ec ep (nI on) (nI pn) (nI rn) f_res tc tp (nI hc) K A B C a_nxt a_par a_nP a_nK out a_ce a_fp a_fk a_fx a_fb a_fe a_rH a_rTop a_rBot a_used := by
  have hct : (nI t).toNatClampNeg = t := nI_clamp (by omega)
  have hcw : (nI w).toNatClampNeg = w := nI_clamp (by omega)
  have hcy : (nI y).toNatClampNeg = y := nI_clamp (by omega)
  rw [hB, hC, hcw, hcy] at H
  rw [hSe] at G
  obtain ⟨L, x, l1, l2, l3, ⟨n1, n2, n3, n4, n5, n6⟩, l5, l6⟩ := hs_cap G
  have hll : L.length ≤ S.length := by rw [hSe, ← l1, List.length_append, List.length_map]; omega
  have hm : ∀ p ∈ L, p.2 ∈ sg := fun p hp => by rw [← l1]; exact List.mem_map.mpr ⟨p, hp, rfl⟩
  have hms : ∀ p ∈ L, p.2 ∈ S := fun p hp => by rw [hSe]; exact List.mem_append.mpr (Or.inl (hm p hp))
  have hgS := hS g (by rw [hSe]; simp)
  simp only at n1 n2 n3 n4 n5 n6
  have hNx : ∀ p ∈ L, p.1 ≠ x := fun p hp => ((hl_Na.mp l5).2.2 p hp (x, g) (List.mem_cons_self ..)).symm
  have hcx : (nI x).toNatClampNeg = x := nI_clamp (by omega)
  have hix : vp_in (nI x) 1056 := vp_in_nI (by omega) (by decide)
  have hcp : (nI pn).toNatClampNeg = pn := nI_clamp (by omega)
  have hip : vp_in (nI pn) 16 := vp_in_nI (by omega) (by decide)
  have hcg : (nI g.1).toNatClampNeg = g.1 := nI_clamp (by omega)
  have hcc : (nI (cf g.1 op)).toNatClampNeg = cf g.1 op := nI_clamp (by omega)
  have hic : vp_in (nI (cf g.1 op)) 33 := vp_in_nI (by omega) (by decide)
  have h0c : (0 : Int32) ≤ nI (cf g.1 op) := nI_pos' (by omega)
  refine br_t (by decide) (br_f (by decide) (br_f (by decide) (br_f (by decide) (br_f (by decide) (br_f (by decide) (br_t rfl (br_f (fun z => absurd ((nI_eq (by omega) (by omega)).mp z) (by omega)) (nm_r (nI_1 pn) ⟨2 + L.length, ?_⟩))))))))
  refine yw_walk (cf := cf) (n := n) (e0 := nI x) hn ht ho hA hhc sc L 2 0 _ l2 l3 (fun p hp => ⟨(hS _ (hms p hp)).1, (hS _ (hms p hp)).2, hf _ (hm p hp)⟩) (by omega) ?_
  refine br_f (nI_ge (b := 1056) (by omega) (by decide)) (br_f (nI_pos (by omega)) (br_f (by decide) ⟨hix, ?_⟩))
  rw [hcx, n3, n4, hct, hA]
  refine ⟨vp_in_nI (by omega) (by decide), ?_⟩
  rw [hcg, hg.2.1]
  refine br_t hg.1 ⟨hix, br_t rfl ⟨hix, vp_in_nI (by omega) (by decide), yt_find hn hgS.1 ho sc ?_⟩⟩
  rw [if_neg hg.2.2]
  refine br_t h0c (nm_r (nI_1 _) ?_)
  refine br_f (nI_ge (b := 1056) (by omega) (by decide)) (br_f (nI_pos (by omega)) (br_t h0c (br_t h0c (nm_r (nI_pred pn) ⟨0 + L.length + 1, ?_⟩))))
  have G' := l6 (fun r => upd a_used pn 0 r = 1) (fun r x' M => upd a_used pn 0 r = 0 ∧ upd a_rH pn (nI x) r = nI x' ∧ upd a_rTop pn (hf_f (-1) L) r = hf_f (-1) M ∧ upd a_rBot pn (hf_l (nI x) L) r = hf_l (nI x') M) ?_ ?_ ?_
  · have E : ∀ j, j < 9 → upd (upd (upd (yl_ce a_fe a_ce x 9) w g.2.2.1) y v) 8 (nI pn) j = upd (upd (upd g.2.2.2 w g.2.2.1) y v) 8 (nI pn) j := zu_ce (zu_ce (zu_ce (fun j hj => (yl_in hj).trans (n6 j hj))))
    have D : wY_run_699 post J x1 v 1 1 (nI i) (nI x) (nI (cf g.1 op)) (nI pn) (hf_l (nI x) L) mt (nI mp) (nI n) f_st ec ep (nI on) (nI (pn + 1)) (nI rn) f_res tc tp (nI hc) K A B C a_nxt a_par a_nP a_nK out a_ce a_fp a_fk a_fx a_fb a_fe a_rH a_rTop a_rBot a_used := by
      have D2 : ∀ z0, z0 = hf_f (-1) L → wY_run_725 post J v 1 1 (nI i) (nI x) (nI (cf g.1 op)) (nI pn) (hf_l (nI x) L) z0 (nI pn) mt (nI mp) (nI n) f_st ec ep (nI on) (nI (pn + 1)) (nI rn) f_res tc tp (nI hc) K A B C a_nxt a_par a_nP a_nK out a_ce a_fp a_fk a_fx a_fb a_fe (upd a_rH pn (nI x)) a_rTop a_rBot a_used := by
        intro z0 ez
        subst ez
        refine ⟨hip, nm_r (e' := upd a_rTop pn (hf_f (-1) L)) (by rw [hcp]) ⟨hip, nm_r (e' := upd a_rBot pn (hf_l (nI x) L)) (by rw [hcp]) ⟨hip, nm_r (e' := upd a_used pn 0) (by rw [hcp, yb_0]) ?_⟩⟩⟩
        refine yt_load (by omega) ⟨hic, hix, by rw [hcc, hC]; exact vp_in_nI (by omega) (by decide), nm_r (e' := upd (yl_ce a_fe a_ce x 9) w g.2.2.1) (by rw [hcc, hC, hcw, hcx, n5 hg.2.1]) ⟨hic, by rw [hcc, hB]; exact vp_in_nI (by omega) (by decide), nm_r (e' := upd (upd (yl_ce a_fe a_ce x 9) w g.2.2.1) y v) (by rw [hcc, hB, hcy]) (nm_e ⟨hix, xm_r hcx rfl (nm_r (nI_1 _) (nm_r (nI_1 i) ?_))⟩)⟩⟩
        exact H _ _ _ _ _ _ (yr_mk sa sc (fun z => absurd rfl z) (fun z => absurd z (by decide)) (fun _ => ⟨rfl, rfl, (fun p z => by cases z; exact ⟨rfl, rfl, E⟩), (fun z => by cases z), G'⟩))
      refine ⟨hip, nm_r (e' := upd a_rH pn (nI x)) (by rw [hcp]) ?_⟩
      cases L with
      | nil =>
        have c' : x1 = nI x := l2
        exact br_t c' (D2 _ rfl)
      | cons p L =>
        have c' : x1 = nI p.1 := l2.1
        have hp1 := (l3 p (List.mem_cons_self ..)).2.1
        exact br_f (fun z => hNx p (List.mem_cons_self ..) ((nI_eq (by omega) (by omega)).mp (c'.symm.trans z))) (D2 _ c')
    cases L with
    | nil =>
      have c' : x1 = nI x := l2
      refine br_f (by decide) (br_f (by rw [c']; exact nI_pos (by omega)) (br_t c' ?_))
      rw [c'] at D ⊢
      exact D
    | cons p L =>
      have c' : x1 = nI p.1 := l2.1
      have hp1 := (l3 p (List.mem_cons_self ..)).2.1
      have Wb := yw_bot (post := post) (J := J) (x1 := x1) (x3 := v) (x4 := 1) (x5 := 1) (x6 := nI i) (x12 := nI (cf g.1 op)) (x13 := nI pn) (x := x) (by omega) L p 1 0 l2.2 (by omega) (fun q hq => ⟨by have := (l3 q (List.mem_cons_of_mem _ hq)).2.1; omega, hNx q (List.mem_cons_of_mem _ hq)⟩) (hNx p (List.mem_cons_self ..)) (by rw [List.length_cons] at hll; omega) D
      rw [List.length_cons, c', Nat.zero_add, Nat.add_comm L.length 1]
      rw [c'] at Wb
      exact Wb
  · intro r hr z
    rw [zu_n (by omega)]
    exact z
  · intro r y' L' hr ⟨z1, z2, z3, z4⟩
    rw [zu_n (by omega), zu_n (by omega), zu_n (by omega), zu_n (by omega)]
    exact ⟨z1, z2, z3, z4⟩
  · exact ⟨zu_s, zu_s, zu_s, zu_s⟩
theorem yt_932 {r : Nat} {L : List HPr} {x13 : Int32} {xf : Nat} (hr : r < 16) (hT : a_rTop r = hf_f (-1) L) (hB : a_rBot r = hf_l (nI xf) L) (hL : ∀ p ∈ L, p.1 < 1056)
    (H0 : L = [] → yj J x13 x2 x3 x4 x5 (nI (i + 1)) (f_maxT, f_maxP, f_n, f_st, f_eCode, f_ePos, f_outN, f_perfN, f_resN, f_res, f_trap, f_tpos, f_hp, a_tk, a_ta, a_tb, a_tc, a_nxt, a_par, a_nP, a_nK, a_out, a_ce, a_fp, a_fk, a_fx, a_fb, a_fe, a_rH, a_rTop, a_rBot, a_used)) (H1 : ∀ L' q, L = L' ++ [q] → yj J (hf_f (-1) L) x2 x3 x4 x5 (nI (i + 1)) (f_maxT, f_maxP, f_n, f_st, f_eCode, f_ePos, f_outN, f_perfN, f_resN, f_res, f_trap, f_tpos, f_hp, a_tk, a_ta, a_tb, a_tc, a_nxt, a_par, a_nP, a_nK, a_out, a_ce, a_fp, a_fk, a_fx, upd a_fb q.1 x13, a_fe, a_rH, a_rTop, a_rBot, a_used)) :
    wY_run_932 post J x2 x3 x4 x5 (nI i) (nI r) x13 f_maxT f_maxP f_n f_st f_eCode f_ePos f_outN f_perfN f_resN f_res f_trap f_tpos f_hp a_tk a_ta a_tb a_tc a_nxt a_par a_nP a_nK a_out a_ce a_fp a_fk a_fx a_fb a_fe a_rH a_rTop a_rBot a_used := by
  have hcr : (nI r).toNatClampNeg = r := nI_clamp (by omega)
  have hir : vp_in (nI r) 16 := vp_in_nI hr (by decide)
  rcases hf_sp L with hz | ⟨L', q, hz⟩
  · have e0 : hf_f (-1) L = -1 := by rw [hz]; rfl
    exact ⟨hir, br_t (by rw [hcr, hT, e0]; decide) (nm_r (nI_1 i) (H0 hz))⟩
  · have e0 : hf_l (nI xf) L = nI q.1 := by rw [hz]; exact hf_la
    have hq := hL q (by rw [hz]; simp)
    have hcq : (nI q.1).toNatClampNeg = q.1 := nI_clamp (by omega)
    have ht : ¬ hf_f (-1) L < 0 := by
      cases L with
      | nil => exact absurd hz.symm (by simp)
      | cons p L => have := hL p (List.mem_cons_self ..); exact nI_pos (by omega)
    have hb : a_rBot (nI r).toNatClampNeg = nI q.1 := by rw [hcr, hB, e0]
    refine ⟨hir, br_f (by rw [hcr, hT]; exact ht) ⟨hir, br_f (by rw [hb]; exact nI_pos (by omega)) ⟨hir, by rw [hb]; exact vp_in_nI hq (by decide), nm_r (e' := upd a_fb q.1 x13) (by rw [hb, hcq]) ⟨hir, xm_r hcr hT (nm_r (nI_1 i) (H1 L' q hz))⟩⟩⟩⟩
theorem yf_rs0 {r : Nat} (h16 : pn ≤ 16) (hr : r < pn) (he : e 8 = nI r) (hR : R r = none)
    (sa : ∀ p, nx p ≠ 0 → a_nxt p = nI (nx p)) (sc : yr_P K A n cf a_par) (E : ∀ j, j < 9 → a_ce j = e j) (G : ys_G a_fp a_fk a_fx a_fb a_fe hc x1 S R pn a_rH a_rTop a_rBot a_used)
    (H : ∀ y1 y2 y3 y4 y5 u', yr_R K A B C n nx cf mp mt ec ep (none, v, e, S, R, pn, rn, out, on, 3, 2, nI t, nc, bc, hc) y1 y2 y3 y4 y5 u' → yj J y1 y2 y3 y4 y5 (nI (i + 1)) u') :
    wY_run_282 post J x1 x2 v 1 1 (nI i) x7 (nI t) 17 x10 mt (nI mp) (nI n) f_st ec ep (nI on) (nI pn) (nI rn) f_res tc tp (nI hc) K A B C a_nxt a_par a_nP a_nK out a_ce a_fp a_fk a_fx a_fb a_fe a_rH a_rTop a_rBot a_used := by
  have hcr : (nI r).toNatClampNeg = r := nI_clamp (by omega)
  obtain ⟨Q, -, -, -, q4⟩ := G
  have z0 := (q4 r hr).1 hR
  refine br_t (by decide) (br_f (by decide) (br_f (by decide) (br_f (by decide) (br_f (by decide) (br_f (by decide) (br_f (by decide) (nm_r ((E 8 (by omega)).trans he) (br_f (nI_pos (by omega)) (br_f (nI_nlt (a := 15) (by omega) (by decide)) ⟨vp_in_nI (by omega) (by decide), br_f (by rw [hcr, z0]; decide) (nm_r (nI_1 i) ?_)⟩)))))))))
  exact H _ _ _ _ _ _ (yr_mk sa sc (fun _ => rfl) (fun z => absurd z (by decide)) (fun z => absurd z (by decide)))
end
end
section
section
variable {f_maxT f_maxP f_n f_st f_eCode f_ePos f_outN f_perfN f_resN f_res f_trap f_tpos f_hp : Int32} {a_tk a_ta a_tb a_tc a_nxt a_par a_nP a_nK a_out a_ce a_fp a_fk a_fx a_fb a_fe a_rH a_rTop a_rBot a_used : Nat → Int32} {K A B C : Nat → Int32} {n : Nat} {nx : Nat → Nat} {cf : Nat → Nat → Nat} {mp : Nat} {mt ec ep : Int32} {post : Int32 → SY → Prop} {J : YJ} {v : Int32} {e0 e : Nat → Int32} {S : List ZF} {R : ZR} {pn rn : Nat} {out : Nat → Int32} {on : Nat} {tc tp : Int32} {nc bc hc t i x s : Nat} {h x1 x2 x3 x10 : Int32} {ic : Nat → Prop}
theorem yf_rs1 {r : Nat} {sg : List ZF} {g : ZF} (hn : n ≤ 32) (h16 : pn ≤ 16) (hr : r < pn) (he : e 8 = nI r) (hR : R r = some (sg, g)) (hg1 : g.1 < n) (hgs : g.2.1 = 1) (hhc : hc < 1055) (hx : x < hc) (hh : a_fx x = h)
    (sa : ∀ p, nx p ≠ 0 → a_nxt p = nI (nx p)) (sc : yr_P K A n cf a_par) (E : ∀ j, j < 9 → a_ce j = e j) (G : ys_G a_fp a_fk a_fx a_fb a_fe hc x1 S R pn a_rH a_rTop a_rBot a_used)
    (H : ∀ y1 y2 y3 y4 y5 u', yr_R K A B C n nx cf mp mt ec ep (none, v, e, sg ++ (if A g.1 = 0 then (g.1, 1, h, g.2.2.2) :: S else S), zo_set R (e 8).toNatClampNeg none, pn, rn + 1, out, on, 1, tc, tp, nc, bc, hc + (if A g.1 = 0 then 1 else 0)) y1 y2 y3 y4 y5 u' → yj J y1 y2 y3 y4 y5 (nI (i + 1)) u') :
    wY_run_282 post J x1 x2 v 1 1 (nI i) (nI x) (nI t) 17 x10 mt (nI mp) (nI n) f_st ec ep (nI on) (nI pn) (nI rn) f_res tc tp (nI hc) K A B C a_nxt a_par a_nP a_nK out a_ce a_fp a_fk a_fx a_fb a_fe a_rH a_rTop a_rBot a_used := by
  have hcr : (nI r).toNatClampNeg = r := nI_clamp (by omega)
  have hir : vp_in (nI r) 16 := vp_in_nI (by omega) (by decide)
  have hcx : (nI x).toNatClampNeg = x := nI_clamp (by omega)
  have hcg : (nI g.1).toNatClampNeg = g.1 := nI_clamp (by omega)
  rw [he, hcr] at H
  have m0 : ∀ r', r' ≠ r → a_used r' = 1 → upd a_used r 1 r' = 1 := fun r' z y => by rw [zu_n z]; exact y
  have m1 : ∀ r' y L, r' ≠ r → (a_used r' = 0 ∧ a_rH r' = nI y ∧ a_rTop r' = hf_f (-1) L ∧ a_rBot r' = hf_l (nI y) L) → (upd a_used r 1 r' = 0 ∧ a_rH r' = nI y ∧ a_rTop r' = hf_f (-1) L ∧ a_rBot r' = hf_l (nI y) L) :=
    fun r' y L z w => by rw [zu_n z]; exact w
  obtain ⟨xf, L0, -, ⟨p0, p1, -⟩, ⟨n1, n2, n3, n4, n5, n6⟩, -⟩ := hs_len G sg g r hr hR
  simp only at n1 n2 n3 n6
  have hcf : (nI xf).toNatClampNeg = xf := nI_clamp (by omega)
  have hif : vp_in (nI xf) 1056 := vp_in_nI (by omega) (by decide)
  refine br_t (by decide) (br_f (by decide) (br_f (by decide) (br_f (by decide) (br_f (by decide) (br_f (by decide) (br_f (by decide) (nm_r ((E 8 (by omega)).trans he) (br_f (nI_pos (by omega)) (br_f (nI_nlt (a := 15) (by omega) (by decide)) ⟨hir, br_t (by rw [hcr]; exact p0) ⟨hir, nm_r (e' := upd a_used r 1) (by rw [hcr, yb_1]) (nm_r (nI_1 rn) ⟨hir, xm_r hcr p1 ⟨hif, ?_⟩⟩)⟩⟩)))))))))
  rw [hcf, n3]
  refine ⟨vp_in_nI (by omega) (by decide), ?_⟩
  rw [hcg]
  by_cases hd : A g.1 = 0
  · rw [if_pos hd, if_pos hd] at H
    refine br_t hd (yt_load (by omega) ⟨hif, ?_⟩)
    rw [n3]
    refine yt_push hhc ⟨vp_in_nI (by omega) (by decide), vp_in_nI (by omega) (by decide), nm_r (e' := upd (upd a_fx hc 0) hc h) (by rw [hcx, zu_n (by omega), hh, nI_clamp (by omega)]) ?_⟩
    have G1 := hs_push (EV' := fun x e => ∀ j, j < 9 → yp_fe a_fe (yl_ce a_fe a_ce xf 9) hc 9 (9 * x + j) = e j) (hld' := upd (upd a_fx hc 0) hc h) G (Nat.zero_le _) g.1 1 h g.2.2.2 (fun y hy => by rw [zu_n (by omega), zu_n (by omega)]) (fun _ => zu_s) (fun y e' hy z j hj => (yp_out hj hy).trans (z j hj)) (fun j hj => (yp_in hj).trans ((yl_in hj).trans (n6 j hj)))
    obtain ⟨x', L, l1, ⟨q0, q1, q2, q3⟩, -, l4, l5, l6⟩ := hs_spl G1 hr hR (P0' := fun r' => upd a_used r 1 r' = 1) (P1' := fun r' y L => upd a_used r 1 r' = 0 ∧ a_rH r' = nI y ∧ a_rTop r' = hf_f (-1) L ∧ a_rBot r' = hf_l (nI y) L) m0 m1 zu_s
    refine yt_932 (L := L) (xf := x') (by omega) q2 q3 (fun p hp => by have := (l4 p hp).2.1; omega) (fun z => ?_) (fun L' q z => ?_)
    · have ez : sg = [] := by rw [← l1, z]; rfl
      rw [ez] at H
      exact H _ _ _ _ _ _ (yr_mk sa sc (fun z => absurd rfl z) (fun z => absurd z (by decide)) (fun _ => ⟨rfl, rfl, (fun p z => by cases z), (fun _ => ⟨rfl, rfl⟩), l5 z⟩))
    · have hne : L ≠ [] := by rw [z]; simp
      have l6' := l6 L' q z
      rw [hf_fd (d' := -1) hne] at l6'
      exact H _ _ _ _ _ _ (yr_mk sa sc (fun z => absurd rfl z) (fun z => absurd z (by decide)) (fun _ => ⟨rfl, rfl, (fun p z => by cases z), (fun _ => ⟨rfl, rfl⟩), l6'⟩))
  · rw [if_neg hd, if_neg hd] at H
    refine br_f hd ?_
    obtain ⟨x', L, l1, ⟨q0, q1, q2, q3⟩, -, l4, l5, l6⟩ := hs_spl G hr hR (P0' := fun r' => upd a_used r 1 r' = 1) (P1' := fun r' y L => upd a_used r 1 r' = 0 ∧ a_rH r' = nI y ∧ a_rTop r' = hf_f (-1) L ∧ a_rBot r' = hf_l (nI y) L) m0 m1 zu_s
    refine yt_932 (L := L) (xf := x') (by omega) q2 q3 (fun p hp => by have := (l4 p hp).2.1; omega) (fun z => ?_) (fun L' q z => ?_)
    · have ez : sg = [] := by rw [← l1, z]; rfl
      rw [ez] at H
      exact H _ _ _ _ _ _ (yr_mk sa sc (fun z => absurd rfl z) (fun z => absurd z (by decide)) (fun _ => ⟨rfl, rfl, (fun p z => by cases z), (fun _ => ⟨rfl, rfl⟩), l5 z⟩))
    · have hne : L ≠ [] := by rw [z]; simp
      have l6' := l6 L' q z
      rw [hf_fd (d' := -1) hne] at l6'
      exact H _ _ _ _ _ _ (yr_mk sa sc (fun z => absurd rfl z) (fun z => absurd z (by decide)) (fun _ => ⟨rfl, rfl, (fun p z => by cases z), (fun _ => ⟨rfl, rfl⟩), l6'⟩))
theorem ys_fin (P : zl_P K A B C n nx cf (zk_cl nx) ic) (I : zi_I K nx mp (zk_cl nx) ic (none, v, e0, (t, s, h, e) :: S, R, pn, rn, out, on, 1, tc, tp, nc, bc, hc)) (hkp : ¬ (s = 0 ∧ zs_kp (K t))) (hx : x < hc) (hh : s = 1 → a_fx x = h)
    (sa : ∀ p, nx p ≠ 0 → a_nxt p = nI (nx p)) (sc : yr_P K A n cf a_par) (E : ∀ j, j < 9 → a_ce j = e j) (G : ys_G a_fp a_fk a_fx a_fb a_fe hc x1 S R pn a_rH a_rTop a_rBot a_used)
    (H : ∀ y1 y2 y3 y4 y5 u', yr_R K A B C n nx cf mp mt ec ep (zs K A B C nx cf mp (none, v, e0, (t, s, h, e) :: S, R, pn, rn, out, on, 1, tc, tp, nc, bc, hc)) y1 y2 y3 y4 y5 u' → yj J y1 y2 y3 y4 y5 (nI (i + 1)) u') :
    wY_run_282 post J x1 x2 v 1 1 (nI i) (nI x) (nI t) (K t) (nI (nx (t + 1))) mt (nI mp) (nI n) f_st ec ep (nI on) (nI pn) (nI rn) f_res tc tp (nI hc) K A B C a_nxt a_par a_nP a_nK out a_ce a_fp a_fk a_fx a_fb a_fe a_rH a_rTop a_rBot a_used := by
  obtain ⟨i1, i2, i3, i4, i5, i6, i7, iF, iS, iR, b1, b2, b3⟩ := I
  obtain ⟨f1, f2, f3, f4, f5⟩ := iS _ (List.mem_cons_self ..)
  dsimp only at f1 f2 f3 f4 f5
  have C1 := P.2.2.2.2.2
  have C2 : ∀ p, nx p ≠ 0 → p < nx p ∧ nx p ≤ n := fun p hp => ⟨(C1 p hp).1, (C1 p hp).2.1⟩
  have L := C1 t f1
  have hn := P.1
  have ht : t < n := Nat.lt_of_lt_of_le L.1 L.2.1
  have s1 : zs_kp (K t) → s = 1 := fun c => f4.elim (fun q => absurd ⟨q, c⟩ hkp) (fun q => q.1)
  have hSS : ∀ f ∈ S, f.1 < n ∧ f.2.1 ≤ 1 := by
    intro f hf
    obtain ⟨q1, q2, q3, q4, q5⟩ := iS f (List.mem_cons_of_mem _ hf)
    have Lf := C1 _ q1
    exact ⟨Nat.lt_of_lt_of_le Lf.1 Lf.2.1, by rcases q4 with z | ⟨z, -⟩ <;> omega⟩
  have hlen : S.length < 1000 := by
    have := zw_len K nx S
    simp only [zw_s] at b2
    omega
  have hhc : hc ≤ 592 := by omega
  rcases lc_k L f2 f3 with k | k | k | k | k | k | k | k
  · obtain ⟨c1, c2, c3, c4, -⟩ := lc_if L k
    have q1 := C2 _ c1
    have q2 := C2 _ c2
    have q3 := C2 _ c3
    rw [zr_if k] at H
    rw [k]
    exact yf_if hn (by omega) c2 sa sc E G H
  · obtain ⟨-, c1, c2, c3, -⟩ := lc_bi L (by simp [k])
    obtain ⟨a, ha, hA⟩ := (P.2.2.1 t ht).2.1 (by simp [k])
    rw [zr_let k] at H
    rw [k]
    exact yf_let hn ht hA ha sa sc E G H
  · rw [zr_seq k] at H
    rw [k]
    exact yf_seq sa sc E G H
  · rw [k]
    by_cases ho : on = 16
    · rw [zr_em0 k ho] at H
      exact yf_em0 ho sa sc H
    · rw [zr_em1 k ho] at H
      exact yf_em1 (by omega) sa sc G H
  · obtain ⟨op, ho, hA⟩ := (P.2.2.1 t ht).2.1 (by simp [k])
    have hAc : (A t).toNatClampNeg = op := by rw [hA]; exact nI_clamp (by omega)
    rw [k]
    by_cases hp : pn = mp
    · rw [zr_pf0 k hp] at H
      exact yf_pf0 hp sa sc H
    · cases hf : zs_fnd K cf (A t).toNatClampNeg S with
      | none =>
        rw [zr_pf1 k hp hf] at H
        rw [hAc] at hf
        exact yf_pf1 hn ht (by omega) i5 hA ho (by omega) hlen hSS (zf_none hf) sa sc G H
      | some q =>
        obtain ⟨sg, g, sb⟩ := q
        rw [zr_pf2 k hp hf] at H
        rw [hAc] at hf H
        obtain ⟨y1, y2, y3⟩ := zf_some hf
        obtain ⟨g1, -⟩ := iS g (List.mem_cons_of_mem _ (by rw [y1]; simp))
        have Lg := C1 _ g1
        have Lg2 := C2 _ g1
        obtain ⟨-, -, -, -, -, -, -, -, c9⟩ := lc_ha Lg y2.1
        obtain ⟨d1, d2, d3, d4⟩ := c9 op ho y2.2.2
        have q4 := C2 _ d3
        have hcs : cf g.1 op < n := by omega
        obtain ⟨-, ⟨yb, hyb, hB⟩, ⟨w, hw, hC⟩⟩ := (P.2.2.1 _ hcs).2.2.2.2 d2
        exact yf_pf2 hn ht (by omega) i5 hA ho (by omega) hlen hSS y1 y2 y3 hcs hC hw hB hyb sa sc G H
  · have z1 := s1 (by rw [k]; decide)
    obtain ⟨c1, c2, c3, c4, c5, c6, c7, c8, -⟩ := lc_ha L k
    have q1 := C2 _ c1
    have q2 := C2 _ c2
    have q3 := C2 _ c6
    obtain ⟨⟨a, ha, hA⟩, ⟨y, hy, hB⟩⟩ := (P.2.2.1 (nx (nx (t + 1))) (by omega)).2.2.2.1 c5
    rw [zr_ret k z1] at H
    rw [k]
    exact yf_ret hn rfl c2 (by omega) (by omega) hA ha hB hy (by omega) (hh z1) sa sc E G H
  · have z1 := s1 (by rw [k]; decide)
    obtain ⟨c0, -⟩ := lc_bi L (by simp [k])
    obtain ⟨r, hr, he⟩ := f5 (c0 k)
    have hcr : (e 8).toNatClampNeg = r := by rw [he]; exact nI_clamp (by omega)
    rw [k]
    cases hf : R (e 8).toNatClampNeg with
    | none =>
      rw [zr_rs0 k z1 hf] at H
      rw [hcr] at hf
      exact yf_rs0 (by omega) hr he hf sa sc E G H
    | some q =>
      obtain ⟨sg, g⟩ := q
      rw [zr_rs1 k z1 hf] at H
      rw [hcr] at hf
      obtain ⟨r1, r2, r3, r4⟩ := iR r hr sg g hf
      have Lg := C2 _ r2.1
      exact yf_rs1 hn (by omega) hr he hf (by omega) r4 (by omega) hx (hh z1) sa sc E G H
  · have z1 := s1 (by rcases k with k | k | k | k | k <;> (rw [k]; decide))
    rw [zr_bin k z1] at H
    exact yf_bin k (by omega) (hh z1) sa sc G H
theorem ys_one (P : zl_P K A B C n nx cf (zk_cl nx) ic) {z : ZZ} {u : SY} {fu : Nat} {y1 y2 y3 y4 y5 : Int32} (I : zi_I K nx mp (zk_cl nx) ic z) (X : yr_R K A B C n nx cf mp mt ec ep z y1 y2 y3 y4 y5 u) (hi : i < 65536)
    (H : ∀ y1 y2 y3 y4 y5 u', yr_R K A B C n nx cf mp mt ec ep (zs K A B C nx cf mp z) y1 y2 y3 y4 y5 u' → yj (wY_run_80 post fu) y1 y2 y3 y4 y5 (nI (i + 1)) u') : yj (wY_run_80 post (fu + 1)) y1 y2 y3 y4 y5 (nI i) u := by
  obtain ⟨f_maxT, f_maxP, f_n, f_st, f_eCode, f_ePos, f_outN, f_perfN, f_resN, f_res, f_trap, f_tpos, f_hp, a_tk, a_ta, a_tb, a_tc, a_nxt, a_par, a_nP, a_nK, a_out, a_ce, a_fp, a_fk, a_fx, a_fb, a_fe, a_rH, a_rTop, a_rBot, a_used⟩ := u
  obtain ⟨fo, v, e, S, R, pn, rn, out, on, st, tc, tp, nc, bc, hc⟩ := z
  have i1 : st = 1 := I.1
  subst i1
  obtain ⟨⟨rfl, rfl, rfl, rfl, rfl, rfl, rfl, rfl, rfl, rfl⟩, ⟨rfl, rfl, rfl, rfl, rfl⟩, sa, sc, -, -, h1⟩ := X
  obtain ⟨r0, r1, hfo, hno, G⟩ := h1 rfl
  subst r0 r1
  have I' := I
  obtain ⟨i1, i2, i3, i4, i5, i6, i7, iF, iS, iR, b1, b2, b3⟩ := I
  have hn := P.1
  have C1 := P.2.2.2.2.2
  have C2 : ∀ p, nx p ≠ 0 → p < nx p ∧ nx p ≤ n := fun p hp => ⟨(C1 p hp).1, (C1 p hp).2.1⟩
  refine br_f (by decide) (br_f (nI_ge (b := 65536) hi (by decide)) ?_)
  cases fo with
  | some p =>
    obtain ⟨r2, r3, E⟩ := hfo p rfl
    subst r2 r3
    have hcl := (iF p rfl).1
    have l := C2 p hcl
    have hcp : (nI p).toNatClampNeg = p := nI_clamp (by omega)
    have hip : vp_in (nI p) 33 := vp_in_nI (by omega) (by decide)
    refine br_f (by decide) ⟨hip, xm_r hcp rfl ?_⟩
    by_cases k1 : a_tk p = 1
    · rw [zr_leaf1 k1] at H
      refine br_t k1 ⟨hip, xm_r hcp rfl (nm_r (nI_1 i) ?_)⟩
      exact H _ _ _ _ _ _ (yr_mk sa sc (fun z => absurd rfl z) (fun z => absurd z (by decide)) (fun _ => ⟨rfl, rfl, (fun p z => by cases z), (fun _ => ⟨rfl, rfl⟩), G⟩))
    · by_cases k2 : a_tk p = 2
      · obtain ⟨a, ha, hA⟩ := (P.2.2.1 p (by omega)).2.1 (Or.inl k2)
        have hca : (nI a).toNatClampNeg = a := nI_clamp (by omega)
        rw [zr_leaf2 k2, hA, hca] at H
        refine br_f k1 (br_t k2 ⟨hip, ?_⟩)
        rw [hcp, hA]
        refine ⟨vp_in_nI (by omega) (by decide), xm_r hca (E a (by omega)) (nm_r (nI_1 i) ?_)⟩
        exact H _ _ _ _ _ _ (yr_mk sa sc (fun z => absurd rfl z) (fun z => absurd z (by decide)) (fun _ => ⟨rfl, rfl, (fun p z => by cases z), (fun _ => ⟨rfl, rfl⟩), G⟩))
      · rw [zr_push k1 k2] at H
        refine br_f k1 (br_f k2 (yt_push (by omega) (nm_r (nI_1 p) (nm_r (nI_1 i) ?_))))
        refine H _ _ _ _ _ _ (yr_mk sa sc (fun z => absurd rfl z) (fun z => absurd z (by decide)) (fun _ => ⟨rfl, rfl, (fun p z => by cases z; exact ⟨rfl, rfl, E⟩), (fun z => by cases z), ?_⟩))
        exact hs_push G (Nat.zero_le _) p 0 0 e (fun y hy => zu_n (by omega)) (fun z => absurd z (by decide)) (fun y e' hy z j hj => (yp_out hj hy).trans (z j hj)) (fun j hj => (yp_in hj).trans (E j hj))
  | none =>
    obtain ⟨r2, r3⟩ := hno rfl
    subst r2 r3
    refine br_t rfl ?_
    cases S with
    | nil =>
      rw [zr_done] at H
      have z := hs_nil G
      subst z
      refine br_f (by decide) (nm_r (nI_1 i) ?_)
      exact H _ _ _ _ _ _ (yr_mk sa sc (fun _ => rfl) (fun _ => rfl) (fun z => absurd z (by decide)))
    | cons f S =>
      obtain ⟨t, s, h, e1⟩ := f
      obtain ⟨f1, f2, f3, f4, f5⟩ := iS _ (List.mem_cons_self ..)
      dsimp only at f1 f2 f3 f4 f5
      have L := C1 t f1
      have lt := C2 t f1
      obtain ⟨x, x1, x2, x3, x4, x5, x6, x7, x9, x10⟩ := hs_top G
      subst x1
      have hcx : (nI x).toNatClampNeg = x := nI_clamp (by omega)
      have hct : (nI t).toNatClampNeg = t := nI_clamp (by omega)
      have hix : vp_in (nI x) 1056 := vp_in_nI (by omega) (by decide)
      have hc1 : nx (t + 1) ≠ 0 := by
        rcases lc_k L f2 f3 with k | k | k | k | k | k | k | k
        · exact (lc_if L k).1
        · exact (lc_bi L (by simp [k])).2.1
        · exact (lc_bi L (by simp [k])).2.1
        · exact (lc_un L (by simp [k])).1
        · exact (lc_un L (by simp [k])).1
        · exact (lc_ha L k).1
        · exact (lc_bi L (by simp [k])).2.1
        · exact (lc_bi L (by rcases k with k | k | k | k | k <;> simp [k])).2.1
      have l1 := C2 _ hc1
      refine br_t (nI_pos' (by omega)) ⟨hix, xm_r hcx x4 ⟨vp_in_nI (by omega) (by decide), xm_r hct rfl ⟨by rw [nI_1]; exact vp_in_nI (by omega) (by decide), nm_r (e' := nI (nx (t + 1))) (by rw [nI_1, nI_clamp (by omega)]; exact sa _ hc1) (yt_load (by omega) ⟨hix, xm_r hcx rfl ⟨hix, ?_⟩⟩)⟩⟩⟩
      rw [hcx, x5]
      have E : ∀ j, j < 9 → yl_ce a_fe a_ce x 9 j = e1 j := fun j hj => (yl_in hj).trans (x7 j hj)
      by_cases hkp : s = 0 ∧ zs_kp (a_tk t)
      · obtain ⟨z0, hk⟩ := hkp
        subst z0
        rw [zr_keep rfl hk] at H
        have W : wY_run_257 post (wY_run_80 post fu) y3 1 1 (nI i) (nI x) (nI (nx (t + 1))) f_maxT (nI mp) (nI n) f_st f_eCode f_ePos (nI on) (nI pn) (nI rn) f_res f_trap f_tpos (nI hc) a_tk a_ta a_tb a_tc a_nxt a_par a_nP a_nK a_out (yl_ce a_fe a_ce x 9) a_fp a_fk a_fx a_fb a_fe a_rH a_rTop a_rBot a_used := by
          refine ⟨hix, nm_r (e' := upd a_fx x y3) (by rw [hcx]) ⟨hix, nm_r (e' := upd a_fk x 1) (by rw [hcx]) (nm_r (nI_1 i) ?_)⟩⟩
          exact H _ _ _ _ _ _ (yr_mk sa sc (fun z => absurd rfl z) (fun z => absurd z (by decide)) (fun _ => ⟨rfl, rfl, (fun p z => by cases z; exact ⟨rfl, rfl, E⟩), (fun z => by cases z), x10 y3⟩))
        refine br_t rfl ?_
        rcases hk with k | k | k | k | k | k | k
        · exact br_t (by rw [k]; decide) W
        · exact br_t (by rw [k]; decide) W
        · exact br_t (by rw [k]; decide) W
        · exact br_t (by rw [k]; decide) W
        · exact br_t (by rw [k]; decide) W
        · exact br_f (by rw [k]; decide) (br_f (by rw [k]; decide) (br_t k W))
        · exact br_f (by rw [k]; decide) (br_t k W)
      · have F := ys_fin (post := post) (x2 := y2) (f_st := f_st) (f_res := f_res) (a_nP := a_nP) (a_nK := a_nK) P I' hkp x3 x6 sa sc E x9 H
        rcases f4 with z0 | ⟨z1, zk⟩
        · subst z0
          have hnk : ¬ zs_kp (a_tk t) := fun z => hkp ⟨rfl, z⟩
          have h5 : a_tk t = 8 ∨ a_tk t = 9 ∨ a_tk t = 10 ∨ a_tk t = 11 ∨ a_tk t = 12 := by
            rcases lc_k L f2 f3 with k | k | k | k | k | k | k | k
            · simp [k]
            · simp [k]
            · simp [k]
            · simp [k]
            · simp [k]
            · exact absurd (by rw [k]; decide) hnk
            · exact absurd (by rw [k]; decide) hnk
            · exact absurd (by rcases k with k | k | k | k | k <;> (rw [k]; decide)) hnk
          refine br_t rfl (br_f ?_ (br_f ?_ (br_f ?_ F)))
          · rcases h5 with k | k | k | k | k <;> (rw [k]; decide)
          · rcases h5 with k | k | k | k | k <;> (rw [k]; decide)
          · rcases h5 with k | k | k | k | k <;> (rw [k]; decide)
        · subst z1
          exact br_f (by decide) F
end
end
section
section
variable {f_maxT f_maxP f_n f_st f_eCode f_ePos f_outN f_perfN f_resN f_res f_trap f_tpos f_hp : Int32} {a_tk a_ta a_tb a_tc a_nxt a_par a_nP a_nK a_out a_ce a_fp a_fk a_fx a_fb a_fe a_rH a_rTop a_rBot a_used : Nat → Int32} {K A B C : Nat → Int32} {n : Nat} {nx : Nat → Nat} {cf : Nat → Nat → Nat} {mp : Nat} {mt ec ep : Int32} {post : Int32 → SY → Prop} {ic : Nat → Prop}
def yz0 : Nat → Int32 := fun _ => 0
def yst (u : SY) (s : Int32) : SY :=
  match u with
  | (f_maxT, f_maxP, f_n, f_st, f_eCode, f_ePos, f_outN, f_perfN, f_resN, f_res, f_trap, f_tpos, f_hp, a_tk, a_ta, a_tb, a_tc, a_nxt, a_par, a_nP, a_nK, a_out, a_ce, a_fp, a_fk, a_fx, a_fb, a_fe, a_rH, a_rTop, a_rBot, a_used) => (f_maxT, f_maxP, f_n, s, f_eCode, f_ePos, f_outN, f_perfN, f_resN, f_res, f_trap, f_tpos, f_hp, a_tk, a_ta, a_tb, a_tc, a_nxt, a_par, a_nP, a_nK, a_out, a_ce, a_fp, a_fk, a_fx, a_fb, a_fe, a_rH, a_rTop, a_rBot, a_used)
theorem ys_end {z : ZZ} {u : SY} {i fu : Nat} {y1 y2 y3 y4 y5 : Int32} (X : yr_R K A B C n nx cf mp mt ec ep z y1 y2 y3 y4 y5 u) (hX : zi_X mp z) (H : post (nI (zst z)) (yst u (nI (zst z)))) : yj (wY_run_80 post (fu + 1)) y1 y2 y3 y4 y5 (nI i) u := by
  obtain ⟨f_maxT, f_maxP, f_n, f_st, f_eCode, f_ePos, f_outN, f_perfN, f_resN, f_res, f_trap, f_tpos, f_hp, a_tk, a_ta, a_tb, a_tc, a_nxt, a_par, a_nP, a_nK, a_out, a_ce, a_fp, a_fk, a_fx, a_fb, a_fe, a_rH, a_rTop, a_rBot, a_used⟩ := u
  obtain ⟨fo, v, e, S, R, pn, rn, out, on, st, tc, tp, nc, bc, hc⟩ := z
  obtain ⟨⟨rfl, rfl, rfl, rfl, rfl, rfl, rfl, rfl, rfl, rfl⟩, ⟨rfl, rfl, rfl, rfl, rfl⟩, sa, sc, h0, -, -⟩ := X
  obtain ⟨-, -, h⟩ := hX
  rcases h with ⟨h, ht⟩ | ⟨h, ht⟩
  · subst h
    have z := h0 (by omega)
    subst z
    exact br_t rfl (br_t ht H)
  · subst h
    have z := h0 (by omega)
    subst z
    exact br_t rfl (br_f ht H)
theorem ys_loop (P : zl_P K A B C n nx cf (zk_cl nx) ic) : ∀ (k : Nat) (z : ZZ) (i fu : Nat) (y1 y2 y3 y4 y5 : Int32) (u : SY), (∀ j, j ≤ k → zi_I K nx mp (zk_cl nx) ic (Nat.repeat (zs K A B C nx cf mp) j z)) → zi_X mp (Nat.repeat (zs K A B C nx cf mp) (k + 1) z) →
    yr_R K A B C n nx cf mp mt ec ep z y1 y2 y3 y4 y5 u → i + k + 1 < 65536 → k + 2 ≤ fu → (∀ y1 y2 y3 y4 y5 u', yr_R K A B C n nx cf mp mt ec ep (Nat.repeat (zs K A B C nx cf mp) (k + 1) z) y1 y2 y3 y4 y5 u' → post (nI (zst (Nat.repeat (zs K A B C nx cf mp) (k + 1) z))) (yst u' (nI (zst (Nat.repeat (zs K A B C nx cf mp) (k + 1) z))))) → yj (wY_run_80 post fu) y1 y2 y3 y4 y5 (nI i) u := by
  intro k
  induction k with
  | zero =>
    intro z i fu y1 y2 y3 y4 y5 u hI hX X hi hf H
    obtain ⟨fu, rfl⟩ : ∃ f', fu = f' + 2 := ⟨fu - 2, by omega⟩
    exact ys_one P (hI 0 (Nat.le_refl _)) X (by omega) (fun _ _ _ _ _ u' h => ys_end h hX (H _ _ _ _ _ u' h))
  | succ k ih =>
    intro z i fu y1 y2 y3 y4 y5 u hI hX X hi hf H
    obtain ⟨fu, rfl⟩ : ∃ f', fu = f' + 1 := ⟨fu - 1, by omega⟩
    rw [zr_rep] at hX H
    exact ys_one P (hI 0 (Nat.zero_le _)) X (by omega) (fun _ _ _ _ _ u' h => ih _ (i + 1) fu _ _ _ _ _ u' (fun j hj => by rw [← zr_rep]; exact hI (j + 1) (by omega)) hX h (by omega) (by omega) H)
theorem ys_zero (W : ∃ n80 : Nat, wY_run_80 post n80 (-1) 0 0 1 1 0 f_maxT f_maxP f_n f_st f_eCode f_ePos f_outN f_perfN f_resN f_res f_trap f_tpos f_hp a_tk a_ta a_tb a_tc a_nxt a_par a_nP a_nK a_out (yl_ce yz0 a_ce 0 9) a_fp a_fk a_fx a_fb a_fe a_rH a_rTop a_rBot a_used) : ∀ (d j fu : Nat), j + d = 9 → d < fu →
    wY_run_46 post f_maxT f_maxP f_n f_st f_eCode f_ePos f_outN f_perfN f_resN f_res f_trap f_tpos f_hp fu (nI j) a_tk a_ta a_tb a_tc a_nxt a_par a_nP a_nK a_out (yl_ce yz0 a_ce 0 j) a_fp a_fk a_fx a_fb a_fe a_rH a_rTop a_rBot a_used := by
  intro d
  induction d with
  | zero =>
    intro j fu hj hf
    obtain ⟨fu, rfl⟩ : ∃ f', fu = f' + 1 := ⟨fu - 1, by omega⟩
    have : j = 9 := by omega
    subst this
    exact br_t (nI_le (a := 9) (by omega) (by decide)) W
  | succ d ih =>
    intro j fu hj hf
    obtain ⟨fu, rfl⟩ : ∃ f', fu = f' + 1 := ⟨fu - 1, by omega⟩
    have hcj : (nI j).toNatClampNeg = j := nI_clamp (by omega)
    exact br_f (nI_ge (b := 9) (by omega) (by decide)) ⟨vp_in_nI (by omega) (by decide), nm_r (e' := yl_ce yz0 a_ce 0 (j + 1)) (by rw [hcj]; exact yl_s yz0 a_ce 0 j) (nm_r (nI_1 j) (ih (j + 1) fu (by omega) (by omega)))⟩
theorem ys_run {out : Nat → Int32} {k : Nat} (P : zl_P K A B C n nx cf (zk_cl nx) ic) (hk : k < 1700) (hI : ∀ j, j ≤ k → zi_I K nx mp (zk_cl nx) ic (Nat.repeat (zs K A B C nx cf mp) j (zz0 out))) (hX : zi_X mp (Nat.repeat (zs K A B C nx cf mp) (k + 1) (zz0 out)))
    (sa : ∀ p, nx p ≠ 0 → a_nxt p = nI (nx p)) (sc : yr_P K A n cf a_par) (hst : ¬ f_st = 0)
    (H : ∀ y1 y2 y3 y4 y5 u', yr_R K A B C n nx cf mp mt ec ep (Nat.repeat (zs K A B C nx cf mp) (k + 1) (zz0 out)) y1 y2 y3 y4 y5 u' → post (nI (zst (Nat.repeat (zs K A B C nx cf mp) (k + 1) (zz0 out)))) (yst u' (nI (zst (Nat.repeat (zs K A B C nx cf mp) (k + 1) (zz0 out)))))) :
    wpY_run post (mt, nI mp, nI n, f_st, ec, ep, f_outN, f_perfN, f_resN, f_res, f_trap, f_tpos, f_hp, K, A, B, C, a_nxt, a_par, a_nP, a_nK, out, a_ce, a_fp, a_fk, a_fx, a_fb, a_fe, a_rH, a_rTop, a_rBot, a_used) := by
  refine br_f hst ⟨10, ?_⟩
  have W := ys_zero (post := post) (f_maxT := mt) (f_maxP := nI mp) (f_n := nI n) (f_st := f_st) (f_eCode := ec) (f_ePos := ep) (f_outN := 0) (f_perfN := 0) (f_resN := 0) (f_res := 0) (f_trap := 0) (f_tpos := -1) (f_hp := 0) (a_tk := K) (a_ta := A) (a_tb := B) (a_tc := C) (a_nxt := a_nxt) (a_par := a_par) (a_nP := a_nP) (a_nK := a_nK) (a_out := out) (a_ce := a_ce) (a_fp := a_fp) (a_fk := a_fk) (a_fx := a_fx) (a_fb := a_fb) (a_fe := a_fe) (a_rH := a_rH) (a_rTop := a_rTop) (a_rBot := a_rBot) (a_used := a_used) ?_ 9 0 10 (by omega) (by omega)
  · rw [yl_0] at W
    exact W
  refine ⟨1702, ?_⟩
  refine ys_loop (u := (mt, nI mp, nI n, f_st, ec, ep, 0, 0, 0, 0, 0, -1, 0, K, A, B, C, a_nxt, a_par, a_nP, a_nK, out, yl_ce yz0 a_ce 0 9, a_fp, a_fk, a_fx, a_fb, a_fe, a_rH, a_rTop, a_rBot, a_used)) P k (zz0 out) 0 1702 (-1) 0 0 1 1 hI hX ?_ (by omega) (by omega) H
  refine yr_mk (tc := 0) (tp := -1) (on := 0) (pn := 0) (rn := 0) (st := 1) sa sc (fun z => absurd rfl z) (fun z => absurd z (by decide)) (fun _ => ⟨rfl, rfl, (fun p z => by cases z; exact ⟨rfl, rfl, fun j hj => yl_in hj⟩), (fun z => by cases z), ?_⟩)
  exact ⟨fun _ => [], ⟨fun _ => 0, fun k => ⟨⟨0, 0, rfl⟩, trivial, fun p hp => by cases hp⟩⟩, rfl, rfl, fun r hr => by omega⟩
end
end
section
def xk_S (oT oS oC : Nat → Int32) : List ZE → Prop
  | [] => True
  | (t, s, c) :: es => oT es.length = nI t ∧ oS es.length = nI s ∧ (s = 3 → oC es.length = nI c) ∧ xk_S oT oS oC es
theorem xk_m {oT oS oC oT' oS' oC' : Nat → Int32} : ∀ {es : List ZE}, (∀ j, j < es.length → oT' j = oT j ∧ oS' j = oS j ∧ oC' j = oC j) → xk_S oT oS oC es → xk_S oT' oS' oC' es
  | [], _, _ => trivial
  | (t, s, c) :: es, h, ⟨h1, h2, h3, h4⟩ => by
    obtain ⟨e1, e2, e3⟩ := h es.length (by simp)
    exact ⟨by rw [e1]; exact h1, by rw [e2]; exact h2, fun z => by rw [e3]; exact h3 z, xk_m (fun j hj => h j (by simp; omega)) h4⟩
theorem zk_bnd {K : Nat → Int32} {nx : Nat → Nat} {cf : Nat → Nat → Nat} {ic : Nat → Prop} : ∀ {es : List ZE} {q : Nat}, zk_S K nx cf ic q es → ∀ e ∈ es, e.1 < q ∧ e.2.1 ≤ 4 ∧ (e.2.1 = 3 → e.2.2 < q ∧ K e.1 = 13 ∧ (K e.2.2 = 14 ∨ K e.2.2 = 15))
  | [], _, _, e, he => nomatch he
  | (t, s, c) :: es, q, ⟨⟨e1, e2, e3, e4, e5⟩, h2, h3⟩, e, he => by
    rcases List.mem_cons.mp he with rfl | he
    · refine ⟨e1, ?_⟩
      dsimp only
      rcases e5 with ⟨f1, f2, f3⟩ | ⟨f1, f2⟩
      · have : zc_pc (K t) ≤ 3 := by
          unfold zc_pc
          split
          · omega
          · split <;> omega
        exact ⟨by omega, fun z => by omega⟩
      · rcases f2 with ⟨g1, g2, g3⟩ | ⟨g1, g2, g3, g4, g5⟩ | ⟨g1, g2, g3, g4, g5, g6⟩ | ⟨g1, g2, g3⟩
        · exact ⟨by omega, fun z => by omega⟩
        · exact ⟨by omega, fun z => ⟨by omega, f1, Or.inl g2⟩⟩
        · exact ⟨by omega, fun z => ⟨by omega, f1, Or.inr g2⟩⟩
        · exact ⟨by omega, fun z => by omega⟩
    · obtain ⟨y1, y2, y3⟩ := zk_bnd h2 e he
      exact ⟨by omega, y2, fun z => ⟨by have := (y3 z).1; omega, (y3 z).2⟩⟩
def zk_W (K : Nat → Int32) (n : Nat) (es : List ZE) : Prop := es.length ≤ 32 ∧ ∀ e ∈ es, e.1 < n ∧ e.2.1 ≤ 4 ∧ (e.2.1 = 3 → e.2.2 < n ∧ K e.1 = 13 ∧ (K e.2.2 = 14 ∨ K e.2.2 = 15))
theorem zk_Wt {K : Nat → Int32} {n : Nat} {e : ZE} {es : List ZE} (h : zk_W K n (e :: es)) : zk_W K n es := ⟨by have := h.1; simp at this; omega, fun x hx => h.2 x (List.mem_cons_of_mem _ hx)⟩
def xc_B (K A B C : Nat → Int32) (x : Int32) (e : ZE) : Prop :=
  (K e.1 = 9 ∧ e.2.1 = 1 ∧ A e.1 = x) ∨ (K e.1 = 13 ∧ e.2.1 = 3 ∧ ((K e.2.2 = 14 ∧ (x = A e.2.2 ∨ x = B e.2.2)) ∨ (K e.2.2 ≠ 14 ∧ (x = B e.2.2 ∨ x = C e.2.2 ∨ x = 8))))
theorem xc_B1 {K A B C : Nat → Int32} {n : Nat} {es : List ZE} {a : Nat} (W : zk_W K n es) (ha : a < 8) : (∃ e ∈ es, xc_B K A B C (nI a) e) ↔ (∃ e ∈ es, zc_bd K A B C (nI a) e) := by
  have h8 : ¬ nI a = 8 := fun z => absurd ((nI_eq (b := 8) (by omega) (by decide)).mp z) (by omega)
  constructor
  · rintro ⟨e, he, h⟩
    refine ⟨e, he, ?_⟩
    rcases h with h | ⟨h1, h2, h3⟩
    · exact Or.inl h
    · refine Or.inr ⟨h1, h2, ?_⟩
      rcases h3 with ⟨k, h4⟩ | ⟨k, h4⟩
      · exact Or.inl ⟨k, h4.imp Eq.symm Eq.symm⟩
      · have k15 := (((W.2 e he).2.2 h2).2.2).resolve_left k
        rcases h4 with h4 | h4 | h4
        · exact Or.inr ⟨k15, Or.inl h4.symm⟩
        · exact Or.inr ⟨k15, Or.inr h4.symm⟩
        · exact absurd h4 h8
  · rintro ⟨e, he, h⟩
    refine ⟨e, he, ?_⟩
    rcases h with h | ⟨h1, h2, h3⟩
    · exact Or.inl h
    · refine Or.inr ⟨h1, h2, ?_⟩
      rcases h3 with ⟨k, h4⟩ | ⟨k, h4⟩
      · exact Or.inl ⟨k, h4.imp Eq.symm Eq.symm⟩
      · refine Or.inr ⟨by rw [k]; decide, ?_⟩
        rcases h4 with h4 | h4
        · exact Or.inl h4.symm
        · exact Or.inr (Or.inl h4.symm)
theorem xc_sm8 {x : Int32} (h : zl_sm x) : ¬ 8 = x := by
  obtain ⟨a, ha, rfl⟩ := h
  exact fun z => absurd ((nI_eq (a := 8) (by decide) (by omega)).mp z) (by omega)
theorem xc_B8 {K A B C : Nat → Int32} {n : Nat} {es : List ZE} (W : zk_W K n es) (hT : ∀ j, j < n → zl_T K A B C j) : (∃ e ∈ es, xc_B K A B C 8 e) ↔ zc_ic K es := by
  constructor
  · rintro ⟨e, he, h⟩
    obtain ⟨w1, w2, w3⟩ := W.2 e he
    rcases h with ⟨h1, h2, h3⟩ | ⟨h1, h2, h3⟩
    · exact absurd h3.symm (xc_sm8 ((hT _ w1).2.1 (Or.inr (Or.inl h1))))
    · obtain ⟨v1, v2, v3⟩ := w3 h2
      rcases h3 with ⟨k, h4⟩ | ⟨k, h4⟩
      · obtain ⟨s1, s2⟩ := (hT _ v1).2.2.2.1 k
        rcases h4 with h4 | h4
        · exact absurd h4 (xc_sm8 s1)
        · exact absurd h4 (xc_sm8 s2)
      · exact ⟨e, he, h1, h2, v3.resolve_left k⟩
  · rintro ⟨e, he, h1, h2, h3⟩
    exact ⟨e, he, Or.inr ⟨h1, h2, Or.inr ⟨by rw [h3]; decide, Or.inr (Or.inr rfl)⟩⟩⟩
section
variable {f_maxTokens f_maxPerforms f_count f_openCount f_status f_errorCode f_errorPos f_trapCode f_trapPos f_emittedCount f_performCount f_resumeCount f_nodeCount f_top f_bindingCount f_next f_scope f_value : Int32} {a_kinds a_argA a_argB a_argC a_after a_openToken a_openStage a_openClause a_caseFor a_emitted a_nodeToken a_nodeStage a_nodeHeld a_nodeScope a_nodeBelow a_bindingName a_bindingValue a_bindingOuter a_resumptionFrame a_resumptionTop a_resumptionBottom : Nat → Int32} {K A B C : Nat → Int32} {n : Nat} {nx : Nat → Nat} {cf : Nat → Nat → Nat} {i : Nat}
theorem xc_80 {post : Int32 → Prop} {k : Int32} (H1 : (k ≠ 14 ∧ k ≠ 15 ∧ k ≠ 16) → post 1) (H0 : ¬ (k ≠ 14 ∧ k ≠ 15 ∧ k ≠ 16) → post 0) : wX_isAllowedHere_80 post k f_maxTokens f_maxPerforms f_count f_openCount f_status f_errorCode f_errorPos f_trapCode f_trapPos f_emittedCount f_performCount f_resumeCount f_nodeCount f_top f_bindingCount f_next f_scope f_value a_kinds a_argA a_argB a_argC a_after a_openToken a_openStage a_openClause a_caseFor a_emitted a_nodeToken a_nodeStage a_nodeHeld a_nodeScope a_nodeBelow a_bindingName a_bindingValue a_bindingOuter a_resumptionFrame a_resumptionTop a_resumptionBottom :=
  br_c (fun z => H0 (fun y => y.1 z)) (fun z1 => br_c (fun z => H0 (fun y => y.2.1 z)) (fun z2 => br_c (fun z => H0 (fun y => y.2.2 z)) (fun z3 => H1 ⟨z1, z2, z3⟩)))
theorem xc_ok {post : Int32 → Prop} {k : Int32} {stk : List ZE} (hn : n ≤ 32) (W : zk_W a_kinds n stk) (S : xk_S a_openToken a_openStage a_openClause stk) (H1 : zc_ok a_kinds k stk → post 1) (H0 : ¬ zc_ok a_kinds k stk → post 0) :
    wpX_isAllowedHere post (f_maxTokens, f_maxPerforms, f_count, nI stk.length, f_status, f_errorCode, f_errorPos, f_trapCode, f_trapPos, f_emittedCount, f_performCount, f_resumeCount, f_nodeCount, f_top, f_bindingCount, f_next, f_scope, f_value, a_kinds, a_argA, a_argB, a_argC, a_after, a_openToken, a_openStage, a_openClause, a_caseFor, a_emitted, a_nodeToken, a_nodeStage, a_nodeHeld, a_nodeScope, a_nodeBelow, a_bindingName, a_bindingValue, a_bindingOuter, a_resumptionFrame, a_resumptionTop, a_resumptionBottom) k := by
  cases stk with
  | nil => exact br_t (by decide) (xc_80 H1 H0)
  | cons e es =>
    obtain ⟨t, s, c⟩ := e
    obtain ⟨s1, s2, s3, s4⟩ := S
    have hl := W.1
    rw [List.length_cons] at hl
    obtain ⟨w1, w2, w3⟩ := W.2 _ (List.mem_cons_self ..)
    dsimp only at w1 w2 w3
    have hcl : (nI es.length).toNatClampNeg = es.length := nI_clamp (by omega)
    have hct : (nI t).toNatClampNeg = t := nI_clamp (by omega)
    have hil : vp_in (nI es.length) 32 := vp_in_nI (by omega) (by decide)
    rw [zc_okc] at H1 H0
    rw [List.length_cons]
    refine br_f (nI_nle (by omega) (by omega)) ?_
    rw [nI_pred, hcl, s1, s2]
    refine ⟨hil, vp_in_nI (by omega) (by decide), ?_⟩
    rw [hct]
    by_cases k13 : a_kinds t = 13
    · refine br_t k13 ⟨hil, nm_e ?_⟩
      by_cases z2 : s = 2
      · rw [if_pos ⟨k13, z2⟩] at H1 H0
        subst z2
        exact br_t rfl (br_c H1 H0)
      · rw [if_neg (fun z => z2 z.2)] at H1 H0
        refine br_f (fun z => z2 ((nI_eq (b := 2) (by omega) (by decide)).mp z)) ?_
        by_cases z4 : s = 4
        · rw [if_pos ⟨k13, z4⟩] at H1 H0
          subst z4
          exact br_t rfl (br_c (fun z => H1 (Or.inl z)) (fun y1 => br_c (fun z => H1 (Or.inr z)) (fun y2 => H0 (fun z => z.elim y1 y2))))
        · rw [if_neg (fun z => z4 z.2)] at H1 H0
          exact br_f (fun z => z4 ((nI_eq (b := 4) (by omega) (by decide)).mp z)) (xc_80 H1 H0)
    · rw [if_neg (fun z => k13 z.1), if_neg (fun z => k13 z.1)] at H1 H0
      exact br_f k13 (xc_80 H1 H0)
theorem xc_bn {post : Int32 → Prop} {x : Int32} {d t s c : Nat} (hn : n ≤ 32) (hd : d < 32) (ht : t < n) (h4 : s ≤ 4) (hc : s = 3 → c < n) (s1 : a_openToken d = nI t) (s2 : a_openStage d = nI s) (s3 : s = 3 → a_openClause d = nI c)
    (H1 : xc_B a_kinds a_argA a_argB a_argC x (t, s, c) → post 1) (H0 : ¬ xc_B a_kinds a_argA a_argB a_argC x (t, s, c) → post 0) : wpX_bindsNow post (f_maxTokens, f_maxPerforms, f_count, f_openCount, f_status, f_errorCode, f_errorPos, f_trapCode, f_trapPos, f_emittedCount, f_performCount, f_resumeCount, f_nodeCount, f_top, f_bindingCount, f_next, f_scope, f_value, a_kinds, a_argA, a_argB, a_argC, a_after, a_openToken, a_openStage, a_openClause, a_caseFor, a_emitted, a_nodeToken, a_nodeStage, a_nodeHeld, a_nodeScope, a_nodeBelow, a_bindingName, a_bindingValue, a_bindingOuter, a_resumptionFrame, a_resumptionTop, a_resumptionBottom) (nI d) x := by
  have hcd : (nI d).toNatClampNeg = d := nI_clamp (by omega)
  have hid : vp_in (nI d) 32 := vp_in_nI hd (by decide)
  have hct : (nI t).toNatClampNeg = t := nI_clamp (by omega)
  have hit : vp_in (nI t) 32 := vp_in_nI (by omega) (by decide)
  refine ⟨hid, xm_r hcd s1 ⟨hit, ?_⟩⟩
  rw [hct, hcd, s2]
  by_cases k9 : a_kinds t = 9
  · refine br_t k9 ⟨hid, ?_⟩
    by_cases z1 : s = 1
    · subst z1
      exact br_t rfl ⟨hit, br_c (fun z => H1 (Or.inl ⟨k9, rfl, z⟩)) (fun z => H0 (fun y => y.elim (fun w => z w.2.2) (fun w => absurd (k9.symm.trans w.1) (by decide))))⟩
    · exact br_f (fun z => z1 ((nI_eq (b := 1) (by omega) (by decide)).mp z)) (H0 (fun y => y.elim (fun w => z1 w.2.1) (fun w => absurd (k9.symm.trans w.1) (by decide))))
  · refine br_f k9 ⟨hit, ?_⟩
    by_cases k13 : a_kinds t = 13
    · refine br_t k13 ⟨hid, ?_⟩
      by_cases z3 : s = 3
      · have hcn := hc z3
        have hcc : (nI c).toNatClampNeg = c := nI_clamp (by omega)
        have hic : vp_in (nI c) 32 := vp_in_nI (by omega) (by decide)
        have e3 := s3 z3
        subst z3
        refine br_t rfl ⟨hid, nm_r e3 ⟨hic, ?_⟩⟩
        rw [hcc]
        have no : ∀ {Q : Prop}, (a_kinds t = 9 ∧ (3 : Nat) = 1 ∧ a_argA t = x) → Q := fun w => absurd w.1 k9
        by_cases k14 : a_kinds c = 14
        · exact br_t k14 ⟨hic, br_c (fun z => H1 (Or.inr ⟨k13, rfl, Or.inl ⟨k14, Or.inl z⟩⟩)) (fun y1 => ⟨hic, br_c (fun z => H1 (Or.inr ⟨k13, rfl, Or.inl ⟨k14, Or.inr z⟩⟩)) (fun y2 => H0 (fun y => y.elim no (fun w => w.2.2.elim (fun q => q.2.elim y1 y2) (fun q => q.1 k14))))⟩)⟩
        · exact br_f k14 ⟨hic, br_c (fun z => H1 (Or.inr ⟨k13, rfl, Or.inr ⟨k14, Or.inl z⟩⟩)) (fun y1 => ⟨hic, br_c (fun z => H1 (Or.inr ⟨k13, rfl, Or.inr ⟨k14, Or.inr (Or.inl z)⟩⟩)) (fun y2 => br_c (fun z => H1 (Or.inr ⟨k13, rfl, Or.inr ⟨k14, Or.inr (Or.inr z)⟩⟩)) (fun y3 => H0 (fun y => y.elim no (fun w => w.2.2.elim (fun q => k14 q.1) (fun q => q.2.elim y1 (fun r => r.elim y2 y3))))))⟩)⟩
      · exact br_f (fun z => z3 ((nI_eq (b := 3) (by omega) (by decide)).mp z)) (H0 (fun y => y.elim (fun w => k9 w.1) (fun w => z3 w.2.1)))
    · exact br_f k13 (H0 (fun y => y.elim (fun w => k9 w.1) (fun w => k13 w.1)))
theorem zm_a (x : Int32) : x + (-1) = x - 1 := by
  rw [Int32.sub_eq_add_neg]
theorem xc_bl {post : Int32 → Prop} {x : Int32} (hn : n ≤ 32) : ∀ (es : List ZE) (fu : Nat), es.length < fu → zk_W a_kinds n es → xk_S a_openToken a_openStage a_openClause es → ((∃ e ∈ es, xc_B a_kinds a_argA a_argB a_argC x e) → post 1) → (¬ (∃ e ∈ es, xc_B a_kinds a_argA a_argB a_argC x e) → post 0) →
    wX_isBoundHere_7 post x f_maxTokens f_maxPerforms f_count f_openCount f_status f_errorCode f_errorPos f_trapCode f_trapPos f_emittedCount f_performCount f_resumeCount f_nodeCount f_top f_bindingCount f_next f_scope f_value a_kinds a_argA a_argB a_argC a_after a_openToken a_openStage a_openClause a_caseFor a_emitted a_nodeToken a_nodeStage a_nodeHeld a_nodeScope a_nodeBelow a_bindingName a_bindingValue a_bindingOuter a_resumptionFrame a_resumptionTop a_resumptionBottom fu (nI es.length - 1) := by
  intro es
  induction es with
  | nil =>
    intro fu hf W S H1 H0
    obtain ⟨fu, rfl⟩ : ∃ f', fu = f' + 1 := ⟨fu - 1, by simp at hf; omega⟩
    exact br_t (by decide) (H0 (fun ⟨e, he, _⟩ => nomatch he))
  | cons e es ih =>
    intro fu hf W S H1 H0
    obtain ⟨fu, rfl⟩ : ∃ f', fu = f' + 1 := ⟨fu - 1, by simp at hf; omega⟩
    rw [List.length_cons] at hf ⊢
    rw [nI_pred]
    obtain ⟨t, s, c⟩ := e
    obtain ⟨s1, s2, s3, s4⟩ := S
    have hl := W.1
    rw [List.length_cons] at hl
    obtain ⟨w1, w2, w3⟩ := W.2 _ (List.mem_cons_self ..)
    dsimp only at w1 w2 w3
    refine br_f (nI_pos (by omega)) (xc_bn hn (by omega) w1 w2 (fun z => (w3 z).1) s1 s2 s3 (fun z => br_f (by decide) (H1 ⟨_, List.mem_cons_self .., z⟩)) (fun z => br_t rfl (nm_r (zm_a _) (ih fu (by omega) (zk_Wt W) s4 (fun ⟨e, he, y⟩ => H1 ⟨e, List.mem_cons_of_mem _ he, y⟩) (fun y => H0 ?_)))))
    rintro ⟨e, he, q⟩
    rcases List.mem_cons.mp he with rfl | he
    · exact z q
    · exact y ⟨e, he, q⟩
theorem xc_bh {post : Int32 → Prop} {x : Int32} {stk : List ZE} (hn : n ≤ 32) (W : zk_W a_kinds n stk) (S : xk_S a_openToken a_openStage a_openClause stk) (H1 : (∃ e ∈ stk, xc_B a_kinds a_argA a_argB a_argC x e) → post 1) (H0 : ¬ (∃ e ∈ stk, xc_B a_kinds a_argA a_argB a_argC x e) → post 0) :
    wpX_isBoundHere post (f_maxTokens, f_maxPerforms, f_count, nI stk.length, f_status, f_errorCode, f_errorPos, f_trapCode, f_trapPos, f_emittedCount, f_performCount, f_resumeCount, f_nodeCount, f_top, f_bindingCount, f_next, f_scope, f_value, a_kinds, a_argA, a_argB, a_argC, a_after, a_openToken, a_openStage, a_openClause, a_caseFor, a_emitted, a_nodeToken, a_nodeStage, a_nodeHeld, a_nodeScope, a_nodeBelow, a_bindingName, a_bindingValue, a_bindingOuter, a_resumptionFrame, a_resumptionTop, a_resumptionBottom) x := nm_e ⟨stk.length + 1, xc_bl hn stk _ (by omega) W S H1 H0⟩
theorem xc_flt {post : Int32 → Prop} {stk : List ZE} {f : Nat} (hn : n ≤ 32) (hi : i < n) (hT : ∀ j, j < n → zl_T a_kinds a_argA a_argB a_argC j) (W : zk_W a_kinds n stk) (S : xk_S a_openToken a_openStage a_openClause stk)
    (sc : ∀ h op, h < 32 → op < 8 → a_caseFor (8 * h + op) = nI (cf h op)) (hcf : ∀ h op, cf h op < 2 ^ 31) (F : zc_flt a_kinds a_argA a_argB a_argC i stk cf f) (H : post (nI f)) : wpX_faultAt post (f_maxTokens, f_maxPerforms, f_count, nI stk.length, f_status, f_errorCode, f_errorPos, f_trapCode, f_trapPos, f_emittedCount, f_performCount, f_resumeCount, f_nodeCount, f_top, f_bindingCount, f_next, f_scope, f_value, a_kinds, a_argA, a_argB, a_argC, a_after, a_openToken, a_openStage, a_openClause, a_caseFor, a_emitted, a_nodeToken, a_nodeStage, a_nodeHeld, a_nodeScope, a_nodeBelow, a_bindingName, a_bindingValue, a_bindingOuter, a_resumptionFrame, a_resumptionTop, a_resumptionBottom) (nI i) := by
  have hci : (nI i).toNatClampNeg = i := nI_clamp (by omega)
  have hii : vp_in (nI i) 32 := vp_in_nI (by omega) (by decide)
  have hl := W.1
  unfold zc_flt at F
  by_cases c : 0 < i ∧ stk = []
  · rw [if_pos c] at F
    subst F
    have hs : nI stk.length = 0 := by rw [c.2]; rfl
    exact br_f (nI_nle c.1 (by omega)) (br_t hs H)
  · rw [if_neg c] at F
    have M : wX_faultAt_13 post (nI i) f_maxTokens f_maxPerforms f_count (nI stk.length) f_status f_errorCode f_errorPos f_trapCode f_trapPos f_emittedCount f_performCount f_resumeCount f_nodeCount f_top f_bindingCount f_next f_scope f_value a_kinds a_argA a_argB a_argC a_after a_openToken a_openStage a_openClause a_caseFor a_emitted a_nodeToken a_nodeStage a_nodeHeld a_nodeScope a_nodeBelow a_bindingName a_bindingValue a_bindingOuter a_resumptionFrame a_resumptionTop a_resumptionBottom := by
      refine ⟨hii, xm_r hci rfl ?_⟩
      by_cases ok : zc_ok a_kinds (a_kinds i) stk
      · refine xc_ok hn W S (fun _ => br_f (by decide) ?_) (fun z => absurd ok z)
        replace F := (F.resolve_left (fun z => z.1 ok)).2
        by_cases k2 : a_kinds i = 2
        · obtain ⟨a, ha, hA⟩ := (hT i hi).2.1 (Or.inl k2)
          have k17 : ¬ a_kinds i = 17 := by rw [k2]; decide
          have k15 : ¬ a_kinds i = 15 := by rw [k2]; decide
          refine br_t k2 ⟨hii, ?_⟩
          rw [hci]
          refine xc_bh hn W S (fun z => br_f (by decide) (br_f k17 (br_f k15 ?_))) (fun z => br_t rfl ?_)
          · rw [hA] at z F
            have z' := (xc_B1 W ha).mp z
            rcases F with ⟨-, y, -⟩ | ⟨y, -⟩ | ⟨y, -⟩ | ⟨-, -, -, y⟩
            · exact absurd z' y
            · exact absurd y k17
            · exact absurd y k15
            · subst y; exact H
          · rw [hA] at z F
            have z' := fun y => z ((xc_B1 W ha).mpr y)
            rcases F with ⟨-, -, y⟩ | ⟨y, -⟩ | ⟨y, -⟩ | ⟨y, -⟩
            · subst y; exact H
            · exact absurd y k17
            · exact absurd y k15
            · exact absurd ⟨k2, z'⟩ y
        · refine br_f k2 ?_
          by_cases k17 : a_kinds i = 17
          · have k15 : ¬ a_kinds i = 15 := by rw [k17]; decide
            refine br_t k17 (xc_bh hn W S (fun z => br_f (by decide) (br_f k15 ?_)) (fun z => br_t rfl ?_))
            · have z' := (xc_B8 W hT).mp z
              rcases F with ⟨y, -⟩ | ⟨-, y, -⟩ | ⟨y, -⟩ | ⟨-, -, -, y⟩
              · exact absurd y k2
              · exact absurd z' y
              · exact absurd y k15
              · subst y; exact H
            · have z' := fun y => z ((xc_B8 W hT).mpr y)
              rcases F with ⟨y, -⟩ | ⟨-, -, y⟩ | ⟨y, -⟩ | ⟨-, y, -⟩
              · exact absurd y k2
              · subst y; exact H
              · exact absurd y k15
              · exact absurd ⟨k17, z'⟩ y
          · refine br_f k17 ?_
            by_cases k15 : a_kinds i = 15
            · rw [k15] at ok
              obtain ⟨t, c0, es, rfl, h13⟩ := zc_ok15 (Or.inl rfl) ok
              obtain ⟨⟨op, ho, hA⟩, -⟩ := (hT i hi).2.2.2.2 k15
              obtain ⟨s1, s2, s3, s4⟩ := S
              rw [List.length_cons] at hl
              have w1 := (W.2 _ (List.mem_cons_self ..)).1
              dsimp only at w1
              have hcl : (nI es.length).toNatClampNeg = es.length := nI_clamp (by omega)
              refine br_t k15 ?_
              rw [List.length_cons, nI_pred, hcl, s1, hci, hA]
              refine ⟨vp_in_nI (by omega) (by decide), hii, xt_caseOf (cf := cf) sc (by omega) ho ?_⟩
              have hAc : (a_argA i).toNatClampNeg = op := by rw [hA]; exact nI_clamp (by omega)
              rw [hAc] at F
              have ht : zc_top ((t, 4, c0) :: es) = t := rfl
              rw [ht] at F
              by_cases z : cf t op = 0
              · rw [z]
                refine br_t rfl ?_
                rcases F with ⟨y, -⟩ | ⟨y, -⟩ | ⟨-, y, -⟩ | ⟨-, -, -, y⟩
                · exact absurd y k2
                · exact absurd y k17
                · exact absurd z y
                · subst y; exact H
              · refine br_f (nI_ne0 (by omega) (hcf t op)) ?_
                rcases F with ⟨y, -⟩ | ⟨y, -⟩ | ⟨-, -, y⟩ | ⟨-, -, y, -⟩
                · exact absurd y k2
                · exact absurd y k17
                · subst y; exact H
                · exact absurd ⟨k15, z⟩ y
            · refine br_f k15 ?_
              rcases F with ⟨y, -⟩ | ⟨y, -⟩ | ⟨y, -⟩ | ⟨-, -, -, y⟩
              · exact absurd y k2
              · exact absurd y k17
              · exact absurd y k15
              · subst y; exact H
      · refine xc_ok hn W S (fun z => absurd z ok) (fun _ => br_t rfl ?_)
        rcases F with ⟨-, y⟩ | ⟨y, -⟩
        · subst y; exact H
        · exact absurd y ok
    rcases Nat.eq_zero_or_pos i with z | z
    · subst z
      exact br_t (by decide) M
    · have hne : stk ≠ [] := fun y => c ⟨z, y⟩
      have hpos : 0 < stk.length := List.length_pos_iff.mpr hne
      exact br_f (nI_nle z (by omega)) (br_f (nI_ne0 hpos (by omega)) M)
end
end
section
theorem xn_a {af : Nat → Int32} {nx : Nat → Nat} {t x : Nat} (sa : ∀ p, nx p ≠ 0 → af p = nI (nx p)) : ∀ p, zn_set nx t x p ≠ 0 → upd af t (nI x) p = nI (zn_set nx t x p) := by
  intro p hp
  by_cases c : p = t
  · subst c; rw [zu_s, zn_s]
  · rw [zn_n c] at hp
    rw [zu_n c, zn_n c]
    exact sa p hp
theorem xn_c {cs : Nat → Int32} {cf : Nat → Nat → Nat} {t op x : Nat} (ho : op < 8) (sc : ∀ h op, h < 32 → op < 8 → cs (8 * h + op) = nI (cf h op)) :
    ∀ h op', h < 32 → op' < 8 → upd cs (8 * t + op) (nI x) (8 * h + op') = nI (zn_set2 cf t op x h op') := by
  intro h op' h1 h2
  by_cases c : h = t ∧ op' = op
  · obtain ⟨rfl, rfl⟩ := c
    rw [zu_s, zn_s2]
  · rw [zu_n (by omega), zn_n2 c]
    exact sc h op' h1 h2
theorem yl_z {a : Nat → Int32} {m k : Nat} (h : k < m) : yl_ce yz0 a 0 m k = 0 := by
  unfold yl_ce
  rw [if_pos h]
  rfl
section
variable {f_maxTokens f_maxPerforms f_count f_openCount f_status f_errorCode f_errorPos f_trapCode f_trapPos f_emittedCount f_performCount f_resumeCount f_nodeCount f_top f_bindingCount f_next f_scope f_value : Int32} {a_kinds a_argA a_argB a_argC a_after a_openToken a_openStage a_openClause a_caseFor a_emitted a_nodeToken a_nodeStage a_nodeHeld a_nodeScope a_nodeBelow a_bindingName a_bindingValue a_bindingOuter a_resumptionFrame a_resumptionTop a_resumptionBottom : Nat → Int32} {K A B C : Nat → Int32} {n : Nat} {i : Nat}
theorem xc_pc {post : Int32 → Prop} {k : Int32} (H : post (nI (zc_pc k))) : wpX_partCount post k := by
  unfold zc_pc at H
  by_cases k11 : k = 11
  · rw [if_pos (Or.inl k11)] at H
    exact br_t k11 H
  · by_cases k12 : k = 12
    · rw [if_pos (Or.inr k12)] at H
      exact br_f k11 (br_t k12 H)
    · rw [if_neg (fun z => z.elim k11 k12)] at H
      by_cases k8 : k = 8
      · rw [if_pos k8] at H
        exact br_f k11 (br_f k12 (br_t k8 H))
      · rw [if_neg k8] at H
        exact br_f k11 (br_f k12 (br_f k8 H))
theorem xc_pc3 (k : Int32) : zc_pc k ≤ 3 := by
  unfold zc_pc
  split
  · omega
  · split <;> omega
theorem xc_fin {post : SX → Prop} (hn : n ≤ 32) (hi : i < n) : ∀ (stk : List ZE) (fu : Nat) (nx : Nat → Nat) (af oS : Nat → Int32), stk.length < fu → zk_W a_kinds n stk → zk_A a_kinds stk → (∀ p, nx p ≠ 0 → af p = nI (nx p)) → xk_S a_openToken oS a_openClause stk →
    (∀ af' oS', (∀ p, (zc_fin a_kinds i nx stk).1 p ≠ 0 → af' p = nI ((zc_fin a_kinds i nx stk).1 p)) → xk_S a_openToken oS' a_openClause (zc_fin a_kinds i nx stk).2 → post (f_maxTokens, f_maxPerforms, f_count, nI (zc_fin a_kinds i nx stk).2.length, f_status, f_errorCode, f_errorPos, f_trapCode, f_trapPos, f_emittedCount, f_performCount, f_resumeCount, f_nodeCount, f_top, f_bindingCount, f_next, f_scope, f_value, a_kinds, a_argA, a_argB, a_argC, af', a_openToken, oS', a_openClause, a_caseFor, a_emitted, a_nodeToken, a_nodeStage, a_nodeHeld, a_nodeScope, a_nodeBelow, a_bindingName, a_bindingValue, a_bindingOuter, a_resumptionFrame, a_resumptionTop, a_resumptionBottom)) →
    wX_finishPart_7 post (nI (i + 1)) f_maxTokens f_maxPerforms f_count f_status f_errorCode f_errorPos f_trapCode f_trapPos f_emittedCount f_performCount f_resumeCount f_nodeCount f_top f_bindingCount f_next f_scope f_value fu (nI stk.length) a_kinds a_argA a_argB a_argC af a_openToken oS a_openClause a_caseFor a_emitted a_nodeToken a_nodeStage a_nodeHeld a_nodeScope a_nodeBelow a_bindingName a_bindingValue a_bindingOuter a_resumptionFrame a_resumptionTop a_resumptionBottom := by
  intro stk
  induction stk with
  | nil =>
    intro fu nx af oS hf W ZA sa S H
    obtain ⟨fu, rfl⟩ : ∃ f', fu = f' + 1 := ⟨fu - 1, by simp at hf; omega⟩
    exact br_t (by decide) (H af oS sa trivial)
  | cons e es ih =>
    intro fu nx af oS hf W ZA sa S H
    obtain ⟨fu, rfl⟩ : ∃ f', fu = f' + 1 := ⟨fu - 1, by simp at hf; omega⟩
    obtain ⟨t, s, c⟩ := e
    obtain ⟨s1, s2, s3, s4⟩ := S
    have hl := W.1
    rw [List.length_cons] at hl hf
    obtain ⟨w1, w2, w3⟩ := W.2 _ (List.mem_cons_self ..)
    dsimp only at w1 w2 w3
    have hcl : (nI es.length).toNatClampNeg = es.length := nI_clamp (by omega)
    have hil : vp_in (nI es.length) 32 := vp_in_nI (by omega) (by decide)
    have hct : (nI t).toNatClampNeg = t := nI_clamp (by omega)
    have hit : vp_in (nI t) 32 := vp_in_nI (by omega) (by decide)
    rw [List.length_cons]
    refine br_f (nI_nle (by omega) (by omega)) (nm_r (nI_pred _) ⟨hil, xm_r hcl s1 ⟨hil, hil, nm_r (e' := upd oS es.length (nI (s + 1))) (by rw [hcl, s2, nI_1]) ⟨hit, ?_⟩⟩⟩)
    rw [hct, hcl]
    by_cases hc : a_kinds t = 13 ∨ s + 1 < zc_pc (a_kinds t)
    · have e : zc_fin a_kinds i nx ((t, s, c) :: es) = (nx, (t, s + 1, c) :: es) := by simp only [zc_fin]; rw [if_pos hc]
      rw [e] at H
      have hS : xk_S a_openToken (upd oS es.length (nI (s + 1))) a_openClause ((t, s + 1, c) :: es) := by
        refine ⟨s1, zu_s, fun y => ?_, xk_m (fun j hj => ⟨rfl, zu_n (by omega), rfl⟩) s4⟩
        exfalso
        have q := ZA _ (List.mem_cons_self ..)
        rcases hc with z | z
        · exact q ⟨z, Or.inl (by dsimp only; omega)⟩
        · have := xc_pc3 (a_kinds t)
          omega
      have P := H af _ sa hS
      by_cases k13 : a_kinds t = 13
      · exact br_t k13 P
      · refine br_f k13 ⟨hil, hit, xc_pc (br_f ?_ P)⟩
        rw [zu_s]
        exact nI_ge (hc.resolve_left k13) (by have := xc_pc3 (a_kinds t); omega)
    · have e : zc_fin a_kinds i nx ((t, s, c) :: es) = zc_fin a_kinds i (zn_set nx t (i + 1)) es := by simp only [zc_fin]; rw [if_neg hc]
      rw [e] at H
      have k13 : ¬ a_kinds t = 13 := fun z => hc (Or.inl z)
      refine br_f k13 ⟨hil, hit, xc_pc (br_t ?_ ⟨hit, nm_e (nm_r (nI_pred _) (ih fu (zn_set nx t (i + 1)) _ _ (by omega) (zk_Wt W) (fun e he => ZA e (List.mem_cons_of_mem _ he)) (xn_a sa) (xk_m (fun j hj => ⟨rfl, zu_n (by omega), rfl⟩) s4) H))⟩)⟩
      rw [zu_s]
      exact nI_le (by have := fun z => hc (Or.inr z); omega) (by omega)
theorem xc_fp {post : SX → Prop} {stk : List ZE} {nx : Nat → Nat} {st : Nat} {a0 a1 : Int32} (hn : n ≤ 32) (hi : i < n) (e0 : a0 = nI st) (e1 : a1 = nI (i + 1)) (hs : st < n) (W : zk_W a_kinds n stk) (ZA : zk_A a_kinds stk) (sa : ∀ p, nx p ≠ 0 → a_after p = nI (nx p)) (S : xk_S a_openToken a_openStage a_openClause stk)
    (H : ∀ af' oS', (∀ p, (zc_fin a_kinds i (zn_set nx st (i + 1)) stk).1 p ≠ 0 → af' p = nI ((zc_fin a_kinds i (zn_set nx st (i + 1)) stk).1 p)) → xk_S a_openToken oS' a_openClause (zc_fin a_kinds i (zn_set nx st (i + 1)) stk).2 → post (f_maxTokens, f_maxPerforms, f_count, nI (zc_fin a_kinds i (zn_set nx st (i + 1)) stk).2.length, f_status, f_errorCode, f_errorPos, f_trapCode, f_trapPos, f_emittedCount, f_performCount, f_resumeCount, f_nodeCount, f_top, f_bindingCount, f_next, f_scope, f_value, a_kinds, a_argA, a_argB, a_argC, af', a_openToken, oS', a_openClause, a_caseFor, a_emitted, a_nodeToken, a_nodeStage, a_nodeHeld, a_nodeScope, a_nodeBelow, a_bindingName, a_bindingValue, a_bindingOuter, a_resumptionFrame, a_resumptionTop, a_resumptionBottom)) :
    wpX_finishPart post (f_maxTokens, f_maxPerforms, f_count, nI stk.length, f_status, f_errorCode, f_errorPos, f_trapCode, f_trapPos, f_emittedCount, f_performCount, f_resumeCount, f_nodeCount, f_top, f_bindingCount, f_next, f_scope, f_value, a_kinds, a_argA, a_argB, a_argC, a_after, a_openToken, a_openStage, a_openClause, a_caseFor, a_emitted, a_nodeToken, a_nodeStage, a_nodeHeld, a_nodeScope, a_nodeBelow, a_bindingName, a_bindingValue, a_bindingOuter, a_resumptionFrame, a_resumptionTop, a_resumptionBottom) a0 a1 := by
  subst e0 e1
  have hct : (nI st).toNatClampNeg = st := nI_clamp (by omega)
  exact ⟨vp_in_nI (by omega) (by decide), nm_r (e' := upd a_after st (nI (i + 1))) (by rw [hct]) ⟨stk.length + 1, xc_fin hn hi stk _ _ _ _ (by omega) W ZA (xn_a sa) S H⟩⟩
theorem xc_take {post : SX → Prop} {stk : List ZE} {nx : Nat → Nat} {cf : Nat → Nat → Nat} {ic : Nat → Prop} (hn : n ≤ 32) (hi : i < n) (hT : zl_T a_kinds a_argA a_argB a_argC i) (F : zc_flt a_kinds a_argA a_argB a_argC i stk cf 0) (Z : zk_S a_kinds nx cf ic i stk) (W : zk_W a_kinds n stk)
    (S : xk_S a_openToken a_openStage a_openClause stk) (sa : ∀ p, nx p ≠ 0 → a_after p = nI (nx p)) (sc : ∀ h op, h < 32 → op < 8 → a_caseFor (8 * h + op) = nI (cf h op))
    (H : ∀ af oT oS oC cs, (∀ p, (zc_take a_kinds a_argA i stk nx cf).2.1 p ≠ 0 → af p = nI ((zc_take a_kinds a_argA i stk nx cf).2.1 p)) → (∀ h op, h < 32 → op < 8 → cs (8 * h + op) = nI ((zc_take a_kinds a_argA i stk nx cf).2.2 h op)) → xk_S oT oS oC (zc_take a_kinds a_argA i stk nx cf).1 →
      post (f_maxTokens, f_maxPerforms, f_count, nI (zc_take a_kinds a_argA i stk nx cf).1.length, f_status, f_errorCode, f_errorPos, f_trapCode, f_trapPos, f_emittedCount, f_performCount, f_resumeCount, f_nodeCount, f_top, f_bindingCount, f_next, f_scope, f_value, a_kinds, a_argA, a_argB, a_argC, af, oT, oS, oC, cs, a_emitted, a_nodeToken, a_nodeStage, a_nodeHeld, a_nodeScope, a_nodeBelow, a_bindingName, a_bindingValue, a_bindingOuter, a_resumptionFrame, a_resumptionTop, a_resumptionBottom)) :
    wpX_take post (f_maxTokens, f_maxPerforms, f_count, nI stk.length, f_status, f_errorCode, f_errorPos, f_trapCode, f_trapPos, f_emittedCount, f_performCount, f_resumeCount, f_nodeCount, f_top, f_bindingCount, f_next, f_scope, f_value, a_kinds, a_argA, a_argB, a_argC, a_after, a_openToken, a_openStage, a_openClause, a_caseFor, a_emitted, a_nodeToken, a_nodeStage, a_nodeHeld, a_nodeScope, a_nodeBelow, a_bindingName, a_bindingValue, a_bindingOuter, a_resumptionFrame, a_resumptionTop, a_resumptionBottom) (nI i) := by
  have hci : (nI i).toNatClampNeg = i := nI_clamp (by omega)
  have hii : vp_in (nI i) 32 := vp_in_nI (by omega) (by decide)
  obtain ⟨-, d2, -, -⟩ := zc_f0 F
  have hl := W.1
  refine ⟨hii, xm_r hci rfl ?_⟩
  unfold zc_take at H
  by_cases k1 : a_kinds i = 1 ∨ a_kinds i = 2
  · rw [if_pos k1] at H
    have hA := zc_okA d2 Z (by rcases k1 with k | k <;> (rw [k]; decide))
    have Q : wX_take_56 post (nI i) f_maxTokens f_maxPerforms f_count (nI stk.length) f_status f_errorCode f_errorPos f_trapCode f_trapPos f_emittedCount f_performCount f_resumeCount f_nodeCount f_top f_bindingCount f_next f_scope f_value a_kinds a_argA a_argB a_argC a_after a_openToken a_openStage a_openClause a_caseFor a_emitted a_nodeToken a_nodeStage a_nodeHeld a_nodeScope a_nodeBelow a_bindingName a_bindingValue a_bindingOuter a_resumptionFrame a_resumptionTop a_resumptionBottom := xc_fp hn hi rfl (nI_1 i) hi W hA sa S (fun af' oS' h1 h2 => H af' _ oS' _ _ h1 sc h2)
    rcases k1 with k | k
    · exact br_t k Q
    · exact br_f (by rw [k]; decide) (br_t k Q)
  · rw [if_neg k1] at H
    refine br_f (fun z => k1 (Or.inl z)) (br_f (fun z => k1 (Or.inr z)) ?_)
    by_cases k14 : a_kinds i = 14
    · rw [if_pos k14] at H
      refine br_t k14 ?_
      rw [k14] at d2
      obtain ⟨t, c, es, rfl, h13⟩ := zc_ok14 d2
      obtain ⟨s1, s2, s3, s4⟩ := S
      rw [List.length_cons] at hl
      have hcl : (nI es.length).toNatClampNeg = es.length := nI_clamp (by omega)
      have hil : vp_in (nI es.length) 32 := vp_in_nI (by omega) (by decide)
      rw [List.length_cons]
      unfold wpX_startClause
      dsimp only
      rw [nI_pred, hcl]
      refine ⟨hil, nm_e ⟨hil, nm_e ?_⟩⟩
      exact H a_after a_openToken _ _ a_caseFor sa sc ⟨s1, zu_s, fun _ => zu_s, xk_m (fun j hj => ⟨rfl, zu_n (by omega), zu_n (by omega)⟩) s4⟩
    · rw [if_neg k14] at H
      refine br_f k14 ?_
      by_cases k15 : a_kinds i = 15
      · rw [if_pos k15] at H
        obtain ⟨t, c, es, rfl, h13⟩ := zc_ok15 (Or.inl k15) d2
        obtain ⟨⟨op, ho, hA⟩, -⟩ := hT.2.2.2.2 k15
        obtain ⟨s1, s2, s3, s4⟩ := S
        rw [List.length_cons] at hl
        have w1 := (W.2 _ (List.mem_cons_self ..)).1
        dsimp only at w1
        have hcl : (nI es.length).toNatClampNeg = es.length := nI_clamp (by omega)
        have hil : vp_in (nI es.length) 32 := vp_in_nI (by omega) (by decide)
        have e8 : nI t * 8 + nI op = nI (8 * t + op) := by
          have : nI t * 8 = nI (t * 8) := (Int32.ofNat_mul t 8).symm
          rw [this, nI_add, Nat.mul_comm]
        have hc8 : (nI (8 * t + op)).toNatClampNeg = 8 * t + op := nI_clamp (by omega)
        rw [hA, nI_clamp (by omega)] at H
        refine br_t k15 ?_
        rw [List.length_cons]
        rw [nI_pred, hcl, s1, hci, hA, e8, hc8]
        refine ⟨hil, hii, vp_in_nI (by omega) (by decide), nm_e ?_⟩
        unfold wpX_startClause
        dsimp only
        rw [nI_pred, hcl]
        refine ⟨hil, nm_e ⟨hil, nm_e ?_⟩⟩
        exact H a_after a_openToken _ _ _ sa (xn_c ho sc) ⟨s1, zu_s, fun _ => zu_s, xk_m (fun j hj => ⟨rfl, zu_n (by omega), zu_n (by omega)⟩) s4⟩
      · rw [if_neg k15] at H
        refine br_f k15 ?_
        by_cases k16 : a_kinds i = 16
        · rw [if_pos k16] at H
          obtain ⟨t, c, es, rfl, h13⟩ := zc_ok15 (Or.inr k16) d2
          obtain ⟨s1, s2, s3, s4⟩ := S
          rw [List.length_cons] at hl
          have w1 := (W.2 _ (List.mem_cons_self ..)).1
          dsimp only at w1
          have hcl : (nI es.length).toNatClampNeg = es.length := nI_clamp (by omega)
          have hil : vp_in (nI es.length) 32 := vp_in_nI (by omega) (by decide)
          refine br_t k16 ?_
          rw [List.length_cons]
          refine nm_r (nI_pred _) ⟨hil, ?_⟩
          rw [hcl]
          exact xc_fp (st := t) hn hi s1 (nI_1 i) w1 (zk_Wt W) Z.2.2 sa s4 (fun af' oS' h1 h2 => H af' _ oS' _ _ h1 sc h2)
        · rw [if_neg k16] at H
          have hs := zk_len Z
          have hcl : (nI stk.length).toNatClampNeg = stk.length := nI_clamp (by omega)
          have hil : vp_in (nI stk.length) 32 := vp_in_nI (by omega) (by decide)
          refine br_f k16 ⟨hil, nm_r (e' := upd a_openToken stk.length (nI i)) (by rw [hcl]) ⟨hil, nm_r (e' := upd a_openStage stk.length 0) (by rw [hcl]) (nm_r (nI_1 _) ?_)⟩⟩
          exact H a_after _ _ a_openClause a_caseFor sa sc ⟨zu_s, zu_s, fun z => absurd z (by decide), xk_m (fun j hj => ⟨zu_n (by omega), zu_n (by omega), rfl⟩) S⟩
theorem xc_49 {post : Int32 → SX → Prop} {f : Nat} (hf : f ≠ 0) (hf5 : f < 100) {x2 : Int32} (H : post (nI f) (f_maxTokens, f_maxPerforms, f_count, f_openCount, f_status, nI f, x2, f_trapCode, f_trapPos, f_emittedCount, f_performCount, f_resumeCount, f_nodeCount, f_top, f_bindingCount, f_next, f_scope, f_value, a_kinds, a_argA, a_argB, a_argC, a_after, a_openToken, a_openStage, a_openClause, a_caseFor, a_emitted, a_nodeToken, a_nodeStage, a_nodeHeld, a_nodeScope, a_nodeBelow, a_bindingName, a_bindingValue, a_bindingOuter, a_resumptionFrame, a_resumptionTop, a_resumptionBottom)) : wX_compile_49 post (nI f) x2 f_maxTokens f_maxPerforms f_count f_openCount f_status f_errorCode f_errorPos f_trapCode f_trapPos f_emittedCount f_performCount f_resumeCount f_nodeCount f_top f_bindingCount f_next f_scope f_value a_kinds a_argA a_argB a_argC a_after a_openToken a_openStage a_openClause a_caseFor a_emitted a_nodeToken a_nodeStage a_nodeHeld a_nodeScope a_nodeBelow a_bindingName a_bindingValue a_bindingOuter a_resumptionFrame a_resumptionTop a_resumptionBottom :=
  br_f (nI_ne0 (by omega) (by omega)) (br_f (nI_ne0 (by omega) (by omega)) H)
theorem zc_fle {stk : List ZE} {cf : Nat → Nat → Nat} {f : Nat} (F : zc_flt K A B C i stk cf f) : f ≤ 5 := by
  unfold zc_flt at F
  split at F
  · omega
  · rcases F with ⟨-, h⟩ | ⟨-, h⟩
    · omega
    · rcases h with ⟨-, -, h⟩ | ⟨-, -, h⟩ | ⟨-, -, h⟩ | ⟨-, -, -, h⟩ <;> omega
theorem xc_main {post : Int32 → SX → Prop} (hn : n ≤ 32) (hT : ∀ j, j < n → zl_T a_kinds a_argA a_argB a_argC j) {er ps : Nat} {nx' : Nat → Nat} {cf' : Nat → Nat → Nat}
    (H : ∀ oc af oT oS oC cs, (∀ p, nx' p ≠ 0 → af p = nI (nx' p)) → (∀ h op, h < 32 → op < 8 → cs (8 * h + op) = nI (cf' h op)) → post (nI er) (f_maxTokens, f_maxPerforms, nI n, oc, (if er = 0 then 1 else f_status), nI er, nI ps, f_trapCode, f_trapPos, f_emittedCount, f_performCount, f_resumeCount, f_nodeCount, f_top, f_bindingCount, f_next, f_scope, f_value, a_kinds, a_argA, a_argB, a_argC, af, oT, oS, oC, cs, a_emitted, a_nodeToken, a_nodeStage, a_nodeHeld, a_nodeScope, a_nodeBelow, a_bindingName, a_bindingValue, a_bindingOuter, a_resumptionFrame, a_resumptionTop, a_resumptionBottom)) :
    ∀ (d i : Nat) (stk : List ZE) (nx : Nat → Nat) (cf : Nat → Nat → Nat) (fu : Nat) (af oT oS oC cs : Nat → Int32), i + d = n → d < fu → zc_I a_kinds i stk nx cf → zc_res a_kinds a_argA a_argB a_argC d i stk nx cf er ps nx' cf' →
      (∀ p, nx p ≠ 0 → af p = nI (nx p)) → (∀ h op, h < 32 → op < 8 → cs (8 * h + op) = nI (cf h op)) → xk_S oT oS oC stk →
      wX_compile_17 post fu 0 (nI i) f_maxTokens f_maxPerforms (nI n) (nI stk.length) f_status f_errorCode f_errorPos f_trapCode f_trapPos f_emittedCount f_performCount f_resumeCount f_nodeCount f_top f_bindingCount f_next f_scope f_value a_kinds a_argA a_argB a_argC af oT oS oC cs a_emitted a_nodeToken a_nodeStage a_nodeHeld a_nodeScope a_nodeBelow a_bindingName a_bindingValue a_bindingOuter a_resumptionFrame a_resumptionTop a_resumptionBottom := by
  intro d
  induction d with
  | zero =>
    intro i stk nx cf fu af oT oS oC cs hi hf I Rr sa sc S
    obtain ⟨fu, rfl⟩ : ∃ f', fu = f' + 1 := ⟨fu - 1, by omega⟩
    have hin : i = n := by omega
    obtain ⟨rfl, rfl, h⟩ := Rr
    have hlen : stk.length ≤ 32 := by
      obtain ⟨ic, -, -, -, hS⟩ := I
      rcases hS with hS | ⟨rfl, -⟩
      · have := zk_len hS; omega
      · simp
    refine br_t (nI_le (by omega) (by omega)) (br_t rfl ?_)
    rw [hin] at h
    rw [hin]
    rcases h with ⟨h1, rfl, hp⟩ | ⟨h1, rfl, hp⟩
    · have Q := H (nI stk.length) af oT oS oC cs sa sc
      rw [if_neg (by decide), hp] at Q
      by_cases z : n = 0
      · have z0 : nI n = 0 := by rw [z]; rfl
        exact br_t z0 (br_f (by decide) Q)
      · have hne := h1.resolve_left z
        have hpos : 0 < stk.length := List.length_pos_iff.mpr hne
        exact br_f (nI_ne0 (by omega) (by omega)) (br_f (nI_nle hpos (by omega)) (br_f (by decide) Q))
    · have z : n ≠ 0 := fun y => h1 (Or.inl y)
      have hs : stk = [] := Classical.byContradiction fun y => h1 (Or.inr y)
      subst hs
      have Q := H (nI 0) af oT oS oC cs sa sc
      rw [if_pos rfl, hp] at Q
      exact br_f (nI_ne0 (by omega) (by omega)) (br_t (by decide) (br_t rfl Q))
  | succ d ih =>
    intro i stk nx cf fu af oT oS oC cs hi hf I Rr sa sc S
    obtain ⟨fu, rfl⟩ : ∃ f', fu = f' + 1 := ⟨fu - 1, by omega⟩
    have I' := I
    obtain ⟨ic, G, hz, hcf, hS⟩ := I
    have W : zk_W a_kinds n stk := by
      rcases hS with hS | ⟨rfl, -⟩
      · refine ⟨by have := zk_len hS; omega, fun e he => ?_⟩
        obtain ⟨y1, y2, y3⟩ := zk_bnd hS e he
        exact ⟨by omega, y2, fun z => ⟨by have := (y3 z).1; omega, (y3 z).2⟩⟩
      · exact ⟨by simp, fun e he => nomatch he⟩
    have hcf31 : ∀ h op, cf h op < 2 ^ 31 := fun h op => by
      rcases Nat.eq_zero_or_pos (cf h op) with z | z
      · omega
      · have := hcf h op (by omega)
        omega
    obtain ⟨f, F, h⟩ := Rr
    refine br_f (nI_ge (by omega) (by omega)) (xc_flt hn (by omega) hT W S sc hcf31 F ?_)
    rcases h with ⟨h0, rfl, rfl, rfl, rfl⟩ | ⟨rfl, h⟩
    · have h5 := zc_fle F
      have Q := H (nI stk.length) af oT oS oC cs sa sc
      rw [if_neg h0] at Q
      exact br_f (nI_ne0 (by omega) (by omega)) (xc_49 h0 (by omega) Q)
    · have Z : zk_S a_kinds nx cf ic i stk := hS.elim id (fun z => absurd ⟨z.2.1, z.1⟩ (zc_f0 F).1)
      refine br_t rfl (xc_take hn (by omega) (hT i (by omega)) F Z W S sa sc ?_)
      intro af' oT' oS' oC' cs' sa' sc' S'
      exact nm_r (nI_1 i) (ih (i + 1) _ _ _ fu af' oT' oS' oC' cs' (by omega) (by omega) (zc_step (hT i (by omega)) I' F) h sa' sc' S')
theorem xc_scan {post : SX → Prop} (H : post (f_maxTokens, f_maxPerforms, f_count, 0, f_status, f_errorCode, f_errorPos, f_trapCode, f_trapPos, f_emittedCount, f_performCount, f_resumeCount, f_nodeCount, f_top, f_bindingCount, f_next, f_scope, f_value, a_kinds, a_argA, a_argB, a_argC, a_after, a_openToken, a_openStage, a_openClause, yl_ce yz0 a_caseFor 0 256, a_emitted, a_nodeToken, a_nodeStage, a_nodeHeld, a_nodeScope, a_nodeBelow, a_bindingName, a_bindingValue, a_bindingOuter, a_resumptionFrame, a_resumptionTop, a_resumptionBottom)) : ∀ (d j fu : Nat), j + d = 256 → d < fu →
    wX_startScan_7 post f_maxTokens f_maxPerforms f_count 0 f_status f_errorCode f_errorPos f_trapCode f_trapPos f_emittedCount f_performCount f_resumeCount f_nodeCount f_top f_bindingCount f_next f_scope f_value fu (nI j) a_kinds a_argA a_argB a_argC a_after a_openToken a_openStage a_openClause (yl_ce yz0 a_caseFor 0 j) a_emitted a_nodeToken a_nodeStage a_nodeHeld a_nodeScope a_nodeBelow a_bindingName a_bindingValue a_bindingOuter a_resumptionFrame a_resumptionTop a_resumptionBottom := by
  intro d
  induction d with
  | zero =>
    intro j fu hj hf
    obtain ⟨fu, rfl⟩ : ∃ f', fu = f' + 1 := ⟨fu - 1, by omega⟩
    have : j = 256 := by omega
    subst this
    exact br_t (nI_le (a := 256) (by omega) (by decide)) H
  | succ d ih =>
    intro j fu hj hf
    obtain ⟨fu, rfl⟩ : ∃ f', fu = f' + 1 := ⟨fu - 1, by omega⟩
    have hcj : (nI j).toNatClampNeg = j := nI_clamp (by omega)
    exact br_f (nI_ge (b := 256) (by omega) (by decide)) ⟨vp_in_nI (by omega) (by decide), nm_r (e' := yl_ce yz0 a_caseFor 0 (j + 1)) (by rw [hcj]; exact yl_s yz0 a_caseFor 0 j) (nm_r (nI_1 j) (ih (j + 1) fu (by omega) (by omega)))⟩
theorem xc_comp {post : Int32 → SX → Prop} (hn : n ≤ 32) (hT : ∀ j, j < n → zl_T a_kinds a_argA a_argB a_argC j) (hst : f_status = 0) {er ps : Nat} {nx' : Nat → Nat} {cf' : Nat → Nat → Nat} (Rr : zc_res a_kinds a_argA a_argB a_argC n 0 [] (fun _ => 0) (fun _ _ => 0) er ps nx' cf')
    (H : ∀ oc af oT oS oC cs, (∀ p, nx' p ≠ 0 → af p = nI (nx' p)) → (∀ h op, h < 32 → op < 8 → cs (8 * h + op) = nI (cf' h op)) → post (nI er) (f_maxTokens, f_maxPerforms, nI n, oc, (if er = 0 then 1 else f_status), nI er, nI ps, f_trapCode, f_trapPos, f_emittedCount, f_performCount, f_resumeCount, f_nodeCount, f_top, f_bindingCount, f_next, f_scope, f_value, a_kinds, a_argA, a_argB, a_argC, af, oT, oS, oC, cs, a_emitted, a_nodeToken, a_nodeStage, a_nodeHeld, a_nodeScope, a_nodeBelow, a_bindingName, a_bindingValue, a_bindingOuter, a_resumptionFrame, a_resumptionTop, a_resumptionBottom)) :
    wpX_compile post (f_maxTokens, f_maxPerforms, nI n, f_openCount, f_status, f_errorCode, f_errorPos, f_trapCode, f_trapPos, f_emittedCount, f_performCount, f_resumeCount, f_nodeCount, f_top, f_bindingCount, f_next, f_scope, f_value, a_kinds, a_argA, a_argB, a_argC, a_after, a_openToken, a_openStage, a_openClause, a_caseFor, a_emitted, a_nodeToken, a_nodeStage, a_nodeHeld, a_nodeScope, a_nodeBelow, a_bindingName, a_bindingValue, a_bindingOuter, a_resumptionFrame, a_resumptionTop, a_resumptionBottom) := by
  refine br_t hst ?_
  have W := xc_scan (post := fun u => match u with | (f_maxTokens, f_maxPerforms, f_count, f_openCount, f_status, f_errorCode, f_errorPos, f_trapCode, f_trapPos, f_emittedCount, f_performCount, f_resumeCount, f_nodeCount, f_top, f_bindingCount, f_next, f_scope, f_value, a_kinds, a_argA, a_argB, a_argC, a_after, a_openToken, a_openStage, a_openClause, a_caseFor, a_emitted, a_nodeToken, a_nodeStage, a_nodeHeld, a_nodeScope, a_nodeBelow, a_bindingName, a_bindingValue, a_bindingOuter, a_resumptionFrame, a_resumptionTop, a_resumptionBottom) => ∃ n17 : Nat, wX_compile_17 post n17 0 0 f_maxTokens f_maxPerforms f_count f_openCount f_status f_errorCode f_errorPos f_trapCode f_trapPos f_emittedCount f_performCount f_resumeCount f_nodeCount f_top f_bindingCount f_next f_scope f_value a_kinds a_argA a_argB a_argC a_after a_openToken a_openStage a_openClause a_caseFor a_emitted a_nodeToken a_nodeStage a_nodeHeld a_nodeScope a_nodeBelow a_bindingName a_bindingValue a_bindingOuter a_resumptionFrame a_resumptionTop a_resumptionBottom) (f_maxTokens := f_maxTokens) (f_maxPerforms := f_maxPerforms) (f_count := nI n) (f_status := f_status) (f_errorCode := f_errorCode) (f_errorPos := f_errorPos) (f_trapCode := f_trapCode) (f_trapPos := f_trapPos) (f_emittedCount := f_emittedCount) (f_performCount := f_performCount) (f_resumeCount := f_resumeCount) (f_nodeCount := f_nodeCount) (f_top := f_top) (f_bindingCount := f_bindingCount) (f_next := f_next) (f_scope := f_scope) (f_value := f_value) (a_kinds := a_kinds) (a_argA := a_argA) (a_argB := a_argB) (a_argC := a_argC) (a_after := a_after) (a_openToken := a_openToken) (a_openStage := a_openStage) (a_openClause := a_openClause) (a_caseFor := a_caseFor) (a_emitted := a_emitted) (a_nodeToken := a_nodeToken) (a_nodeStage := a_nodeStage) (a_nodeHeld := a_nodeHeld) (a_nodeScope := a_nodeScope) (a_nodeBelow := a_nodeBelow) (a_bindingName := a_bindingName) (a_bindingValue := a_bindingValue) (a_bindingOuter := a_bindingOuter) (a_resumptionFrame := a_resumptionFrame) (a_resumptionTop := a_resumptionTop) (a_resumptionBottom := a_resumptionBottom)
    ⟨n + 1, xc_main hn hT H n 0 [] (fun _ => 0) (fun _ _ => 0) (n + 1) a_after a_openToken a_openStage a_openClause _ (by omega) (by omega) zc_init Rr (fun p z => absurd rfl z) (fun h op h1 h2 => yl_z (by omega)) trivial⟩ 256 0 257 (by omega) (by omega)
  rw [yl_0] at W
  exact ⟨257, W⟩
end
end
section
def yk_h : List ZE → Nat
  | [] => 0
  | (_, s, _) :: es => yk_h es + (if s = 3 then 2 else 1)
def yk_k (K : Nat → Int32) (i t s c k : Nat) : Prop :=
  (K t ≠ 13 → k = s) ∧ (K t = 13 → (s ≤ 2 → k = s) ∧ (s = 3 → K c = 14 → k = 2) ∧ (s = 3 → K c = 15 → 3 ≤ k) ∧ (s = 4 → 3 ≤ k)) ∧ k ≤ i
def yk_S (K nP nK : Nat → Int32) (i : Nat) : List ZE → Prop
  | [] => True
  | (t, s, c) :: es => nP (yk_h es) = nI t ∧ (∃ k, nK (yk_h es) = nI k ∧ yk_k K i t s c k) ∧ (s = 3 → nP (yk_h es + 1) = nI c ∧ nK (yk_h es + 1) = 0) ∧ yk_S K nP nK i es
theorem yk_hs {t s c : Nat} {es : List ZE} (h : s ≠ 3) : yk_h ((t, s, c) :: es) = yk_h es + 1 := by
  show yk_h es + (if s = 3 then 2 else 1) = _
  rw [if_neg h]
theorem yk_h3 {t c : Nat} {es : List ZE} : yk_h ((t, 3, c) :: es) = yk_h es + 2 := rfl
theorem yk_m {K nP nK nP' nK' : Nat → Int32} {i i' : Nat} (hi : i ≤ i') : ∀ {es : List ZE}, (∀ j, j < yk_h es → nP' j = nP j ∧ nK' j = nK j) → yk_S K nP nK i es → yk_S K nP' nK' i' es
  | [], _, _ => trivial
  | (t, s, c) :: es, h, ⟨h1, ⟨k, h2, k1, k2, k3⟩, h3, h4⟩ => by
    have hle : yk_h es + 1 ≤ yk_h ((t, s, c) :: es) := by
      show yk_h es + 1 ≤ yk_h es + (if s = 3 then 2 else 1)
      split <;> omega
    obtain ⟨e1, e2⟩ := h (yk_h es) (by omega)
    refine ⟨by rw [e1]; exact h1, ⟨k, by rw [e2]; exact h2, k1, k2, by omega⟩, fun z => ?_, yk_m hi (fun j hj => h j (by omega)) h4⟩
    have h5 : yk_h ((t, s, c) :: es) = yk_h es + 2 := by rw [z]; rfl
    obtain ⟨e3, e4⟩ := h (yk_h es + 1) (by omega)
    rw [e3, e4]
    exact h3 z
def yk_W (K : Nat → Int32) (n : Nat) (es : List ZE) : Prop := ∀ e ∈ es, e.1 < n ∧ e.2.1 ≤ 4 ∧ K e.1 ≠ 14 ∧ K e.1 ≠ 15 ∧ (K e.1 ≠ 13 → e.2.1 < zc_pc (K e.1)) ∧ (e.2.1 = 3 → e.2.2 < n ∧ K e.1 = 13 ∧ (K e.2.2 = 14 ∨ K e.2.2 = 15))
theorem yk_bnd {K : Nat → Int32} {nx : Nat → Nat} {cf : Nat → Nat → Nat} {ic : Nat → Prop} {n : Nat} : ∀ {es : List ZE} {q : Nat}, zk_S K nx cf ic q es → q ≤ n → yk_W K n es ∧ yk_h es ≤ q
  | [], _, _, _ => ⟨(fun _ h => nomatch h), Nat.zero_le _⟩
  | (t, s, c) :: es, q, h, hq => by
    have hb := zk_bnd h
    obtain ⟨⟨e1, e2, e3, e4, e5⟩, h2, h3⟩ := h
    obtain ⟨y1, y2⟩ := yk_bnd h2 (n := n) (by omega)
    obtain ⟨b1, b2, b3⟩ := hb _ (List.mem_cons_self ..)
    dsimp only at b1 b2 b3
    have hk : K t ≠ 14 ∧ K t ≠ 15 ∧ (K t ≠ 13 → s < zc_pc (K t)) := by
      rcases e5 with ⟨f1, f2, f3⟩ | ⟨f1, f2⟩
      · refine ⟨fun z => ?_, fun z => ?_, fun _ => f2⟩
        · rw [z] at f1; exact absurd f1 (by unfold zk_bi; decide)
        · rw [z] at f1; exact absurd f1 (by unfold zk_bi; decide)
      · exact ⟨by rw [f1]; decide, by rw [f1]; decide, fun z => absurd f1 z⟩
    refine ⟨fun e he => ?_, ?_⟩
    · rcases List.mem_cons.mp he with rfl | he
      · exact ⟨by dsimp only; omega, b2, hk.1, hk.2.1, hk.2.2, fun z => ⟨by have := (b3 z).1; dsimp only; omega, (b3 z).2⟩⟩
      · exact y1 e he
    · by_cases z : s = 3
      · obtain ⟨z1, z2, z3⟩ := b3 z
        have htc : t ≠ c := fun y => by
          rw [← y, z2] at z3
          exact absurd z3 (by decide)
        have hqc : q = c + 1 := by
          rcases e5 with ⟨f1, f2, f3⟩ | ⟨f1, f2⟩
          · rw [z2] at f1; exact absurd f1 (by unfold zk_bi; decide)
          · rcases f2 with ⟨g1, g2, g3⟩ | ⟨g1, g2, g3, g4, g5⟩ | ⟨g1, g2, g3, g4, g5, g6⟩ | ⟨g1, g2, g3⟩
            · omega
            · exact g4
            · exact g5
            · omega
        subst z
        rw [yk_h3]
        omega
      · rw [yk_hs z]; omega
section
variable {f_maxT f_maxP f_n f_st f_eCode f_ePos f_outN f_perfN f_resN f_res f_trap f_tpos f_hp : Int32} {a_tk a_ta a_tb a_tc a_nxt a_par a_nP a_nK a_out a_ce a_fp a_fk a_fx a_fb a_fe a_rH a_rTop a_rBot a_used : Nat → Int32} {n : Nat} {nx : Nat → Nat} {cf : Nat → Nat → Nat} {i : Nat}
def yb_c (K A B C nP nK : Nat → Int32) (x : Int32) (j : Nat) : Prop :=
  (K (nP j).toNatClampNeg = 9 ∧ nK j = 1 ∧ A (nP j).toNatClampNeg = x) ∨ (K (nP j).toNatClampNeg = 14 ∧ (A (nP j).toNatClampNeg = x ∨ B (nP j).toNatClampNeg = x)) ∨ (K (nP j).toNatClampNeg = 15 ∧ (B (nP j).toNatClampNeg = x ∨ C (nP j).toNatClampNeg = x))
theorem yc_bl {post : Int32 → Prop} {x : Int32} {sp : Nat} (hsp : sp ≤ 33) (hP : ∀ j, j < sp → ∃ p, a_nP j = nI p ∧ p < 33) (H1 : (∃ j, j < sp ∧ yb_c a_tk a_ta a_tb a_tc a_nP a_nK x j) → post 1) (H0 : ¬ (∃ j, j < sp ∧ yb_c a_tk a_ta a_tb a_tc a_nP a_nK x j) → post 0) :
    ∀ (d j fu : Nat), j + d = sp → d < fu → (∀ j', j' < j → ¬ yb_c a_tk a_ta a_tb a_tc a_nP a_nK x j') → wY_bound_2 post (nI sp) x f_maxT f_maxP f_n f_st f_eCode f_ePos f_outN f_perfN f_resN f_res f_trap f_tpos f_hp a_tk a_ta a_tb a_tc a_nxt a_par a_nP a_nK a_out a_ce a_fp a_fk a_fx a_fb a_fe a_rH a_rTop a_rBot a_used fu (nI j) := by
  intro d
  induction d with
  | zero =>
    intro j fu hj hf hb
    obtain ⟨fu, rfl⟩ : ∃ f', fu = f' + 1 := ⟨fu - 1, by omega⟩
    exact br_t (nI_le (by omega) (by omega)) (H0 (fun ⟨j', h1, h2⟩ => hb j' (by omega) h2))
  | succ d ih =>
    intro j fu hj hf hb
    obtain ⟨fu, rfl⟩ : ∃ f', fu = f' + 1 := ⟨fu - 1, by omega⟩
    have hcj : (nI j).toNatClampNeg = j := nI_clamp (by omega)
    have hij : vp_in (nI j) 33 := vp_in_nI (by omega) (by decide)
    obtain ⟨p, hp, hp3⟩ := hP j (by omega)
    have hcp : (nI p).toNatClampNeg = p := nI_clamp (by omega)
    have hip : vp_in (nI p) 33 := vp_in_nI hp3 (by decide)
    have yes : yb_c a_tk a_ta a_tb a_tc a_nP a_nK x j → post 1 := fun z => H1 ⟨j, by omega, z⟩
    have nxt : ¬ yb_c a_tk a_ta a_tb a_tc a_nP a_nK x j → wY_bound_2 post (nI sp) x f_maxT f_maxP f_n f_st f_eCode f_ePos f_outN f_perfN f_resN f_res f_trap f_tpos f_hp a_tk a_ta a_tb a_tc a_nxt a_par a_nP a_nK a_out a_ce a_fp a_fk a_fx a_fb a_fe a_rH a_rTop a_rBot a_used fu (nI (j + 1)) := fun z => ih (j + 1) fu (by omega) (by omega) (fun j' hj' => by
      by_cases c : j' = j
      · rw [c]; exact z
      · exact hb j' (by omega))
    unfold yb_c at yes nxt
    rw [hp, hcp] at yes nxt
    refine br_f (nI_ge (by omega) (by omega)) ⟨hij, xm_r hcj hp ⟨hip, xm_r hcp rfl ?_⟩⟩
    rw [hcj, hcp]
    have R15 : ¬ (a_tk p = 9 ∧ a_nK j = 1 ∧ a_ta p = x) → ¬ (a_tk p = 14 ∧ (a_ta p = x ∨ a_tb p = x)) → wY_bound_81 post (wY_bound_2 post (nI sp) x f_maxT f_maxP f_n f_st f_eCode f_ePos f_outN f_perfN f_resN f_res f_trap f_tpos f_hp a_tk a_ta a_tb a_tc a_nxt a_par a_nP a_nK a_out a_ce a_fp a_fk a_fx a_fb a_fe a_rH a_rTop a_rBot a_used fu) (nI sp) x (nI j) (nI p) (a_tk p) f_maxT f_maxP f_n f_st f_eCode f_ePos f_outN f_perfN f_resN f_res f_trap f_tpos f_hp a_tk a_ta a_tb a_tc a_nxt a_par a_nP a_nK a_out a_ce a_fp a_fk a_fx a_fb a_fe a_rH a_rTop a_rBot a_used := by
      intro n1 n2
      refine br_c (fun k => ⟨hip, ?_⟩) (fun k => nm_r (nI_1 j) (nxt (fun z => z.elim n1 (fun w => w.elim n2 (fun q => k q.1)))))
      rw [hcp]
      refine br_c (fun z => yes (Or.inr (Or.inr ⟨k, Or.inl z⟩))) (fun y1 => ⟨hip, br_c (fun z => yes (Or.inr (Or.inr ⟨k, Or.inr z⟩))) (fun y2 => nm_r (nI_1 j) (nxt (fun z => z.elim n1 (fun w => w.elim n2 (fun q => q.2.elim y1 y2)))))⟩)
    have R14 : ¬ (a_tk p = 9 ∧ a_nK j = 1 ∧ a_ta p = x) → wY_bound_52 post (wY_bound_2 post (nI sp) x f_maxT f_maxP f_n f_st f_eCode f_ePos f_outN f_perfN f_resN f_res f_trap f_tpos f_hp a_tk a_ta a_tb a_tc a_nxt a_par a_nP a_nK a_out a_ce a_fp a_fk a_fx a_fb a_fe a_rH a_rTop a_rBot a_used fu) (nI sp) x (nI j) (nI p) (a_tk p) f_maxT f_maxP f_n f_st f_eCode f_ePos f_outN f_perfN f_resN f_res f_trap f_tpos f_hp a_tk a_ta a_tb a_tc a_nxt a_par a_nP a_nK a_out a_ce a_fp a_fk a_fx a_fb a_fe a_rH a_rTop a_rBot a_used := by
      intro n1
      refine br_c (fun k => ⟨hip, ?_⟩) (fun k => R15 n1 (fun z => k z.1))
      rw [hcp]
      refine br_c (fun z => yes (Or.inr (Or.inl ⟨k, Or.inl z⟩))) (fun y1 => ⟨hip, br_c (fun z => yes (Or.inr (Or.inl ⟨k, Or.inr z⟩))) (fun y2 => R15 n1 (fun z => z.2.elim y1 y2))⟩)
    exact br_c (fun k => ⟨hij, br_c (fun k1 => ⟨hip, br_c (fun z => yes (Or.inl ⟨k, k1, z⟩)) (fun z => R14 (fun w => z w.2.2))⟩) (fun k1 => R14 (fun w => k1 w.2.1))⟩) (fun k => R14 (fun w => k w.1))
theorem yc_bx {K A B C nP nK : Nat → Int32} {x : Int32} (hn : n ≤ 32) (hi : i < 2 ^ 31) : ∀ {es : List ZE}, yk_W K n es → yk_S K nP nK i es →
    ((∃ j, j < yk_h es ∧ yb_c K A B C nP nK x j) ↔ (∃ e ∈ es, zc_bd K A B C x e)) ∧ ((∃ j, j < yk_h es ∧ K (nP j).toNatClampNeg = 15) ↔ zc_ic K es) ∧ ∀ j, j < yk_h es → ∃ p, nP j = nI p ∧ p < 33
  | [], _, _ => ⟨⟨fun ⟨_, h, _⟩ => absurd h (Nat.not_lt_zero _), fun ⟨_, h, _⟩ => nomatch h⟩, ⟨fun ⟨_, h, _⟩ => absurd h (Nat.not_lt_zero _), fun ⟨_, h, _⟩ => nomatch h⟩, fun _ h => absurd h (Nat.not_lt_zero _)⟩
  | (t, s, c) :: es, W, S => by
    obtain ⟨w1, w2, w3, w4, w5, w6⟩ := W _ (List.mem_cons_self ..)
    dsimp only at w1 w2 w3 w4 w5 w6
    obtain ⟨h1, ⟨k, h2, k1, k2, k3⟩, h3, h4⟩ := S
    obtain ⟨I1, I2, I3⟩ := yc_bx (A := A) (B := B) (C := C) (x := x) hn hi (fun e he => W e (List.mem_cons_of_mem _ he)) h4
    have hct : (nP (yk_h es)).toNatClampNeg = t := by rw [h1]; exact nI_clamp (by omega)
    have b0 : yb_c K A B C nP nK x (yk_h es) ↔ (K t = 9 ∧ s = 1 ∧ A t = x) := by
      unfold yb_c
      rw [hct, h2]
      constructor
      · rintro (⟨q1, q2, q3⟩ | ⟨q1, -⟩ | ⟨q1, -⟩)
        · have hk : k = s := k1 (by rw [q1]; decide)
          exact ⟨q1, by have := (nI_eq (b := 1) (by omega) (by decide)).mp q2; omega, q3⟩
        · exact absurd q1 w3
        · exact absurd q1 w4
      · rintro ⟨q1, q2, q3⟩
        have hk : k = s := k1 (by rw [q1]; decide)
        exact Or.inl ⟨q1, by rw [hk, q2]; rfl, q3⟩
    by_cases z : s = 3
    · obtain ⟨z1, z2, z3⟩ := w6 z
      obtain ⟨h5, h6⟩ := h3 z
      subst z
      rw [yk_h3]
      have hcc : (nP (yk_h es + 1)).toNatClampNeg = c := by rw [h5]; exact nI_clamp (by omega)
      have b1 : yb_c K A B C nP nK x (yk_h es + 1) ↔ ((K c = 14 ∧ (A c = x ∨ B c = x)) ∨ (K c = 15 ∧ (B c = x ∨ C c = x))) := by
        unfold yb_c
        rw [hcc]
        constructor
        · rintro (⟨q1, -⟩ | q)
          · rw [q1] at z3
            exact absurd z3 (by decide)
          · exact q
        · exact fun q => Or.inr q
      refine ⟨⟨?_, ?_⟩, ⟨?_, ?_⟩, fun j hj => ?_⟩
      · rintro ⟨j, hj, hb⟩
        by_cases j0 : j < yk_h es
        · obtain ⟨e, he, q⟩ := I1.mp ⟨j, j0, hb⟩
          exact ⟨e, List.mem_cons_of_mem _ he, q⟩
        · by_cases j1 : j = yk_h es
          · rw [j1] at hb
            have := (b0.mp hb).2.1
            omega
          · have j2 : j = yk_h es + 1 := by omega
            rw [j2] at hb
            exact ⟨_, List.mem_cons_self .., Or.inr ⟨z2, rfl, b1.mp hb⟩⟩
      · rintro ⟨e, he, q⟩
        rcases List.mem_cons.mp he with rfl | he
        · rcases q with ⟨-, q, -⟩ | ⟨-, -, q⟩
          · exact absurd (show (3 : Nat) = 1 from q) (by decide)
          · exact ⟨yk_h es + 1, by omega, b1.mpr q⟩
        · obtain ⟨j, hj, hb⟩ := I1.mpr ⟨e, he, q⟩
          exact ⟨j, by omega, hb⟩
      · rintro ⟨j, hj, hb⟩
        by_cases j0 : j < yk_h es
        · obtain ⟨e, he, q⟩ := I2.mp ⟨j, j0, hb⟩
          exact ⟨e, List.mem_cons_of_mem _ he, q⟩
        · by_cases j1 : j = yk_h es
          · rw [j1, hct] at hb
            exact absurd hb w4
          · have j2 : j = yk_h es + 1 := by omega
            rw [j2, hcc] at hb
            exact ⟨_, List.mem_cons_self .., z2, rfl, hb⟩
      · rintro ⟨e, he, q⟩
        rcases List.mem_cons.mp he with rfl | he
        · exact ⟨yk_h es + 1, by omega, by rw [hcc]; exact q.2.2⟩
        · obtain ⟨j, hj, hb⟩ := I2.mpr ⟨e, he, q⟩
          exact ⟨j, by omega, hb⟩
      · by_cases j0 : j < yk_h es
        · exact I3 j j0
        · by_cases j1 : j = yk_h es
          · exact ⟨t, by rw [j1]; exact h1, by omega⟩
          · have j2 : j = yk_h es + 1 := by omega
            exact ⟨c, by rw [j2]; exact h5, by omega⟩
    · rw [yk_hs z]
      refine ⟨⟨?_, ?_⟩, ⟨?_, ?_⟩, fun j hj => ?_⟩
      · rintro ⟨j, hj, hb⟩
        by_cases j0 : j < yk_h es
        · obtain ⟨e, he, q⟩ := I1.mp ⟨j, j0, hb⟩
          exact ⟨e, List.mem_cons_of_mem _ he, q⟩
        · have j1 : j = yk_h es := by omega
          rw [j1] at hb
          exact ⟨_, List.mem_cons_self .., Or.inl (b0.mp hb)⟩
      · rintro ⟨e, he, q⟩
        rcases List.mem_cons.mp he with rfl | he
        · rcases q with q | ⟨-, q, -⟩
          · exact ⟨yk_h es, by omega, b0.mpr q⟩
          · exact absurd q z
        · obtain ⟨j, hj, hb⟩ := I1.mpr ⟨e, he, q⟩
          exact ⟨j, by omega, hb⟩
      · rintro ⟨j, hj, hb⟩
        by_cases j0 : j < yk_h es
        · obtain ⟨e, he, q⟩ := I2.mp ⟨j, j0, hb⟩
          exact ⟨e, List.mem_cons_of_mem _ he, q⟩
        · have j1 : j = yk_h es := by omega
          rw [j1, hct] at hb
          exact absurd hb w4
      · rintro ⟨e, he, q⟩
        rcases List.mem_cons.mp he with rfl | he
        · exact absurd q.2.1 z
        · obtain ⟨j, hj, hb⟩ := I2.mpr ⟨e, he, q⟩
          exact ⟨j, by omega, hb⟩
      · by_cases j0 : j < yk_h es
        · exact I3 j j0
        · have j1 : j = yk_h es := by omega
          exact ⟨t, by rw [j1]; exact h1, by omega⟩
theorem yc_il {post : Int32 → Prop} {sp : Nat} (hsp : sp ≤ 33) (hP : ∀ j, j < sp → ∃ p, a_nP j = nI p ∧ p < 33) (H1 : (∃ j, j < sp ∧ a_tk (a_nP j).toNatClampNeg = 15) → post 1) (H0 : ¬ (∃ j, j < sp ∧ a_tk (a_nP j).toNatClampNeg = 15) → post 0) :
    ∀ (d j fu : Nat), j + d = sp → d < fu → (∀ j', j' < j → ¬ a_tk (a_nP j').toNatClampNeg = 15) → wY_inCase_2 post (nI sp) f_maxT f_maxP f_n f_st f_eCode f_ePos f_outN f_perfN f_resN f_res f_trap f_tpos f_hp a_tk a_ta a_tb a_tc a_nxt a_par a_nP a_nK a_out a_ce a_fp a_fk a_fx a_fb a_fe a_rH a_rTop a_rBot a_used fu (nI j) := by
  intro d
  induction d with
  | zero =>
    intro j fu hj hf hb
    obtain ⟨fu, rfl⟩ : ∃ f', fu = f' + 1 := ⟨fu - 1, by omega⟩
    exact br_t (nI_le (by omega) (by omega)) (H0 (fun ⟨j', h1, h2⟩ => hb j' (by omega) h2))
  | succ d ih =>
    intro j fu hj hf hb
    obtain ⟨fu, rfl⟩ : ∃ f', fu = f' + 1 := ⟨fu - 1, by omega⟩
    have hcj : (nI j).toNatClampNeg = j := nI_clamp (by omega)
    have hij : vp_in (nI j) 33 := vp_in_nI (by omega) (by decide)
    obtain ⟨p, hp, hp3⟩ := hP j (by omega)
    refine br_f (nI_ge (by omega) (by omega)) ⟨hij, ?_⟩
    rw [hcj]
    refine ⟨by rw [hp]; exact vp_in_nI hp3 (by decide), br_c (fun z => H1 ⟨j, by omega, z⟩) (fun z => nm_r (nI_1 j) (ih (j + 1) fu (by omega) (by omega) (fun j' hj' => ?_)))⟩
    by_cases c : j' = j
    · rw [c]; exact z
    · exact hb j' (by omega)
theorem yc_dl {post : Int32 → Prop} {t op : Nat} (hi : i < 32) (ht : t < 32) (ho : op < 8) (hA : a_ta i = nI op) (sc : yr_P a_tk a_ta i cf a_par) (H1 : cf t op ≠ 0 → post 1) (H0 : cf t op = 0 → post 0) :
    ∀ (d j fu : Nat), j + d = i → d < fu → (cf t op = 0 ∨ j ≤ cf t op) → wY_dup_2 post (nI i) (nI t) f_maxT f_maxP f_n f_st f_eCode f_ePos f_outN f_perfN f_resN f_res f_trap f_tpos f_hp a_tk a_ta a_tb a_tc a_nxt a_par a_nP a_nK a_out a_ce a_fp a_fk a_fx a_fb a_fe a_rH a_rTop a_rBot a_used fu (nI j) := by
  have hci : (nI i).toNatClampNeg = i := nI_clamp (by omega)
  have hii : vp_in (nI i) 33 := vp_in_nI (by omega) (by decide)
  intro d
  induction d with
  | zero =>
    intro j fu hj hf hm
    obtain ⟨fu, rfl⟩ : ∃ f', fu = f' + 1 := ⟨fu - 1, by omega⟩
    refine br_t (nI_le (by omega) (by omega)) (H0 ?_)
    rcases Nat.eq_zero_or_pos (cf t op) with z | z
    · exact z
    · have := (sc.2 t op (by omega)).2.1
      omega
  | succ d ih =>
    intro j fu hj hf hm
    obtain ⟨fu, rfl⟩ : ∃ f', fu = f' + 1 := ⟨fu - 1, by omega⟩
    have hcj : (nI j).toNatClampNeg = j := nI_clamp (by omega)
    have hij : vp_in (nI j) 33 := vp_in_nI (by omega) (by decide)
    have next : (cf t op ≠ 0 → ¬ cf t op = j) → wY_dup_2 post (nI i) (nI t) f_maxT f_maxP f_n f_st f_eCode f_ePos f_outN f_perfN f_resN f_res f_trap f_tpos f_hp a_tk a_ta a_tb a_tc a_nxt a_par a_nP a_nK a_out a_ce a_fp a_fk a_fx a_fb a_fe a_rH a_rTop a_rBot a_used fu (nI (j + 1)) := fun z => ih (j + 1) fu (by omega) (by omega) (by
      rcases Nat.eq_zero_or_pos (cf t op) with y | y
      · exact Or.inl y
      · have := z (by omega)
        omega)
    refine br_f (nI_ge (by omega) (by omega)) ⟨hij, ?_⟩
    rw [hcj, hci, hA]
    by_cases k : a_tk j = 15
    · obtain ⟨h', op', y1, y2, y3, y4, y5⟩ := sc.1 j (by omega) k
      refine br_t k ⟨hij, ?_⟩
      by_cases kh : h' = t
      · subst kh
        refine br_t y3 ⟨hij, hii, ?_⟩
        by_cases ko : op' = op
        · subst ko
          exact br_t y4 (H1 (by rw [y5]; omega))
        · exact br_f (fun z => ko ((nI_eq (by omega) (by omega)).mp (y4.symm.trans z))) (nm_r (nI_1 j) (next (fun z0 z => by
            have := (sc.2 h' op z0).2.2.2.2
            rw [z, y4] at this
            exact ko ((nI_eq (by omega) (by omega)).mp this))))
      · exact br_f (fun z => kh ((nI_eq (by omega) (by omega)).mp (y3.symm.trans z))) (nm_r (nI_1 j) (next (fun z0 z => by
            have := (sc.2 t op z0).2.2.2.1
            rw [z, y3] at this
            exact kh ((nI_eq (by omega) (by omega)).mp this))))
    · exact br_f k (nm_r (nI_1 j) (next (fun z0 z => by
            have := (sc.2 t op z0).2.2.1
            rw [z] at this
            exact k this)))
end
end
section
abbrev YC : Type := Int32 → Int32 → Int32 → Int32 → Int32 → (Nat → Int32) → (Nat → Int32) → (Nat → Int32) → (Nat → Int32) → (Nat → Int32) → (Nat → Int32) → (Nat → Int32) → (Nat → Int32) → (Nat → Int32) → (Nat → Int32) → (Nat → Int32) → (Nat → Int32) → (Nat → Int32) → (Nat → Int32) → (Nat → Int32) → (Nat → Int32) → (Nat → Int32) → (Nat → Int32) → (Nat → Int32) → Prop
section
variable {f_maxT f_maxP f_n f_st f_eCode f_ePos f_outN f_perfN f_resN f_res f_trap f_tpos f_hp : Int32} {a_tk a_ta a_tb a_tc a_nxt a_par a_nP a_nK a_out a_ce a_fp a_fk a_fx a_fb a_fe a_rH a_rTop a_rBot a_used : Nat → Int32} {n : Nat} {i : Nat} {post : Int32 → SY → Prop} {J : YC} {x2 x3 x4 : Int32}
theorem yc_ar {post : Int32 → Prop} {k : Int32} (h14 : k ≠ 14) (h15 : k ≠ 15) (H : post (if k = 13 then 99 else nI (zc_pc k))) : wpY_arity post (f_maxT, f_maxP, f_n, f_st, f_eCode, f_ePos, f_outN, f_perfN, f_resN, f_res, f_trap, f_tpos, f_hp, a_tk, a_ta, a_tb, a_tc, a_nxt, a_par, a_nP, a_nK, a_out, a_ce, a_fp, a_fk, a_fx, a_fb, a_fe, a_rH, a_rTop, a_rBot, a_used) k := by
  unfold zc_pc at H
  by_cases k13 : k = 13
  · rw [if_pos k13] at H
    exact br_t k13 H
  · rw [if_neg k13] at H
    by_cases k8 : k = 8
    · rw [if_neg (by rw [k8]; decide), if_pos k8] at H
      exact br_f k13 (br_t k8 H)
    · by_cases k11 : k = 11
      · rw [if_pos (Or.inl k11)] at H
        exact br_f k13 (br_f k8 (br_t k11 H))
      · by_cases k12 : k = 12
        · rw [if_pos (Or.inr k12)] at H
          exact br_f k13 (br_f k8 (br_f k11 (br_t k12 H)))
        · rw [if_neg (fun z => z.elim k11 k12), if_neg k8] at H
          exact br_f k13 (br_f k8 (br_f k11 (br_f k12 (br_f h14 (br_f h15 H)))))
theorem yc_ac {post : Int32 → Prop} {k : Int32} (h : k = 14 ∨ k = 15) (H : post 1) : wpY_arity post (f_maxT, f_maxP, f_n, f_st, f_eCode, f_ePos, f_outN, f_perfN, f_resN, f_res, f_trap, f_tpos, f_hp, a_tk, a_ta, a_tb, a_tc, a_nxt, a_par, a_nP, a_nK, a_out, a_ce, a_fp, a_fk, a_fx, a_fb, a_fe, a_rH, a_rTop, a_rBot, a_used) k := by
  rcases h with rfl | rfl
  · exact br_f (by decide) (br_f (by decide) (br_f (by decide) (br_f (by decide) (br_t rfl H))))
  · exact br_f (by decide) (br_f (by decide) (br_f (by decide) (br_f (by decide) (br_f (by decide) (br_t rfl H)))))
theorem yc_go0 {x1 x8 x10 : Int32} {fu : Nat} (H : J x1 x2 x3 x4 (nI (i + 1)) a_tk a_ta a_tb a_tc a_nxt a_par a_nP a_nK a_out a_ce a_fp a_fk a_fx a_fb a_fe a_rH a_rTop a_rBot a_used) :
    wY_compile_343 post J x2 x3 (nI i) f_maxT f_maxP f_n f_st f_eCode f_ePos f_outN f_perfN f_resN f_res f_trap f_tpos f_hp (fu + 1) x1 x4 x8 0 x10 a_tk a_ta a_tb a_tc a_nxt a_par a_nP a_nK a_out a_ce a_fp a_fk a_fx a_fb a_fe a_rH a_rTop a_rBot a_used := br_t rfl (nm_r (nI_1 i) H)
theorem yc_fin (hn : n ≤ 32) (hi : i < n) : ∀ (stk : List ZE) (fu g st : Nat) (nx : Nat → Nat) (xt xK : Nat → Int32), yk_h stk + 2 ≤ fu → g + yk_h stk ≤ 33 → st < n → (∀ p, a_tk p = 14 ∨ a_tk p = 15 → nx p = 0) → a_tk st ≠ 14 → a_tk st ≠ 15 →
    yk_W a_tk n stk → zk_A a_tk stk → (∀ p, nx p ≠ 0 → xt p = nI (nx p)) → yk_S a_tk a_nP xK i stk →
    (∀ xt' xK', (∀ p, (zc_fin a_tk i (zn_set nx st (i + 1)) stk).1 p ≠ 0 → xt' p = nI ((zc_fin a_tk i (zn_set nx st (i + 1)) stk).1 p)) → yk_S a_tk a_nP xK' (i + 1) (zc_fin a_tk i (zn_set nx st (i + 1)) stk).2 →
      J (nI (yk_h (zc_fin a_tk i (zn_set nx st (i + 1)) stk).2)) x2 x3 (if (zc_fin a_tk i (zn_set nx st (i + 1)) stk).2 = [] then 1 else 0) (nI (i + 1)) a_tk a_ta a_tb a_tc xt' a_par a_nP xK' a_out a_ce a_fp a_fk a_fx a_fb a_fe a_rH a_rTop a_rBot a_used) →
    wY_compile_343 post J x2 x3 (nI i) f_maxT f_maxP f_n f_st f_eCode f_ePos f_outN f_perfN f_resN f_res f_trap f_tpos f_hp fu (nI (yk_h stk)) 0 (nI st) 1 (nI g) a_tk a_ta a_tb a_tc xt a_par a_nP xK a_out a_ce a_fp a_fk a_fx a_fb a_fe a_rH a_rTop a_rBot a_used := by
  intro stk
  induction stk with
  | nil =>
    intro fu g st nx xt xK hf hg hst hN h14 h15 W ZA sa S H
    obtain ⟨fu, rfl⟩ : ∃ f', fu = f' + 2 := ⟨fu - 2, by omega⟩
    have hcs : (nI st).toNatClampNeg = st := nI_clamp (by omega)
    have Q := H (upd xt st (nI (i + 1))) xK (xn_a sa) trivial
    rw [if_pos (c := (zc_fin a_tk i (zn_set nx st (i + 1)) []).2 = []) rfl] at Q
    exact br_f (by decide) (br_f (nI_ge (b := 34) (by simp [yk_h] at hg; omega) (by decide)) ⟨vp_in_nI (by omega) (by decide), nm_r (e' := upd xt st (nI (i + 1))) (by rw [hcs, nI_1]) (br_t rfl (nm_r (nI_1 g) (yc_go0 Q)))⟩)
  | cons e es ih =>
    intro fu g st nx xt xK hf hg hst hN h14 h15 W ZA sa S H
    obtain ⟨t, s, c⟩ := e
    obtain ⟨w1, w2, w3, w4, w5, w6⟩ := W _ (List.mem_cons_self ..)
    dsimp only at w1 w2 w3 w4 w5 w6
    obtain ⟨h1, ⟨k, h2, k1, k2, k3⟩, h3, h4⟩ := S
    have q := ZA _ (List.mem_cons_self ..)
    have hcs : (nI st).toNatClampNeg = st := nI_clamp (by omega)
    have his : vp_in (nI st) 33 := vp_in_nI (by omega) (by decide)
    have hct : (nI t).toNatClampNeg = t := nI_clamp (by omega)
    have hit : vp_in (nI t) 33 := vp_in_nI (by omega) (by decide)
    by_cases z : s = 3
    · obtain ⟨z1, z2, z3⟩ := w6 z
      obtain ⟨h5, h6⟩ := h3 z
      subst z
      rw [yk_h3] at hf hg
      obtain ⟨fu, rfl⟩ : ∃ f', fu = f' + 3 := ⟨fu - 3, by omega⟩
      have e : zc_fin a_tk i (zn_set nx st (i + 1)) ((t, 3, c) :: es) = (zn_set nx st (i + 1), (t, 4, c) :: es) := by simp only [zc_fin]; rw [if_pos (Or.inl z2)]
      rw [e] at H
      have hcc : (nI c).toNatClampNeg = c := nI_clamp (by omega)
      have hic : vp_in (nI c) 33 := vp_in_nI (by omega) (by decide)
      have hch : (nI (yk_h es + 1)).toNatClampNeg = yk_h es + 1 := nI_clamp (by omega)
      have hih : vp_in (nI (yk_h es + 1)) 33 := vp_in_nI (by omega) (by decide)
      have hch0 : (nI (yk_h es)).toNatClampNeg = yk_h es := nI_clamp (by omega)
      have hih0 : vp_in (nI (yk_h es)) 33 := vp_in_nI (by omega) (by decide)
      have hp1 : nI (yk_h es + 2) - 1 = nI (yk_h es + 1) := nI_pred _
      have hp0 : nI (yk_h es + 1) - 1 = nI (yk_h es) := nI_pred _
      have hcst : c ≠ st := fun y => by rw [y] at z3; exact z3.elim h14 h15
      have Q := H (upd (upd xt st (nI (i + 1))) c (nI (i + 1))) (upd (upd xK (yk_h es + 1) 1) (yk_h es) (nI (k + 1))) ?_ ?_
      · rw [yk_h3]
        rw [yk_hs (by omega), if_neg (by simp)] at Q
        refine br_f (by decide) (br_f (nI_ge (b := 34) (by omega) (by decide)) ⟨his, nm_r (e' := upd xt st (nI (i + 1))) (by rw [hcs, nI_1]) (br_f (nI_ne0 (by omega) (by omega)) ?_)⟩)
        rw [hp1, hch, h5, h6, hcc]
        refine ⟨hih, hih, nm_r (e' := upd xK (yk_h es + 1) 1) rfl ⟨hih, hih, hic, yc_ac z3 (br_t zu_s (nm_r ((zm_a _).trans hp1) ⟨hih, xm_r hch h5 (nm_r (nI_1 g) ?_)⟩))⟩⟩
        refine br_f (by decide) (br_f (nI_ge (b := 34) (by omega) (by decide)) ⟨hic, nm_r (e' := upd (upd xt st (nI (i + 1))) c (nI (i + 1))) (by rw [hcc, nI_1]) (br_f (nI_ne0 (by omega) (by omega)) ?_)⟩)
        rw [hp0, hch0, h1, zu_n (by omega), h2, hct]
        refine ⟨hih0, hih0, nm_r (e' := upd (upd xK (yk_h es + 1) 1) (yk_h es) (nI (k + 1))) (by rw [nI_1]) ⟨hih0, hih0, hit, yc_ar w3 w4 ?_⟩⟩
        rw [if_pos z2]
        refine br_f ?_ (nm_r (nI_1 _) (yc_go0 Q))
        rw [zu_s]
        exact fun y => absurd ((nI_eq (b := 99) (by omega) (by decide)).mp y) (by omega)
      · intro p hp
        have hpc : p ≠ c := fun y => hp (by rw [y]; show zn_set nx st (i + 1) c = 0; rw [zn_n hcst]; exact hN c z3)
        rw [zu_n hpc]
        exact xn_a sa p hp
      · refine ⟨h1, ⟨k + 1, zu_s, fun y => absurd z2 y, fun _ => ⟨fun y => by omega, fun y => by omega, fun y => by omega, fun _ => ?_⟩, by omega⟩, fun y => by omega, yk_m (Nat.le_succ _) (fun j hj => ⟨rfl, by rw [zu_n (by omega), zu_n (by omega)]⟩) h4⟩
        obtain ⟨-, a2, a3, -⟩ := k2 z2
        rcases z3 with y | y
        · have := a2 rfl y; omega
        · have := a3 rfl y; omega
    · rw [yk_hs z] at hf hg
      rw [yk_hs z]
      obtain ⟨fu, rfl⟩ : ∃ f', fu = f' + 2 := ⟨fu - 2, by omega⟩
      have hch0 : (nI (yk_h es)).toNatClampNeg = yk_h es := nI_clamp (by omega)
      have hih0 : vp_in (nI (yk_h es)) 33 := vp_in_nI (by omega) (by decide)
      have hp0 : nI (yk_h es + 1) - 1 = nI (yk_h es) := nI_pred _
      refine br_f (by decide) (br_f (nI_ge (b := 34) (by omega) (by decide)) ⟨his, nm_r (e' := upd xt st (nI (i + 1))) (by rw [hcs, nI_1]) (br_f (nI_ne0 (by omega) (by omega)) ?_)⟩)
      rw [hp0, hch0, h1, h2, hct]
      refine ⟨hih0, hih0, nm_r (e' := upd xK (yk_h es) (nI (k + 1))) (by rw [nI_1]) ⟨hih0, hih0, hit, yc_ar w3 w4 ?_⟩⟩
      rw [zu_s]
      by_cases hc : a_tk t = 13 ∨ s + 1 < zc_pc (a_tk t)
      · have e : zc_fin a_tk i (zn_set nx st (i + 1)) ((t, s, c) :: es) = (zn_set nx st (i + 1), (t, s + 1, c) :: es) := by simp only [zc_fin]; rw [if_pos hc]
        rw [e] at H
        have hpc := xc_pc3 (a_tk t)
        have hs3 : s + 1 ≠ 3 := fun y => by
          rcases hc with y1 | y1
          · exact q ⟨y1, Or.inl (by dsimp only; omega)⟩
          · omega
        have hs4 : a_tk t = 13 → s ≠ 4 := fun y1 y => q ⟨y1, Or.inr y⟩
        have Q := H (upd xt st (nI (i + 1))) (upd xK (yk_h es) (nI (k + 1))) (xn_a sa) ?_
        · rw [yk_hs hs3, if_neg (by simp)] at Q
          refine br_f ?_ (nm_r (nI_1 g) (yc_go0 Q))
          by_cases k13 : a_tk t = 13
          · rw [if_pos k13]
            exact fun y => absurd ((nI_eq (b := 99) (by omega) (by decide)).mp y) (by omega)
          · rw [if_neg k13, k1 k13]
            have := hc.resolve_left k13
            exact fun y => absurd ((nI_eq (by omega) (by omega)).mp y) (by omega)
        · refine ⟨h1, ⟨k + 1, zu_s, fun y => by rw [k1 y], fun y => ⟨fun y2 => by rw [(k2 y).1 (by omega)], fun y2 => by omega, fun y2 => by omega, fun y2 => by omega⟩, by omega⟩, fun y => absurd y hs3, yk_m (Nat.le_succ _) (fun j hj => ⟨rfl, zu_n (by omega)⟩) h4⟩
      · have e : zc_fin a_tk i (zn_set nx st (i + 1)) ((t, s, c) :: es) = zc_fin a_tk i (zn_set (zn_set nx st (i + 1)) t (i + 1)) es := by simp only [zc_fin]; rw [if_neg hc]
        rw [e] at H
        have k13 : ¬ a_tk t = 13 := fun y => hc (Or.inl y)
        have hs := w5 k13
        have hs1 : s + 1 = zc_pc (a_tk t) := by
          have : ¬ s + 1 < zc_pc (a_tk t) := fun y => hc (Or.inr y)
          omega
        rw [if_neg k13, k1 k13, hs1]
        refine br_t rfl (nm_r ((zm_a _).trans hp0) ⟨hih0, xm_r hch0 h1 (nm_r (nI_1 g) ?_)⟩)
        refine ih (fu + 1) (g + 1) t (zn_set nx st (i + 1)) _ _ (by omega) (by omega) w1 ?_ w3 w4 (fun e he => W e (List.mem_cons_of_mem _ he)) (fun e he => ZA e (List.mem_cons_of_mem _ he)) (xn_a sa) (yk_m (Nat.le_refl _) (fun j hj => ⟨rfl, zu_n (by omega)⟩) h4) H
        intro p hp
        rw [zn_n (fun y => by rw [y] at hp; exact hp.elim h14 h15)]
        exact hN p hp
end
end
section
theorem yr_P1 {K A par : Nat → Int32} {i : Nat} {cf : Nat → Nat → Nat} {z0 : Int32} (h : yr_P K A i cf par) (hk : K i ≠ 15) : yr_P K A (i + 1) cf (upd par i z0) := by
  refine ⟨fun j hj k => ?_, fun t op z => ?_⟩
  · have hji : j ≠ i := fun y => hk (by rw [← y]; exact k)
    obtain ⟨h', op, y1, y2, y3, y4, y5⟩ := h.1 j (by omega) k
    exact ⟨h', op, y1, y2, by rw [zu_n hji]; exact y3, y4, y5⟩
  · obtain ⟨y1, y2, y3, y4, y5⟩ := h.2 t op z
    exact ⟨y1, by omega, y3, by rw [zu_n (by omega)]; exact y4, y5⟩
theorem yr_P0 {K A par : Nat → Int32} {i : Nat} {cf : Nat → Nat → Nat} (h : yr_P K A i cf par) (hk : K i ≠ 15) : yr_P K A (i + 1) cf par := by
  refine ⟨fun j hj k => ?_, fun t op z => ?_⟩
  · have hji : j ≠ i := fun y => hk (by rw [← y]; exact k)
    exact h.1 j (by omega) k
  · obtain ⟨y1, y2, y3, y4, y5⟩ := h.2 t op z
    exact ⟨y1, by omega, y3, y4, y5⟩
theorem yr_P2 {K A par : Nat → Int32} {i t op : Nat} {cf : Nat → Nat → Nat} (h : yr_P K A i cf par) (hk : K i = 15) (hA : A i = nI op) (ho : op < 8) (ht : t < i) (h0 : cf t op = 0) : yr_P K A (i + 1) (zn_set2 cf t op i) (upd par i (nI t)) := by
  refine ⟨fun j hj k => ?_, fun h' op' z => ?_⟩
  · by_cases hji : j = i
    · subst hji
      exact ⟨t, op, ht, ho, zu_s, hA, zn_s2⟩
    · obtain ⟨h', op', y1, y2, y3, y4, y5⟩ := h.1 j (by omega) k
      refine ⟨h', op', y1, y2, by rw [zu_n hji]; exact y3, y4, ?_⟩
      rw [zn_n2 (fun y => ?_)]
      · exact y5
      · rw [y.1, y.2, h0] at y5
        omega
  · by_cases y : h' = t ∧ op' = op
    · obtain ⟨rfl, rfl⟩ := y
      rw [zn_s2]
      exact ⟨ht, by omega, hk, zu_s, hA⟩
    · rw [zn_n2 y] at z ⊢
      obtain ⟨y1, y2, y3, y4, y5⟩ := h.2 h' op' z
      exact ⟨y1, by omega, y3, by rw [zu_n (by omega)]; exact y4, y5⟩
section
variable {f_maxT f_maxP f_n f_st f_eCode f_ePos f_outN f_perfN f_resN f_res f_trap f_tpos f_hp : Int32} {a_tk a_ta a_tb a_tc a_nxt a_par a_nP a_nK a_out a_ce a_fp a_fk a_fx a_fb a_fe a_rH a_rTop a_rBot a_used : Nat → Int32} {n : Nat} {i : Nat} {post : Int32 → SY → Prop} {J : YC} {x3 : Int32} {nx : Nat → Nat} {cf : Nat → Nat → Nat} {ic : Nat → Prop} {stk : List ZE}
theorem yc_318 {sp : Nat} {z0 x2 x4 x8 : Int32} (hi : i < 32) (hsp : sp ≤ 32) (H : J (nI (sp + 1)) x2 x3 x4 (nI (i + 1)) a_tk a_ta a_tb a_tc a_nxt (upd a_par i z0) (upd a_nP sp (nI i)) (upd a_nK sp 0) a_out a_ce a_fp a_fk a_fx a_fb a_fe a_rH a_rTop a_rBot a_used) :
    wY_compile_318 post J (nI sp) x2 x3 x4 (nI i) x8 z0 (nI i) f_maxT f_maxP f_n f_st f_eCode f_ePos f_outN f_perfN f_resN f_res f_trap f_tpos f_hp a_tk a_ta a_tb a_tc a_nxt a_par a_nP a_nK a_out a_ce a_fp a_fk a_fx a_fb a_fe a_rH a_rTop a_rBot a_used := by
  have hci : (nI i).toNatClampNeg = i := nI_clamp (by omega)
  have hcs : (nI sp).toNatClampNeg = sp := nI_clamp (by omega)
  have his : vp_in (nI sp) 33 := vp_in_nI (by omega) (by decide)
  exact ⟨vp_in_nI (by omega) (by decide), nm_r (e' := upd a_par i z0) (by rw [hci]) ⟨his, nm_r (e' := upd a_nP sp (nI i)) (by rw [hcs]) ⟨his, nm_r (e' := upd a_nK sp 0) (by rw [hcs]) (nm_r (nI_1 sp) ⟨1, yc_go0 H⟩)⟩⟩⟩
theorem yc_take (hn : n ≤ 32) (hi : i < n) (hT : zl_T a_tk a_ta a_tb a_tc i) (F : zc_flt a_tk a_ta a_tb a_tc i stk cf 0) (G : ∀ p, nx p ≠ 0 → zl_C a_tk i nx cf (zk_cl nx) ic p) (Z : zk_S a_tk nx cf ic i stk)
    (S : yk_S a_tk a_nP a_nK i stk) (sa : ∀ p, nx p ≠ 0 → a_nxt p = nI (nx p)) (sc : yr_P a_tk a_ta i cf a_par)
    (H : ∀ xt xp nP nK, (∀ p, (zc_take a_tk a_ta i stk nx cf).2.1 p ≠ 0 → xt p = nI ((zc_take a_tk a_ta i stk nx cf).2.1 p)) → yr_P a_tk a_ta (i + 1) (zc_take a_tk a_ta i stk nx cf).2.2 xp → yk_S a_tk nP nK (i + 1) (zc_take a_tk a_ta i stk nx cf).1 →
      J (nI (yk_h (zc_take a_tk a_ta i stk nx cf).1)) 0 x3 (if (zc_take a_tk a_ta i stk nx cf).1 = [] then 1 else 0) (nI (i + 1)) a_tk a_ta a_tb a_tc xt xp nP nK a_out a_ce a_fp a_fk a_fx a_fb a_fe a_rH a_rTop a_rBot a_used) :
    wY_compile_242 post J (nI (yk_h stk)) 0 x3 0 (nI i) (a_tk i) f_maxT f_maxP f_n f_st f_eCode f_ePos f_outN f_perfN f_resN f_res f_trap f_tpos f_hp a_tk a_ta a_tb a_tc a_nxt a_par a_nP a_nK a_out a_ce a_fp a_fk a_fx a_fb a_fe a_rH a_rTop a_rBot a_used := by
  obtain ⟨W, hh⟩ := yk_bnd Z (n := n) (by omega)
  obtain ⟨-, d2, -, d4⟩ := zc_f0 F
  have hN : ∀ p, a_tk p = 14 ∨ a_tk p = 15 → nx p = 0 := by
    intro p hp
    rcases Nat.eq_zero_or_pos (nx p) with z | z
    · exact z
    · obtain ⟨-, -, L⟩ := G p (by omega)
      rcases L with ⟨c, -⟩ | ⟨c, -⟩ | ⟨c, -⟩ | ⟨c, -⟩ | ⟨c, -⟩ <;> (rcases hp with hp | hp <;> (rw [hp] at c; exact absurd c (by decide)))
  refine br_t rfl ?_
  unfold zc_take at H
  by_cases k1 : a_tk i = 1 ∨ a_tk i = 2
  · rw [if_pos k1] at H
    have hA := zc_okA d2 Z (by rcases k1 with k | k <;> (rw [k]; decide))
    have Q := yc_fin (post := post) (J := J) (x2 := 0) (x3 := x3) (f_maxT := f_maxT) (f_maxP := f_maxP) (f_n := f_n) (f_st := f_st) (f_eCode := f_eCode) (f_ePos := f_ePos) (f_outN := f_outN) (f_perfN := f_perfN) (f_resN := f_resN) (f_res := f_res) (f_trap := f_trap) (f_tpos := f_tpos) (f_hp := f_hp) hn hi stk (yk_h stk + 2) 0 i nx a_nxt a_nK (by omega) (by omega) hi hN (by rcases k1 with k | k <;> (rw [k]; decide)) (by rcases k1 with k | k <;> (rw [k]; decide)) W hA sa S (fun xt xK h1 h2 => H xt a_par a_nP xK h1 (yr_P0 sc (by rcases k1 with k | k <;> (rw [k]; decide))) h2)
    rcases k1 with k | k
    · exact br_f (by rw [k]; decide) (br_t k ⟨_, Q⟩)
    · exact br_f (by rw [k]; decide) (br_f (by rw [k]; decide) (br_t k ⟨_, Q⟩))
  · rw [if_neg k1] at H
    by_cases k14 : a_tk i = 14
    · rw [if_pos k14] at H
      rw [k14] at d2
      obtain ⟨t, c, es, rfl, h13⟩ := zc_ok14 d2
      obtain ⟨h1, ⟨k, h2, q1, q2, q3⟩, h3, h4⟩ := S
      have hs : yk_h ((t, 2, c) :: es) = yk_h es + 1 := yk_hs (by omega)
      rw [hs] at hh ⊢
      refine br_f (by rw [k14]; decide) (br_f (by rw [k14]; decide) (br_f (by rw [k14]; decide) (br_f (nI_nle (by omega) (by omega)) ?_)))
      rw [nI_pred]
      refine ⟨vp_in_nI (by omega) (by decide), yc_318 (by omega) (by omega) ?_⟩
      have Q := H a_nxt (upd a_par i (a_nP (nI (yk_h es)).toNatClampNeg)) (upd a_nP (yk_h es + 1) (nI i)) (upd a_nK (yk_h es + 1) 0) sa (yr_P1 sc (by rw [k14]; decide)) ⟨by rw [zu_n (by omega)]; exact h1, ⟨k, by rw [zu_n (by omega)]; exact h2, fun y => absurd h13 y, fun _ => ⟨fun y => by omega, fun _ _ => (q2 h13).1 (by omega), fun _ y => absurd (k14.symm.trans y) (by decide), fun y => by omega⟩, by omega⟩, fun _ => ⟨zu_s, zu_s⟩, yk_m (Nat.le_succ _) (fun j hj => ⟨zu_n (by omega), zu_n (by omega)⟩) h4⟩
      have e1 : zc_cl i ((t, 2, c) :: es) = (t, 3, i) :: es := rfl
      rw [e1] at Q
      rw [if_neg (by simp)] at Q
      exact Q
    · rw [if_neg k14] at H
      by_cases k15 : a_tk i = 15
      · rw [if_pos k15] at H
        obtain ⟨t, c, es, rfl, h13⟩ := zc_ok15 (Or.inl k15) d2
        obtain ⟨⟨op, ho, hA⟩, -⟩ := hT.2.2.2.2 k15
        have hAc : (a_ta i).toNatClampNeg = op := by rw [hA]; exact nI_clamp (by omega)
        have d4' : cf t op = 0 := by rw [← hAc]; exact d4 k15
        rw [hAc] at H
        have hti := Z.1.1
        obtain ⟨h1, ⟨k, h2, q1, q2, q3⟩, h3, h4⟩ := S
        have hs : yk_h ((t, 4, c) :: es) = yk_h es + 1 := yk_hs (by omega)
        have hce : (nI (yk_h es)).toNatClampNeg = yk_h es := nI_clamp (by omega)
        rw [hs] at hh ⊢
        refine br_f (by rw [k15]; decide) (br_f (by rw [k15]; decide) (br_f (by rw [k15]; decide) (br_f (nI_nle (by omega) (by omega)) ?_)))
        rw [nI_pred, hce, h1]
        refine ⟨vp_in_nI (by omega) (by decide), yc_318 (by omega) (by omega) ?_⟩
        have Q := H a_nxt (upd a_par i (nI t)) (upd a_nP (yk_h es + 1) (nI i)) (upd a_nK (yk_h es + 1) 0) sa (yr_P2 sc k15 hA ho hti d4') ⟨by rw [zu_n (by omega)]; exact h1, ⟨k, by rw [zu_n (by omega)]; exact h2, fun y => absurd h13 y, fun _ => ⟨fun y => by omega, fun _ y => absurd (k15.symm.trans y) (by decide), fun _ _ => (q2 h13).2.2.2 rfl, fun y => by omega⟩, by omega⟩, fun _ => ⟨zu_s, zu_s⟩, yk_m (Nat.le_succ _) (fun j hj => ⟨zu_n (by omega), zu_n (by omega)⟩) h4⟩
        have e1 : zc_cl i ((t, 4, c) :: es) = (t, 3, i) :: es := rfl
        rw [e1] at Q
        rw [if_neg (by simp)] at Q
        exact Q
      · rw [if_neg k15] at H
        by_cases k16 : a_tk i = 16
        · rw [if_pos k16] at H
          obtain ⟨t, c, es, rfl, h13⟩ := zc_ok15 (Or.inr k16) d2
          have w1 := (W _ (List.mem_cons_self ..)).1
          dsimp only at w1
          obtain ⟨h1, -, h3, h4⟩ := S
          have hs : yk_h ((t, 4, c) :: es) = yk_h es + 1 := yk_hs (by omega)
          have hce : (nI (yk_h es)).toNatClampNeg = yk_h es := nI_clamp (by omega)
          rw [hs] at hh ⊢
          have Q := yc_fin (post := post) (J := J) (x2 := 0) (x3 := x3) (f_maxT := f_maxT) (f_maxP := f_maxP) (f_n := f_n) (f_st := f_st) (f_eCode := f_eCode) (f_ePos := f_ePos) (f_outN := f_outN) (f_perfN := f_perfN) (f_resN := f_resN) (f_res := f_res) (f_trap := f_trap) (f_tpos := f_tpos) (f_hp := f_hp) hn hi es (yk_h es + 2) 0 t nx a_nxt a_nK (by omega) (by omega) w1 hN (by rw [h13]; decide) (by rw [h13]; decide) (fun e he => W e (List.mem_cons_of_mem _ he)) Z.2.2 sa h4 (fun xt xK g1 g2 => H xt a_par a_nP xK g1 (yr_P0 sc k15) g2)
          refine br_t k16 (br_f (nI_nle (by omega) (by omega)) (nm_r ((zm_a _).trans (nI_pred _)) ⟨vp_in_nI (by omega) (by decide), xm_r hce h1 ⟨_, Q⟩⟩))
        · rw [if_neg k16] at H
          have hs : yk_h ((i, 0, 0) :: stk) = yk_h stk + 1 := yk_hs (by omega)
          have Q : ∀ z0, J (nI (yk_h stk + 1)) 0 x3 0 (nI (i + 1)) a_tk a_ta a_tb a_tc a_nxt (upd a_par i z0) (upd a_nP (yk_h stk) (nI i)) (upd a_nK (yk_h stk) 0) a_out a_ce a_fp a_fk a_fx a_fb a_fe a_rH a_rTop a_rBot a_used := by
            intro z0
            have Q := H a_nxt (upd a_par i z0) (upd a_nP (yk_h stk) (nI i)) (upd a_nK (yk_h stk) 0) sa (yr_P1 sc k15) ⟨zu_s, ⟨0, zu_s, fun _ => rfl, fun _ => ⟨fun _ => rfl, fun y => by omega, fun y => by omega, fun y => by omega⟩, by omega⟩, fun y => by omega, yk_m (Nat.le_succ _) (fun j hj => ⟨zu_n (by omega), zu_n (by omega)⟩) S⟩
            rw [hs] at Q
            rw [if_neg (by simp)] at Q
            exact Q
          refine br_f k16 (br_f (fun z => k1 (Or.inl z)) (br_f (fun z => k1 (Or.inr z)) (br_c (fun _ => yc_318 (by omega) (by omega) (Q _)) (fun z => ⟨?_, yc_318 (by omega) (by omega) (Q _)⟩))))
          have hpos : 0 < yk_h stk := by
            rcases Nat.eq_zero_or_pos (yk_h stk) with y | y
            · rw [y] at z
              exact absurd (by decide) z
            · exact y
          obtain ⟨m, hm⟩ : ∃ m, yk_h stk = m + 1 := ⟨yk_h stk - 1, by omega⟩
          rw [hm, nI_pred]
          exact vp_in_nI (by omega) (by decide)
end
end
section
section
variable {f_maxT f_maxP f_n f_st f_eCode f_ePos f_outN f_perfN f_resN f_res f_trap f_tpos f_hp : Int32} {a_tk a_ta a_tb a_tc a_nxt a_par a_nP a_nK a_out a_ce a_fp a_fk a_fx a_fb a_fe a_rH a_rTop a_rBot a_used : Nat → Int32} {n : Nat} {i : Nat} {post : Int32 → SY → Prop} {J : YC} {x3 : Int32} {nx : Nat → Nat} {cf : Nat → Nat → Nat} {ic : Nat → Prop} {stk : List ZE}
theorem yc_166 {f : Nat} (hn : n ≤ 32) (hi : i < n) (hT : ∀ j, j < n → zl_T a_tk a_ta a_tb a_tc j) (W : yk_W a_tk n stk) (hh : yk_h stk ≤ i) (S : yk_S a_tk a_nP a_nK i stk) (sc : yr_P a_tk a_ta i cf a_par) (ok : zc_ok a_tk (a_tk i) stk)
    (Fx : ((a_tk i = 2 ∧ ¬ (∃ e ∈ stk, zc_bd a_tk a_ta a_tb a_tc (a_ta i) e) ∧ f = 3) ∨ (a_tk i = 17 ∧ ¬ zc_ic a_tk stk ∧ f = 4) ∨ (a_tk i = 15 ∧ cf (zc_top stk) (a_ta i).toNatClampNeg ≠ 0 ∧ f = 5) ∨
     (¬ (a_tk i = 2 ∧ ¬ (∃ e ∈ stk, zc_bd a_tk a_ta a_tb a_tc (a_ta i) e)) ∧ ¬ (a_tk i = 17 ∧ ¬ zc_ic a_tk stk) ∧ ¬ (a_tk i = 15 ∧ cf (zc_top stk) (a_ta i).toNatClampNeg ≠ 0) ∧ f = 0)))
    (H : wY_compile_242 post J (nI (yk_h stk)) (nI f) x3 0 (nI i) (a_tk i) f_maxT f_maxP f_n f_st f_eCode f_ePos f_outN f_perfN f_resN f_res f_trap f_tpos f_hp a_tk a_ta a_tb a_tc a_nxt a_par a_nP a_nK a_out a_ce a_fp a_fk a_fx a_fb a_fe a_rH a_rTop a_rBot a_used) : wY_compile_166 post J (nI (yk_h stk)) 0 x3 0 (nI i) (a_tk i) f_maxT f_maxP f_n f_st f_eCode f_ePos f_outN f_perfN f_resN f_res f_trap f_tpos f_hp a_tk a_ta a_tb a_tc a_nxt a_par a_nP a_nK a_out a_ce a_fp a_fk a_fx a_fb a_fe a_rH a_rTop a_rBot a_used := by
  have hci : (nI i).toNatClampNeg = i := nI_clamp (by omega)
  have hii : vp_in (nI i) 33 := vp_in_nI (by omega) (by decide)
  obtain ⟨B1, B2, B3⟩ := yc_bx (A := a_ta) (B := a_tb) (C := a_tc) (x := a_ta i) hn (by omega) W S
  by_cases k2 : a_tk i = 2
  · have k17 : ¬ a_tk i = 17 := by rw [k2]; decide
    have k15 : ¬ a_tk i = 15 := by rw [k2]; decide
    refine br_t k2 ⟨hii, ?_⟩
    rw [hci]
    refine ⟨yk_h stk + 1, yc_bl (by omega) B3 (fun z => br_f (by decide) (br_f k17 (br_f k15 ?_))) (fun z => br_t rfl ?_) (yk_h stk) 0 _ (by omega) (by omega) (fun j' hj' => absurd hj' (Nat.not_lt_zero _))⟩
    · have z' := B1.mp z
      rcases Fx with ⟨-, y, -⟩ | ⟨y, -⟩ | ⟨y, -⟩ | ⟨-, -, -, y⟩
      · exact absurd z' y
      · exact absurd y k17
      · exact absurd y k15
      · subst y; exact H
    · have z' := fun y => z (B1.mpr y)
      rcases Fx with ⟨-, -, y⟩ | ⟨y, -⟩ | ⟨y, -⟩ | ⟨y, -⟩
      · subst y; exact H
      · exact absurd y k17
      · exact absurd y k15
      · exact absurd ⟨k2, z'⟩ y
  · refine br_f k2 ?_
    by_cases k17 : a_tk i = 17
    · have k15 : ¬ a_tk i = 15 := by rw [k17]; decide
      refine br_t k17 ⟨yk_h stk + 1, yc_il (by omega) B3 (fun z => br_f (by decide) (br_f k15 ?_)) (fun z => br_t rfl ?_) (yk_h stk) 0 _ (by omega) (by omega) (fun j' hj' => absurd hj' (Nat.not_lt_zero _))⟩
      · have z' := B2.mp z
        rcases Fx with ⟨y, -⟩ | ⟨-, y, -⟩ | ⟨y, -⟩ | ⟨-, -, -, y⟩
        · exact absurd y k2
        · exact absurd z' y
        · exact absurd y k15
        · subst y; exact H
      · have z' := fun y => z (B2.mpr y)
        rcases Fx with ⟨y, -⟩ | ⟨-, -, y⟩ | ⟨y, -⟩ | ⟨-, y, -⟩
        · exact absurd y k2
        · subst y; exact H
        · exact absurd y k15
        · exact absurd ⟨k17, z'⟩ y
    · refine br_f k17 ?_
      by_cases k15 : a_tk i = 15
      · rw [k15] at ok
        obtain ⟨t, c0, es, rfl, h13⟩ := zc_ok15 (Or.inl rfl) ok
        obtain ⟨⟨op, ho, hA⟩, -⟩ := (hT i hi).2.2.2.2 k15
        obtain ⟨h1, -, -, -⟩ := S
        have hs : yk_h ((t, 4, c0) :: es) = yk_h es + 1 := yk_hs (by omega)
        have w1 := (W _ (List.mem_cons_self ..)).1
        dsimp only at w1
        have hce : (nI (yk_h es)).toNatClampNeg = yk_h es := nI_clamp (by omega)
        have hAc : (a_ta i).toNatClampNeg = op := by rw [hA]; exact nI_clamp (by omega)
        have ht : zc_top ((t, 4, c0) :: es) = t := rfl
        rw [hAc, ht] at Fx
        rw [hs] at H hh ⊢
        refine br_t k15 (br_f (nI_nle (by omega) (by omega)) ?_)
        rw [nI_pred, hce, h1]
        refine ⟨vp_in_nI (by omega) (by decide), i + 1, yc_dl (cf := cf) (by omega) (by omega) ho hA sc (fun z => br_f (by decide) ?_) (fun z => br_t rfl ?_) i 0 _ (by omega) (by omega) (Or.inr (Nat.zero_le _))⟩
        · rcases Fx with ⟨y, -⟩ | ⟨y, -⟩ | ⟨-, -, y⟩ | ⟨-, -, y, -⟩
          · exact absurd y k2
          · exact absurd y k17
          · subst y; exact H
          · exact absurd ⟨k15, z⟩ y
        · rcases Fx with ⟨y, -⟩ | ⟨y, -⟩ | ⟨-, y, -⟩ | ⟨-, -, -, y⟩
          · exact absurd y k2
          · exact absurd y k17
          · exact absurd z y
          · subst y; exact H
      · refine br_f k15 ?_
        rcases Fx with ⟨y, -⟩ | ⟨y, -⟩ | ⟨y, -⟩ | ⟨-, -, -, y⟩
        · exact absurd y k2
        · exact absurd y k17
        · exact absurd y k15
        · subst y; exact H
def yc_wt (w : Nat) (k : Int32) : Prop := if w = 0 then (k ≠ 14 ∧ k ≠ 15 ∧ k ≠ 16) else if w = 1 then k = 14 else (k = 15 ∨ k = 16)
theorem yc_99 {w : Nat} {k : Nat} {K6 : Int32} (hk : K6 = nI k) (hk1 : k ≤ 17) (hw : w ≤ 2) {x1 x3 : Int32} (H1 : yc_wt w K6 → wY_compile_166 post J x1 0 x3 0 (nI i) K6 f_maxT f_maxP f_n f_st f_eCode f_ePos f_outN f_perfN f_resN f_res f_trap f_tpos f_hp a_tk a_ta a_tb a_tc a_nxt a_par a_nP a_nK a_out a_ce a_fp a_fk a_fx a_fb a_fe a_rH a_rTop a_rBot a_used) (H0 : ¬ yc_wt w K6 → wY_compile_242 post J x1 2 x3 0 (nI i) K6 f_maxT f_maxP f_n f_st f_eCode f_ePos f_outN f_perfN f_resN f_res f_trap f_tpos f_hp a_tk a_ta a_tb a_tc a_nxt a_par a_nP a_nK a_out a_ce a_fp a_fk a_fx a_fb a_fe a_rH a_rTop a_rBot a_used) :
    wY_compile_99 post J x1 0 x3 0 (nI i) K6 (nI w) f_maxT f_maxP f_n f_st f_eCode f_ePos f_outN f_perfN f_resN f_res f_trap f_tpos f_hp a_tk a_ta a_tb a_tc a_nxt a_par a_nP a_nK a_out a_ce a_fp a_fk a_fx a_fb a_fe a_rH a_rTop a_rBot a_used := by
  refine br_t rfl ?_
  have hw3 : w = 0 ∨ w = 1 ∨ w = 2 := by omega
  rcases hw3 with rfl | rfl | rfl
  · refine br_t rfl ?_
    have e : yc_wt 0 K6 = (K6 ≠ 14 ∧ K6 ≠ 15 ∧ K6 ≠ 16) := rfl
    rw [e] at H1 H0
    by_cases c : k < 14
    · refine br_t (by rw [hk]; exact nI_lt (b := 14) c (by decide)) (H1 ⟨fun z => ?_, fun z => ?_, fun z => ?_⟩)
      · exact absurd ((nI_eq (b := 14) (by omega) (by decide)).mp (hk.symm.trans z)) (by omega)
      · exact absurd ((nI_eq (b := 15) (by omega) (by decide)).mp (hk.symm.trans z)) (by omega)
      · exact absurd ((nI_eq (b := 16) (by omega) (by decide)).mp (hk.symm.trans z)) (by omega)
    · refine br_f (by rw [hk]; exact nI_nlt (b := 14) (by omega) (by omega)) ?_
      by_cases d : 16 < k
      · refine br_t (by rw [hk]; exact nI_lt (a := 16) d (by omega)) (H1 ⟨fun z => ?_, fun z => ?_, fun z => ?_⟩)
        · exact absurd ((nI_eq (b := 14) (by omega) (by decide)).mp (hk.symm.trans z)) (by omega)
        · exact absurd ((nI_eq (b := 15) (by omega) (by decide)).mp (hk.symm.trans z)) (by omega)
        · exact absurd ((nI_eq (b := 16) (by omega) (by decide)).mp (hk.symm.trans z)) (by omega)
      · refine br_f (by rw [hk]; exact nI_nlt (a := 16) (by omega) (by decide)) (H0 ?_)
        intro ⟨z1, z2, z3⟩
        have : k = 14 ∨ k = 15 ∨ k = 16 := by omega
        rcases this with rfl | rfl | rfl
        · exact z1 hk
        · exact z2 hk
        · exact z3 hk
  · have e : yc_wt 1 K6 = (K6 = 14) := rfl
    rw [e] at H1 H0
    exact br_f (by decide) (br_t rfl (br_c H1 H0))
  · have e : yc_wt 2 K6 = (K6 = 15 ∨ K6 = 16) := rfl
    rw [e] at H1 H0
    exact br_f (by decide) (br_f (by decide) (br_c (fun z => H1 (Or.inl z)) (fun z1 => br_c (fun z => H1 (Or.inr z)) (fun z2 => H0 (fun z => z.elim z1 z2)))))
theorem yc_tok {f fu : Nat} {x4 : Int32} (hn : n ≤ 32) (hi : i < n) (hT : ∀ j, j < n → zl_T a_tk a_ta a_tb a_tc j) (W : yk_W a_tk n stk) (hh : yk_h stk ≤ i) (S : yk_S a_tk a_nP a_nK i stk) (sc : yr_P a_tk a_ta i cf a_par)
    (F : zc_flt a_tk a_ta a_tb a_tc i stk cf f) (h4 : x4 = if 0 < i ∧ stk = [] then 1 else 0)
    (H : wY_compile_242 post (wY_compile_21 post f_maxT f_maxP (nI n) f_st f_eCode f_ePos f_outN f_perfN f_resN f_res f_trap f_tpos f_hp fu) (nI (yk_h stk)) (nI f) 0 x4 (nI i) (a_tk i) f_maxT f_maxP (nI n) f_st f_eCode f_ePos f_outN f_perfN f_resN f_res f_trap f_tpos f_hp a_tk a_ta a_tb a_tc a_nxt a_par a_nP a_nK a_out a_ce a_fp a_fk a_fx a_fb a_fe a_rH a_rTop a_rBot a_used) :
    wY_compile_21 post f_maxT f_maxP (nI n) f_st f_eCode f_ePos f_outN f_perfN f_resN f_res f_trap f_tpos f_hp (fu + 1) (nI (yk_h stk)) 0 0 x4 (nI i) a_tk a_ta a_tb a_tc a_nxt a_par a_nP a_nK a_out a_ce a_fp a_fk a_fx a_fb a_fe a_rH a_rTop a_rBot a_used := by
  have hci : (nI i).toNatClampNeg = i := nI_clamp (by omega)
  have hii : vp_in (nI i) 33 := vp_in_nI (by omega) (by decide)
  obtain ⟨k, hk1, hk17, hk⟩ := (hT i hi).1
  have M : ∀ w, w ≤ 2 → (0 < i ∧ stk = [] ∨ (yc_wt w (a_tk i) ↔ zc_ok a_tk (a_tk i) stk)) → wY_compile_99 post (wY_compile_21 post f_maxT f_maxP (nI n) f_st f_eCode f_ePos f_outN f_perfN f_resN f_res f_trap f_tpos f_hp fu) (nI (yk_h stk)) 0 0 x4 (nI i) (a_tk i) (nI w) f_maxT f_maxP (nI n) f_st f_eCode f_ePos f_outN f_perfN f_resN f_res f_trap f_tpos f_hp a_tk a_ta a_tb a_tc a_nxt a_par a_nP a_nK a_out a_ce a_fp a_fk a_fx a_fb a_fe a_rH a_rTop a_rBot a_used := by
    intro w hw hwt
    unfold zc_flt at F
    by_cases c : 0 < i ∧ stk = []
    · rw [if_pos c] at F h4
      subst F h4
      exact br_f (by decide) H
    · rw [if_neg c] at F h4
      subst h4
      have hwt := hwt.resolve_left c
      refine yc_99 hk hk17 hw (fun z => ?_) (fun z => ?_)
      · have ok := hwt.mp z
        exact yc_166 hn hi hT W hh S sc ok ((F.resolve_left (fun y => y.1 ok)).2) H
      · have nok : ¬ zc_ok a_tk (a_tk i) stk := fun y => z (hwt.mpr y)
        rcases F with ⟨-, y⟩ | ⟨y, -⟩
        · subst y; exact H
        · exact absurd y nok
  refine br_f (nI_ge hi (by omega)) (br_t rfl ⟨hii, xm_r hci rfl ?_⟩)
  cases stk with
  | nil => exact br_t (by decide) (M 0 (by omega) (Or.inr Iff.rfl))
  | cons e es =>
    obtain ⟨t, s, c⟩ := e
    obtain ⟨w1, w2, w3, w4, w5, w6⟩ := W _ (List.mem_cons_self ..)
    dsimp only at w1 w2 w3 w4 w5 w6
    obtain ⟨h1, ⟨k', h2, q1, q2, q3⟩, h3, -⟩ := S
    rw [zc_okc] at M
    have hct : (nI t).toNatClampNeg = t := nI_clamp (by omega)
    by_cases z : s = 3
    · obtain ⟨z1, z2, z3⟩ := w6 z
      obtain ⟨h5, h6⟩ := h3 z
      subst z
      rw [yk_h3] at M hh ⊢
      have hp1 : nI (yk_h es + 2) - 1 = nI (yk_h es + 1) := nI_pred _
      have hch : (nI (yk_h es + 1)).toNatClampNeg = yk_h es + 1 := nI_clamp (by omega)
      have hcc : (nI c).toNatClampNeg = c := nI_clamp (by omega)
      refine br_f (nI_nle (by omega) (by omega)) ?_
      rw [hp1, hch, h5, hcc]
      refine ⟨vp_in_nI (by omega) (by decide), vp_in_nI (by omega) (by decide), br_f (by rcases z3 with y | y <;> (rw [y]; decide)) (M 0 (by omega) (Or.inr ?_))⟩
      rw [if_neg (fun y => by omega), if_neg (fun y => by omega)]
      exact Iff.rfl
    · rw [yk_hs z] at M hh ⊢
      have hp0 : nI (yk_h es + 1) - 1 = nI (yk_h es) := nI_pred _
      have hce : (nI (yk_h es)).toNatClampNeg = yk_h es := nI_clamp (by omega)
      have hih : vp_in (nI (yk_h es)) 33 := vp_in_nI (by omega) (by decide)
      refine br_f (nI_nle (by omega) (by omega)) ?_
      rw [hp0, hce, h1, h2, hct]
      refine ⟨hih, vp_in_nI (by omega) (by decide), ?_⟩
      by_cases k13 : a_tk t = 13
      · obtain ⟨g1, g2, g3, g4⟩ := q2 k13
        refine br_t k13 ⟨hih, ?_⟩
        by_cases c2 : k' < 2
        · have s2 : s < 2 := by
            rcases Nat.lt_or_ge s 3 with y | y
            · have := g1 (by omega); omega
            · have := g4 (by omega); omega
          refine br_t (nI_lt (b := 2) c2 (by decide)) (M 0 (by omega) (Or.inr ?_))
          rw [if_neg (fun y => by omega), if_neg (fun y => by omega)]
          exact Iff.rfl
        · refine br_f (nI_nlt (b := 2) (by omega) (by omega)) ⟨hih, ?_⟩
          by_cases c3 : k' = 2
          · have s2 : s = 2 := by
              rcases Nat.lt_or_ge s 3 with y | y
              · have := g1 (by omega); omega
              · have := g4 (by omega); omega
            refine br_t (by rw [c3]; rfl) (M 1 (by omega) (Or.inr ?_))
            rw [if_pos ⟨k13, s2⟩]
            exact Iff.rfl
          · have s4 : s = 4 := by
              rcases Nat.lt_or_ge s 3 with y | y
              · have := g1 (by omega); omega
              · omega
            refine br_f (fun y => c3 ((nI_eq (b := 2) (by omega) (by decide)).mp y)) (M 2 (by omega) (Or.inr ?_))
            rw [if_neg (fun y => by omega), if_pos ⟨k13, s4⟩]
            exact Iff.rfl
      · refine br_f k13 (M 0 (by omega) (Or.inr ?_))
        rw [if_neg (fun y => k13 y.1), if_neg (fun y => k13 y.1)]
        exact Iff.rfl
theorem yc_end {f fu : Nat} {x1 x4 x5 : Int32} {ps : Nat} (hf : f ≠ 0) (hf5 : f < 100) (H : post (nI f) (f_maxT, f_maxP, nI n, f_st, nI f, nI ps, f_outN, f_perfN, f_resN, f_res, f_trap, f_tpos, f_hp, a_tk, a_ta, a_tb, a_tc, a_nxt, a_par, a_nP, a_nK, a_out, a_ce, a_fp, a_fk, a_fx, a_fb, a_fe, a_rH, a_rTop, a_rBot, a_used)) : wY_compile_21 post f_maxT f_maxP (nI n) f_st f_eCode f_ePos f_outN f_perfN f_resN f_res f_trap f_tpos f_hp (fu + 1) x1 (nI f) (nI ps) x4 x5 a_tk a_ta a_tb a_tc a_nxt a_par a_nP a_nK a_out a_ce a_fp a_fk a_fx a_fb a_fe a_rH a_rTop a_rBot a_used := by
  have h0 : ¬ nI f = 0 := nI_ne0 (by omega) (by omega)
  have Q : wY_compile_448 post (nI f) (nI ps) x4 f_maxT f_maxP (nI n) f_st f_eCode f_ePos f_outN f_perfN f_resN f_res f_trap f_tpos f_hp a_tk a_ta a_tb a_tc a_nxt a_par a_nP a_nK a_out a_ce a_fp a_fk a_fx a_fb a_fe a_rH a_rTop a_rBot a_used := br_f h0 (br_f h0 H)
  exact br_c (fun _ => Q) (fun _ => br_f h0 Q)
theorem yc_main (hn : n ≤ 32) (hT : ∀ j, j < n → zl_T a_tk a_ta a_tb a_tc j) {er ps : Nat} {nx' : Nat → Nat} {cf' : Nat → Nat → Nat}
    (H : ∀ xt xp nP nK, (er = 0 → (∀ p, nx' p ≠ 0 → xt p = nI (nx' p)) ∧ yr_P a_tk a_ta n cf' xp) → post (nI er) (f_maxT, f_maxP, nI n, (if er = 0 then 1 else f_st), nI er, nI ps, f_outN, f_perfN, f_resN, f_res, f_trap, f_tpos, f_hp, a_tk, a_ta, a_tb, a_tc, xt, xp, nP, nK, a_out, a_ce, a_fp, a_fk, a_fx, a_fb, a_fe, a_rH, a_rTop, a_rBot, a_used)) :
    ∀ (d i : Nat) (stk : List ZE) (nx : Nat → Nat) (cf : Nat → Nat → Nat) (fu : Nat) (xt xp nP nK : Nat → Int32), i + d = n → d + 1 < fu → zc_I a_tk i stk nx cf → zc_res a_tk a_ta a_tb a_tc d i stk nx cf er ps nx' cf' →
      (∀ p, nx p ≠ 0 → xt p = nI (nx p)) → yr_P a_tk a_ta i cf xp → yk_S a_tk nP nK i stk →
      wY_compile_21 post f_maxT f_maxP (nI n) f_st f_eCode f_ePos f_outN f_perfN f_resN f_res f_trap f_tpos f_hp fu (nI (yk_h stk)) 0 0 (if 0 < i ∧ stk = [] then 1 else 0) (nI i) a_tk a_ta a_tb a_tc xt xp nP nK a_out a_ce a_fp a_fk a_fx a_fb a_fe a_rH a_rTop a_rBot a_used := by
  intro d
  induction d with
  | zero =>
    intro i stk nx cf fu xt xp nP nK hi hf I Rr sa sc S
    obtain ⟨fu, rfl⟩ : ∃ f', fu = f' + 1 := ⟨fu - 1, by omega⟩
    have hin : i = n := by omega
    obtain ⟨rfl, rfl, h⟩ := Rr
    rw [hin] at h sc ⊢
    refine br_t (nI_le (by omega) (by omega)) (br_t rfl ?_)
    rcases h with ⟨h1, rfl, hp⟩ | ⟨h1, rfl, hp⟩
    · have Q := H xt xp nP nK (fun z => absurd z (by decide))
      rw [if_neg (by decide), hp] at Q
      have c : ¬ (0 < n ∧ stk = []) := fun y => h1.elim (fun z => by omega) (fun z => z y.2)
      rw [if_neg c]
      exact br_t rfl (br_f (by decide) Q)
    · have Q := H xt xp nP nK (fun _ => ⟨sa, sc⟩)
      rw [if_pos rfl, hp] at Q
      have hs : stk = [] := Classical.byContradiction fun y => h1 (Or.inr y)
      have c : 0 < n ∧ stk = [] := ⟨by
        rcases Nat.eq_zero_or_pos n with y | y
        · exact absurd (Or.inl y) h1
        · exact y, hs⟩
      rw [if_pos c]
      exact br_f (by decide) (br_t rfl Q)
  | succ d ih =>
    intro i stk nx cf fu xt xp nP nK hi hf I Rr sa sc S
    obtain ⟨fu, rfl⟩ : ∃ f', fu = f' + 1 := ⟨fu - 1, by omega⟩
    have I' := I
    obtain ⟨ic, G, hz, hcf, hS⟩ := I
    have WW : yk_W a_tk n stk ∧ yk_h stk ≤ i := by
      rcases hS with hS | ⟨rfl, -⟩
      · exact yk_bnd hS (by omega)
      · exact ⟨(fun e he => nomatch he), Nat.zero_le _⟩
    obtain ⟨f, F, h⟩ := Rr
    refine yc_tok (cf := cf) hn (by omega) hT WW.1 WW.2 S sc F rfl ?_
    rcases h with ⟨h0, rfl, rfl, he, hp⟩ | ⟨rfl, h⟩
    · have h5 := zc_fle F
      have Q := H xt xp nP nK (fun z => absurd (he.symm.trans z) h0)
      rw [he, if_neg h0, hp] at Q
      obtain ⟨fu, rfl⟩ : ∃ f', fu = f' + 1 := ⟨fu - 1, by omega⟩
      exact br_f (nI_ne0 (by omega) (by omega)) (nm_r (nI_1 i) (yc_end h0 (by omega) Q))
    · have c0 := (zc_f0 F).1
      have Z : zk_S a_tk nx cf ic i stk := hS.elim id (fun z => absurd ⟨z.2.1, z.1⟩ c0)
      rw [if_neg c0]
      refine yc_take hn (by omega) (hT i (by omega)) F G Z S sa sc ?_
      intro xt' xp' nP' nK' sa' sc' S'
      have Q := ih (i + 1) _ _ _ fu xt' xp' nP' nK' (by omega) (by omega) (zc_step (hT i (by omega)) I' F) h sa' sc' S'
      have e : (if 0 < i + 1 ∧ (zc_take a_tk a_ta i stk nx cf).1 = [] then (1 : Int32) else 0) = (if (zc_take a_tk a_ta i stk nx cf).1 = [] then 1 else 0) := by
        by_cases c : (zc_take a_tk a_ta i stk nx cf).1 = []
        · rw [if_pos c, if_pos ⟨by omega, c⟩]
        · rw [if_neg c, if_neg (fun y => c y.2)]
      rw [e] at Q
      exact Q
theorem yc_comp (hn : n ≤ 32) (hT : ∀ j, j < n → zl_T a_tk a_ta a_tb a_tc j) (hst : f_st = 0) {er ps : Nat} {nx' : Nat → Nat} {cf' : Nat → Nat → Nat} (Rr : zc_res a_tk a_ta a_tb a_tc n 0 [] (fun _ => 0) (fun _ _ => 0) er ps nx' cf')
    (H : ∀ xt xp nP nK, (er = 0 → (∀ p, nx' p ≠ 0 → xt p = nI (nx' p)) ∧ yr_P a_tk a_ta n cf' xp) → post (nI er) (f_maxT, f_maxP, nI n, (if er = 0 then 1 else f_st), nI er, nI ps, f_outN, f_perfN, f_resN, f_res, f_trap, f_tpos, f_hp, a_tk, a_ta, a_tb, a_tc, xt, xp, nP, nK, a_out, a_ce, a_fp, a_fk, a_fx, a_fb, a_fe, a_rH, a_rTop, a_rBot, a_used)) :
    wpY_compile post (f_maxT, f_maxP, nI n, f_st, f_eCode, f_ePos, f_outN, f_perfN, f_resN, f_res, f_trap, f_tpos, f_hp, a_tk, a_ta, a_tb, a_tc, a_nxt, a_par, a_nP, a_nK, a_out, a_ce, a_fp, a_fk, a_fx, a_fb, a_fe, a_rH, a_rTop, a_rBot, a_used) := by
  refine br_t hst ⟨n + 2, ?_⟩
  have Q := yc_main (f_eCode := f_eCode) (f_ePos := f_ePos) hn hT H n 0 [] (fun _ => 0) (fun _ _ => 0) (n + 2) a_nxt a_par a_nP a_nK (by omega) (by omega) zc_init Rr (fun p z => absurd rfl z) ⟨fun j hj => by omega, fun h op z => absurd rfl z⟩ trivial
  rw [if_neg (by omega)] at Q
  exact Q
end
end
section
def ri_R (u : SX) (v : SY) : Prop :=
  match u with
  | (f_maxTokens, f_maxPerforms, f_count, f_openCount, f_status, f_errorCode, f_errorPos, f_trapCode, f_trapPos, f_emittedCount, f_performCount, f_resumeCount, f_nodeCount, f_top, f_bindingCount, f_next, f_scope, f_value, a_kinds, a_argA, a_argB, a_argC, a_after, a_openToken, a_openStage, a_openClause, a_caseFor, a_emitted, a_nodeToken, a_nodeStage, a_nodeHeld, a_nodeScope, a_nodeBelow, a_bindingName, a_bindingValue, a_bindingOuter, a_resumptionFrame, a_resumptionTop, a_resumptionBottom) => match v with
    | (f_maxT, f_maxP, f_n, f_st, f_eCode, f_ePos, f_outN, f_perfN, f_resN, f_res, f_trap, f_tpos, f_hp, a_tk, a_ta, a_tb, a_tc, a_nxt, a_par, a_nP, a_nK, a_out, a_ce, a_fp, a_fk, a_fx, a_fb, a_fe, a_rH, a_rTop, a_rBot, a_used) =>
      (f_maxT = f_maxTokens ∧ f_maxP = f_maxPerforms ∧ f_n = f_count ∧ f_st = f_status ∧ f_eCode = f_errorCode ∧ f_ePos = f_errorPos ∧ f_outN = f_emittedCount ∧ f_perfN = f_performCount ∧ f_resN = f_resumeCount ∧ f_tpos = f_trapPos) ∧
      (a_tk = a_kinds ∧ a_ta = a_argA ∧ a_tb = a_argB ∧ a_tc = a_argC ∧ a_out = a_emitted) ∧
      ∃ n mt mp st on : Nat, f_count = nI n ∧ f_maxTokens = nI mt ∧ f_maxPerforms = nI mp ∧ f_status = nI st ∧ f_emittedCount = nI on ∧ (n ≤ mt ∧ mt ≤ 32 ∧ mp ≤ 16 ∧ st ≤ 3 ∧ on ≤ 16) ∧
        (∀ j, j < n → zl_T a_kinds a_argA a_argB a_argC j) ∧ (st = 2 → f_res = f_value) ∧ (st = 3 → f_trap = f_trapCode) ∧ (st ≠ 3 → f_trapCode = 0) ∧
        (st ≠ 0 → ∃ nx cf ic, zl_P a_kinds a_argA a_argB a_argC n nx cf (zk_cl nx) ic ∧ (∀ p, nx p ≠ 0 → a_after p = nI (nx p)) ∧ (∀ h op, h < 32 → op < 8 → a_caseFor (8 * h + op) = nI (cf h op)) ∧
          (∀ p, nx p ≠ 0 → a_nxt p = nI (nx p)) ∧ yr_P a_kinds a_argA n cf a_par)
theorem vc_cl (p lo hi : Int32) (nlo nhi : Nat) (hlo : lo = nI nlo) (hhi : hi = nI nhi) (h : nlo ≤ nhi) (hb : nhi < 2 ^ 31) : ∃ m, m ≤ nhi ∧ ∀ A : Int32 → Prop, A (nI m) → ((lo ≤ p → ((p ≤ hi → A p) ∧ (¬ p ≤ hi → A hi))) ∧ (¬ lo ≤ p → A lo)) := by
  subst hlo hhi
  by_cases c1 : nI nlo ≤ p
  · have h0 : (0 : Int32) ≤ p := Int32.le_trans (nI_pos' (by omega)) c1
    obtain ⟨j, hj, rfl⟩ := nI_of (x := p) (Int32.not_lt.mpr h0)
    by_cases c2 : nI j ≤ nI nhi
    · exact ⟨j, (nI_leI hj hb).mp c2, fun A hA => br_t c1 (br_t c2 hA)⟩
    · exact ⟨nhi, Nat.le_refl _, fun A hA => br_t c1 (br_f c2 hA)⟩
  · exact ⟨nlo, h, fun A hA => br_f c1 hA⟩
theorem vc_sm (x : Int32) : zl_sm x ↔ ¬ x < 0 ∧ x ≤ 7 := by
  constructor
  · rintro ⟨a, ha, rfl⟩
    exact ⟨nI_pos (by omega), nI_le (b := 7) (by omega) (by decide)⟩
  · rintro ⟨h0, h7⟩
    obtain ⟨j, hj, rfl⟩ := nI_of h0
    exact ⟨j, by have := (nI_leI (b := 7) hj (by decide)).mp h7; omega, rfl⟩
def vc_F (k a b c : Int32) : Prop := (k = 2 ∨ k = 9 ∨ k = 12 → zl_sm a) ∧ (k = 13 → a = 0 ∨ a = 1) ∧ (k = 14 → zl_sm a ∧ zl_sm b) ∧ (k = 15 → zl_sm a ∧ zl_sm b ∧ zl_sm c)
theorem vc_is {post : Int32 → Prop} {x : Int32} (H1 : zl_sm x → post 1) (H0 : ¬ zl_sm x → post 0) : wpX_isSmall post x := by
  refine br_c (fun z => H0 (fun y => ((vc_sm x).mp y).1 z)) (fun z => br_c (fun z2 => H0 (fun y => ?_)) (fun z2 => H1 ((vc_sm x).mpr ⟨z, Int32.not_lt.mp z2⟩)))
  exact absurd z2 (Int32.not_lt.mpr ((vc_sm x).mp y).2)
theorem vc_a1 {a b c : Int32} {k : Int32} (h1 : ¬ (k = 2 ∨ k = 9 ∨ k = 12)) (h13 : ¬ k = 13) (h14 : ¬ k = 14) (h15 : ¬ k = 15) : vc_F k a b c := ⟨fun z => absurd z h1, fun z => absurd z h13, fun z => absurd z h14, fun z => absurd z h15⟩
theorem vc_a2 {a b c : Int32} {k : Int32} (h13 : ¬ k = 13) (h14 : ¬ k = 14) (h15 : ¬ k = 15) (ha : zl_sm a) : vc_F k a b c := ⟨fun _ => ha, fun z => absurd z h13, fun z => absurd z h14, fun z => absurd z h15⟩
theorem vc_x1 {post : Int32 → Prop} {a b c : Int32} (H1 : vc_F 1 a b c → post 1) (H0 : ¬ vc_F 1 a b c → post 0) : wpX_argumentsFit post 1 a b c := by
  exact br_t (by decide) (H1 (vc_a1 (by decide) (by decide) (by decide) (by decide)))
theorem vc_x2 {post : Int32 → Prop} {a b c : Int32} (H1 : vc_F 2 a b c → post 1) (H0 : ¬ vc_F 2 a b c → post 0) : wpX_argumentsFit post 2 a b c := by
  refine br_f (by decide) (br_f (by decide) (br_t rfl ?_))
  exact vc_is (fun z => ⟨rfl, H1 (vc_a2 (by decide) (by decide) (by decide) z)⟩) (fun z => ⟨rfl, H0 (fun y => z (y.1 (by decide)))⟩)
theorem vc_x3 {post : Int32 → Prop} {a b c : Int32} (H1 : vc_F 3 a b c → post 1) (H0 : ¬ vc_F 3 a b c → post 0) : wpX_argumentsFit post 3 a b c := by
  exact br_f (by decide) (br_f (by decide) (br_f (by decide) (br_t rfl (H1 (vc_a1 (by decide) (by decide) (by decide) (by decide))))))
theorem vc_x4 {post : Int32 → Prop} {a b c : Int32} (H1 : vc_F 4 a b c → post 1) (H0 : ¬ vc_F 4 a b c → post 0) : wpX_argumentsFit post 4 a b c := by
  exact br_f (by decide) (br_f (by decide) (br_f (by decide) (br_f (by decide) (br_t rfl (H1 (vc_a1 (by decide) (by decide) (by decide) (by decide)))))))
theorem vc_x5 {post : Int32 → Prop} {a b c : Int32} (H1 : vc_F 5 a b c → post 1) (H0 : ¬ vc_F 5 a b c → post 0) : wpX_argumentsFit post 5 a b c := by
  exact br_f (by decide) (br_f (by decide) (br_f (by decide) (br_f (by decide) (br_f (by decide) (br_t rfl (H1 (vc_a1 (by decide) (by decide) (by decide) (by decide))))))))
theorem vc_x6 {post : Int32 → Prop} {a b c : Int32} (H1 : vc_F 6 a b c → post 1) (H0 : ¬ vc_F 6 a b c → post 0) : wpX_argumentsFit post 6 a b c := by
  exact br_f (by decide) (br_f (by decide) (br_f (by decide) (br_f (by decide) (br_f (by decide) (br_f (by decide) (br_t rfl (H1 (vc_a1 (by decide) (by decide) (by decide) (by decide)))))))))
theorem vc_x7 {post : Int32 → Prop} {a b c : Int32} (H1 : vc_F 7 a b c → post 1) (H0 : ¬ vc_F 7 a b c → post 0) : wpX_argumentsFit post 7 a b c := by
  exact br_f (by decide) (br_f (by decide) (br_f (by decide) (br_f (by decide) (br_f (by decide) (br_f (by decide) (br_f (by decide) (br_t rfl (H1 (vc_a1 (by decide) (by decide) (by decide) (by decide))))))))))
theorem vc_x8 {post : Int32 → Prop} {a b c : Int32} (H1 : vc_F 8 a b c → post 1) (H0 : ¬ vc_F 8 a b c → post 0) : wpX_argumentsFit post 8 a b c := by
  exact br_f (by decide) (br_f (by decide) (br_f (by decide) (br_f (by decide) (br_f (by decide) (br_f (by decide) (br_f (by decide) (br_f (by decide) (br_t rfl (H1 (vc_a1 (by decide) (by decide) (by decide) (by decide)))))))))))
theorem vc_x9 {post : Int32 → Prop} {a b c : Int32} (H1 : vc_F 9 a b c → post 1) (H0 : ¬ vc_F 9 a b c → post 0) : wpX_argumentsFit post 9 a b c := by
  refine br_f (by decide) (br_f (by decide) (br_f (by decide) (br_f (by decide) (br_f (by decide) (br_f (by decide) (br_f (by decide) (br_f (by decide) (br_f (by decide) (br_t rfl ?_)))))))))
  exact vc_is (fun z => ⟨rfl, H1 (vc_a2 (by decide) (by decide) (by decide) z)⟩) (fun z => ⟨rfl, H0 (fun y => z (y.1 (by decide)))⟩)
theorem vc_x10 {post : Int32 → Prop} {a b c : Int32} (H1 : vc_F 10 a b c → post 1) (H0 : ¬ vc_F 10 a b c → post 0) : wpX_argumentsFit post 10 a b c := by
  exact br_f (by decide) (br_f (by decide) (br_f (by decide) (br_f (by decide) (br_f (by decide) (br_f (by decide) (br_f (by decide) (br_f (by decide) (br_f (by decide) (br_f (by decide) (br_t rfl (H1 (vc_a1 (by decide) (by decide) (by decide) (by decide)))))))))))))
theorem vc_x11 {post : Int32 → Prop} {a b c : Int32} (H1 : vc_F 11 a b c → post 1) (H0 : ¬ vc_F 11 a b c → post 0) : wpX_argumentsFit post 11 a b c := by
  exact br_f (by decide) (br_f (by decide) (br_f (by decide) (br_f (by decide) (br_f (by decide) (br_f (by decide) (br_f (by decide) (br_f (by decide) (br_f (by decide) (br_f (by decide) (br_f (by decide) (br_t rfl (H1 (vc_a1 (by decide) (by decide) (by decide) (by decide))))))))))))))
theorem vc_x12 {post : Int32 → Prop} {a b c : Int32} (H1 : vc_F 12 a b c → post 1) (H0 : ¬ vc_F 12 a b c → post 0) : wpX_argumentsFit post 12 a b c := by
  refine br_f (by decide) (br_f (by decide) (br_f (by decide) (br_f (by decide) (br_f (by decide) (br_f (by decide) (br_f (by decide) (br_f (by decide) (br_f (by decide) (br_f (by decide) (br_f (by decide) (br_f (by decide) (br_t rfl ?_))))))))))))
  exact vc_is (fun z => ⟨rfl, H1 (vc_a2 (by decide) (by decide) (by decide) z)⟩) (fun z => ⟨rfl, H0 (fun y => z (y.1 (by decide)))⟩)
theorem vc_x13 {post : Int32 → Prop} {a b c : Int32} (H1 : vc_F 13 a b c → post 1) (H0 : ¬ vc_F 13 a b c → post 0) : wpX_argumentsFit post 13 a b c := by
  refine br_f (by decide) (br_f (by decide) (br_f (by decide) (br_f (by decide) (br_f (by decide) (br_f (by decide) (br_f (by decide) (br_f (by decide) (br_f (by decide) (br_f (by decide) (br_f (by decide) (br_f (by decide) (br_f (by decide) (br_t rfl ?_)))))))))))))
  have e : vc_F 13 a b c ↔ (a = 0 ∨ a = 1) := ⟨fun y => y.2.1 rfl, fun y => ⟨(fun z => absurd z (by decide)), fun _ => y, (fun z => absurd z (by decide)), (fun z => absurd z (by decide))⟩⟩
  exact br_c (fun z => H1 (e.mpr (Or.inl z))) (fun z => br_c (fun z2 => H1 (e.mpr (Or.inr z2))) (fun z2 => H0 (fun y => (e.mp y).elim z z2)))
theorem vc_x14 {post : Int32 → Prop} {a b c : Int32} (H1 : vc_F 14 a b c → post 1) (H0 : ¬ vc_F 14 a b c → post 0) : wpX_argumentsFit post 14 a b c := by
  refine br_f (by decide) (br_f (by decide) (br_f (by decide) (br_f (by decide) (br_f (by decide) (br_f (by decide) (br_f (by decide) (br_f (by decide) (br_f (by decide) (br_f (by decide) (br_f (by decide) (br_f (by decide) (br_f (by decide) (br_f (by decide) (br_t rfl ?_))))))))))))))
  have e : vc_F 14 a b c ↔ (zl_sm a ∧ zl_sm b) := ⟨fun y => y.2.2.1 rfl, fun y => ⟨(fun z => absurd z (by decide)), (fun z => absurd z (by decide)), fun _ => y, (fun z => absurd z (by decide))⟩⟩
  exact vc_is (fun z => br_f (by decide) (vc_is (fun z2 => br_f (by decide) (H1 (e.mpr ⟨z, z2⟩))) (fun z2 => br_t rfl (H0 (fun y => z2 (e.mp y).2))))) (fun z => br_t rfl (H0 (fun y => z (e.mp y).1)))
theorem vc_x15 {post : Int32 → Prop} {a b c : Int32} (H1 : vc_F 15 a b c → post 1) (H0 : ¬ vc_F 15 a b c → post 0) : wpX_argumentsFit post 15 a b c := by
  refine br_f (by decide) (br_f (by decide) (br_f (by decide) (br_f (by decide) (br_f (by decide) (br_f (by decide) (br_f (by decide) (br_f (by decide) (br_f (by decide) (br_f (by decide) (br_f (by decide) (br_f (by decide) (br_f (by decide) (br_f (by decide) (br_f (by decide) (br_t rfl ?_)))))))))))))))
  have e : vc_F 15 a b c ↔ (zl_sm a ∧ zl_sm b ∧ zl_sm c) := ⟨fun y => y.2.2.2 rfl, fun y => ⟨(fun z => absurd z (by decide)), (fun z => absurd z (by decide)), (fun z => absurd z (by decide)), fun _ => y⟩⟩
  exact vc_is (fun z => br_f (by decide) (vc_is (fun z2 => br_f (by decide) (vc_is (fun z3 => br_f (by decide) (H1 (e.mpr ⟨z, z2, z3⟩))) (fun z3 => br_t rfl (H0 (fun y => z3 (e.mp y).2.2))))) (fun z2 => br_t rfl (H0 (fun y => z2 (e.mp y).2.1))))) (fun z => br_t rfl (H0 (fun y => z (e.mp y).1)))
theorem vc_x16 {post : Int32 → Prop} {a b c : Int32} (H1 : vc_F 16 a b c → post 1) (H0 : ¬ vc_F 16 a b c → post 0) : wpX_argumentsFit post 16 a b c := by
  exact br_f (by decide) (br_t (by decide) (H1 (vc_a1 (by decide) (by decide) (by decide) (by decide))))
theorem vc_x17 {post : Int32 → Prop} {a b c : Int32} (H1 : vc_F 17 a b c → post 1) (H0 : ¬ vc_F 17 a b c → post 0) : wpX_argumentsFit post 17 a b c := by
  exact br_f (by decide) (br_t (by decide) (H1 (vc_a1 (by decide) (by decide) (by decide) (by decide))))
section
variable {f_maxT f_maxP f_n f_st f_eCode f_ePos f_outN f_perfN f_resN f_res f_trap f_tpos f_hp : Int32} {a_tk a_ta a_tb a_tc a_nxt a_par a_nP a_nK a_out a_ce a_fp a_fk a_fx a_fb a_fe a_rH a_rTop a_rBot a_used : Nat → Int32} {post : Int32 → SY → Prop} {a b c : Int32}
theorem vc_y3 {k x5 x6 : Int32} {T : Int32 → Prop} (hT : T = fun x7 => wY_token_88 post k a b c x5 x6 x7 f_maxT f_maxP f_n f_st f_eCode f_ePos f_outN f_perfN f_resN f_res f_trap f_tpos f_hp a_tk a_ta a_tb a_tc a_nxt a_par a_nP a_nK a_out a_ce a_fp a_fk a_fx a_fb a_fe a_rH a_rTop a_rBot a_used) (H1 : zl_sm c → T 0) (H0 : ¬ zl_sm c → T 1) : wY_token_69 post k a b c x5 x6 f_maxT f_maxP f_n f_st f_eCode f_ePos f_outN f_perfN f_resN f_res f_trap f_tpos f_hp a_tk a_ta a_tb a_tc a_nxt a_par a_nP a_nK a_out a_ce a_fp a_fk a_fx a_fb a_fe a_rH a_rTop a_rBot a_used := by
  subst hT
  exact br_c (fun z => H0 (fun y => ((vc_sm c).mp y).1 z)) (fun z => br_c (fun z2 => H1 ((vc_sm c).mpr ⟨z, z2⟩)) (fun z2 => H0 (fun y => z2 ((vc_sm c).mp y).2)))
theorem vc_y2 {k x5 : Int32} (H1 : zl_sm b → wY_token_69 post k a b c x5 0 f_maxT f_maxP f_n f_st f_eCode f_ePos f_outN f_perfN f_resN f_res f_trap f_tpos f_hp a_tk a_ta a_tb a_tc a_nxt a_par a_nP a_nK a_out a_ce a_fp a_fk a_fx a_fb a_fe a_rH a_rTop a_rBot a_used) (H0 : ¬ zl_sm b → wY_token_69 post k a b c x5 1 f_maxT f_maxP f_n f_st f_eCode f_ePos f_outN f_perfN f_resN f_res f_trap f_tpos f_hp a_tk a_ta a_tb a_tc a_nxt a_par a_nP a_nK a_out a_ce a_fp a_fk a_fx a_fb a_fe a_rH a_rTop a_rBot a_used) : wY_token_52 post k a b c x5 f_maxT f_maxP f_n f_st f_eCode f_ePos f_outN f_perfN f_resN f_res f_trap f_tpos f_hp a_tk a_ta a_tb a_tc a_nxt a_par a_nP a_nK a_out a_ce a_fp a_fk a_fx a_fb a_fe a_rH a_rTop a_rBot a_used :=
  br_c (fun z => H0 (fun y => ((vc_sm b).mp y).1 z)) (fun z => br_c (fun z2 => H1 ((vc_sm b).mpr ⟨z, z2⟩)) (fun z2 => H0 (fun y => z2 ((vc_sm b).mp y).2)))
theorem vc_112 {k x5 x6 x7 : Int32} (h13 : ¬ k = 13) (h14 : ¬ k = 14) (h15 : ¬ k = 15) (H : wY_token_170 post k a b c f_maxT f_maxP f_n f_st f_eCode f_ePos f_outN f_perfN f_resN f_res f_trap f_tpos f_hp a_tk a_ta a_tb a_tc a_nxt a_par a_nP a_nK a_out a_ce a_fp a_fk a_fx a_fb a_fe a_rH a_rTop a_rBot a_used) : wY_token_112 post k a b c x5 x6 x7 f_maxT f_maxP f_n f_st f_eCode f_ePos f_outN f_perfN f_resN f_res f_trap f_tpos f_hp a_tk a_ta a_tb a_tc a_nxt a_par a_nP a_nK a_out a_ce a_fp a_fk a_fx a_fb a_fe a_rH a_rTop a_rBot a_used := br_f h13 (br_f h14 (br_f h15 H))
theorem vc_88 {k x5 x6 x7 : Int32} (hk : k = 1 ∨ k = 2 ∨ k = 3 ∨ k = 4 ∨ k = 5 ∨ k = 6 ∨ k = 7 ∨ k = 8 ∨ k = 9 ∨ k = 10 ∨ k = 11 ∨ k = 12 ∨ k = 13 ∨ k = 14 ∨ k = 15 ∨ k = 16 ∨ k = 17) (a0 : zl_sm a → x5 = 0) (a1 : ¬ zl_sm a → x5 = 1) (b0 : zl_sm b → x6 = 0) (b1 : ¬ zl_sm b → x6 = 1) (c0 : zl_sm c → x7 = 0) (c1 : ¬ zl_sm c → x7 = 1)
    (H1 : vc_F k a b c → wY_token_170 post k a b c f_maxT f_maxP f_n f_st f_eCode f_ePos f_outN f_perfN f_resN f_res f_trap f_tpos f_hp a_tk a_ta a_tb a_tc a_nxt a_par a_nP a_nK a_out a_ce a_fp a_fk a_fx a_fb a_fe a_rH a_rTop a_rBot a_used) (H0 : ¬ vc_F k a b c → post (-4) (f_maxT, f_maxP, f_n, f_st, f_eCode, f_ePos, f_outN, f_perfN, f_resN, f_res, f_trap, f_tpos, f_hp, a_tk, a_ta, a_tb, a_tc, a_nxt, a_par, a_nP, a_nK, a_out, a_ce, a_fp, a_fk, a_fx, a_fb, a_fe, a_rH, a_rTop, a_rBot, a_used)) : wY_token_88 post k a b c x5 x6 x7 f_maxT f_maxP f_n f_st f_eCode f_ePos f_outN f_perfN f_resN f_res f_trap f_tpos f_hp a_tk a_ta a_tb a_tc a_nxt a_par a_nP a_nK a_out a_ce a_fp a_fk a_fx a_fb a_fe a_rH a_rTop a_rBot a_used := by
  rcases hk with rfl | rfl | rfl | rfl | rfl | rfl | rfl | rfl | rfl | rfl | rfl | rfl | rfl | rfl | rfl | rfl | rfl
  · exact br_f (by decide) (br_f (by decide) (br_f (by decide) (vc_112 (by decide) (by decide) (by decide) (H1 (vc_a1 (by decide) (by decide) (by decide) (by decide))))))
  · refine br_t rfl (?_)
    by_cases z : zl_sm a
    · exact br_t (a0 z) (vc_112 (by decide) (by decide) (by decide) (H1 (vc_a2 (by decide) (by decide) (by decide) z)))
    · exact br_f (by rw [a1 z]; decide) (H0 (fun y => z (y.1 (by decide))))
  · exact br_f (by decide) (br_f (by decide) (br_f (by decide) (vc_112 (by decide) (by decide) (by decide) (H1 (vc_a1 (by decide) (by decide) (by decide) (by decide))))))
  · exact br_f (by decide) (br_f (by decide) (br_f (by decide) (vc_112 (by decide) (by decide) (by decide) (H1 (vc_a1 (by decide) (by decide) (by decide) (by decide))))))
  · exact br_f (by decide) (br_f (by decide) (br_f (by decide) (vc_112 (by decide) (by decide) (by decide) (H1 (vc_a1 (by decide) (by decide) (by decide) (by decide))))))
  · exact br_f (by decide) (br_f (by decide) (br_f (by decide) (vc_112 (by decide) (by decide) (by decide) (H1 (vc_a1 (by decide) (by decide) (by decide) (by decide))))))
  · exact br_f (by decide) (br_f (by decide) (br_f (by decide) (vc_112 (by decide) (by decide) (by decide) (H1 (vc_a1 (by decide) (by decide) (by decide) (by decide))))))
  · exact br_f (by decide) (br_f (by decide) (br_f (by decide) (vc_112 (by decide) (by decide) (by decide) (H1 (vc_a1 (by decide) (by decide) (by decide) (by decide))))))
  · refine br_f (by decide) (br_t rfl (?_))
    by_cases z : zl_sm a
    · exact br_t (a0 z) (vc_112 (by decide) (by decide) (by decide) (H1 (vc_a2 (by decide) (by decide) (by decide) z)))
    · exact br_f (by rw [a1 z]; decide) (H0 (fun y => z (y.1 (by decide))))
  · exact br_f (by decide) (br_f (by decide) (br_f (by decide) (vc_112 (by decide) (by decide) (by decide) (H1 (vc_a1 (by decide) (by decide) (by decide) (by decide))))))
  · exact br_f (by decide) (br_f (by decide) (br_f (by decide) (vc_112 (by decide) (by decide) (by decide) (H1 (vc_a1 (by decide) (by decide) (by decide) (by decide))))))
  · refine br_f (by decide) (br_f (by decide) (br_t rfl (?_)))
    by_cases z : zl_sm a
    · exact br_t (a0 z) (vc_112 (by decide) (by decide) (by decide) (H1 (vc_a2 (by decide) (by decide) (by decide) z)))
    · exact br_f (by rw [a1 z]; decide) (H0 (fun y => z (y.1 (by decide))))
  · refine br_f (by decide) (br_f (by decide) (br_f (by decide) (br_t rfl ?_)))
    have e : vc_F 13 a b c ↔ (a = 0 ∨ a = 1) := ⟨fun y => y.2.1 rfl, fun y => ⟨(fun z => absurd z (by decide)), fun _ => y, (fun z => absurd z (by decide)), (fun z => absurd z (by decide))⟩⟩
    refine br_c (fun z => H0 (fun y => ?_)) (fun z => br_c (fun z2 => br_f (by decide) (br_f (by decide) (H1 (e.mpr ?_)))) (fun z2 => H0 (fun y => ?_)))
    · rcases e.mp y with q | q <;> (rw [q] at z; exact absurd z (by decide))
    · obtain ⟨j, hj, rfl⟩ := nI_of z
      have := (nI_leI (b := 1) hj (by decide)).mp z2
      have hj2 : j = 0 ∨ j = 1 := by omega
      rcases hj2 with rfl | rfl
      · exact Or.inl rfl
      · exact Or.inr rfl
    · rcases e.mp y with q | q <;> (rw [q] at z2; exact absurd (by decide) z2)
  · refine br_f (by decide) (br_f (by decide) (br_f (by decide) (br_f (by decide) (br_t rfl ?_))))
    have e : vc_F 14 a b c ↔ (zl_sm a ∧ zl_sm b) := ⟨fun y => y.2.2.1 rfl, fun y => ⟨(fun z => absurd z (by decide)), (fun z => absurd z (by decide)), fun _ => y, (fun z => absurd z (by decide))⟩⟩
    by_cases z : zl_sm a
    · refine br_t (a0 z) ?_
      by_cases z2 : zl_sm b
      · exact br_t (b0 z2) (br_f (by decide) (H1 (e.mpr ⟨z, z2⟩)))
      · exact br_f (by rw [b1 z2]; decide) (H0 (fun y => z2 (e.mp y).2))
    · exact br_f (by rw [a1 z]; decide) (H0 (fun y => z (e.mp y).1))
  · refine br_f (by decide) (br_f (by decide) (br_f (by decide) (br_f (by decide) (br_f (by decide) (br_t rfl ?_)))))
    have e : vc_F 15 a b c ↔ (zl_sm a ∧ zl_sm b ∧ zl_sm c) := ⟨fun y => y.2.2.2 rfl, fun y => ⟨(fun z => absurd z (by decide)), (fun z => absurd z (by decide)), (fun z => absurd z (by decide)), fun _ => y⟩⟩
    by_cases z : zl_sm a
    · refine br_t (a0 z) ?_
      by_cases z2 : zl_sm b
      · refine br_t (b0 z2) ?_
        by_cases z3 : zl_sm c
        · exact br_t (c0 z3) (H1 (e.mpr ⟨z, z2, z3⟩))
        · exact br_f (by rw [c1 z3]; decide) (H0 (fun y => z3 (e.mp y).2.2))
      · exact br_f (by rw [b1 z2]; decide) (H0 (fun y => z2 (e.mp y).2.1))
    · exact br_f (by rw [a1 z]; decide) (H0 (fun y => z (e.mp y).1))
  · exact br_f (by decide) (br_f (by decide) (br_f (by decide) (vc_112 (by decide) (by decide) (by decide) (H1 (vc_a1 (by decide) (by decide) (by decide) (by decide))))))
  · exact br_f (by decide) (br_f (by decide) (br_f (by decide) (vc_112 (by decide) (by decide) (by decide) (H1 (vc_a1 (by decide) (by decide) (by decide) (by decide))))))
theorem vc_yt {k : Int32} (hk : k = 1 ∨ k = 2 ∨ k = 3 ∨ k = 4 ∨ k = 5 ∨ k = 6 ∨ k = 7 ∨ k = 8 ∨ k = 9 ∨ k = 10 ∨ k = 11 ∨ k = 12 ∨ k = 13 ∨ k = 14 ∨ k = 15 ∨ k = 16 ∨ k = 17) (H1 : vc_F k a b c → wY_token_170 post k a b c f_maxT f_maxP f_n f_st f_eCode f_ePos f_outN f_perfN f_resN f_res f_trap f_tpos f_hp a_tk a_ta a_tb a_tc a_nxt a_par a_nP a_nK a_out a_ce a_fp a_fk a_fx a_fb a_fe a_rH a_rTop a_rBot a_used) (H0 : ¬ vc_F k a b c → post (-4) (f_maxT, f_maxP, f_n, f_st, f_eCode, f_ePos, f_outN, f_perfN, f_resN, f_res, f_trap, f_tpos, f_hp, a_tk, a_ta, a_tb, a_tc, a_nxt, a_par, a_nP, a_nK, a_out, a_ce, a_fp, a_fk, a_fx, a_fb, a_fe, a_rH, a_rTop, a_rBot, a_used)) :
    ((a < 0 → (wY_token_47 post k a b c f_maxT f_maxP f_n f_st f_eCode f_ePos f_outN f_perfN f_resN f_res f_trap f_tpos f_hp a_tk a_ta a_tb a_tc a_nxt a_par a_nP a_nK a_out a_ce a_fp a_fk a_fx a_fb a_fe a_rH a_rTop a_rBot a_used)) ∧ (¬ a < 0 → (((a ≤ 7 → (wY_token_52 post k a b c 0 f_maxT f_maxP f_n f_st f_eCode f_ePos f_outN f_perfN f_resN f_res f_trap f_tpos f_hp a_tk a_ta a_tb a_tc a_nxt a_par a_nP a_nK a_out a_ce a_fp a_fk a_fx a_fb a_fe a_rH a_rTop a_rBot a_used)) ∧ (¬ a ≤ 7 → (wY_token_47 post k a b c f_maxT f_maxP f_n f_st f_eCode f_ePos f_outN f_perfN f_resN f_res f_trap f_tpos f_hp a_tk a_ta a_tb a_tc a_nxt a_par a_nP a_nK a_out a_ce a_fp a_fk a_fx a_fb a_fe a_rH a_rTop a_rBot a_used)))))) := by
  have M : ∀ x5, (zl_sm a → x5 = 0) → (¬ zl_sm a → x5 = 1) → wY_token_52 post k a b c x5 f_maxT f_maxP f_n f_st f_eCode f_ePos f_outN f_perfN f_resN f_res f_trap f_tpos f_hp a_tk a_ta a_tb a_tc a_nxt a_par a_nP a_nK a_out a_ce a_fp a_fk a_fx a_fb a_fe a_rH a_rTop a_rBot a_used := fun x5 q0 q1 =>
    vc_y2 (fun z2 => vc_y3 rfl (fun z3 => vc_88 hk q0 q1 (fun _ => rfl) (fun y => absurd z2 y) (fun _ => rfl) (fun y => absurd z3 y) H1 H0) (fun z3 => vc_88 hk q0 q1 (fun _ => rfl) (fun y => absurd z2 y) (fun y => absurd y z3) (fun _ => rfl) H1 H0))
      (fun z2 => vc_y3 rfl (fun z3 => vc_88 hk q0 q1 (fun y => absurd y z2) (fun _ => rfl) (fun _ => rfl) (fun y => absurd z3 y) H1 H0) (fun z3 => vc_88 hk q0 q1 (fun y => absurd y z2) (fun _ => rfl) (fun y => absurd y z3) (fun _ => rfl) H1 H0))
  have N1 : ¬ zl_sm a → wY_token_47 post k a b c f_maxT f_maxP f_n f_st f_eCode f_ePos f_outN f_perfN f_resN f_res f_trap f_tpos f_hp a_tk a_ta a_tb a_tc a_nxt a_par a_nP a_nK a_out a_ce a_fp a_fk a_fx a_fb a_fe a_rH a_rTop a_rBot a_used := fun z => M 1 (fun y => absurd y z) (fun _ => rfl)
  exact br_c (fun z => N1 (fun y => ((vc_sm a).mp y).1 z)) (fun z => br_c (fun z2 => M 0 (fun _ => rfl) (fun y => absurd ((vc_sm a).mpr ⟨z, z2⟩) y)) (fun z2 => N1 (fun y => z2 ((vc_sm a).mp y).2)))
end
theorem vc_xa {post : Int32 → Prop} {k a b c : Int32} (hk : k = 1 ∨ k = 2 ∨ k = 3 ∨ k = 4 ∨ k = 5 ∨ k = 6 ∨ k = 7 ∨ k = 8 ∨ k = 9 ∨ k = 10 ∨ k = 11 ∨ k = 12 ∨ k = 13 ∨ k = 14 ∨ k = 15 ∨ k = 16 ∨ k = 17) (H1 : vc_F k a b c → post 1) (H0 : ¬ vc_F k a b c → post 0) : wpX_argumentsFit post k a b c := by
  rcases hk with rfl | rfl | rfl | rfl | rfl | rfl | rfl | rfl | rfl | rfl | rfl | rfl | rfl | rfl | rfl | rfl | rfl
  · exact vc_x1 H1 H0
  · exact vc_x2 H1 H0
  · exact vc_x3 H1 H0
  · exact vc_x4 H1 H0
  · exact vc_x5 H1 H0
  · exact vc_x6 H1 H0
  · exact vc_x7 H1 H0
  · exact vc_x8 H1 H0
  · exact vc_x9 H1 H0
  · exact vc_x10 H1 H0
  · exact vc_x11 H1 H0
  · exact vc_x12 H1 H0
  · exact vc_x13 H1 H0
  · exact vc_x14 H1 H0
  · exact vc_x15 H1 H0
  · exact vc_x16 H1 H0
  · exact vc_x17 H1 H0
end
section
theorem vq_init (k0 k1 : Int32) : wpX_init (fun u => wpY_init (fun v => ri_R u v) k0 k1) k0 k1 := by
  obtain ⟨m, hm, M⟩ := vc_cl k0 8 32 8 32 rfl rfl (by omega) (by omega)
  obtain ⟨p, hp, Q⟩ := vc_cl k1 1 16 1 16 rfl rfl (by omega) (by omega)
  have M1 : ∀ post : Int32 → Prop, post (nI m) → wpX_clamp post k0 8 32 := fun post h => M post h
  have Q1 : ∀ post : Int32 → Prop, post (nI p) → wpX_clamp post k1 1 16 := fun post h => Q post h
  unfold wpX_init
  refine M1 _ (Q1 _ ?_)
  refine M (fun x => wY_init_185 _ k1 x 0 0 0 0 0 0 0 0 0 0 0 0 0 (fun _ => 0) (fun _ => 0) (fun _ => 0) (fun _ => 0) (fun _ => 0) (fun _ => 0) (fun _ => 0) (fun _ => 0) (fun _ => 0) (fun _ => 0) (fun _ => 0) (fun _ => 0) (fun _ => 0) (fun _ => 0) (fun _ => 0) (fun _ => 0) (fun _ => 0) (fun _ => 0) (fun _ => 0) ) ?_
  refine Q (fun x => wY_init_210 _ x (nI m) 0 0 0 0 0 0 0 0 0 0 0 0 (fun _ => 0) (fun _ => 0) (fun _ => 0) (fun _ => 0) (fun _ => 0) (fun _ => 0) (fun _ => 0) (fun _ => 0) (fun _ => 0) (fun _ => 0) (fun _ => 0) (fun _ => 0) (fun _ => 0) (fun _ => 0) (fun _ => 0) (fun _ => 0) (fun _ => 0) (fun _ => 0) (fun _ => 0) ) ?_
  exact ⟨⟨rfl, rfl, rfl, rfl, rfl, rfl, rfl, rfl, rfl, rfl⟩, ⟨rfl, rfl, rfl, rfl, rfl⟩, 0, m, p, 0, 0, rfl, rfl, rfl, rfl, rfl, ⟨by omega, hm, hp, by omega, by omega⟩, fun j hj => absurd hj (Nat.not_lt_zero _), fun z => absurd z (by decide), fun z => absurd z (by decide), fun _ => rfl, fun z => absurd rfl z⟩
theorem vq_reset {u : SX} {v : SY} (I : ri_R u v) : wpX_reset (fun u' => wpY_reset (fun v' => ri_R u' v') v) u := by
  obtain ⟨f_maxTokens, f_maxPerforms, f_count, f_openCount, f_status, f_errorCode, f_errorPos, f_trapCode, f_trapPos, f_emittedCount, f_performCount, f_resumeCount, f_nodeCount, f_top, f_bindingCount, f_next, f_scope, f_value, a_kinds, a_argA, a_argB, a_argC, a_after, a_openToken, a_openStage, a_openClause, a_caseFor, a_emitted, a_nodeToken, a_nodeStage, a_nodeHeld, a_nodeScope, a_nodeBelow, a_bindingName, a_bindingValue, a_bindingOuter, a_resumptionFrame, a_resumptionTop, a_resumptionBottom⟩ := u
  obtain ⟨f_maxT, f_maxP, f_n, f_st, f_eCode, f_ePos, f_outN, f_perfN, f_resN, f_res, f_trap, f_tpos, f_hp, a_tk, a_ta, a_tb, a_tc, a_nxt, a_par, a_nP, a_nK, a_out, a_ce, a_fp, a_fk, a_fx, a_fb, a_fe, a_rH, a_rTop, a_rBot, a_used⟩ := v
  obtain ⟨⟨rfl, rfl, rfl, rfl, rfl, rfl, rfl, rfl, rfl, rfl⟩, ⟨rfl, rfl, rfl, rfl, rfl⟩, n, mt, mp, st, on, rfl, rfl, rfl, rfl, rfl, ⟨b1, b2, b3, b4, b5⟩, hT, r2, r3, r4, hP⟩ := I
  exact ⟨⟨rfl, rfl, rfl, rfl, rfl, rfl, rfl, rfl, rfl, rfl⟩, ⟨rfl, rfl, rfl, rfl, rfl⟩, 0, mt, mp, 0, 0, rfl, rfl, rfl, rfl, rfl, ⟨by omega, b2, b3, by omega, by omega⟩, fun j hj => absurd hj (Nat.not_lt_zero _), fun z => absurd z (by decide), fun z => absurd z (by decide), fun _ => rfl, fun z => absurd rfl z⟩
theorem vq_k17 {k : Int32} (h1 : ¬ k < 1) (h2 : k ≤ 17) : ∃ j, 1 ≤ j ∧ j ≤ 17 ∧ k = nI j := by
  have h0 : ¬ k < 0 := fun z => h1 (Int32.lt_trans z (by decide))
  obtain ⟨j, hj, rfl⟩ := nI_of h0
  refine ⟨j, ?_, (nI_leI (b := 17) hj (by decide)).mp h2, rfl⟩
  have : ¬ j < 1 := fun z => h1 ((nI_ltI (b := 1) hj (by decide)).mpr z)
  omega
theorem vq_k17' {j : Nat} (h1 : 1 ≤ j) (h2 : j ≤ 17) : nI j = 1 ∨ nI j = 2 ∨ nI j = 3 ∨ nI j = 4 ∨ nI j = 5 ∨ nI j = 6 ∨ nI j = 7 ∨ nI j = 8 ∨ nI j = 9 ∨ nI j = 10 ∨ nI j = 11 ∨ nI j = 12 ∨ nI j = 13 ∨ nI j = 14 ∨ nI j = 15 ∨ nI j = 16 ∨ nI j = 17 := by
  have : j = 1 ∨ j = 2 ∨ j = 3 ∨ j = 4 ∨ j = 5 ∨ j = 6 ∨ j = 7 ∨ j = 8 ∨ j = 9 ∨ j = 10 ∨ j = 11 ∨ j = 12 ∨ j = 13 ∨ j = 14 ∨ j = 15 ∨ j = 16 ∨ j = 17 := by omega
  rcases this with rfl | rfl | rfl | rfl | rfl | rfl | rfl | rfl | rfl | rfl | rfl | rfl | rfl | rfl | rfl | rfl | rfl <;> decide
theorem vq_token {u : SX} {v : SY} (I : ri_R u v) (v1 v2 v3 v4 : Int32) : wpX_token (fun r u' => wpY_token (fun r' v' => r' = r ∧ ri_R u' v') v v1 v2 v3 v4) u v1 v2 v3 v4 := by
  obtain ⟨f_maxTokens, f_maxPerforms, f_count, f_openCount, f_status, f_errorCode, f_errorPos, f_trapCode, f_trapPos, f_emittedCount, f_performCount, f_resumeCount, f_nodeCount, f_top, f_bindingCount, f_next, f_scope, f_value, a_kinds, a_argA, a_argB, a_argC, a_after, a_openToken, a_openStage, a_openClause, a_caseFor, a_emitted, a_nodeToken, a_nodeStage, a_nodeHeld, a_nodeScope, a_nodeBelow, a_bindingName, a_bindingValue, a_bindingOuter, a_resumptionFrame, a_resumptionTop, a_resumptionBottom⟩ := u
  obtain ⟨f_maxT, f_maxP, f_n, f_st, f_eCode, f_ePos, f_outN, f_perfN, f_resN, f_res, f_trap, f_tpos, f_hp, a_tk, a_ta, a_tb, a_tc, a_nxt, a_par, a_nP, a_nK, a_out, a_ce, a_fp, a_fk, a_fx, a_fb, a_fe, a_rH, a_rTop, a_rBot, a_used⟩ := v
  have I' := I
  obtain ⟨⟨rfl, rfl, rfl, rfl, rfl, rfl, rfl, rfl, rfl, rfl⟩, ⟨rfl, rfl, rfl, rfl, rfl⟩, n, mt, mp, st, on, rfl, rfl, rfl, rfl, rfl, ⟨b1, b2, b3, b4, b5⟩, hT, r2, r3, r4, hP⟩ := I
  by_cases hs : nI st = 0
  · refine br_t hs ?_
    by_cases hf : n < mt
    · have hne : ¬ nI n = nI mt := fun z => absurd ((nI_eq (by omega) (by omega)).mp z) (by omega)
      refine br_t (nI_lt hf (by omega)) ?_
      by_cases k1 : v1 < 1
      · exact br_t k1 (br_t hs (br_f hne (br_t k1 ⟨rfl, I'⟩)))
      · refine br_f k1 ?_
        by_cases k2 : v1 ≤ 17
        · obtain ⟨j, j1, j2, rfl⟩ := vq_k17 k1 k2
          have hk := vq_k17' j1 j2
          refine br_t k2 (vc_xa hk (fun F => br_f (by decide) ?_) (fun F => br_t rfl ?_))
          · have hcn : (nI n).toNatClampNeg = n := nI_clamp (by omega)
            have hin : vp_in (nI n) 32 := vp_in_nI (by omega) (by decide)
            have hin3 : vp_in (nI n) 33 := vp_in_nI (by omega) (by decide)
            refine ⟨hin, nm_r (e' := upd a_tk n (nI j)) (by rw [hcn]) ⟨hin, nm_r (e' := upd a_ta n v2) (by rw [hcn]) ⟨hin, nm_r (e' := upd a_tb n v3) (by rw [hcn]) ⟨hin, nm_r (e' := upd a_tc n v4) (by rw [hcn]) (nm_r (nI_1 n) ?_)⟩⟩⟩⟩
            refine br_t hs (br_f hne (br_f k1 (br_t k2 (vc_yt hk (fun _ => ?_) (fun z => absurd F z)))))
            refine ⟨hin3, nm_r (e' := upd a_tk n (nI j)) (by rw [hcn]) ⟨hin3, nm_r (e' := upd a_ta n v2) (by rw [hcn]) ⟨hin3, nm_r (e' := upd a_tb n v3) (by rw [hcn]) ⟨hin3, nm_r (e' := upd a_tc n v4) (by rw [hcn]) (nm_r (nI_1 n) ⟨rfl, ?_⟩)⟩⟩⟩⟩
            have hs0 : st = 0 := (nI_eq (b := 0) (by omega) (by decide)).mp hs
            refine ⟨⟨rfl, rfl, rfl, rfl, rfl, rfl, rfl, rfl, rfl, rfl⟩, ⟨rfl, rfl, rfl, rfl, rfl⟩, n + 1, mt, mp, st, on, rfl, rfl, rfl, rfl, rfl, ⟨by omega, b2, b3, b4, b5⟩, fun q hq => ?_, r2, r3, r4, fun z => absurd hs0 z⟩
            by_cases c : q = n
            · subst c
              unfold zl_T
              rw [zu_s, zu_s, zu_s, zu_s]
              exact ⟨⟨j, j1, j2, rfl⟩, F⟩
            · have := hT q (by omega)
              unfold zl_T
              rw [zu_n c, zu_n c, zu_n c, zu_n c]
              exact this
          · exact br_t hs (br_f hne (br_f k1 (br_t k2 (vc_yt hk (fun z => absurd z F) (fun _ => ⟨rfl, I'⟩)))))
        · exact br_f k2 (br_t hs (br_f hne (br_f k1 (br_f k2 ⟨rfl, I'⟩))))
    · have he : n = mt := by omega
      exact br_f (nI_nlt (by omega) (by omega)) (br_t hs (br_t (by rw [he]) ⟨rfl, I'⟩))
  · exact br_f hs (br_f hs ⟨rfl, I'⟩)
theorem vq_tokenKind {u : SX} {v : SY} (I : ri_R u v) (v1 : Int32) : wpX_tokenKind (fun r => wpY_tokenKind (fun r' => r' = r ∧ ri_R u v) v v1) u v1 := by
  obtain ⟨f_maxTokens, f_maxPerforms, f_count, f_openCount, f_status, f_errorCode, f_errorPos, f_trapCode, f_trapPos, f_emittedCount, f_performCount, f_resumeCount, f_nodeCount, f_top, f_bindingCount, f_next, f_scope, f_value, a_kinds, a_argA, a_argB, a_argC, a_after, a_openToken, a_openStage, a_openClause, a_caseFor, a_emitted, a_nodeToken, a_nodeStage, a_nodeHeld, a_nodeScope, a_nodeBelow, a_bindingName, a_bindingValue, a_bindingOuter, a_resumptionFrame, a_resumptionTop, a_resumptionBottom⟩ := u
  obtain ⟨f_maxT, f_maxP, f_n, f_st, f_eCode, f_ePos, f_outN, f_perfN, f_resN, f_res, f_trap, f_tpos, f_hp, a_tk, a_ta, a_tb, a_tc, a_nxt, a_par, a_nP, a_nK, a_out, a_ce, a_fp, a_fk, a_fx, a_fb, a_fe, a_rH, a_rTop, a_rBot, a_used⟩ := v
  have I' := I
  obtain ⟨⟨rfl, rfl, rfl, rfl, rfl, rfl, rfl, rfl, rfl, rfl⟩, ⟨rfl, rfl, rfl, rfl, rfl⟩, n, mt, mp, st, on, rfl, rfl, rfl, rfl, rfl, ⟨b1, b2, b3, b4, b5⟩, hT, r2, r3, r4, hP⟩ := I
  by_cases h0 : v1 < 0
  · exact br_t h0 (br_t h0 ⟨rfl, I'⟩)
  · obtain ⟨j, hj, rfl⟩ := nI_of h0
    by_cases h1 : nI n ≤ nI j
    · exact br_f h0 (br_t h1 (br_f h0 (br_t h1 ⟨rfl, I'⟩)))
    · have hjn : j < n := by
        have : ¬ n ≤ j := fun z => h1 ((nI_leI (by omega) hj).mpr z)
        omega
      exact br_f h0 (br_f h1 ⟨vp_in_nI (by omega) (by decide), br_f h0 (br_f h1 ⟨vp_in_nI (by omega) (by decide), rfl, I'⟩)⟩)
theorem vq_output {u : SX} {v : SY} (I : ri_R u v) (v1 : Int32) : wpX_output (fun r => wpY_output (fun r' => r' = r ∧ ri_R u v) v v1) u v1 := by
  obtain ⟨f_maxTokens, f_maxPerforms, f_count, f_openCount, f_status, f_errorCode, f_errorPos, f_trapCode, f_trapPos, f_emittedCount, f_performCount, f_resumeCount, f_nodeCount, f_top, f_bindingCount, f_next, f_scope, f_value, a_kinds, a_argA, a_argB, a_argC, a_after, a_openToken, a_openStage, a_openClause, a_caseFor, a_emitted, a_nodeToken, a_nodeStage, a_nodeHeld, a_nodeScope, a_nodeBelow, a_bindingName, a_bindingValue, a_bindingOuter, a_resumptionFrame, a_resumptionTop, a_resumptionBottom⟩ := u
  obtain ⟨f_maxT, f_maxP, f_n, f_st, f_eCode, f_ePos, f_outN, f_perfN, f_resN, f_res, f_trap, f_tpos, f_hp, a_tk, a_ta, a_tb, a_tc, a_nxt, a_par, a_nP, a_nK, a_out, a_ce, a_fp, a_fk, a_fx, a_fb, a_fe, a_rH, a_rTop, a_rBot, a_used⟩ := v
  have I' := I
  obtain ⟨⟨rfl, rfl, rfl, rfl, rfl, rfl, rfl, rfl, rfl, rfl⟩, ⟨rfl, rfl, rfl, rfl, rfl⟩, n, mt, mp, st, on, rfl, rfl, rfl, rfl, rfl, ⟨b1, b2, b3, b4, b5⟩, hT, r2, r3, r4, hP⟩ := I
  by_cases h0 : v1 < 0
  · exact br_t h0 (br_t h0 ⟨rfl, I'⟩)
  · obtain ⟨j, hj, rfl⟩ := nI_of h0
    by_cases h1 : nI on ≤ nI j
    · exact br_f h0 (br_t h1 (br_f h0 (br_t h1 ⟨rfl, I'⟩)))
    · have hjn : j < on := by
        have : ¬ on ≤ j := fun z => h1 ((nI_leI (by omega) hj).mpr z)
        omega
      exact br_f h0 (br_f h1 ⟨vp_in_nI (by omega) (by decide), br_f h0 (br_f h1 ⟨vp_in_nI (by omega) (by decide), rfl, I'⟩)⟩)
theorem vq_compile {u : SX} {v : SY} (I : ri_R u v) : wpX_compile (fun r u' => wpY_compile (fun r' v' => r' = r ∧ ri_R u' v') v) u := by
  obtain ⟨f_maxTokens, f_maxPerforms, f_count, f_openCount, f_status, f_errorCode, f_errorPos, f_trapCode, f_trapPos, f_emittedCount, f_performCount, f_resumeCount, f_nodeCount, f_top, f_bindingCount, f_next, f_scope, f_value, a_kinds, a_argA, a_argB, a_argC, a_after, a_openToken, a_openStage, a_openClause, a_caseFor, a_emitted, a_nodeToken, a_nodeStage, a_nodeHeld, a_nodeScope, a_nodeBelow, a_bindingName, a_bindingValue, a_bindingOuter, a_resumptionFrame, a_resumptionTop, a_resumptionBottom⟩ := u
  obtain ⟨f_maxT, f_maxP, f_n, f_st, f_eCode, f_ePos, f_outN, f_perfN, f_resN, f_res, f_trap, f_tpos, f_hp, a_tk, a_ta, a_tb, a_tc, a_nxt, a_par, a_nP, a_nK, a_out, a_ce, a_fp, a_fk, a_fx, a_fb, a_fe, a_rH, a_rTop, a_rBot, a_used⟩ := v
  have I' := I
  obtain ⟨⟨rfl, rfl, rfl, rfl, rfl, rfl, rfl, rfl, rfl, rfl⟩, ⟨rfl, rfl, rfl, rfl, rfl⟩, n, mt, mp, st, on, rfl, rfl, rfl, rfl, rfl, ⟨b1, b2, b3, b4, b5⟩, hT, r2, r3, r4, hP⟩ := I
  by_cases hs : nI st = 0
  · have hs0 : st = 0 := (nI_eq (b := 0) (by omega) (by decide)).mp hs
    obtain ⟨er, ps, nx, cf, Rr, e6, p32, hE⟩ := zc_resI (n := n) (by omega) hT n 0 [] (fun _ => 0) (fun _ _ => 0) (by omega) zc_init
    refine xc_comp (by omega) hT hs Rr (fun oc af oT oS oC cs sa sc => ?_)
    refine yc_comp (by omega) hT hs Rr (fun xt xp nP nK hh => ⟨rfl, ?_⟩)
    by_cases z : er = 0
    · obtain ⟨⟨ic, P, -⟩, -⟩ := hE z
      obtain ⟨sa', sc'⟩ := hh z
      rw [if_pos z]
      exact ⟨⟨rfl, rfl, rfl, rfl, rfl, rfl, rfl, rfl, rfl, rfl⟩, ⟨rfl, rfl, rfl, rfl, rfl⟩, n, mt, mp, 1, on, rfl, rfl, rfl, rfl, rfl, ⟨b1, b2, b3, by omega, b5⟩, hT, fun z => absurd z (by decide), fun z => absurd z (by decide), fun _ => r4 (by omega), fun _ => ⟨nx, cf, ic, P, sa, sc, sa', sc'⟩⟩
    · rw [if_neg z]
      exact ⟨⟨rfl, rfl, rfl, rfl, rfl, rfl, rfl, rfl, rfl, rfl⟩, ⟨rfl, rfl, rfl, rfl, rfl⟩, n, mt, mp, st, on, rfl, rfl, rfl, rfl, rfl, ⟨b1, b2, b3, b4, b5⟩, hT, r2, r3, r4, fun y => absurd hs0 y⟩
  · exact br_f hs (br_f hs ⟨rfl, I'⟩)
theorem vq_fin {K A B C : Nat → Int32} {n : Nat} {nx : Nat → Nat} {cf : Nat → Nat → Nat} {mp mt : Nat} {ec ep : Int32} {ic : Nat → Prop} {z : ZZ} {u : SX} {v : SY} {y1 y2 y3 y4 y5 : Int32} (P : zl_P K A B C n nx cf (zk_cl nx) ic) (hmt : n ≤ mt) (h32 : mt ≤ 32) (h16 : mp ≤ 16)
    (hX : zi_X mp z) (X : xr_R K A B C n nx cf mp (nI mt) ec ep z u) (Y : yr_R K A B C n nx cf mp (nI mt) ec ep z y1 y2 y3 y4 y5 v) : ri_R u (yst v (nI (zst z))) := by
  obtain ⟨f_maxTokens, f_maxPerforms, f_count, f_openCount, f_status, f_errorCode, f_errorPos, f_trapCode, f_trapPos, f_emittedCount, f_performCount, f_resumeCount, f_nodeCount, f_top, f_bindingCount, f_next, f_scope, f_value, a_kinds, a_argA, a_argB, a_argC, a_after, a_openToken, a_openStage, a_openClause, a_caseFor, a_emitted, a_nodeToken, a_nodeStage, a_nodeHeld, a_nodeScope, a_nodeBelow, a_bindingName, a_bindingValue, a_bindingOuter, a_resumptionFrame, a_resumptionTop, a_resumptionBottom⟩ := u
  obtain ⟨f_maxT, f_maxP, f_n, f_st, f_eCode, f_ePos, f_outN, f_perfN, f_resN, f_res, f_trap, f_tpos, f_hp, a_tk, a_ta, a_tb, a_tc, a_nxt, a_par, a_nP, a_nK, a_out, a_ce, a_fp, a_fk, a_fx, a_fb, a_fe, a_rH, a_rTop, a_rBot, a_used⟩ := v
  obtain ⟨fo, v, e, S, R, pn, rn, out, on, st, tc, tp, nc, bc, hc⟩ := z
  obtain ⟨⟨rfl, rfl, rfl, rfl, rfl, rfl, rfl, rfl, rfl, rfl, rfl⟩, ⟨rfl, rfl, rfl, rfl, rfl⟩, sa, sc, x2, -⟩ := X
  obtain ⟨⟨rfl, rfl, rfl, rfl, rfl, rfl, rfl, rfl, rfl, rfl⟩, ⟨rfl, rfl, rfl, rfl, rfl⟩, sa', sc', -, w2, -⟩ := Y
  obtain ⟨o1, o2, o3⟩ := hX
  refine ⟨⟨rfl, rfl, rfl, rfl, rfl, rfl, rfl, rfl, rfl, rfl⟩, ⟨rfl, rfl, rfl, rfl, rfl⟩, n, mt, mp, st, on, rfl, rfl, rfl, rfl, rfl, ⟨hmt, h32, h16, by rcases o3 with ⟨q, -⟩ | ⟨q, -⟩ <;> omega, o1⟩, P.2.2.1, fun z => (w2 z).trans (x2 z).symm, fun _ => rfl, fun z => ?_, fun _ => ⟨nx, cf, ic, P, sa, sc, sa', sc'⟩⟩
  rcases o3 with ⟨-, q⟩ | ⟨q, -⟩
  · exact q
  · exact absurd q z
theorem vq_run {u : SX} {v : SY} (I : ri_R u v) : wpX_run (fun r u' => wpY_run (fun r' v' => r' = r ∧ ri_R u' v') v) u := by
  obtain ⟨f_maxTokens, f_maxPerforms, f_count, f_openCount, f_status, f_errorCode, f_errorPos, f_trapCode, f_trapPos, f_emittedCount, f_performCount, f_resumeCount, f_nodeCount, f_top, f_bindingCount, f_next, f_scope, f_value, a_kinds, a_argA, a_argB, a_argC, a_after, a_openToken, a_openStage, a_openClause, a_caseFor, a_emitted, a_nodeToken, a_nodeStage, a_nodeHeld, a_nodeScope, a_nodeBelow, a_bindingName, a_bindingValue, a_bindingOuter, a_resumptionFrame, a_resumptionTop, a_resumptionBottom⟩ := u
  obtain ⟨f_maxT, f_maxP, f_n, f_st, f_eCode, f_ePos, f_outN, f_perfN, f_resN, f_res, f_trap, f_tpos, f_hp, a_tk, a_ta, a_tb, a_tc, a_nxt, a_par, a_nP, a_nK, a_out, a_ce, a_fp, a_fk, a_fx, a_fb, a_fe, a_rH, a_rTop, a_rBot, a_used⟩ := v
  have I' := I
  obtain ⟨⟨rfl, rfl, rfl, rfl, rfl, rfl, rfl, rfl, rfl, rfl⟩, ⟨rfl, rfl, rfl, rfl, rfl⟩, n, mt, mp, st, on, rfl, rfl, rfl, rfl, rfl, ⟨b1, b2, b3, b4, b5⟩, hT, r2, r3, r4, hP⟩ := I
  by_cases hs : nI st = 0
  · exact br_t hs (br_t hs ⟨rfl, I'⟩)
  · obtain ⟨nx, cf, ic, P, sa, sc, sa', sc'⟩ := hP (fun z => hs (by rw [z]; rfl))
    obtain ⟨I0, hmu⟩ := zz_I P b3 a_out
    obtain ⟨k, hk, hX, hI⟩ := zi_run P 1700 (zz0 a_out) I0 hmu
    refine xs_run P hk hI hX sa sc hs (fun u' X => ?_)
    refine ys_run P hk hI hX sa' sc' hs (fun y1 y2 y3 y4 y5 v' Y => ⟨rfl, ?_⟩)
    exact vq_fin P b1 b2 b3 hX X Y
theorem vq_result {u : SX} {v : SY} (I : ri_R u v) : wpX_result (fun r => wpY_result (fun r' => r' = r ∧ ri_R u v) v) u := by
  obtain ⟨f_maxTokens, f_maxPerforms, f_count, f_openCount, f_status, f_errorCode, f_errorPos, f_trapCode, f_trapPos, f_emittedCount, f_performCount, f_resumeCount, f_nodeCount, f_top, f_bindingCount, f_next, f_scope, f_value, a_kinds, a_argA, a_argB, a_argC, a_after, a_openToken, a_openStage, a_openClause, a_caseFor, a_emitted, a_nodeToken, a_nodeStage, a_nodeHeld, a_nodeScope, a_nodeBelow, a_bindingName, a_bindingValue, a_bindingOuter, a_resumptionFrame, a_resumptionTop, a_resumptionBottom⟩ := u
  obtain ⟨f_maxT, f_maxP, f_n, f_st, f_eCode, f_ePos, f_outN, f_perfN, f_resN, f_res, f_trap, f_tpos, f_hp, a_tk, a_ta, a_tb, a_tc, a_nxt, a_par, a_nP, a_nK, a_out, a_ce, a_fp, a_fk, a_fx, a_fb, a_fe, a_rH, a_rTop, a_rBot, a_used⟩ := v
  have I' := I
  obtain ⟨⟨rfl, rfl, rfl, rfl, rfl, rfl, rfl, rfl, rfl, rfl⟩, ⟨rfl, rfl, rfl, rfl, rfl⟩, n, mt, mp, st, on, rfl, rfl, rfl, rfl, rfl, ⟨b1, b2, b3, b4, b5⟩, hT, r2, r3, r4, hP⟩ := I
  by_cases h : nI st = 2
  · exact br_t h (br_t h ⟨r2 ((nI_eq (b := 2) (by omega) (by decide)).mp h), I'⟩)
  · exact br_f h (br_f h ⟨rfl, I'⟩)
theorem vq_trapCode {u : SX} {v : SY} (I : ri_R u v) : wpX_trapCode (fun r => wpY_trapCode (fun r' => r' = r ∧ ri_R u v) v) u := by
  obtain ⟨f_maxTokens, f_maxPerforms, f_count, f_openCount, f_status, f_errorCode, f_errorPos, f_trapCode, f_trapPos, f_emittedCount, f_performCount, f_resumeCount, f_nodeCount, f_top, f_bindingCount, f_next, f_scope, f_value, a_kinds, a_argA, a_argB, a_argC, a_after, a_openToken, a_openStage, a_openClause, a_caseFor, a_emitted, a_nodeToken, a_nodeStage, a_nodeHeld, a_nodeScope, a_nodeBelow, a_bindingName, a_bindingValue, a_bindingOuter, a_resumptionFrame, a_resumptionTop, a_resumptionBottom⟩ := u
  obtain ⟨f_maxT, f_maxP, f_n, f_st, f_eCode, f_ePos, f_outN, f_perfN, f_resN, f_res, f_trap, f_tpos, f_hp, a_tk, a_ta, a_tb, a_tc, a_nxt, a_par, a_nP, a_nK, a_out, a_ce, a_fp, a_fk, a_fx, a_fb, a_fe, a_rH, a_rTop, a_rBot, a_used⟩ := v
  have I' := I
  obtain ⟨⟨rfl, rfl, rfl, rfl, rfl, rfl, rfl, rfl, rfl, rfl⟩, ⟨rfl, rfl, rfl, rfl, rfl⟩, n, mt, mp, st, on, rfl, rfl, rfl, rfl, rfl, ⟨b1, b2, b3, b4, b5⟩, hT, r2, r3, r4, hP⟩ := I
  by_cases h : nI st = 3
  · exact br_t h ⟨r3 ((nI_eq (b := 3) (by omega) (by decide)).mp h), I'⟩
  · exact br_f h ⟨(r4 (fun z => h (by rw [z]; rfl))).symm, I'⟩
theorem vq_tokenCount {u : SX} {v : SY} (I : ri_R u v) : wpX_tokenCount (fun r => wpY_tokenCount (fun r' => r' = r ∧ ri_R u v) v) u := by
  obtain ⟨f_maxTokens, f_maxPerforms, f_count, f_openCount, f_status, f_errorCode, f_errorPos, f_trapCode, f_trapPos, f_emittedCount, f_performCount, f_resumeCount, f_nodeCount, f_top, f_bindingCount, f_next, f_scope, f_value, a_kinds, a_argA, a_argB, a_argC, a_after, a_openToken, a_openStage, a_openClause, a_caseFor, a_emitted, a_nodeToken, a_nodeStage, a_nodeHeld, a_nodeScope, a_nodeBelow, a_bindingName, a_bindingValue, a_bindingOuter, a_resumptionFrame, a_resumptionTop, a_resumptionBottom⟩ := u
  obtain ⟨f_maxT, f_maxP, f_n, f_st, f_eCode, f_ePos, f_outN, f_perfN, f_resN, f_res, f_trap, f_tpos, f_hp, a_tk, a_ta, a_tb, a_tc, a_nxt, a_par, a_nP, a_nK, a_out, a_ce, a_fp, a_fk, a_fx, a_fb, a_fe, a_rH, a_rTop, a_rBot, a_used⟩ := v
  have h := I
  exact ⟨h.1.2.2.1, I⟩
theorem vq_errorCode {u : SX} {v : SY} (I : ri_R u v) : wpX_errorCode (fun r => wpY_errorCode (fun r' => r' = r ∧ ri_R u v) v) u := by
  obtain ⟨f_maxTokens, f_maxPerforms, f_count, f_openCount, f_status, f_errorCode, f_errorPos, f_trapCode, f_trapPos, f_emittedCount, f_performCount, f_resumeCount, f_nodeCount, f_top, f_bindingCount, f_next, f_scope, f_value, a_kinds, a_argA, a_argB, a_argC, a_after, a_openToken, a_openStage, a_openClause, a_caseFor, a_emitted, a_nodeToken, a_nodeStage, a_nodeHeld, a_nodeScope, a_nodeBelow, a_bindingName, a_bindingValue, a_bindingOuter, a_resumptionFrame, a_resumptionTop, a_resumptionBottom⟩ := u
  obtain ⟨f_maxT, f_maxP, f_n, f_st, f_eCode, f_ePos, f_outN, f_perfN, f_resN, f_res, f_trap, f_tpos, f_hp, a_tk, a_ta, a_tb, a_tc, a_nxt, a_par, a_nP, a_nK, a_out, a_ce, a_fp, a_fk, a_fx, a_fb, a_fe, a_rH, a_rTop, a_rBot, a_used⟩ := v
  have h := I
  exact ⟨h.1.2.2.2.2.1, I⟩
theorem vq_errorPos {u : SX} {v : SY} (I : ri_R u v) : wpX_errorPos (fun r => wpY_errorPos (fun r' => r' = r ∧ ri_R u v) v) u := by
  obtain ⟨f_maxTokens, f_maxPerforms, f_count, f_openCount, f_status, f_errorCode, f_errorPos, f_trapCode, f_trapPos, f_emittedCount, f_performCount, f_resumeCount, f_nodeCount, f_top, f_bindingCount, f_next, f_scope, f_value, a_kinds, a_argA, a_argB, a_argC, a_after, a_openToken, a_openStage, a_openClause, a_caseFor, a_emitted, a_nodeToken, a_nodeStage, a_nodeHeld, a_nodeScope, a_nodeBelow, a_bindingName, a_bindingValue, a_bindingOuter, a_resumptionFrame, a_resumptionTop, a_resumptionBottom⟩ := u
  obtain ⟨f_maxT, f_maxP, f_n, f_st, f_eCode, f_ePos, f_outN, f_perfN, f_resN, f_res, f_trap, f_tpos, f_hp, a_tk, a_ta, a_tb, a_tc, a_nxt, a_par, a_nP, a_nK, a_out, a_ce, a_fp, a_fk, a_fx, a_fb, a_fe, a_rH, a_rTop, a_rBot, a_used⟩ := v
  have h := I
  exact ⟨h.1.2.2.2.2.2.1, I⟩
theorem vq_status {u : SX} {v : SY} (I : ri_R u v) : wpX_status (fun r => wpY_status (fun r' => r' = r ∧ ri_R u v) v) u := by
  obtain ⟨f_maxTokens, f_maxPerforms, f_count, f_openCount, f_status, f_errorCode, f_errorPos, f_trapCode, f_trapPos, f_emittedCount, f_performCount, f_resumeCount, f_nodeCount, f_top, f_bindingCount, f_next, f_scope, f_value, a_kinds, a_argA, a_argB, a_argC, a_after, a_openToken, a_openStage, a_openClause, a_caseFor, a_emitted, a_nodeToken, a_nodeStage, a_nodeHeld, a_nodeScope, a_nodeBelow, a_bindingName, a_bindingValue, a_bindingOuter, a_resumptionFrame, a_resumptionTop, a_resumptionBottom⟩ := u
  obtain ⟨f_maxT, f_maxP, f_n, f_st, f_eCode, f_ePos, f_outN, f_perfN, f_resN, f_res, f_trap, f_tpos, f_hp, a_tk, a_ta, a_tb, a_tc, a_nxt, a_par, a_nP, a_nK, a_out, a_ce, a_fp, a_fk, a_fx, a_fb, a_fe, a_rH, a_rTop, a_rBot, a_used⟩ := v
  have h := I
  exact ⟨h.1.2.2.2.1, I⟩
theorem vq_trapPos {u : SX} {v : SY} (I : ri_R u v) : wpX_trapPos (fun r => wpY_trapPos (fun r' => r' = r ∧ ri_R u v) v) u := by
  obtain ⟨f_maxTokens, f_maxPerforms, f_count, f_openCount, f_status, f_errorCode, f_errorPos, f_trapCode, f_trapPos, f_emittedCount, f_performCount, f_resumeCount, f_nodeCount, f_top, f_bindingCount, f_next, f_scope, f_value, a_kinds, a_argA, a_argB, a_argC, a_after, a_openToken, a_openStage, a_openClause, a_caseFor, a_emitted, a_nodeToken, a_nodeStage, a_nodeHeld, a_nodeScope, a_nodeBelow, a_bindingName, a_bindingValue, a_bindingOuter, a_resumptionFrame, a_resumptionTop, a_resumptionBottom⟩ := u
  obtain ⟨f_maxT, f_maxP, f_n, f_st, f_eCode, f_ePos, f_outN, f_perfN, f_resN, f_res, f_trap, f_tpos, f_hp, a_tk, a_ta, a_tb, a_tc, a_nxt, a_par, a_nP, a_nK, a_out, a_ce, a_fp, a_fk, a_fx, a_fb, a_fe, a_rH, a_rTop, a_rBot, a_used⟩ := v
  have h := I
  exact ⟨h.1.2.2.2.2.2.2.2.2.2, I⟩
theorem vq_outputCount {u : SX} {v : SY} (I : ri_R u v) : wpX_outputCount (fun r => wpY_outputCount (fun r' => r' = r ∧ ri_R u v) v) u := by
  obtain ⟨f_maxTokens, f_maxPerforms, f_count, f_openCount, f_status, f_errorCode, f_errorPos, f_trapCode, f_trapPos, f_emittedCount, f_performCount, f_resumeCount, f_nodeCount, f_top, f_bindingCount, f_next, f_scope, f_value, a_kinds, a_argA, a_argB, a_argC, a_after, a_openToken, a_openStage, a_openClause, a_caseFor, a_emitted, a_nodeToken, a_nodeStage, a_nodeHeld, a_nodeScope, a_nodeBelow, a_bindingName, a_bindingValue, a_bindingOuter, a_resumptionFrame, a_resumptionTop, a_resumptionBottom⟩ := u
  obtain ⟨f_maxT, f_maxP, f_n, f_st, f_eCode, f_ePos, f_outN, f_perfN, f_resN, f_res, f_trap, f_tpos, f_hp, a_tk, a_ta, a_tb, a_tc, a_nxt, a_par, a_nP, a_nK, a_out, a_ce, a_fp, a_fk, a_fx, a_fb, a_fe, a_rH, a_rTop, a_rBot, a_used⟩ := v
  have h := I
  exact ⟨h.1.2.2.2.2.2.2.1, I⟩
theorem vq_performCount {u : SX} {v : SY} (I : ri_R u v) : wpX_performCount (fun r => wpY_performCount (fun r' => r' = r ∧ ri_R u v) v) u := by
  obtain ⟨f_maxTokens, f_maxPerforms, f_count, f_openCount, f_status, f_errorCode, f_errorPos, f_trapCode, f_trapPos, f_emittedCount, f_performCount, f_resumeCount, f_nodeCount, f_top, f_bindingCount, f_next, f_scope, f_value, a_kinds, a_argA, a_argB, a_argC, a_after, a_openToken, a_openStage, a_openClause, a_caseFor, a_emitted, a_nodeToken, a_nodeStage, a_nodeHeld, a_nodeScope, a_nodeBelow, a_bindingName, a_bindingValue, a_bindingOuter, a_resumptionFrame, a_resumptionTop, a_resumptionBottom⟩ := u
  obtain ⟨f_maxT, f_maxP, f_n, f_st, f_eCode, f_ePos, f_outN, f_perfN, f_resN, f_res, f_trap, f_tpos, f_hp, a_tk, a_ta, a_tb, a_tc, a_nxt, a_par, a_nP, a_nK, a_out, a_ce, a_fp, a_fk, a_fx, a_fb, a_fe, a_rH, a_rTop, a_rBot, a_used⟩ := v
  have h := I
  exact ⟨h.1.2.2.2.2.2.2.2.1, I⟩
theorem vq_resumeCount {u : SX} {v : SY} (I : ri_R u v) : wpX_resumeCount (fun r => wpY_resumeCount (fun r' => r' = r ∧ ri_R u v) v) u := by
  obtain ⟨f_maxTokens, f_maxPerforms, f_count, f_openCount, f_status, f_errorCode, f_errorPos, f_trapCode, f_trapPos, f_emittedCount, f_performCount, f_resumeCount, f_nodeCount, f_top, f_bindingCount, f_next, f_scope, f_value, a_kinds, a_argA, a_argB, a_argC, a_after, a_openToken, a_openStage, a_openClause, a_caseFor, a_emitted, a_nodeToken, a_nodeStage, a_nodeHeld, a_nodeScope, a_nodeBelow, a_bindingName, a_bindingValue, a_bindingOuter, a_resumptionFrame, a_resumptionTop, a_resumptionBottom⟩ := u
  obtain ⟨f_maxT, f_maxP, f_n, f_st, f_eCode, f_ePos, f_outN, f_perfN, f_resN, f_res, f_trap, f_tpos, f_hp, a_tk, a_ta, a_tb, a_tc, a_nxt, a_par, a_nP, a_nK, a_out, a_ce, a_fp, a_fk, a_fx, a_fb, a_fe, a_rH, a_rTop, a_rBot, a_used⟩ := v
  have h := I
  exact ⟨h.1.2.2.2.2.2.2.2.2.1, I⟩
end
section
def i_Rel (k : Nat) (u : SX) (v : SY) : Prop := ri_R u v
theorem i_up {k : Nat} {u : SX} {v : SY} (h : i_Rel k u v) : i_Rel (k + 5) u v := h
theorem i_vc0 (k0 : Int32) (k1 : Int32) : wpX_init (fun u => wpY_init (fun v => i_Rel 2 u v) k0 k1) k0 k1 := vq_init k0 k1
theorem i_vc_reset {k : Nat} {u : SX} {v : SY} (I : i_Rel k u v) (hk : k + 5 ≤ 2562) : wpX_reset (fun u' => wpY_reset (fun v' => i_Rel (k + 5) u' v') v) u := vq_reset I
theorem i_vc_token {k : Nat} {u : SX} {v : SY} (I : i_Rel k u v) (hk : k + 5 ≤ 2562) (v1 : Int32) (v2 : Int32) (v3 : Int32) (v4 : Int32) : wpX_token (fun r u' => wpY_token (fun r' v' => r' = r ∧ i_Rel (k + 5) u' v') v v1 v2 v3 v4) u v1 v2 v3 v4 := vq_token I v1 v2 v3 v4
theorem i_vc_tokenCount {k : Nat} {u : SX} {v : SY} (I : i_Rel k u v) (hk : k + 5 ≤ 2562) : wpX_tokenCount (fun r => wpY_tokenCount (fun r' => r' = r ∧ i_Rel (k + 5) u v) v) u := vq_tokenCount I
theorem i_vc_tokenKind {k : Nat} {u : SX} {v : SY} (I : i_Rel k u v) (hk : k + 5 ≤ 2562) (v1 : Int32) : wpX_tokenKind (fun r => wpY_tokenKind (fun r' => r' = r ∧ i_Rel (k + 5) u v) v v1) u v1 := vq_tokenKind I v1
theorem i_vc_compile {k : Nat} {u : SX} {v : SY} (I : i_Rel k u v) (hk : k + 5 ≤ 2562) : wpX_compile (fun r u' => wpY_compile (fun r' v' => r' = r ∧ i_Rel (k + 5) u' v') v) u := vq_compile I
theorem i_vc_errorCode {k : Nat} {u : SX} {v : SY} (I : i_Rel k u v) (hk : k + 5 ≤ 2562) : wpX_errorCode (fun r => wpY_errorCode (fun r' => r' = r ∧ i_Rel (k + 5) u v) v) u := vq_errorCode I
theorem i_vc_errorPos {k : Nat} {u : SX} {v : SY} (I : i_Rel k u v) (hk : k + 5 ≤ 2562) : wpX_errorPos (fun r => wpY_errorPos (fun r' => r' = r ∧ i_Rel (k + 5) u v) v) u := vq_errorPos I
theorem i_vc_run {k : Nat} {u : SX} {v : SY} (I : i_Rel k u v) (hk : k + 5 ≤ 2562) : wpX_run (fun r u' => wpY_run (fun r' v' => r' = r ∧ i_Rel (k + 5) u' v') v) u := vq_run I
theorem i_vc_status {k : Nat} {u : SX} {v : SY} (I : i_Rel k u v) (hk : k + 5 ≤ 2562) : wpX_status (fun r => wpY_status (fun r' => r' = r ∧ i_Rel (k + 5) u v) v) u := vq_status I
theorem i_vc_result {k : Nat} {u : SX} {v : SY} (I : i_Rel k u v) (hk : k + 5 ≤ 2562) : wpX_result (fun r => wpY_result (fun r' => r' = r ∧ i_Rel (k + 5) u v) v) u := vq_result I
theorem i_vc_trapCode {k : Nat} {u : SX} {v : SY} (I : i_Rel k u v) (hk : k + 5 ≤ 2562) : wpX_trapCode (fun r => wpY_trapCode (fun r' => r' = r ∧ i_Rel (k + 5) u v) v) u := vq_trapCode I
theorem i_vc_trapPos {k : Nat} {u : SX} {v : SY} (I : i_Rel k u v) (hk : k + 5 ≤ 2562) : wpX_trapPos (fun r => wpY_trapPos (fun r' => r' = r ∧ i_Rel (k + 5) u v) v) u := vq_trapPos I
theorem i_vc_outputCount {k : Nat} {u : SX} {v : SY} (I : i_Rel k u v) (hk : k + 5 ≤ 2562) : wpX_outputCount (fun r => wpY_outputCount (fun r' => r' = r ∧ i_Rel (k + 5) u v) v) u := vq_outputCount I
theorem i_vc_output {k : Nat} {u : SX} {v : SY} (I : i_Rel k u v) (hk : k + 5 ≤ 2562) (v1 : Int32) : wpX_output (fun r => wpY_output (fun r' => r' = r ∧ i_Rel (k + 5) u v) v v1) u v1 := vq_output I v1
theorem i_vc_performCount {k : Nat} {u : SX} {v : SY} (I : i_Rel k u v) (hk : k + 5 ≤ 2562) : wpX_performCount (fun r => wpY_performCount (fun r' => r' = r ∧ i_Rel (k + 5) u v) v) u := vq_performCount I
theorem i_vc_resumeCount {k : Nat} {u : SX} {v : SY} (I : i_Rel k u v) (hk : k + 5 ≤ 2562) : wpX_resumeCount (fun r => wpY_resumeCount (fun r' => r' = r ∧ i_Rel (k + 5) u v) v) u := vq_resumeCount I
end
