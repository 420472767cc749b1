abbrev ZF : Type := Nat × Nat × Int32 × (Nat → Int32)
abbrev ZR : Type := Nat → Option (List ZF × ZF)
abbrev ZZ : Type := Option Nat × Int32 × (Nat → Int32) × List ZF × ZR × Nat × Nat × (Nat → Int32) × Nat × Nat × Int32 × Int32 × Nat × Nat × Nat
theorem zu_s {f : Nat → Int32} {k : Nat} {x : Int32} : upd f k x k = x := by unfold upd; rw [if_pos rfl]
theorem zu_n {f : Nat → Int32} {k j : Nat} {x : Int32} (h : j ≠ k) : upd f k x j = f j := by unfold upd; rw [if_neg h]
abbrev zs_kp (k : Int32) : Prop := k = 3 ∨ k = 4 ∨ k = 5 ∨ k = 6 ∨ k = 7 ∨ k = 13 ∨ k = 17
abbrev zs_hd (K : Nat → Int32) (cf : Nat → Nat → Nat) (op : Nat) (f : ZF) : Prop := K f.1 = 13 ∧ f.2.1 = 1 ∧ cf f.1 op ≠ 0
def zs_fnd (K : Nat → Int32) (cf : Nat → Nat → Nat) (op : Nat) : List ZF → Option (List ZF × ZF × List ZF)
  | [] => none
  | f :: S => if zs_hd K cf op f then some ([], f, S) else
      match zs_fnd K cf op S with
      | none => none
      | some (a, g, b) => some (f :: a, g, b)
theorem zf_some {K : Nat → Int32} {cf : Nat → Nat → Nat} {op : Nat} : ∀ {S : List ZF} {a : List ZF} {g : ZF} {b : List ZF}, zs_fnd K cf op S = some (a, g, b) →
    S = a ++ g :: b ∧ zs_hd K cf op g ∧ ∀ x ∈ a, ¬ zs_hd K cf op x
  | [], a, g, b, h => by simp [zs_fnd] at h
  | f :: S, a, g, b, h => by
    by_cases c : zs_hd K cf op f
    · simp only [zs_fnd, if_pos c, Option.some.injEq, Prod.mk.injEq] at h
      obtain ⟨rfl, rfl, rfl⟩ := h
      exact ⟨rfl, c, fun x hx => nomatch hx⟩
    · simp only [zs_fnd, if_neg c] at h
      cases e : zs_fnd K cf op S with
      | none => rw [e] at h; simp at h
      | some q =>
        obtain ⟨a', g', b'⟩ := q
        rw [e] at h
        simp only [Option.some.injEq, Prod.mk.injEq] at h
        obtain ⟨rfl, rfl, rfl⟩ := h
        obtain ⟨h1, h2, h3⟩ := zf_some e
        refine ⟨by rw [h1]; rfl, h2, fun x hx => ?_⟩
        rcases List.mem_cons.mp hx with rfl | hx
        · exact c
        · exact h3 x hx
theorem zf_none {K : Nat → Int32} {cf : Nat → Nat → Nat} {op : Nat} : ∀ {S : List ZF}, zs_fnd K cf op S = none → ∀ x ∈ S, ¬ zs_hd K cf op x
  | [], _, x, hx => nomatch hx
  | f :: S, h, x, hx => by
    by_cases c : zs_hd K cf op f
    · simp only [zs_fnd, if_pos c] at h
      exact absurd h (by simp)
    · simp only [zs_fnd, if_neg c] at h
      cases e : zs_fnd K cf op S with
      | none =>
        rcases List.mem_cons.mp hx with rfl | hx
        · exact c
        · exact zf_none e x hx
      | some q =>
        obtain ⟨a', g', b'⟩ := q
        rw [e] at h; simp at h
def zo_set (R : ZR) (r : Nat) (x : Option (List ZF × ZF)) : ZR := fun j => if j = r then x else R j
theorem zo_s {R : ZR} {r : Nat} {x : Option (List ZF × ZF)} : zo_set R r x r = x := by unfold zo_set; rw [if_pos rfl]
theorem zo_n {R : ZR} {r j : Nat} {x : Option (List ZF × ZF)} (h : j ≠ r) : zo_set R r x j = R j := by unfold zo_set; rw [if_neg h]
def zs_ar (k x y : Int32) : Int32 := if k = 3 then x + y else if k = 4 then x - y else if k = 5 then x * y else if k = 6 then (if x < y then 1 else 0) else (if x = y then 1 else 0)
def zs_h (K A B C : Nat → Int32) (nx : Nat → Nat) (cf : Nat → Nat → Nat) (mp : Nat) (v : Int32) (t s : Nat) (h : Int32) (e : Nat → Int32) (S : List ZF) (R : ZR) (pn rn : Nat) (out : Nat → Int32) (on : Nat) (tc tp : Int32) (nc bc hc : Nat) : ZZ :=
  if s = 0 ∧ zs_kp (K t) then (some (nx (t + 1)), v, e, (t, 1, v, e) :: S, R, pn, rn, out, on, 1, tc, tp, nc, bc, hc)
  else if K t = 8 then (some (if v = 0 then nx (nx (t + 1)) else nx (t + 1)), v, e, S, R, pn, rn, out, on, 1, tc, tp, nc, bc, hc)
  else if K t = 9 then (some (nx (t + 1)), v, upd e (A t).toNatClampNeg v, S, R, pn, rn, out, on, 1, tc, tp, nc, bc + 1, hc)
  else if K t = 10 then (some (nx (t + 1)), v, e, S, R, pn, rn, out, on, 1, tc, tp, nc, bc, hc)
  else if K t = 11 then
    if on = 16 then (none, v, e, S, R, pn, rn, out, on, 3, 4, nI t, nc, bc, hc)
    else (none, v, e, S, R, pn, rn, upd out on v, on + 1, 1, tc, tp, nc, bc, hc)
  else if K t = 12 then
    if pn = mp then (none, v, e, S, R, pn, rn, out, on, 3, 3, nI t, nc, bc, hc)
    else match zs_fnd K cf (A t).toNatClampNeg S with
      | none => (none, v, e, S, R, pn + 1, rn, out, on, 3, 1, nI t, nc, bc, hc)
      | some (a, g, b) => (some (cf g.1 (A t).toNatClampNeg + 1), v,
          upd (upd (upd g.2.2.2 (C (cf g.1 (A t).toNatClampNeg)).toNatClampNeg g.2.2.1) (B (cf g.1 (A t).toNatClampNeg)).toNatClampNeg v) 8 (nI pn),
          b, zo_set R pn (some (a, g)), pn + 1, rn, out, on, 1, tc, tp, nc, bc + 3, hc)
  else if K t = 13 then (some (nx (nx (t + 1)) + 1), v, upd (upd e (B (nx (nx (t + 1)))).toNatClampNeg h) (A (nx (nx (t + 1)))).toNatClampNeg v, S, R, pn, rn, out, on, 1, tc, tp, nc, bc + 2, hc)
  else if K t = 17 then
    match R (e 8).toNatClampNeg with
    | none => (none, v, e, S, R, pn, rn, out, on, 3, 2, nI t, nc, bc, hc)
    | some (a, g) => (none, v, e, a ++ (if A g.1 = 0 then (g.1, 1, h, g.2.2.2) :: S else S), zo_set R (e 8).toNatClampNeg none, pn, rn + 1, out, on, 1, tc, tp, nc, bc, hc + (if A g.1 = 0 then 1 else 0))
  else (none, zs_ar (K t) h v, e, S, R, pn, rn, out, on, 1, tc, tp, nc, bc, hc)
def zs (K A B C : Nat → Int32) (nx : Nat → Nat) (cf : Nat → Nat → Nat) (mp : Nat) : ZZ → ZZ
  | (some p, v, e, S, R, pn, rn, out, on, st, tc, tp, nc, bc, hc) =>
    if K p = 1 then (none, A p, e, S, R, pn, rn, out, on, 1, tc, tp, nc, bc, hc)
    else if K p = 2 then (none, e (A p).toNatClampNeg, e, S, R, pn, rn, out, on, 1, tc, tp, nc, bc, hc)
    else (some (p + 1), v, e, (p, 0, 0, e) :: S, R, pn, rn, out, on, 1, tc, tp, nc + 1, bc, hc + 1)
  | (none, v, e, [], R, pn, rn, out, on, st, tc, tp, nc, bc, hc) => (none, v, e, [], R, pn, rn, out, on, 2, tc, tp, nc, bc, hc)
  | (none, v, e, f :: S, R, pn, rn, out, on, st, tc, tp, nc, bc, hc) =>
    zs_h K A B C nx cf mp v f.1 f.2.1 f.2.2.1 f.2.2.2 S R pn rn out on tc tp nc bc hc
def zl_sm (x : Int32) : Prop := ∃ a : Nat, a < 8 ∧ x = nI a
def zl_T (K A B C : Nat → Int32) (j : Nat) : Prop :=
  (∃ k : Nat, 1 ≤ k ∧ k ≤ 17 ∧ K j = nI k) ∧ (K j = 2 ∨ K j = 9 ∨ K j = 12 → zl_sm (A j)) ∧ (K j = 13 → A j = 0 ∨ A j = 1) ∧
  (K j = 14 → zl_sm (A j) ∧ zl_sm (B j)) ∧ (K j = 15 → zl_sm (A j) ∧ zl_sm (B j) ∧ zl_sm (C j))
def zl_C (K : Nat → Int32) (n : Nat) (nx : Nat → Nat) (cf : Nat → Nat → Nat) (cl ic : Nat → Prop) (p : Nat) : Prop :=
  p < nx p ∧ nx p ≤ n ∧
  (((K p = 1 ∨ K p = 2) ∧ nx p = p + 1) ∨
   ((K p = 11 ∨ K p = 12) ∧ cl (p + 1) ∧ nx p = nx (p + 1) ∧ (ic (p + 1) → ic p)) ∨
   ((K p = 3 ∨ K p = 4 ∨ K p = 5 ∨ K p = 6 ∨ K p = 7 ∨ K p = 9 ∨ K p = 10 ∨ K p = 17) ∧ (K p = 17 → ic p) ∧ cl (p + 1) ∧ cl (nx (p + 1)) ∧ nx p = nx (nx (p + 1)) ∧ (ic (p + 1) → ic p) ∧ (ic (nx (p + 1)) → ic p)) ∨
   (K p = 8 ∧ cl (p + 1) ∧ cl (nx (p + 1)) ∧ cl (nx (nx (p + 1))) ∧ nx p = nx (nx (nx (p + 1))) ∧ (ic (p + 1) → ic p) ∧ (ic (nx (p + 1)) → ic p) ∧ (ic (nx (nx (p + 1))) → ic p)) ∨
   (K p = 13 ∧ cl (p + 1) ∧ cl (nx (p + 1)) ∧ (ic (p + 1) → ic p) ∧ (ic (nx (p + 1)) → ic p) ∧
     K (nx (nx (p + 1))) = 14 ∧ cl (nx (nx (p + 1)) + 1) ∧ (ic (nx (nx (p + 1)) + 1) → ic p) ∧ nx (nx (nx (p + 1)) + 1) < nx p ∧
     ∀ op, op < 8 → cf p op ≠ 0 → p < cf p op ∧ K (cf p op) = 15 ∧ cl (cf p op + 1) ∧ nx (cf p op + 1) < nx p))
def zl_P (K A B C : Nat → Int32) (n : Nat) (nx : Nat → Nat) (cf : Nat → Nat → Nat) (cl ic : Nat → Prop) : Prop :=
  n ≤ 32 ∧ 0 < n ∧ (∀ j, j < n → zl_T K A B C j) ∧ cl 0 ∧ ¬ ic 0 ∧ ∀ p, cl p → zl_C K n nx cf cl ic p
def zw_s (w : ZF → Nat) : List ZF → Nat
  | [] => 0
  | f :: S => w f + zw_s w S
theorem zw_app (w : ZF → Nat) (b : List ZF) : ∀ a : List ZF, zw_s w (a ++ b) = zw_s w a + zw_s w b
  | [] => by simp [zw_s]
  | f :: a => by simp only [List.cons_append, zw_s, zw_app w b a]; omega
def zw_o (w : ZF → Nat) (c : Nat) : Option (List ZF × ZF) → Nat
  | none => 0
  | some (a, f) => zw_s w a + w f + c
def zw_r (w : ZF → Nat) (c : Nat) (R : ZR) : Nat → Nat
  | 0 => 0
  | r + 1 => zw_r w c R r + zw_o w c (R r)
theorem zw_ge (w : ZF → Nat) (c : Nat) (R : ZR) (r : Nat) (x : Option (List ZF × ZF)) : ∀ pn, pn ≤ r → zw_r w c (zo_set R r x) pn = zw_r w c R pn
  | 0, _ => rfl
  | pn + 1, h => by
    simp only [zw_r]
    rw [zw_ge w c R r x pn (by omega), zo_n (by omega)]
theorem zw_lt (w : ZF → Nat) (c : Nat) (R : ZR) (r : Nat) (x : Option (List ZF × ZF)) : ∀ pn, r < pn → zw_r w c (zo_set R r x) pn + zw_o w c (R r) = zw_r w c R pn + zw_o w c x
  | 0, h => by omega
  | pn + 1, h => by
    simp only [zw_r]
    by_cases e : r = pn
    · subst e
      rw [zw_ge w c R r x r (by omega), zo_s]; omega
    · have := zw_lt w c R r x pn (by omega)
      rw [zo_n (j := pn) (by omega)]; omega
def zt_T (K : Nat → Int32) (nx : Nat → Nat) (t s : Nat) : Nat := if s = 0 then nx t - nx (t + 1) else if K t = 13 then nx t - nx (nx (t + 1)) else 0
theorem zt_0 {K : Nat → Int32} {nx : Nat → Nat} {t : Nat} : zt_T K nx t 0 = nx t - nx (t + 1) := by simp [zt_T]
theorem zt_h {K : Nat → Int32} {nx : Nat → Nat} {t : Nat} (h : K t = 13) : zt_T K nx t 1 = nx t - nx (nx (t + 1)) := by simp [zt_T, h]
theorem zt_1 {K : Nat → Int32} {nx : Nat → Nat} {t : Nat} (h : K t ≠ 13) : zt_T K nx t 1 = 0 := by simp [zt_T, h]
def zw_a (K : Nat → Int32) (nx : Nat → Nat) (f : ZF) : Nat := zt_T K nx f.1 f.2.1
def zw_b (K : Nat → Int32) (nx : Nat → Nat) (f : ZF) : Nat := zt_T K nx f.1 f.2.1 + 1
def zw_d (K : Nat → Int32) (nx : Nat → Nat) (f : ZF) : Nat := 3 * zt_T K nx f.1 f.2.1 + (2 - f.2.1)
def zi_E (ic : Nat → Prop) (pn t : Nat) (e : Nat → Int32) : Prop := ic t → ∃ r, r < pn ∧ e 8 = nI r
def zi_F (K : Nat → Int32) (cl ic : Nat → Prop) (pn : Nat) (f : ZF) : Prop :=
  cl f.1 ∧ K f.1 ≠ 1 ∧ K f.1 ≠ 2 ∧ (f.2.1 = 0 ∨ (f.2.1 = 1 ∧ zs_kp (K f.1))) ∧ zi_E ic pn f.1 f.2.2.2
def zi_R (K : Nat → Int32) (cl ic : Nat → Prop) (pn : Nat) (R : ZR) : Prop :=
  ∀ r, r < pn → ∀ a g, R r = some (a, g) → (∀ f ∈ a, zi_F K cl ic pn f) ∧ zi_F K cl ic pn g ∧ K g.1 = 13 ∧ g.2.1 = 1
def zi_o (nx : Nat → Nat) : Option Nat → Nat
  | none => 0
  | some p => nx p - p
def zi_B (K : Nat → Int32) (nx : Nat → Nat) (mp : Nat) (fo : Option Nat) (S : List ZF) (R : ZR) (pn nc bc hc : Nat) : Prop :=
  nc + zi_o nx fo + zw_s (zw_a K nx) S + zw_r (zw_a K nx) 0 R pn + 35 * (mp - pn) ≤ 593 ∧
  bc + zi_o nx fo + zw_s (zw_b K nx) S + zw_r (zw_b K nx) 0 R pn + 35 * (mp - pn) ≤ 593 ∧
  hc + zi_o nx fo + zw_s (zw_a K nx) S + zw_r (zw_a K nx) 1 R pn + 35 * (mp - pn) ≤ 592
def zi_m (K : Nat → Int32) (nx : Nat → Nat) (mp : Nat) (fo : Option Nat) (S : List ZF) (R : ZR) (pn : Nat) : Nat :=
  3 * zi_o nx fo + zw_s (zw_d K nx) S + zw_r (zw_d K nx) 0 R pn + 100 * (mp - pn)
def zi_I (K : Nat → Int32) (nx : Nat → Nat) (mp : Nat) (cl ic : Nat → Prop) : ZZ → Prop
  | (fo, _, e, S, R, pn, _, _, on, st, tc, _, nc, bc, hc) =>
    st = 1 ∧ tc = 0 ∧ on ≤ 16 ∧ pn ≤ mp ∧ mp ≤ 16 ∧ 0 < nc ∧ 0 < bc ∧ (∀ p, fo = some p → cl p ∧ zi_E ic pn p e) ∧ (∀ f ∈ S, zi_F K cl ic pn f) ∧ zi_R K cl ic pn R ∧
    zi_B K nx mp fo S R pn nc bc hc
def zi_mu (K : Nat → Int32) (nx : Nat → Nat) (mp : Nat) : ZZ → Nat
  | (fo, _, _, S, R, pn, _, _, _, _, _, _, _, _, _) => zi_m K nx mp fo S R pn
def zi_X (mp : Nat) : ZZ → Prop
  | (_, _, _, _, _, pn, _, _, on, st, tc, _, _, _, _) => on ≤ 16 ∧ pn ≤ mp ∧ ((st = 2 ∧ tc = 0) ∨ (st = 3 ∧ tc ≠ 0))
theorem zi_Fm {K : Nat → Int32} {cl ic : Nat → Prop} {pn pn' : Nat} {f : ZF} (hp : pn ≤ pn') (h : zi_F K cl ic pn f) : zi_F K cl ic pn' f := by
  obtain ⟨h1, h2, h3, h4, h5⟩ := h
  refine ⟨h1, h2, h3, h4, fun hi => ?_⟩
  obtain ⟨r, hr, he⟩ := h5 hi
  exact ⟨r, by omega, he⟩
theorem zi_Rm {K : Nat → Int32} {cl ic : Nat → Prop} {pn : Nat} {R : ZR} {x : List ZF} {g : ZF} (h : zi_R K cl ic pn R) (hx : ∀ f ∈ x, zi_F K cl ic pn f) (hg : zi_F K cl ic pn g) (h13 : K g.1 = 13) (h1 : g.2.1 = 1) :
    zi_R K cl ic (pn + 1) (zo_set R pn (some (x, g))) := by
  intro r hr a b e
  by_cases c : r = pn
  · subst c
    rw [zo_s] at e
    simp only [Option.some.injEq, Prod.mk.injEq] at e
    obtain ⟨rfl, rfl⟩ := e
    exact ⟨fun f hf => zi_Fm (by omega) (hx f hf), zi_Fm (by omega) hg, h13, h1⟩
  · rw [zo_n c] at e
    obtain ⟨q1, q2, q3, q4⟩ := h r (by omega) a b e
    exact ⟨fun f hf => zi_Fm (by omega) (q1 f hf), zi_Fm (by omega) q2, q3, q4⟩
theorem zi_Rn {K : Nat → Int32} {cl ic : Nat → Prop} {pn r0 : Nat} {R : ZR} (h : zi_R K cl ic pn R) : zi_R K cl ic pn (zo_set R r0 none) := by
  intro r hr a b e
  by_cases c : r = r0
  · subst c; rw [zo_s] at e; cases e
  · rw [zo_n c] at e; exact h r hr a b e
