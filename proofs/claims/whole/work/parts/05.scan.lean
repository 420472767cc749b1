abbrev ZE : Type := Nat × Nat × Nat
def zn_set (f : Nat → Nat) (k x : Nat) : Nat → Nat := fun j => if j = k then x else f j
theorem zn_s {f : Nat → Nat} {k x : Nat} : zn_set f k x k = x := by unfold zn_set; rw [if_pos rfl]
theorem zn_n {f : Nat → Nat} {k j x : Nat} (h : j ≠ k) : zn_set f k x j = f j := by unfold zn_set; rw [if_neg h]
def zn_set2 (f : Nat → Nat → Nat) (k l x : Nat) : Nat → Nat → Nat := fun j m => if j = k ∧ m = l then x else f j m
theorem zn_s2 {f : Nat → Nat → Nat} {k l x : Nat} : zn_set2 f k l x k l = x := by unfold zn_set2; rw [if_pos ⟨rfl, rfl⟩]
theorem zn_n2 {f : Nat → Nat → Nat} {k l x j m : Nat} (h : ¬ (j = k ∧ m = l)) : zn_set2 f k l x j m = f j m := by unfold zn_set2; rw [if_neg h]
def zc_pc (k : Int32) : Nat := if k = 11 ∨ k = 12 then 1 else if k = 8 then 3 else 2
def zc_fin (K : Nat → Int32) (i : Nat) : (Nat → Nat) → List ZE → (Nat → Nat) × List ZE
  | nx, [] => (nx, [])
  | nx, (t, s, c) :: es => if K t = 13 ∨ s + 1 < zc_pc (K t) then (nx, (t, s + 1, c) :: es) else zc_fin K i (zn_set nx t (i + 1)) es
def zc_cl (i : Nat) : List ZE → List ZE
  | [] => []
  | (t, _, _) :: es => (t, 3, i) :: es
def zc_top : List ZE → Nat
  | [] => 0
  | (t, _, _) :: _ => t
def zc_tl : List ZE → List ZE
  | [] => []
  | _ :: es => es
def zc_take (K A : Nat → Int32) (i : Nat) (stk : List ZE) (nx : Nat → Nat) (cf : Nat → Nat → Nat) : List ZE × (Nat → Nat) × (Nat → Nat → Nat) :=
  if K i = 1 ∨ K i = 2 then ((zc_fin K i (zn_set nx i (i + 1)) stk).2, (zc_fin K i (zn_set nx i (i + 1)) stk).1, cf)
  else if K i = 14 then (zc_cl i stk, nx, cf)
  else if K i = 15 then (zc_cl i stk, nx, zn_set2 cf (zc_top stk) (A i).toNatClampNeg i)
  else if K i = 16 then ((zc_fin K i (zn_set nx (zc_top stk) (i + 1)) (zc_tl stk)).2, (zc_fin K i (zn_set nx (zc_top stk) (i + 1)) (zc_tl stk)).1, cf)
  else ((i, 0, 0) :: stk, nx, cf)
def zc_in (K : Nat → Int32) (e : ZE) : Prop := ¬ (K e.1 = 13 ∧ (e.2.1 = 2 ∨ e.2.1 = 4))
def zc_ok (K : Nat → Int32) (k : Int32) : List ZE → Prop
  | [] => k ≠ 14 ∧ k ≠ 15 ∧ k ≠ 16
  | (t, s, _) :: _ => if K t = 13 ∧ s = 2 then k = 14 else if K t = 13 ∧ s = 4 then (k = 15 ∨ k = 16) else (k ≠ 14 ∧ k ≠ 15 ∧ k ≠ 16)
def zc_bd (K A B C : Nat → Int32) (x : Int32) (e : ZE) : Prop :=
  (K e.1 = 9 ∧ e.2.1 = 1 ∧ A e.1 = x) ∨ (K e.1 = 13 ∧ e.2.1 = 3 ∧ ((K e.2.2 = 14 ∧ (A e.2.2 = x ∨ B e.2.2 = x)) ∨ (K e.2.2 = 15 ∧ (B e.2.2 = x ∨ C e.2.2 = x))))
def zc_ic (K : Nat → Int32) (stk : List ZE) : Prop := ∃ e ∈ stk, K e.1 = 13 ∧ e.2.1 = 3 ∧ K e.2.2 = 15
def zc_flt (K A B C : Nat → Int32) (i : Nat) (stk : List ZE) (cf : Nat → Nat → Nat) (f : Nat) : Prop :=
  if 0 < i ∧ stk = [] then f = 1
  else (¬ zc_ok K (K i) stk ∧ f = 2) ∨ (zc_ok K (K i) stk ∧
    ((K i = 2 ∧ ¬ (∃ e ∈ stk, zc_bd K A B C (A i) e) ∧ f = 3) ∨ (K i = 17 ∧ ¬ zc_ic K stk ∧ f = 4) ∨ (K i = 15 ∧ cf (zc_top stk) (A i).toNatClampNeg ≠ 0 ∧ f = 5) ∨
     (¬ (K i = 2 ∧ ¬ (∃ e ∈ stk, zc_bd K A B C (A i) e)) ∧ ¬ (K i = 17 ∧ ¬ zc_ic K stk) ∧ ¬ (K i = 15 ∧ cf (zc_top stk) (A i).toNatClampNeg ≠ 0) ∧ f = 0)))
def zk_o (nx : Nat → Nat) (ic : Nat → Prop) (t x : Nat) : Prop := nx x ≠ 0 ∧ (ic x → ic t)
def zk_q (nx : Nat → Nat) (ic : Nat → Prop) (t : Nat) : Nat → Nat → Prop
  | 0, q => q = t + 1
  | 1, q => zk_o nx ic t (t + 1) ∧ q = nx (t + 1)
  | _ + 2, q => zk_o nx ic t (t + 1) ∧ zk_o nx ic t (nx (t + 1)) ∧ q = nx (nx (t + 1))
def zk_bi (k : Int32) : Prop := k = 3 ∨ k = 4 ∨ k = 5 ∨ k = 6 ∨ k = 7 ∨ k = 9 ∨ k = 10 ∨ k = 17
def zk_R (K : Nat → Int32) (nx : Nat → Nat) (ic : Nat → Prop) (t : Nat) : Prop := ∃ c, zk_q nx ic t 2 c ∧ K c = 14 ∧ zk_o nx ic t (c + 1)
def zk_c (K : Nat → Int32) (nx : Nat → Nat) (t x : Nat) : Prop := t < x ∧ K x = 15 ∧ nx (x + 1) ≠ 0
def zk_h (K : Nat → Int32) (nx : Nat → Nat) (cf : Nat → Nat → Nat) (ic : Nat → Prop) (q t s c : Nat) : Prop :=
  (s ≤ 2 ∧ zk_q nx ic t s q ∧ ∀ op, cf t op = 0) ∨
  (s = 3 ∧ K c = 14 ∧ zk_q nx ic t 2 c ∧ q = c + 1 ∧ ∀ op, cf t op = 0) ∨
  (s = 3 ∧ K c = 15 ∧ zk_R K nx ic t ∧ t < c ∧ q = c + 1 ∧ ∀ op, cf t op ≠ 0 → cf t op = c ∨ zk_c K nx t (cf t op)) ∨
  (s = 4 ∧ zk_R K nx ic t ∧ ∀ op, cf t op ≠ 0 → zk_c K nx t (cf t op))
def zk_E (K : Nat → Int32) (nx : Nat → Nat) (cf : Nat → Nat → Nat) (ic : Nat → Prop) (q t s c : Nat) (es : List ZE) : Prop :=
  t < q ∧ nx t = 0 ∧ (ic t ↔ zc_ic K es) ∧ (K t = 17 → ic t) ∧
  ((((K t = 11 ∨ K t = 12) ∨ zk_bi (K t) ∨ K t = 8) ∧ s < zc_pc (K t) ∧ zk_q nx ic t s q) ∨ (K t = 13 ∧ zk_h K nx cf ic q t s c))
def zk_A (K : Nat → Int32) (es : List ZE) : Prop := ∀ e ∈ es, zc_in K e
def zk_S (K : Nat → Int32) (nx : Nat → Nat) (cf : Nat → Nat → Nat) (ic : Nat → Prop) : Nat → List ZE → Prop
  | q, [] => q = 0
  | q, (t, s, c) :: es => zk_E K nx cf ic q t s c es ∧ zk_S K nx cf ic t es ∧ zk_A K es
section
variable {K A B C : Nat → Int32} {nx nx' : Nat → Nat} {cf cf' : Nat → Nat → Nat} {ic ic' : Nat → Prop}
theorem zk_om {t x : Nat} (h2 : ∀ p, nx p ≠ 0 → nx' p = nx p) (i1 : ic' t ↔ ic t) (i2 : ∀ p, nx p ≠ 0 → (ic' p ↔ ic p)) (h : zk_o nx ic t x) : zk_o nx' ic' t x :=
  ⟨by rw [h2 x h.1]; exact h.1, fun z => i1.mpr (h.2 ((i2 x h.1).mp z))⟩
theorem zk_qm {t q : Nat} (h2 : ∀ p, nx p ≠ 0 → nx' p = nx p) (i1 : ic' t ↔ ic t) (i2 : ∀ p, nx p ≠ 0 → (ic' p ↔ ic p)) : ∀ {s : Nat}, zk_q nx ic t s q → zk_q nx' ic' t s q
  | 0, h => h
  | 1, h => ⟨zk_om h2 i1 i2 h.1, by rw [h2 _ h.1.1]; exact h.2⟩
  | s + 2, h => by
    obtain ⟨h3, h4, h5⟩ := h
    have e1 := h2 _ h3.1
    have e2 := h2 _ h4.1
    refine ⟨zk_om h2 i1 i2 h3, ?_, ?_⟩
    · rw [e1]; exact zk_om h2 i1 i2 h4
    · rw [e1, e2]; exact h5
theorem zk_cm {t x : Nat} (h2 : ∀ p, nx p ≠ 0 → nx' p = nx p) (h : zk_c K nx t x) : zk_c K nx' t x := ⟨h.1, h.2.1, by rw [h2 _ h.2.2]; exact h.2.2⟩
theorem zk_Rm {t : Nat} (h2 : ∀ p, nx p ≠ 0 → nx' p = nx p) (i1 : ic' t ↔ ic t) (i2 : ∀ p, nx p ≠ 0 → (ic' p ↔ ic p)) (h : zk_R K nx ic t) : zk_R K nx' ic' t := by
  obtain ⟨c, h1, h3, h4⟩ := h
  exact ⟨c, zk_qm h2 i1 i2 h1, h3, zk_om h2 i1 i2 h4⟩
theorem zk_Sm {es : List ZE} : ∀ {q : Nat}, (∀ p, p < q → nx' p = nx p) → (∀ p, nx p ≠ 0 → nx' p = nx p) → (∀ p op, p < q → cf' p op = cf p op) → (∀ p, p < q → (ic' p ↔ ic p)) → (∀ p, nx p ≠ 0 → (ic' p ↔ ic p)) →
    zk_S K nx cf ic q es → zk_S K nx' cf' ic' q es := by
  induction es with
  | nil => intro q _ _ _ _ _ h; exact h
  | cons e es ih =>
    obtain ⟨t, s, c⟩ := e
    intro q a1 a2 a3 a4 a5 ⟨⟨e1, e2, e3, e4, e5⟩, h2, h3⟩
    have it := a4 t e1
    have hcf : ∀ op, cf' t op = cf t op := fun op => a3 t op e1
    refine ⟨⟨e1, by rw [a1 t e1]; exact e2, it.trans e3, fun z => it.mpr (e4 z), ?_⟩, ih (fun p hp => a1 p (by omega)) a2 (fun p op hp => a3 p op (by omega)) (fun p hp => a4 p (by omega)) a5 h2, h3⟩
    rcases e5 with ⟨f1, f2, f3⟩ | ⟨f1, f2⟩
    · exact Or.inl ⟨f1, f2, zk_qm a2 it a5 f3⟩
    · refine Or.inr ⟨f1, ?_⟩
      rcases f2 with ⟨g1, g2, g3⟩ | ⟨g1, g2, g3, g4, g5⟩ | ⟨g1, g2, g3, g4, g5, g6⟩ | ⟨g1, g2, g3⟩
      · exact Or.inl ⟨g1, zk_qm a2 it a5 g2, fun op => by rw [hcf]; exact g3 op⟩
      · exact Or.inr (Or.inl ⟨g1, g2, zk_qm a2 it a5 g3, g4, fun op => by rw [hcf]; exact g5 op⟩)
      · refine Or.inr (Or.inr (Or.inl ⟨g1, g2, zk_Rm a2 it a5 g3, g4, g5, fun op => ?_⟩))
        rw [hcf]
        intro z
        exact (g6 op z).imp id (zk_cm a2)
      · refine Or.inr (Or.inr (Or.inr ⟨g1, zk_Rm a2 it a5 g2, fun op => ?_⟩))
        rw [hcf]
        intro z
        exact zk_cm a2 (g3 op z)
abbrev zk_cl (nx : Nat → Nat) : Nat → Prop := fun p => nx p ≠ 0
theorem zk_Cm {i i' p : Nat} (hi : i ≤ i') (h2 : ∀ p, nx p ≠ 0 → nx' p = nx p) (i2 : ∀ p, nx p ≠ 0 → (ic' p ↔ ic p)) (hc : ∀ p op, nx p ≠ 0 → cf' p op = cf p op) (hp : nx p ≠ 0)
    (h : zl_C K i nx cf (zk_cl nx) ic p) : zl_C K i' nx' cf' (zk_cl nx') ic' p := by
  have ep := h2 p hp
  have ip := i2 p hp
  have C1 : ∀ x, nx x ≠ 0 → zk_cl nx' x := fun x hx => by show nx' x ≠ 0; rw [h2 x hx]; exact hx
  have I1 : ∀ x, nx x ≠ 0 → (ic x → ic p) → (ic' x → ic' p) := fun x hx hi z => ip.mpr (hi ((i2 x hx).mp z))
  obtain ⟨l1, l2, l3⟩ := h
  refine ⟨by rw [ep]; exact l1, by rw [ep]; omega, ?_⟩
  rcases l3 with ⟨k, r⟩ | ⟨k, r1, r2, r3⟩ | ⟨k, r0, r1, r2, r3, r4, r5⟩ | ⟨k, r1, r2, r3, r4, r5, r6, r7⟩ | ⟨k, r1, r2, r3, r4, r5, r6, r7, r8, r9⟩
  · exact Or.inl ⟨k, by rw [ep]; exact r⟩
  · exact Or.inr (Or.inl ⟨k, C1 _ r1, by rw [ep, h2 _ r1]; exact r2, I1 _ r1 r3⟩)
  · refine Or.inr (Or.inr (Or.inl ⟨k, fun z => ip.mpr (r0 z), C1 _ r1, ?_, ?_, I1 _ r1 r4, ?_⟩))
    · rw [h2 _ r1]; exact C1 _ r2
    · rw [ep, h2 _ r1, h2 _ r2]; exact r3
    · rw [h2 _ r1]; exact I1 _ r2 r5
  · refine Or.inr (Or.inr (Or.inr (Or.inl ⟨k, C1 _ r1, ?_, ?_, ?_, I1 _ r1 r5, ?_, ?_⟩)))
    · rw [h2 _ r1]; exact C1 _ r2
    · rw [h2 _ r1, h2 _ r2]; exact C1 _ r3
    · rw [ep, h2 _ r1, h2 _ r2, h2 _ r3]; exact r4
    · rw [h2 _ r1]; exact I1 _ r2 r6
    · rw [h2 _ r1, h2 _ r2]; exact I1 _ r3 r7
  · refine Or.inr (Or.inr (Or.inr (Or.inr ⟨k, C1 _ r1, ?_, I1 _ r1 r3, ?_, ?_, ?_, ?_, ?_, ?_⟩)))
    · rw [h2 _ r1]; exact C1 _ r2
    · rw [h2 _ r1]; exact I1 _ r2 r4
    · rw [h2 _ r1, h2 _ r2]; exact r5
    · rw [h2 _ r1, h2 _ r2]; exact C1 _ r6
    · rw [h2 _ r1, h2 _ r2]; exact I1 _ r6 r7
    · rw [h2 _ r1, h2 _ r2, h2 _ r6, ep]; exact r8
    · intro op ho
      rw [hc p op hp]
      intro z
      obtain ⟨q1, q2, q3, q4⟩ := r9 op ho z
      exact ⟨q1, q2, C1 _ q3, by rw [h2 _ q3, ep]; exact q4⟩
theorem zc_icc {t s c : Nat} {es : List ZE} (h : ¬ (K t = 13 ∧ s = 3 ∧ K c = 15)) : zc_ic K ((t, s, c) :: es) → zc_ic K es := by
  intro ⟨e, he, h1⟩
  rcases List.mem_cons.mp he with rfl | he
  · exact absurd h1 h
  · exact ⟨e, he, h1⟩
theorem zk_qs {t s st i : Nat} (hs : s ≤ 1) (hst : nx st = i + 1) (it : ic st → ic t) (hq : zk_q nx ic t s st) : zk_q nx ic t (s + 1) (i + 1) := by
  have hst0 : nx st ≠ 0 := by omega
  match s, hs, hq with
  | 0, _, hq =>
    have e : st = t + 1 := hq
    subst e
    exact ⟨⟨hst0, it⟩, hst.symm⟩
  | 1, _, hq =>
    obtain ⟨q1, q2⟩ := hq
    subst q2
    exact ⟨q1, ⟨hst0, it⟩, hst.symm⟩
  | s + 2, h, _ => omega
theorem zc_fI {i : Nat} : ∀ (stk : List ZE) (st : Nat) (nx : Nat → Nat), nx st = i + 1 → (∀ p, nx p ≠ 0 → zl_C K (i + 1) nx cf (zk_cl nx) ic p) → zk_S K nx cf ic st stk → zk_A K stk → (ic st → zc_ic K stk) → st ≤ i →
    (∀ p, (zc_fin K i nx stk).1 p ≠ 0 → zl_C K (i + 1) (zc_fin K i nx stk).1 cf (zk_cl (zc_fin K i nx stk).1) ic p) ∧ (∀ p, i < p → nx p = 0 → (zc_fin K i nx stk).1 p = 0) ∧
    ((zc_fin K i nx stk).2 ≠ [] ∧ zk_S K (zc_fin K i nx stk).1 cf ic (i + 1) (zc_fin K i nx stk).2 ∨ (zc_fin K i nx stk).2 = [] ∧ (zc_fin K i nx stk).1 0 = i + 1 ∧ ¬ ic 0) := by
  intro stk
  induction stk with
  | nil =>
    intro st nx hst G hS _ hic _
    have : st = 0 := hS
    subst this
    exact ⟨G, fun _ _ h => h, Or.inr ⟨rfl, hst, fun z => by obtain ⟨e, he, -⟩ := hic z; exact nomatch he⟩⟩
  | cons e es ih =>
    obtain ⟨t, s, c⟩ := e
    intro st nx hst G ⟨⟨e1, e2, e3, e4, e5⟩, hS, hA'⟩ hA hic hi
    have hin : zc_in K (t, s, c) := hA _ (List.mem_cons_self ..)
    have hst0 : nx st ≠ 0 := by omega
    have it : ¬ (K t = 13 ∧ s = 3 ∧ K c = 15) → ic st → ic t := fun a z => e3.mpr (zc_icc a (hic z))
    by_cases hc : K t = 13 ∨ s + 1 < zc_pc (K t)
    · have e : zc_fin K i nx ((t, s, c) :: es) = (nx, (t, s + 1, c) :: es) := by simp only [zc_fin]; rw [if_pos hc]
      rw [e]
      refine ⟨G, fun _ _ h => h, Or.inl ⟨by simp, ⟨⟨by omega, e2, e3, e4, ?_⟩, hS, hA'⟩⟩⟩
      rcases e5 with ⟨f1, f2, f3⟩ | ⟨f1, f2⟩
      · have h13 : K t ≠ 13 := by
          intro z
          rw [z] at f1
          exact absurd f1 (by unfold zk_bi; decide)
        refine Or.inl ⟨f1, hc.resolve_left h13, zk_qs ?_ hst (it (fun z => h13 z.1)) f3⟩
        have : s + 1 < zc_pc (K t) := hc.resolve_left h13
        unfold zc_pc at this
        split at this
        · omega
        · split at this <;> omega
      · refine Or.inr ⟨f1, ?_⟩
        rcases f2 with ⟨g1, g2, g3⟩ | ⟨g1, g2, g3, g4, g5⟩ | ⟨g1, g2, g3, g4, g5, g6⟩ | ⟨g1, g2, g3⟩
        · have : s ≠ 2 := fun z => hin ⟨f1, Or.inl z⟩
          exact Or.inl ⟨by omega, zk_qs (by omega) hst (it (fun z => by omega)) g2, g3⟩
        · refine Or.inr (Or.inr (Or.inr ⟨by omega, ⟨c, g3, g2, ?_⟩, fun op z => absurd (g5 op) z⟩))
          rw [g4] at hst0 it
          exact ⟨hst0, it (fun z => by rw [g2] at z; exact absurd z.2.2 (by decide))⟩
        · refine Or.inr (Or.inr (Or.inr ⟨by omega, g3, fun op z => ?_⟩))
          rcases g6 op z with y | y
          · rw [y]
            rw [g5] at hst0
            exact ⟨g4, g2, hst0⟩
          · exact y
        · exact absurd ⟨f1, Or.inr g1⟩ hin
    · have e : zc_fin K i nx ((t, s, c) :: es) = zc_fin K i (zn_set nx t (i + 1)) es := by simp only [zc_fin]; rw [if_neg hc]
      rw [e]
      have h13 : K t ≠ 13 := fun z => hc (Or.inl z)
      have a2 : ∀ p, nx p ≠ 0 → zn_set nx t (i + 1) p = nx p := fun p hp => zn_n (fun z => hp (by rw [z]; exact e2))
      have iS : ic st → ic t := it (fun z => h13 z.1)
      rcases e5 with ⟨f1, f2, f3⟩ | ⟨f1, f2⟩
      · have hs : zc_pc (K t) ≤ s + 1 := by
          have : ¬ s + 1 < zc_pc (K t) := fun z => hc (Or.inr z)
          omega
        have Lst := G st hst0
        have nt : zn_set nx t (i + 1) t = i + 1 := zn_s
        have C1 : ∀ x, nx x ≠ 0 → zk_cl (zn_set nx t (i + 1)) x := fun x hx => by show zn_set nx t (i + 1) x ≠ 0; rw [a2 x hx]; exact hx
        have Lt : zl_C K (i + 1) (zn_set nx t (i + 1)) cf (zk_cl (zn_set nx t (i + 1))) ic t := by
          refine ⟨by rw [nt]; omega, by rw [nt]; omega, ?_⟩
          rcases f1 with f1 | f1 | f1
          · have : s = 0 := by
              have : zc_pc (K t) = 1 := by unfold zc_pc; rw [if_pos f1]
              omega
            subst this
            have f3' : st = t + 1 := f3
            rw [f3'] at hst0 hst iS
            exact Or.inr (Or.inl ⟨f1, C1 _ hst0, by rw [nt, a2 _ hst0, hst], iS⟩)
          · have : s = 1 := by
              have : zc_pc (K t) = 2 := by
                unfold zc_pc
                rcases f1 with f | f | f | f | f | f | f | f <;> (rw [f]; decide)
              omega
            subst this
            obtain ⟨⟨q1, q1'⟩, q2⟩ := f3
            rw [q2] at hst0 hst iS
            exact Or.inr (Or.inr (Or.inl ⟨f1, e4, C1 _ q1, by rw [a2 _ q1]; exact C1 _ hst0, by rw [nt, a2 _ q1, a2 _ hst0, hst], q1', by rw [a2 _ q1]; exact iS⟩))
          · have : s = 2 := by
              have : zc_pc (K t) = 3 := by
                unfold zc_pc
                rw [f1]; decide
              omega
            subst this
            obtain ⟨⟨q1, q1'⟩, ⟨q2, q2'⟩, q3⟩ := f3
            rw [q3] at hst0 hst iS
            refine Or.inr (Or.inr (Or.inr (Or.inl ⟨f1, C1 _ q1, ?_, ?_, ?_, q1', ?_, ?_⟩)))
            · rw [a2 _ q1]; exact C1 _ q2
            · rw [a2 _ q1, a2 _ q2]; exact C1 _ hst0
            · rw [nt, a2 _ q1, a2 _ q2, a2 _ hst0, hst]
            · rw [a2 _ q1]; exact q2'
            · rw [a2 _ q1, a2 _ q2]; exact iS
        have := ih t (zn_set nx t (i + 1)) nt ?_ ?_ hA' (fun z => e3.mp z) (by omega)
        · refine ⟨this.1, fun p hp h0 => this.2.1 p hp ?_, this.2.2⟩
          rw [zn_n (by omega)]
          exact h0
        · intro p hp
          by_cases hpt : p = t
          · subst hpt; exact Lt
          · rw [zn_n hpt] at hp
            exact zk_Cm (Nat.le_refl _) a2 (fun _ _ => Iff.rfl) (fun _ _ _ => rfl) hp (G p hp)
        · exact zk_Sm (fun p hp => zn_n (by omega)) a2 (fun _ _ _ => rfl) (fun _ _ => Iff.rfl) (fun _ _ => Iff.rfl) hS
      · exact absurd f1 h13
end
