abbrev HPr : Type := Nat × ZF
def hl_C (bel : Nat → Int32) : Int32 → List HPr → Int32 → Prop
  | a, [], e => a = e
  | a, p :: L, e => a = nI p.1 ∧ hl_C bel (bel p.1) L e
def hl_N : List HPr → Prop
  | [] => True
  | p :: L => (∀ q ∈ L, q.1 ≠ p.1) ∧ hl_N L
def hn_N (tok stg hld : Nat → Int32) (EV : Nat → (Nat → Int32) → Prop) (lo cnt : Nat) (p : HPr) : Prop :=
  lo ≤ p.1 ∧ p.1 < cnt ∧ tok p.1 = nI p.2.1 ∧ stg p.1 = nI p.2.2.1 ∧ (p.2.2.1 = 1 → hld p.1 = p.2.2.2.1) ∧ EV p.1 p.2.2.2.2
def hp_H (tok stg hld bel : Nat → Int32) (EV : Nat → (Nat → Int32) → Prop) (lo cnt : Nat) (Q : Nat → List HPr) : Prop :=
  ∃ own : Nat → Nat, ∀ k, (∃ a e, hl_C bel a (Q k) e) ∧ hl_N (Q k) ∧ ∀ p ∈ Q k, own p.1 = k ∧ hn_N tok stg hld EV lo cnt p
def hq_s (Q : Nat → List HPr) (k : Nat) (L : List HPr) : Nat → List HPr := fun j => if j = k then L else Q j
theorem hq_e {Q : Nat → List HPr} {k : Nat} {L : List HPr} : hq_s Q k L k = L := by unfold hq_s; rw [if_pos rfl]
theorem hq_n {Q : Nat → List HPr} {k j : Nat} {L : List HPr} (h : j ≠ k) : hq_s Q k L j = Q j := by unfold hq_s; rw [if_neg h]
def hf_f (d : Int32) : List HPr → Int32
  | [] => d
  | p :: _ => nI p.1
def hf_l : Int32 → List HPr → Int32
  | d, [] => d
  | _, p :: L => hf_l (nI p.1) L
theorem hf_la {b : HPr} : ∀ {a : List HPr} {d : Int32}, hf_l d (a ++ [b]) = nI b.1
  | [], _ => rfl
  | _ :: a, _ => hf_la (a := a)
theorem hf_c {bel : Nat → Int32} {a e d : Int32} : ∀ {L : List HPr}, L ≠ [] → hl_C bel a L e → a = hf_f d L
  | [], h, _ => absurd rfl h
  | _ :: _, _, c => c.1
theorem hl_upd {bel : Nat → Int32} {k : Nat} {x e : Int32} : ∀ {L : List HPr} {a : Int32}, (∀ p ∈ L, p.1 ≠ k) → hl_C bel a L e → hl_C (upd bel k x) a L e
  | [], _, _, c => c
  | p :: L, a, h, c => ⟨c.1, by rw [zu_n (h p (List.mem_cons_self ..))]; exact hl_upd (fun q hq => h q (List.mem_cons_of_mem _ hq)) c.2⟩
theorem hl_app {bel : Nat → Int32} {M : List HPr} {e : Int32} : ∀ {L : List HPr} {a : Int32}, hl_C bel a (L ++ M) e ↔ ∃ m, hl_C bel a L m ∧ hl_C bel m M e
  | [], a => ⟨fun c => ⟨a, rfl, c⟩, fun ⟨m, h1, h2⟩ => by have h1' : a = m := h1; subst h1'; exact h2⟩
  | p :: L, a => by
    constructor
    · intro c
      obtain ⟨m, h1, h2⟩ := hl_app.mp c.2
      exact ⟨m, ⟨c.1, h1⟩, h2⟩
    · intro ⟨m, h1, h2⟩
      exact ⟨h1.1, hl_app.mpr ⟨m, h1.2, h2⟩⟩
theorem hl_Na {M : List HPr} : ∀ {L : List HPr}, hl_N (L ++ M) ↔ hl_N L ∧ hl_N M ∧ ∀ p ∈ L, ∀ q ∈ M, q.1 ≠ p.1
  | [] => ⟨fun c => ⟨trivial, c, fun _ h => nomatch h⟩, fun c => c.2.1⟩
  | p :: L => by
    constructor
    · intro c
      obtain ⟨h1, h2, h3⟩ := hl_Na.mp c.2
      refine ⟨⟨fun q hq => c.1 q (List.mem_append.mpr (Or.inl hq)), h1⟩, h2, fun x hx q hq => ?_⟩
      rcases List.mem_cons.mp hx with rfl | hx
      · exact c.1 q (List.mem_append.mpr (Or.inr hq))
      · exact h3 x hx q hq
    · intro ⟨h1, h2, h3⟩
      refine ⟨fun q hq => ?_, hl_Na.mpr ⟨h1.2, h2, fun x hx => h3 x (List.mem_cons_of_mem _ hx)⟩⟩
      rcases List.mem_append.mp hq with hq | hq
      · exact h1.1 q hq
      · exact h3 p (List.mem_cons_self ..) q hq
section
variable {tok stg hld bel : Nat → Int32} {EV : Nat → (Nat → Int32) → Prop} {lo cnt : Nat} {Q : Nat → List HPr} {top nil : Int32}
theorem hp_ev {EV' : Nat → (Nat → Int32) → Prop} (H : hp_H tok stg hld bel EV lo cnt Q) (hE : ∀ x e, x < cnt → EV x e → EV' x e) : hp_H tok stg hld bel EV' lo cnt Q := by
  obtain ⟨own, H⟩ := H
  refine ⟨own, fun k => ⟨(H k).1, (H k).2.1, fun p hp => ?_⟩⟩
  obtain ⟨o, n1, n2, n3, n4, n5, n6⟩ := (H k).2.2 p hp
  exact ⟨o, n1, n2, n3, n4, n5, hE _ _ n2 n6⟩
theorem hp_node (H : hp_H tok stg hld bel EV lo cnt Q) {k : Nat} {p : HPr} (hp : p ∈ Q k) : hn_N tok stg hld EV lo cnt p := by
  obtain ⟨own, H⟩ := H
  exact ((H k).2.2 p hp).2
theorem hp_push (H : hp_H tok stg hld bel EV lo cnt Q) (hlo : lo ≤ cnt) (C : hl_C bel top (Q 0) nil) (t s : Nat) (h : Int32) (e : Nat → Int32) {hld' : Nat → Int32} {EV' : Nat → (Nat → Int32) → Prop}
    (hh : ∀ x, x < cnt → hld' x = hld x) (hs : s = 1 → hld' cnt = h) (hE : ∀ x e, x < cnt → EV x e → EV' x e) (hEc : EV' cnt e) :
    hp_H (upd tok cnt (nI t)) (upd stg cnt (nI s)) hld' (upd bel cnt top) EV' lo (cnt + 1) (hq_s Q 0 ((cnt, (t, s, h, e)) :: Q 0)) ∧
    hl_C (upd bel cnt top) (nI cnt) ((cnt, (t, s, h, e)) :: Q 0) nil := by
  obtain ⟨own, H⟩ := H
  have hlt : ∀ k, ∀ p ∈ Q k, p.1 < cnt := fun k p hp => ((H k).2.2 p hp).2.2.1
  have old : ∀ k, ∀ p ∈ Q k, hn_N (upd tok cnt (nI t)) (upd stg cnt (nI s)) hld' EV' lo (cnt + 1) p := by
    intro k p hp
    obtain ⟨o, n1, n2, n3, n4, n5, n6⟩ := (H k).2.2 p hp
    exact ⟨n1, by omega, by rw [zu_n (by omega)]; exact n3, by rw [zu_n (by omega)]; exact n4, fun z => by rw [hh _ n2]; exact n5 z, hE _ _ n2 n6⟩
  have ch : ∀ k a x, hl_C bel a (Q k) x → hl_C (upd bel cnt top) a (Q k) x := fun k a x c => hl_upd (fun p hp => Nat.ne_of_lt (hlt k p hp)) c
  have C' : hl_C (upd bel cnt top) (nI cnt) ((cnt, (t, s, h, e)) :: Q 0) nil := ⟨rfl, by show hl_C _ (upd bel cnt top cnt) _ _; rw [zu_s]; exact ch 0 _ _ C⟩
  refine ⟨⟨fun x => if x = cnt then 0 else own x, fun k => ?_⟩, C'⟩
  by_cases hk : k = 0
  · subst hk
    rw [hq_e]
    refine ⟨⟨_, _, C'⟩, ⟨fun q hq => Nat.ne_of_lt (hlt 0 q hq), (H 0).2.1⟩, fun p hp => ?_⟩
    rcases List.mem_cons.mp hp with rfl | hp
    · exact ⟨if_pos rfl, hlo, Nat.lt_succ_self _, zu_s, zu_s, hs, hEc⟩
    · refine ⟨?_, old 0 p hp⟩
      show (if p.1 = cnt then 0 else own p.1) = 0
      rw [if_neg (Nat.ne_of_lt (hlt 0 p hp))]
      exact ((H 0).2.2 p hp).1
  · rw [hq_n hk]
    obtain ⟨⟨a, x, c⟩, h2, h3⟩ := H k
    refine ⟨⟨a, x, ch k a x c⟩, h2, fun p hp => ⟨?_, old k p hp⟩⟩
    show (if p.1 = cnt then 0 else own p.1) = k
    rw [if_neg (Nat.ne_of_lt (hlt k p hp))]
    exact (h3 p hp).1
theorem hp_keep (H : hp_H tok stg hld bel EV lo cnt Q) {x t s : Nat} {h : Int32} {e : Nat → Int32} {L : List HPr} (hQ : Q 0 = (x, (t, s, h, e)) :: L) (v : Int32) :
    hp_H tok (upd stg x 1) (upd hld x v) bel EV lo cnt (hq_s Q 0 ((x, (t, 1, v, e)) :: L)) := by
  obtain ⟨own, H⟩ := H
  have H0 := H 0
  rw [hQ] at H0
  obtain ⟨⟨a0, x0, c0⟩, ⟨d1, d2⟩, d3⟩ := H0
  obtain ⟨o, n1, n2, n3, n4, n5, n6⟩ := d3 _ (List.mem_cons_self ..)
  have old : ∀ p : HPr, p.1 ≠ x → hn_N tok stg hld EV lo cnt p → hn_N tok (upd stg x 1) (upd hld x v) EV lo cnt p := by
    intro p hp ⟨m1, m2, m3, m4, m5, m6⟩
    exact ⟨m1, m2, m3, by rw [zu_n hp]; exact m4, fun z => by rw [zu_n hp]; exact m5 z, m6⟩
  refine ⟨own, fun k => ?_⟩
  by_cases hk : k = 0
  · subst hk
    rw [hq_e]
    refine ⟨⟨a0, x0, c0⟩, ⟨d1, d2⟩, fun p hp => ?_⟩
    rcases List.mem_cons.mp hp with rfl | hp
    · exact ⟨o, n1, n2, n3, zu_s, fun _ => zu_s, n6⟩
    · exact ⟨(d3 p (List.mem_cons_of_mem _ hp)).1, old p (d1 p hp) (d3 p (List.mem_cons_of_mem _ hp)).2⟩
  · rw [hq_n hk]
    refine ⟨(H k).1, (H k).2.1, fun p hp => ?_⟩
    obtain ⟨op, np⟩ := (H k).2.2 p hp
    refine ⟨op, old p (fun z => hk ?_) np⟩
    rw [z] at op
    exact op.symm.trans o
theorem hp_pop (H : hp_H tok stg hld bel EV lo cnt Q) {p : HPr} {L : List HPr} (hQ : Q 0 = p :: L) : hp_H tok stg hld bel EV lo cnt (hq_s Q 0 L) := by
  obtain ⟨own, H⟩ := H
  refine ⟨own, fun k => ?_⟩
  by_cases hk : k = 0
  · subst hk
    rw [hq_e]
    have H0 := H 0
    rw [hQ] at H0
    obtain ⟨⟨a0, x0, c0⟩, ⟨d1, d2⟩, d3⟩ := H0
    exact ⟨⟨_, _, c0.2⟩, d2, fun q hq => d3 q (List.mem_cons_of_mem _ hq)⟩
  · rw [hq_n hk]; exact H k
theorem hp_cap (H : hp_H tok stg hld bel EV lo cnt Q) {a b : List HPr} {q : HPr} (hQ : Q 0 = a ++ q :: b) {k1 k2 : Nat} (h1 : k1 ≠ 0) (h2 : k2 ≠ 0) (h12 : k1 ≠ k2) :
    hp_H tok stg hld bel EV lo cnt (hq_s (hq_s (hq_s Q 0 b) k1 a) k2 [q]) := by
  classical
  obtain ⟨own, H⟩ := H
  have H0 := H 0
  rw [hQ] at H0
  obtain ⟨⟨a0, x0, c0⟩, d2, d3⟩ := H0
  obtain ⟨m, c1, c2⟩ := hl_app.mp c0
  obtain ⟨e1, e2, e3⟩ := hl_Na.mp d2
  have hq := d3 q (by simp)
  refine ⟨fun x => if (∃ p ∈ a, p.1 = x) then k1 else if x = q.1 then k2 else own x, fun k => ?_⟩
  by_cases z2 : k = k2
  · subst z2
    rw [hq_e]
    refine ⟨⟨nI q.1, bel q.1, rfl, rfl⟩, ⟨(fun _ h => nomatch h), trivial⟩, fun p hp => ?_⟩
    have hp' : p = q := by simpa using hp
    subst hp'
    refine ⟨?_, hq.2⟩
    show (if _ then k1 else if _ then k else _) = k
    rw [if_neg (fun ⟨y, hy, hye⟩ => e3 y hy p (List.mem_cons_self ..) hye.symm), if_pos rfl]
  · rw [hq_n z2]
    by_cases z1 : k = k1
    · subst z1
      rw [hq_e]
      refine ⟨⟨_, _, c1⟩, e1, fun p hp => ⟨?_, (d3 p (List.mem_append.mpr (Or.inl hp))).2⟩⟩
      show (if _ then k else _) = k
      rw [if_pos ⟨p, hp, rfl⟩]
    · rw [hq_n z1]
      by_cases z0 : k = 0
      · subst z0
        rw [hq_e]
        refine ⟨⟨_, _, c2.2⟩, e2.2, fun p hp => ?_⟩
        have hp' : p ∈ q :: b := List.mem_cons_of_mem _ hp
        obtain ⟨o, np⟩ := d3 p (List.mem_append.mpr (Or.inr hp'))
        refine ⟨?_, np⟩
        show (if _ then k1 else if _ then k2 else own p.1) = 0
        rw [if_neg (fun ⟨y, hy, hye⟩ => e3 y hy p hp' hye.symm), if_neg (e2.1 p hp)]
        exact o
      · rw [hq_n z0]
        refine ⟨(H k).1, (H k).2.1, fun p hp => ?_⟩
        obtain ⟨o, np⟩ := (H k).2.2 p hp
        refine ⟨?_, np⟩
        show (if _ then k1 else if _ then k2 else own p.1) = k
        rw [if_neg, if_neg]
        · exact o
        · intro z
          rw [z, hq.1] at o
          exact z0 o.symm
        · intro ⟨y, hy, hye⟩
          have := (d3 y (List.mem_append.mpr (Or.inl hy))).1
          rw [hye, o] at this
          exact z0 this
theorem hp_deep (H : hp_H tok stg hld bel EV lo cnt Q) {x t : Nat} {h : Int32} {e : Nat → Int32} {k2 : Nat} (h2 : k2 ≠ 0) (hQ : Q k2 = [(x, (t, 1, h, e))]) (C : hl_C bel top (Q 0) nil) (v : Int32) :
    hp_H tok stg (upd hld x v) (upd bel x top) EV lo cnt (hq_s (hq_s Q k2 []) 0 ((x, (t, 1, v, e)) :: Q 0)) ∧ hl_C (upd bel x top) (nI x) ((x, (t, 1, v, e)) :: Q 0) nil := by
  obtain ⟨own, H⟩ := H
  have hx := (H k2).2.2 (x, (t, 1, h, e)) (by rw [hQ]; exact List.mem_cons_self ..)
  obtain ⟨o, n1, n2, n3, n4, n5, n6⟩ := hx
  have ne : ∀ k, k ≠ k2 → ∀ p ∈ Q k, p.1 ≠ x := by
    intro k hk p hp z
    have := ((H k).2.2 p hp).1
    rw [z] at this
    exact hk (this.symm.trans o)
  have old : ∀ p : HPr, p.1 ≠ x → hn_N tok stg hld EV lo cnt p → hn_N tok stg (upd hld x v) EV lo cnt p := by
    intro p hp ⟨m1, m2, m3, m4, m5, m6⟩
    exact ⟨m1, m2, m3, m4, fun z => by rw [zu_n hp]; exact m5 z, m6⟩
  have C' : hl_C (upd bel x top) (nI x) ((x, (t, 1, v, e)) :: Q 0) nil := ⟨rfl, by show hl_C _ (upd bel x top x) _ _; rw [zu_s]; exact hl_upd (ne 0 (Ne.symm h2)) C⟩
  refine ⟨⟨fun y => if own y = k2 then 0 else own y, fun k => ?_⟩, C'⟩
  by_cases hk : k = 0
  · subst hk
    rw [hq_e]
    refine ⟨⟨_, _, C'⟩, ⟨ne 0 (Ne.symm h2), (H 0).2.1⟩, fun p hp => ?_⟩
    rcases List.mem_cons.mp hp with rfl | hp
    · exact ⟨if_pos o, n1, n2, n3, n4, fun _ => zu_s, n6⟩
    · obtain ⟨op, np⟩ := (H 0).2.2 p hp
      refine ⟨?_, old p (ne 0 (Ne.symm h2) p hp) np⟩
      show (if own p.1 = k2 then 0 else own p.1) = 0
      rw [op, if_neg (Ne.symm h2)]
  · rw [hq_n hk]
    by_cases hk2 : k = k2
    · subst hk2
      rw [hq_e]
      exact ⟨⟨0, 0, rfl⟩, trivial, fun _ h => nomatch h⟩
    · rw [hq_n hk2]
      obtain ⟨⟨a, y, c⟩, m2, m3⟩ := H k
      refine ⟨⟨a, y, hl_upd (ne k hk2) c⟩, m2, fun p hp => ?_⟩
      obtain ⟨op, np⟩ := m3 p hp
      refine ⟨?_, old p (ne k hk2 p hp) np⟩
      show (if own p.1 = k2 then 0 else own p.1) = k
      rw [op, if_neg hk2]
theorem hp_spl (H : hp_H tok stg hld bel EV lo cnt Q) {a : List HPr} {b : HPr} {k1 : Nat} (h1 : k1 ≠ 0) (hQ : Q k1 = a ++ [b]) (C : hl_C bel top (Q 0) nil) (d : Int32) :
    hp_H tok stg hld (upd bel b.1 top) EV lo cnt (hq_s (hq_s Q k1 []) 0 (Q k1 ++ Q 0)) ∧ hl_C (upd bel b.1 top) (hf_f d (Q k1)) (Q k1 ++ Q 0) nil := by
  obtain ⟨own, H⟩ := H
  have Hk := H k1
  rw [hQ] at Hk
  obtain ⟨⟨a0, x0, c0⟩, d2, d3⟩ := Hk
  obtain ⟨ob, nb⟩ := d3 b (by simp)
  obtain ⟨e1, e2, e3⟩ := hl_Na.mp d2
  obtain ⟨m, c1, c2⟩ := hl_app.mp c0
  have ha0 : a0 = hf_f d (Q k1) := by rw [hQ]; exact hf_c (by simp) c0
  have ne : ∀ k, k ≠ k1 → ∀ p ∈ Q k, p.1 ≠ b.1 := by
    intro k hk p hp z
    have := ((H k).2.2 p hp).1
    rw [z] at this
    exact hk (this.symm.trans ob)
  have C' : hl_C (upd bel b.1 top) (hf_f d (Q k1)) (Q k1 ++ Q 0) nil := by
    rw [← ha0, hQ]
    refine hl_app.mpr ⟨top, hl_app.mpr ⟨m, hl_upd (fun p hp => (e3 p hp b (by simp)).symm) c1, c2.1, ?_⟩, hl_upd (ne 0 (Ne.symm h1)) C⟩
    show upd bel b.1 top b.1 = top
    exact zu_s
  refine ⟨⟨fun y => if own y = k1 then 0 else own y, fun k => ?_⟩, C'⟩
  by_cases hk : k = 0
  · subst hk
    rw [hq_e]
    refine ⟨⟨_, _, C'⟩, ?_, fun p hp => ?_⟩
    · refine hl_Na.mpr ⟨(H k1).2.1, (H 0).2.1, fun p hp q hq z => h1 ?_⟩
      have w1 := ((H k1).2.2 p hp).1
      have w2 := ((H 0).2.2 q hq).1
      rw [z] at w2
      exact w1.symm.trans w2
    · rcases List.mem_append.mp hp with hp | hp
      · obtain ⟨op, np⟩ := (H k1).2.2 p hp
        exact ⟨if_pos op, np⟩
      · obtain ⟨op, np⟩ := (H 0).2.2 p hp
        refine ⟨?_, np⟩
        show (if own p.1 = k1 then 0 else own p.1) = 0
        rw [op, if_neg (Ne.symm h1)]
  · rw [hq_n hk]
    by_cases hk1 : k = k1
    · subst hk1
      rw [hq_e]
      exact ⟨⟨0, 0, rfl⟩, trivial, fun _ h => nomatch h⟩
    · rw [hq_n hk1]
      obtain ⟨⟨a', y, c⟩, m2, m3⟩ := H k
      refine ⟨⟨a', y, hl_upd (ne k hk1) c⟩, m2, fun p hp => ?_⟩
      obtain ⟨op, np⟩ := m3 p hp
      refine ⟨?_, np⟩
      show (if own p.1 = k1 then 0 else own p.1) = k
      rw [op, if_neg hk1]
end
