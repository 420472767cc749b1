def hr_R (Q : Nat → List HPr) (R : ZR) (pn : Nat) (P0 : Nat → Prop) (P1 : Nat → Nat → List HPr → Prop) : Prop :=
  ∀ r, r < pn → (R r = none → P0 r) ∧ ∀ sg g, R r = some (sg, g) → ∃ x, (Q (2 * r + 1)).map Prod.snd = sg ∧ Q (2 * r + 2) = [(x, g)] ∧ P1 r x (Q (2 * r + 1))
def hs_G (tok stg hld bel : Nat → Int32) (EV : Nat → (Nat → Int32) → Prop) (lo cnt : Nat) (nil top : Int32) (S : List ZF) (R : ZR) (pn : Nat) (P0 : Nat → Prop) (P1 : Nat → Nat → List HPr → Prop) : Prop :=
  ∃ Q, hp_H tok stg hld bel EV lo cnt Q ∧ (Q 0).map Prod.snd = S ∧ hl_C bel top (Q 0) nil ∧ hr_R Q R pn P0 P1
section
variable {tok stg hld bel : Nat → Int32} {EV : Nat → (Nat → Int32) → Prop} {lo cnt : Nat} {nil top : Int32} {S : List ZF} {R : ZR} {pn : Nat} {P0 P0' : Nat → Prop} {P1 P1' : Nat → Nat → List HPr → Prop} {Q : Nat → List HPr}
theorem hr_0 (h : hr_R Q R pn P0 P1) (L : List HPr) : hr_R (hq_s Q 0 L) R pn P0 P1 := by
  intro r hr
  refine ⟨(h r hr).1, fun sg g e => ?_⟩
  rw [hq_n (by omega), hq_n (by omega)]
  exact (h r hr).2 sg g e
theorem hr_cap (h : hr_R Q R pn P0 P1) {a b : List HPr} {x : Nat} {g : ZF} (m0 : ∀ r, r < pn → P0 r → P0' r) (m1 : ∀ r y L, r < pn → P1 r y L → P1' r y L) (hp : P1' pn x a) {sg : List ZF} (hsg : a.map Prod.snd = sg) :
    hr_R (hq_s (hq_s (hq_s Q 0 b) (2 * pn + 1) a) (2 * pn + 2) [(x, g)]) (zo_set R pn (some (sg, g))) (pn + 1) P0' P1' := by
  intro r hr
  by_cases c : r = pn
  · subst c
    rw [zo_s]
    refine ⟨(fun z => by cases z), fun sg' g' e => ?_⟩
    simp only [Option.some.injEq, Prod.mk.injEq] at e
    obtain ⟨rfl, rfl⟩ := e
    refine ⟨x, ?_, ?_, ?_⟩
    · rw [hq_n (by omega), hq_e]; exact hsg
    · rw [hq_e]
    · rw [hq_n (by omega), hq_e]; exact hp
  · rw [zo_n c]
    have hr' : r < pn := by omega
    refine ⟨fun z => m0 r hr' ((h r hr').1 z), fun sg' g' e => ?_⟩
    obtain ⟨y, h1, h2, h3⟩ := (h r hr').2 sg' g' e
    refine ⟨y, ?_, ?_, ?_⟩
    · rw [hq_n (by omega), hq_n (by omega), hq_n (by omega)]; exact h1
    · rw [hq_n (by omega), hq_n (by omega), hq_n (by omega)]; exact h2
    · rw [hq_n (by omega), hq_n (by omega), hq_n (by omega)]; exact m1 _ _ _ hr' h3
theorem hr_res (h : hr_R Q R pn P0 P1) {r : Nat} {Q' : Nat → List HPr} (hQ : ∀ k, k ≠ 0 → k ≠ 2 * r + 1 → k ≠ 2 * r + 2 → Q' k = Q k) (m0 : ∀ r', r' ≠ r → P0 r' → P0' r') (m1 : ∀ r' y L, r' ≠ r → P1 r' y L → P1' r' y L) (hp : P0' r) :
    hr_R Q' (zo_set R r none) pn P0' P1' := by
  intro r' hr
  by_cases c : r' = r
  · subst c
    rw [zo_s]
    exact ⟨fun _ => hp, (fun _ _ z => by cases z)⟩
  · rw [zo_n c]
    refine ⟨fun z => m0 r' c ((h r' hr).1 z), fun sg' g' e => ?_⟩
    obtain ⟨y, h1, h2, h3⟩ := (h r' hr).2 sg' g' e
    refine ⟨y, ?_, ?_, ?_⟩
    · rw [hQ _ (by omega) (by omega) (by omega)]; exact h1
    · rw [hQ _ (by omega) (by omega) (by omega)]; exact h2
    · rw [hQ _ (by omega) (by omega) (by omega)]; exact m1 _ _ _ c h3
theorem hs_ev {EV' : Nat → (Nat → Int32) → Prop} (H : hs_G tok stg hld bel EV lo cnt nil top S R pn P0 P1) (hE : ∀ x e, x < cnt → EV x e → EV' x e) : hs_G tok stg hld bel EV' lo cnt nil top S R pn P0 P1 := by
  obtain ⟨Q, h1, h2, h3, h4⟩ := H
  exact ⟨Q, hp_ev h1 hE, h2, h3, h4⟩
theorem hs_push (H : hs_G tok stg hld bel EV lo cnt nil top S R pn P0 P1) (hlo : lo ≤ cnt) (t s : Nat) (h : Int32) (e : Nat → Int32) {hld' : Nat → Int32} {EV' : Nat → (Nat → Int32) → Prop}
    (hh : ∀ x, x < cnt → hld' x = hld x) (hs : s = 1 → hld' cnt = h) (hE : ∀ x e, x < cnt → EV x e → EV' x e) (hEc : EV' cnt e) :
    hs_G (upd tok cnt (nI t)) (upd stg cnt (nI s)) hld' (upd bel cnt top) EV' lo (cnt + 1) nil (nI cnt) ((t, s, h, e) :: S) R pn P0 P1 := by
  obtain ⟨Q, h1, h2, h3, h4⟩ := H
  obtain ⟨q1, q2⟩ := hp_push h1 hlo h3 t s h e hh hs hE hEc
  refine ⟨_, q1, ?_, ?_, hr_0 h4 _⟩
  · rw [hq_e, List.map_cons, h2]
  · rw [hq_e]; exact q2
theorem hs_nil (H : hs_G tok stg hld bel EV lo cnt nil top [] R pn P0 P1) : top = nil := by
  obtain ⟨Q, h1, h2, h3, h4⟩ := H
  rw [List.map_eq_nil_iff.mp h2] at h3
  exact h3
theorem hs_top {t s : Nat} {h : Int32} {e : Nat → Int32} (H : hs_G tok stg hld bel EV lo cnt nil top ((t, s, h, e) :: S) R pn P0 P1) :
    ∃ x, top = nI x ∧ lo ≤ x ∧ x < cnt ∧ tok x = nI t ∧ stg x = nI s ∧ (s = 1 → hld x = h) ∧ EV x e ∧
      hs_G tok stg hld bel EV lo cnt nil (bel x) S R pn P0 P1 ∧
      ∀ v, hs_G tok (upd stg x 1) (upd hld x v) bel EV lo cnt nil top ((t, 1, v, e) :: S) R pn P0 P1 := by
  obtain ⟨Q, h1, h2, h3, h4⟩ := H
  cases hq : Q 0 with
  | nil => rw [hq] at h2; simp at h2
  | cons p L =>
    rw [hq] at h2 h3
    rw [List.map_cons, List.cons.injEq] at h2
    obtain ⟨e1, e2⟩ := h2
    obtain ⟨x, f⟩ := p
    simp only at e1
    subst e1
    obtain ⟨n1, n2, n3, n4, n5, n6⟩ := hp_node h1 (k := 0) (p := (x, (t, s, h, e))) (by rw [hq]; exact List.mem_cons_self ..)
    refine ⟨x, h3.1, n1, n2, n3, n4, n5, n6, ?_, fun v => ?_⟩
    · exact ⟨_, hp_pop h1 hq, by rw [hq_e]; exact e2, by rw [hq_e]; exact h3.2, hr_0 h4 _⟩
    · exact ⟨_, hp_keep h1 hq v, by rw [hq_e, List.map_cons, e2], by rw [hq_e]; exact h3, hr_0 h4 _⟩
theorem hs_split : ∀ {a : List ZF} {g : ZF} {b : List ZF} {L : List HPr}, L.map Prod.snd = a ++ g :: b → ∃ La x Lb, L = La ++ (x, g) :: Lb ∧ La.map Prod.snd = a ∧ Lb.map Prod.snd = b
  | [], g, b, L, h => by
    cases L with
    | nil => simp at h
    | cons p L =>
      simp only [List.nil_append, List.map_cons, List.cons.injEq] at h
      exact ⟨[], p.1, L, by rw [← h.1]; rfl, rfl, h.2⟩
  | f :: a, g, b, L, h => by
    cases L with
    | nil => simp at h
    | cons p L =>
      simp only [List.cons_append, List.map_cons, List.cons.injEq] at h
      obtain ⟨La, x, Lb, h1, h2, h3⟩ := hs_split h.2
      exact ⟨p :: La, x, Lb, by rw [h1]; rfl, by rw [List.map_cons, h.1, h2], h3⟩
theorem hs_cap {a : List ZF} {g : ZF} {b : List ZF} (H : hs_G tok stg hld bel EV lo cnt nil top (a ++ g :: b) R pn P0 P1) :
    ∃ La x, La.map Prod.snd = a ∧ hl_C bel top La (nI x) ∧ (∀ p ∈ La, hn_N tok stg hld EV lo cnt p) ∧ hn_N tok stg hld EV lo cnt (x, g) ∧ hl_N (La ++ [(x, g)]) ∧
      ∀ P0' P1', (∀ r, r < pn → P0 r → P0' r) → (∀ r y L, r < pn → P1 r y L → P1' r y L) → P1' pn x La →
        hs_G tok stg hld bel EV lo cnt nil (bel x) b (zo_set R pn (some (a, g))) (pn + 1) P0' P1' := by
  obtain ⟨Q, h1, h2, h3, h4⟩ := H
  obtain ⟨La, x, Lb, q1, q2, q3⟩ := hs_split h2
  rw [q1] at h3
  obtain ⟨m, c1, c2, c3⟩ := hl_app.mp h3
  simp only at c2
  have hN : hl_N (La ++ [(x, g)]) := by
    obtain ⟨own, H⟩ := h1
    have := (H 0).2.1
    rw [q1] at this
    obtain ⟨y1, y2, y3⟩ := hl_Na.mp this
    refine hl_Na.mpr ⟨y1, ⟨(fun _ h => nomatch h), trivial⟩, fun p hp q hq => y3 p hp q ?_⟩
    have : q = (x, g) := by simpa using hq
    rw [this]
    exact List.mem_cons_self ..
  refine ⟨La, x, q2, by rw [← c2]; exact c1, fun p hp => hp_node h1 (k := 0) (by rw [q1]; exact List.mem_append.mpr (Or.inl hp)), hp_node h1 (k := 0) (by rw [q1]; simp), hN, fun P0' P1' m0 m1 hp => ?_⟩
  refine ⟨_, hp_cap h1 q1 (k1 := 2 * pn + 1) (k2 := 2 * pn + 2) (by omega) (by omega) (by omega), ?_, ?_, hr_cap h4 m0 m1 hp q2⟩
  · rw [hq_n (by omega), hq_n (by omega), hq_e]; exact q3
  · rw [hq_n (by omega), hq_n (by omega), hq_e]; exact c3
theorem hs_all (H : hs_G tok stg hld bel EV lo cnt nil top S R pn P0 P1) : ∃ L, L.map Prod.snd = S ∧ hl_C bel top L nil ∧ ∀ p ∈ L, hn_N tok stg hld EV lo cnt p := by
  obtain ⟨Q, h1, h2, h3, h4⟩ := H
  exact ⟨Q 0, h2, h3, fun p hp => hp_node h1 hp⟩
theorem hs_len (H : hs_G tok stg hld bel EV lo cnt nil top S R pn P0 P1) : ∀ sg g r, r < pn → R r = some (sg, g) → ∃ x L, L.map Prod.snd = sg ∧ P1 r x L ∧ hn_N tok stg hld EV lo cnt (x, g) ∧ ∀ p ∈ L, hn_N tok stg hld EV lo cnt p := by
  intro sg g r hr e
  obtain ⟨Q, h1, h2, h3, h4⟩ := H
  obtain ⟨x, y1, y2, y3⟩ := (h4 r hr).2 sg g e
  exact ⟨x, _, y1, y3, hp_node h1 (k := 2 * r + 2) (by rw [y2]; exact List.mem_cons_self ..), fun p hp => hp_node h1 hp⟩
theorem hs_spl {r : Nat} {sg : List ZF} {g : ZF} (H : hs_G tok stg hld bel EV lo cnt nil top S R pn P0 P1) (hr : r < pn) (e : R r = some (sg, g))
    (m0 : ∀ r', r' ≠ r → P0 r' → P0' r') (m1 : ∀ r' y L, r' ≠ r → P1 r' y L → P1' r' y L) (hp : P0' r) :
    ∃ x L, L.map Prod.snd = sg ∧ P1 r x L ∧ hn_N tok stg hld EV lo cnt (x, g) ∧ (∀ p ∈ L, hn_N tok stg hld EV lo cnt p) ∧
      (L = [] → hs_G tok stg hld bel EV lo cnt nil top S (zo_set R r none) pn P0' P1') ∧
      (∀ L' b, L = L' ++ [b] → hs_G tok stg hld (upd bel b.1 top) EV lo cnt nil (hf_f 0 L) (sg ++ S) (zo_set R r none) pn P0' P1') := by
  obtain ⟨Q, h1, h2, h3, h4⟩ := H
  obtain ⟨x, y1, y2, y3⟩ := (h4 r hr).2 sg g e
  refine ⟨x, Q (2 * r + 1), y1, y3, hp_node h1 (k := 2 * r + 2) (by rw [y2]; exact List.mem_cons_self ..), fun p hp => hp_node h1 hp, fun z => ?_, fun L' b z => ?_⟩
  · exact ⟨Q, h1, h2, h3, hr_res h4 (fun _ _ _ _ => rfl) m0 m1 hp⟩
  · obtain ⟨w1, w2⟩ := hp_spl h1 (k1 := 2 * r + 1) (by omega) z h3 0
    refine ⟨_, w1, ?_, ?_, hr_res h4 (fun k k0 k1 k2 => ?_) m0 m1 hp⟩
    · rw [hq_e, List.map_append, y1, h2]
    · rw [hq_e]; exact w2
    · rw [hq_n k0, hq_n k1]
theorem hs_deep {r : Nat} {sg : List ZF} {g : ZF} (H : hs_G tok stg hld bel EV lo cnt nil top S R pn P0 P1) (hr : r < pn) (e : R r = some (sg, g)) (hg : g.2.1 = 1) (v : Int32)
    (m0 : ∀ r', r' ≠ r → P0 r' → P0' r') (m1 : ∀ r' y L, r' ≠ r → P1 r' y L → P1' r' y L) (hp : P0' r) :
    ∃ x L, L.map Prod.snd = sg ∧ P1 r x L ∧ hn_N tok stg hld EV lo cnt (x, g) ∧ (∀ p ∈ L, hn_N tok stg hld EV lo cnt p) ∧
      (L = [] → hs_G tok stg (upd hld x v) (upd bel x top) EV lo cnt nil (nI x) ((g.1, 1, v, g.2.2.2) :: S) (zo_set R r none) pn P0' P1') ∧
      (∀ L' b, L = L' ++ [b] → hs_G tok stg (upd hld x v) (upd (upd bel x top) b.1 (nI x)) EV lo cnt nil (hf_f 0 L) (sg ++ (g.1, 1, v, g.2.2.2) :: S) (zo_set R r none) pn P0' P1') := by
  obtain ⟨Q, h1, h2, h3, h4⟩ := H
  obtain ⟨x, y1, y2, y3⟩ := (h4 r hr).2 sg g e
  obtain ⟨t, s, h, en⟩ := g
  simp only at hg
  subst hg
  obtain ⟨w1, w2⟩ := hp_deep h1 (k2 := 2 * r + 2) (by omega) y2 h3 v
  refine ⟨x, Q (2 * r + 1), y1, y3, hp_node h1 (k := 2 * r + 2) (by rw [y2]; exact List.mem_cons_self ..), fun p hp => hp_node h1 hp, fun z => ?_, fun L' b z => ?_⟩
  · refine ⟨_, w1, ?_, ?_, hr_res h4 (fun k k0 k1 k2 => ?_) m0 m1 hp⟩
    · rw [hq_e, List.map_cons, h2]
    · rw [hq_e]; exact w2
    · rw [hq_n k0, hq_n k2]
  · have hk : hq_s (hq_s Q (2 * r + 2) []) 0 ((x, (t, 1, v, en)) :: Q 0) (2 * r + 1) = Q (2 * r + 1) := by rw [hq_n (by omega), hq_n (by omega)]
    have h0 : hq_s (hq_s Q (2 * r + 2) []) 0 ((x, (t, 1, v, en)) :: Q 0) 0 = (x, (t, 1, v, en)) :: Q 0 := hq_e
    obtain ⟨u1, u2⟩ := hp_spl w1 (k1 := 2 * r + 1) (by omega) (hk.trans z) (by rw [h0]; exact w2) 0
    rw [hk, h0] at u1 u2
    refine ⟨_, u1, ?_, ?_, hr_res h4 (fun k k0 k1 k2 => ?_) m0 m1 hp⟩
    · rw [hq_e, List.map_append, y1, List.map_cons, h2]
    · rw [hq_e]; exact u2
    · rw [hq_n k0, hq_n k1, hq_n k0, hq_n k2]
theorem hf_sp : ∀ L : List HPr, L = [] ∨ ∃ L' b, L = L' ++ [b]
  | [] => Or.inl rfl
  | p :: L => by
    rcases hf_sp L with h | ⟨L', b, h⟩
    · exact Or.inr ⟨[], p, by rw [h]; rfl⟩
    · exact Or.inr ⟨p :: L', b, by rw [h]; rfl⟩
end
