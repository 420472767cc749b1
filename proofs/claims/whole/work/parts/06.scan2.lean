section
variable {K A B C : Nat → Int32} {nx nx' : Nat → Nat} {cf cf' : Nat → Nat → Nat} {ic ic' : Nat → Prop}
theorem zc_okc {k : Int32} {t s c : Nat} {es : List ZE} : zc_ok K k ((t, s, c) :: es) = (if K t = 13 ∧ s = 2 then k = 14 else if K t = 13 ∧ s = 4 then (k = 15 ∨ k = 16) else (k ≠ 14 ∧ k ≠ 15 ∧ k ≠ 16)) := rfl
theorem zc_okA {q : Nat} {k : Int32} : ∀ {stk : List ZE}, zc_ok K k stk → zk_S K nx cf ic q stk → (k ≠ 14 ∧ k ≠ 15 ∧ k ≠ 16) → zk_A K stk
  | [], _, _, _ => fun _ h => nomatch h
  | (t, s, c) :: es, hok, hS, hk => by
    intro e he
    rcases List.mem_cons.mp he with rfl | he
    · intro ⟨h13, hs⟩
      simp only at h13 hs
      rw [zc_okc] at hok
      rcases hs with hs | hs
      · rw [if_pos ⟨h13, hs⟩] at hok
        exact hk.1 hok
      · rw [if_neg (fun z => by omega), if_pos ⟨h13, hs⟩] at hok
        exact hok.elim hk.2.1 hk.2.2
    · exact hS.2.2 e he
theorem zc_ok14 : ∀ {stk : List ZE}, zc_ok K 14 stk → ∃ t c es, stk = (t, 2, c) :: es ∧ K t = 13
  | [], h => absurd rfl h.1
  | (t, s, c) :: es, h => by
    rw [zc_okc] at h
    by_cases c1 : K t = 13 ∧ s = 2
    · obtain ⟨h1, rfl⟩ := c1
      exact ⟨t, c, es, rfl, h1⟩
    · rw [if_neg c1] at h
      by_cases c2 : K t = 13 ∧ s = 4
      · rw [if_pos c2] at h
        exact absurd h (by decide)
      · rw [if_neg c2] at h
        exact absurd rfl h.1
theorem zc_ok15 {k : Int32} (hk : k = 15 ∨ k = 16) : ∀ {stk : List ZE}, zc_ok K k stk → ∃ t c es, stk = (t, 4, c) :: es ∧ K t = 13
  | [], h => by
    rcases hk with hk | hk
    · exact absurd hk h.2.1
    · exact absurd hk h.2.2
  | (t, s, c) :: es, h => by
    rw [zc_okc] at h
    by_cases c1 : K t = 13 ∧ s = 2
    · rw [if_pos c1] at h
      rcases hk with hk | hk <;> (rw [hk] at h; exact absurd h (by decide))
    · rw [if_neg c1] at h
      by_cases c2 : K t = 13 ∧ s = 4
      · obtain ⟨h1, rfl⟩ := c2
        exact ⟨t, c, es, rfl, h1⟩
      · rw [if_neg c2] at h
        rcases hk with hk | hk
        · exact absurd hk h.2.1
        · exact absurd hk h.2.2
def zc_I (K : Nat → Int32) (i : Nat) (stk : List ZE) (nx : Nat → Nat) (cf : Nat → Nat → Nat) : Prop :=
  ∃ ic : Nat → Prop, (∀ p, nx p ≠ 0 → zl_C K i nx cf (zk_cl nx) ic p) ∧ (∀ p, i ≤ p → nx p = 0) ∧ (∀ h op, cf h op ≠ 0 → h < cf h op ∧ cf h op < i ∧ K (cf h op) = 15) ∧
    (zk_S K nx cf ic i stk ∨ (stk = [] ∧ 0 < i ∧ nx 0 = i ∧ ¬ ic 0))
theorem zc_f0 {i : Nat} {stk : List ZE} (h : zc_flt K A B C i stk cf 0) : ¬ (0 < i ∧ stk = []) ∧ zc_ok K (K i) stk ∧ (K i = 17 → zc_ic K stk) ∧ (K i = 15 → cf (zc_top stk) (A i).toNatClampNeg = 0) := by
  unfold zc_flt at h
  by_cases c : 0 < i ∧ stk = []
  · rw [if_pos c] at h
    omega
  · rw [if_neg c] at h
    rcases h with ⟨-, h⟩ | ⟨h1, h⟩
    · omega
    · rcases h with ⟨-, -, h⟩ | ⟨-, -, h⟩ | ⟨-, -, h⟩ | ⟨h2, h3, h4, -⟩
      · omega
      · omega
      · omega
      · exact ⟨c, h1, fun z => Classical.byContradiction fun y => h3 ⟨z, y⟩, fun z => Classical.byContradiction fun y => h4 ⟨z, y⟩⟩
theorem zc_kinds {i : Nat} (hT : zl_T K A B C i) (h1 : ¬ (K i = 1 ∨ K i = 2)) (h14 : K i ≠ 14) (h15 : K i ≠ 15) (h16 : K i ≠ 16) : ((K i = 11 ∨ K i = 12) ∨ zk_bi (K i) ∨ K i = 8) ∨ K i = 13 := by
  obtain ⟨⟨k, k1, k2, hk⟩, -⟩ := hT
  rw [hk] at h1 h14 h15 h16 ⊢
  have : k = 1 ∨ k = 2 ∨ k = 3 ∨ k = 4 ∨ k = 5 ∨ k = 6 ∨ k = 7 ∨ k = 8 ∨ k = 9 ∨ k = 10 ∨ k = 11 ∨ k = 12 ∨ k = 13 ∨ k = 14 ∨ k = 15 ∨ k = 16 ∨ k = 17 := by omega
  unfold zk_bi
  rcases this with rfl | rfl | rfl | rfl | rfl | rfl | rfl | rfl | rfl | rfl | rfl | rfl | rfl | rfl | rfl | rfl | rfl
  · exact absurd (Or.inl rfl) h1
  · exact absurd (Or.inr rfl) h1
  all_goals first | exact absurd rfl h14 | exact absurd rfl h15 | exact absurd rfl h16 | decide
theorem zc_step {i : Nat} {stk : List ZE} (hT : zl_T K A B C i) (I : zc_I K i stk nx cf) (hf : zc_flt K A B C i stk cf 0) :
    zc_I K (i + 1) (zc_take K A i stk nx cf).1 (zc_take K A i stk nx cf).2.1 (zc_take K A i stk nx cf).2.2 := by
  obtain ⟨ic, G, hz, hcf, hS⟩ := I
  obtain ⟨d1, d2, d3, d4⟩ := zc_f0 hf
  have hS : zk_S K nx cf ic i stk := hS.elim id (fun z => absurd ⟨z.2.1, z.1⟩ d1)
  have hcf' : ∀ h op, cf h op ≠ 0 → h < cf h op ∧ cf h op < i + 1 ∧ K (cf h op) = 15 := fun h op z => ⟨(hcf h op z).1, by have := (hcf h op z).2.1; omega, (hcf h op z).2.2⟩
  have ni : nx i = 0 := hz i (Nat.le_refl _)
  have cli : ∀ p, nx p ≠ 0 → p < i := fun p hp => by
    rcases Nat.lt_or_ge p i with z | z
    · exact z
    · exact absurd (hz p z) hp
  have I1 : ∀ p, p < i → ((if p = i then zc_ic K stk else ic p) ↔ ic p) := fun p hp => by rw [if_neg (by omega)]
  unfold zc_take
  by_cases k1 : K i = 1 ∨ K i = 2
  · rw [if_pos k1]
    show zc_I K (i + 1) (zc_fin K i (zn_set nx i (i + 1)) stk).2 (zc_fin K i (zn_set nx i (i + 1)) stk).1 cf
    have hA := zc_okA d2 hS (by rcases k1 with k | k <;> (rw [k]; decide))
    have a2 : ∀ p, nx p ≠ 0 → zn_set nx i (i + 1) p = nx p := fun p hp => zn_n (by have := cli p hp; omega)
    have key := zc_fI (K := K) (cf := cf) (ic := fun p => if p = i then zc_ic K stk else ic p) (i := i) stk i (zn_set nx i (i + 1)) zn_s ?_ ?_ hA (fun z => by rw [if_pos rfl] at z; exact z) (Nat.le_refl _)
    · obtain ⟨r1, r2, r3⟩ := key
      refine ⟨_, r1, fun p hp => r2 p (by omega) (by rw [zn_n (by omega)]; exact hz p (by omega)), hcf', ?_⟩
      rcases r3 with ⟨-, r⟩ | ⟨q1, q2, q3⟩
      · exact Or.inl r
      · exact Or.inr ⟨q1, by omega, q2, q3⟩
    · intro p hp
      by_cases hpi : p = i
      · subst hpi
        exact ⟨by rw [zn_s]; omega, by rw [zn_s]; omega, Or.inl ⟨k1, zn_s⟩⟩
      · rw [zn_n hpi] at hp
        exact zk_Cm (Nat.le_succ _) a2 (fun p hp => I1 p (cli p hp)) (fun _ _ _ => rfl) hp (G p hp)
    · exact zk_Sm (fun p hp => zn_n (by omega)) a2 (fun _ _ _ => rfl) I1 (fun p hp => I1 p (cli p hp)) hS
  · rw [if_neg k1]
    have G' : ∀ p, nx p ≠ 0 → zl_C K (i + 1) nx cf (zk_cl nx) ic p := fun p hp => zk_Cm (Nat.le_succ _) (fun _ _ => rfl) (fun _ _ => Iff.rfl) (fun _ _ _ => rfl) hp (G p hp)
    by_cases k14 : K i = 14
    · rw [if_pos k14]
      rw [k14] at d2
      obtain ⟨t, c, es, rfl, h13⟩ := zc_ok14 d2
      obtain ⟨⟨e1, e2, e3, e4, e5⟩, hS2, hA⟩ := hS
      show zc_I K (i + 1) ((t, 3, i) :: es) nx cf
      refine ⟨ic, G', fun p hp => hz p (by omega), hcf', Or.inl ⟨⟨by omega, e2, e3, e4, Or.inr ⟨h13, ?_⟩⟩, hS2, hA⟩⟩
      rcases e5 with ⟨f1, -⟩ | ⟨-, f2⟩
      · rw [h13] at f1
        exact absurd f1 (by unfold zk_bi; decide)
      · rcases f2 with ⟨g1, g2, g3⟩ | ⟨g1, -⟩ | ⟨g1, -⟩ | ⟨g1, -⟩
        · exact Or.inr (Or.inl ⟨rfl, k14, g2, rfl, g3⟩)
        · omega
        · omega
        · omega
    · rw [if_neg k14]
      by_cases k15 : K i = 15
      · rw [if_pos k15]
        obtain ⟨t, c, es, rfl, h13⟩ := zc_ok15 (Or.inl k15) d2
        obtain ⟨⟨e1, e2, e3, e4, e5⟩, hS2, hA⟩ := hS
        have b1 : ∀ p op, p ≠ t → zn_set2 cf t (A i).toNatClampNeg i p op = cf p op := fun p op hp => zn_n2 (fun z => hp z.1)
        show zc_I K (i + 1) ((t, 3, i) :: es) nx (zn_set2 cf t (A i).toNatClampNeg i)
        refine ⟨ic, fun p hp => ?_, fun p hp => hz p (by omega), fun h op z => ?_, Or.inl ⟨⟨by omega, e2, e3, e4, Or.inr ⟨h13, ?_⟩⟩, ?_, hA⟩⟩
        · exact zk_Cm (Nat.le_succ _) (fun _ _ => rfl) (fun _ _ => Iff.rfl) (fun p op hp => b1 p op (fun y => hp (by rw [y]; exact e2))) hp (G p hp)
        · by_cases y : h = t ∧ op = (A i).toNatClampNeg
          · obtain ⟨rfl, rfl⟩ := y
            rw [zn_s2]
            exact ⟨e1, by omega, k15⟩
          · rw [zn_n2 y] at z ⊢
            exact hcf' h op z
        · rcases e5 with ⟨f1, -⟩ | ⟨-, f2⟩
          · rw [h13] at f1
            exact absurd f1 (by unfold zk_bi; decide)
          · rcases f2 with ⟨g1, -⟩ | ⟨g1, -⟩ | ⟨g1, -⟩ | ⟨g1, g2, g3⟩
            · omega
            · omega
            · omega
            · refine Or.inr (Or.inr (Or.inl ⟨rfl, k15, g2, e1, rfl, fun op z => ?_⟩))
              by_cases y : op = (A i).toNatClampNeg
              · subst y
                exact Or.inl zn_s2
              · rw [zn_n2 (fun w => y w.2)] at z ⊢
                exact Or.inr (g3 op z)
        · exact zk_Sm (fun _ _ => rfl) (fun _ _ => rfl) (fun p op hp => b1 p op (by omega)) (fun _ _ => Iff.rfl) (fun _ _ => Iff.rfl) hS2
      · rw [if_neg k15]
        by_cases k16 : K i = 16
        · rw [if_pos k16]
          obtain ⟨t, c, es, rfl, h13⟩ := zc_ok15 (Or.inr k16) d2
          obtain ⟨⟨e1, e2, e3, e4, e5⟩, hS2, hA⟩ := hS
          have a2 : ∀ p, nx p ≠ 0 → zn_set nx t (i + 1) p = nx p := fun p hp => zn_n (fun z => hp (by rw [z]; exact e2))
          have C1 : ∀ x, nx x ≠ 0 → zk_cl (zn_set nx t (i + 1)) x := fun x hx => by show zn_set nx t (i + 1) x ≠ 0; rw [a2 x hx]; exact hx
          show zc_I K (i + 1) (zc_fin K i (zn_set nx t (i + 1)) es).2 (zc_fin K i (zn_set nx t (i + 1)) es).1 cf
          have key := zc_fI (K := K) (cf := cf) (ic := ic) (i := i) es t (zn_set nx t (i + 1)) zn_s ?_ ?_ hA (fun z => e3.mp z) (by omega)
          · obtain ⟨r1, r2, r3⟩ := key
            refine ⟨_, r1, fun p hp => r2 p (by omega) (by rw [zn_n (by omega)]; exact hz p (by omega)), hcf', ?_⟩
            rcases r3 with ⟨-, r⟩ | ⟨q1, q2, q3⟩
            · exact Or.inl r
            · exact Or.inr ⟨q1, by omega, q2, q3⟩
          · intro p hp
            by_cases hpt : p = t
            · subst hpt
              refine ⟨by rw [zn_s]; omega, by rw [zn_s]; omega, ?_⟩
              rcases e5 with ⟨f1, -⟩ | ⟨-, f2⟩
              · rw [h13] at f1
                exact absurd f1 (by unfold zk_bi; decide)
              · rcases f2 with ⟨g1, -⟩ | ⟨g1, -⟩ | ⟨g1, -⟩ | ⟨g1, ⟨c3, ⟨q1, q2, q3⟩, q4, q5⟩, g3⟩
                · omega
                · omega
                · omega
                · subst q3
                  refine Or.inr (Or.inr (Or.inr (Or.inr ⟨h13, C1 _ q1.1, ?_, q1.2, ?_, ?_, ?_, ?_, ?_, ?_⟩)))
                  · rw [a2 _ q1.1]; exact C1 _ q2.1
                  · rw [a2 _ q1.1]; exact q2.2
                  · rw [a2 _ q1.1, a2 _ q2.1]; exact q4
                  · rw [a2 _ q1.1, a2 _ q2.1]; exact C1 _ q5.1
                  · rw [a2 _ q1.1, a2 _ q2.1]; exact q5.2
                  · rw [a2 _ q1.1, a2 _ q2.1, a2 _ q5.1, zn_s]
                    have := (G _ q5.1).2.1
                    omega
                  · intro op ho z
                    obtain ⟨y1, y2, y3⟩ := g3 op z
                    refine ⟨y1, y2, C1 _ y3, ?_⟩
                    rw [a2 _ y3, zn_s]
                    have := (G _ y3).2.1
                    omega
            · rw [zn_n hpt] at hp
              exact zk_Cm (Nat.le_succ _) a2 (fun _ _ => Iff.rfl) (fun _ _ _ => rfl) hp (G p hp)
          · exact zk_Sm (fun p hp => zn_n (by omega)) a2 (fun _ _ _ => rfl) (fun _ _ => Iff.rfl) (fun _ _ => Iff.rfl) hS2
        · rw [if_neg k16]
          have hA := zc_okA d2 hS ⟨k14, k15, k16⟩
          show zc_I K (i + 1) ((i, 0, 0) :: stk) nx cf
          refine ⟨fun p => if p = i then zc_ic K stk else ic p, fun p hp => zk_Cm (Nat.le_succ _) (fun _ _ => rfl) (fun p hp => I1 p (cli p hp)) (fun _ _ _ => rfl) hp (G p hp), fun p hp => hz p (by omega), hcf', Or.inl ⟨⟨by omega, ni, ?_, ?_, ?_⟩, ?_, hA⟩⟩
          · simp
          · intro z
            rw [if_pos rfl]
            exact d3 z
          · rcases zc_kinds hT k1 k14 k15 k16 with f | f
            · refine Or.inl ⟨f, ?_, rfl⟩
              unfold zc_pc
              split
              · omega
              · split <;> omega
            · refine Or.inr ⟨f, Or.inl ⟨by omega, rfl, fun op => ?_⟩⟩
              rcases Nat.eq_zero_or_pos (cf i op) with z | z
              · exact z
              · have := hcf i op (by omega)
                omega
          · exact zk_Sm (fun _ _ => rfl) (fun _ _ => rfl) (fun _ _ _ => rfl) I1 (fun p hp => I1 p (cli p hp)) hS
theorem zk_len : ∀ {stk : List ZE} {q : Nat}, zk_S K nx cf ic q stk → stk.length ≤ q
  | [], _, _ => Nat.zero_le _
  | (t, s, c) :: es, q, h => by
    have h1 := zk_len h.2.1
    have h2 := h.1.1
    simp only [List.length_cons]
    omega
def zc_res (K A B C : Nat → Int32) : Nat → Nat → List ZE → (Nat → Nat) → (Nat → Nat → Nat) → Nat → Nat → (Nat → Nat) → (Nat → Nat → Nat) → Prop
  | 0, i, stk, nx, cf, er, ps, nx', cf' => nx' = nx ∧ cf' = cf ∧ ((i = 0 ∨ stk ≠ []) ∧ er = 6 ∧ ps = i ∨ ¬ (i = 0 ∨ stk ≠ []) ∧ er = 0 ∧ ps = 0)
  | d + 1, i, stk, nx, cf, er, ps, nx', cf' => ∃ f, zc_flt K A B C i stk cf f ∧ ((f ≠ 0 ∧ nx' = nx ∧ cf' = cf ∧ er = f ∧ ps = i) ∨
      (f = 0 ∧ zc_res K A B C d (i + 1) (zc_take K A i stk nx cf).1 (zc_take K A i stk nx cf).2.1 (zc_take K A i stk nx cf).2.2 er ps nx' cf'))
theorem zc_fex (i : Nat) (stk : List ZE) : ∃ f, f ≤ 5 ∧ zc_flt K A B C i stk cf f := by
  unfold zc_flt
  by_cases c : 0 < i ∧ stk = []
  · exact ⟨1, by omega, by rw [if_pos c]⟩
  · simp only [if_neg c]
    by_cases o : zc_ok K (K i) stk
    · by_cases c2 : K i = 2 ∧ ¬ (∃ e ∈ stk, zc_bd K A B C (A i) e)
      · exact ⟨3, by omega, Or.inr ⟨o, Or.inl ⟨c2.1, c2.2, rfl⟩⟩⟩
      · by_cases c17 : K i = 17 ∧ ¬ zc_ic K stk
        · exact ⟨4, by omega, Or.inr ⟨o, Or.inr (Or.inl ⟨c17.1, c17.2, rfl⟩)⟩⟩
        · by_cases c15 : K i = 15 ∧ cf (zc_top stk) (A i).toNatClampNeg ≠ 0
          · exact ⟨5, by omega, Or.inr ⟨o, Or.inr (Or.inr (Or.inl ⟨c15.1, c15.2, rfl⟩))⟩⟩
          · exact ⟨0, by omega, Or.inr ⟨o, Or.inr (Or.inr (Or.inr ⟨c2, c17, c15, rfl⟩))⟩⟩
    · exact ⟨2, by omega, Or.inl ⟨o, rfl⟩⟩
theorem zc_resI {n : Nat} (hn : n ≤ 32) (hT : ∀ j, j < n → zl_T K A B C j) : ∀ (d i : Nat) (stk : List ZE) (nx : Nat → Nat) (cf : Nat → Nat → Nat), i + d = n → zc_I K i stk nx cf →
    ∃ er ps nx' cf', zc_res K A B C d i stk nx cf er ps nx' cf' ∧ er ≤ 6 ∧ ps ≤ 32 ∧ (er = 0 → (∃ ic, zl_P K A B C n nx' cf' (zk_cl nx') ic ∧ nx' 0 = n) ∧ ∀ h op, cf' h op ≠ 0 → h < cf' h op ∧ cf' h op < n ∧ K (cf' h op) = 15) := by
  intro d
  induction d with
  | zero =>
    intro i stk nx cf hi I
    have : i = n := by omega
    subst this
    by_cases c : i = 0 ∨ stk ≠ []
    · exact ⟨6, i, nx, cf, ⟨rfl, rfl, Or.inl ⟨c, rfl, rfl⟩⟩, by omega, hn, fun z => absurd z (by omega)⟩
    · refine ⟨0, 0, nx, cf, ⟨rfl, rfl, Or.inr ⟨c, rfl, rfl⟩⟩, by omega, by omega, fun _ => ?_⟩
      obtain ⟨ic, G, hz, hcf, hS⟩ := I
      refine ⟨⟨ic, ?_⟩, hcf⟩
      have hs : stk = [] := Classical.byContradiction fun z => c (Or.inr z)
      have hi0 : i ≠ 0 := fun z => c (Or.inl z)
      subst hs
      rcases hS with hS | ⟨-, h1, h2, h3⟩
      · exact absurd hS hi0
      · exact ⟨⟨hn, h1, hT, by show nx 0 ≠ 0; omega, h3, G⟩, h2⟩
  | succ d ih =>
    intro i stk nx cf hi I
    obtain ⟨f, hf5, hf⟩ := zc_fex (K := K) (A := A) (B := B) (C := C) (cf := cf) i stk
    by_cases h0 : f = 0
    · subst h0
      obtain ⟨er, ps, nx', cf', r1, r2, r3, r4⟩ := ih (i + 1) _ _ _ (by omega) (zc_step (hT i (by omega)) I hf)
      exact ⟨er, ps, nx', cf', ⟨0, hf, Or.inr ⟨rfl, r1⟩⟩, r2, r3, r4⟩
    · exact ⟨f, i, nx, cf, ⟨f, hf, Or.inl ⟨h0, rfl, rfl, rfl, rfl⟩⟩, by omega, by omega, fun z => absurd z h0⟩
theorem zc_init : zc_I K 0 [] (fun _ => 0) (fun _ _ => 0) :=
  ⟨fun _ => False, fun p hp => absurd rfl hp, fun _ _ => rfl, fun _ _ z => absurd rfl z, Or.inl rfl⟩
end
