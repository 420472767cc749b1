def yk_h : List ZE → Nat
  | [] => 0
  | (_, s, _) :: es => yk_h es + (if s = 3 then 2 else 1)
def yk_k (K : Nat → Int32) (i t s c k : Nat) : Prop :=
  (K t ≠ 13 → k = s) ∧ (K t = 13 → (s ≤ 2 → k = s) ∧ (s = 3 → K c = 14 → k = 2) ∧ (s = 3 → K c = 15 → 3 ≤ k) ∧ (s = 4 → 3 ≤ k)) ∧ k ≤ i
def yk_S (K nP nK : Nat → Int32) (i : Nat) : List ZE → Prop
  | [] => True
  | (t, s, c) :: es => nP (yk_h es) = nI t ∧ (∃ k, nK (yk_h es) = nI k ∧ yk_k K i t s c k) ∧ (s = 3 → nP (yk_h es + 1) = nI c ∧ nK (yk_h es + 1) = 0) ∧ yk_S K nP nK i es
theorem yk_hs {t s c : Nat} {es : List ZE} (h : s ≠ 3) : yk_h ((t, s, c) :: es) = yk_h es + 1 := by
  show yk_h es + (if s = 3 then 2 else 1) = _
  rw [if_neg h]
theorem yk_h3 {t c : Nat} {es : List ZE} : yk_h ((t, 3, c) :: es) = yk_h es + 2 := rfl
theorem yk_m {K nP nK nP' nK' : Nat → Int32} {i i' : Nat} (hi : i ≤ i') : ∀ {es : List ZE}, (∀ j, j < yk_h es → nP' j = nP j ∧ nK' j = nK j) → yk_S K nP nK i es → yk_S K nP' nK' i' es
  | [], _, _ => trivial
  | (t, s, c) :: es, h, ⟨h1, ⟨k, h2, k1, k2, k3⟩, h3, h4⟩ => by
    have hle : yk_h es + 1 ≤ yk_h ((t, s, c) :: es) := by
      show yk_h es + 1 ≤ yk_h es + (if s = 3 then 2 else 1)
      split <;> omega
    obtain ⟨e1, e2⟩ := h (yk_h es) (by omega)
    refine ⟨by rw [e1]; exact h1, ⟨k, by rw [e2]; exact h2, k1, k2, by omega⟩, fun z => ?_, yk_m hi (fun j hj => h j (by omega)) h4⟩
    have h5 : yk_h ((t, s, c) :: es) = yk_h es + 2 := by rw [z]; rfl
    obtain ⟨e3, e4⟩ := h (yk_h es + 1) (by omega)
    rw [e3, e4]
    exact h3 z
def yk_W (K : Nat → Int32) (n : Nat) (es : List ZE) : Prop := ∀ e ∈ es, e.1 < n ∧ e.2.1 ≤ 4 ∧ K e.1 ≠ 14 ∧ K e.1 ≠ 15 ∧ (K e.1 ≠ 13 → e.2.1 < zc_pc (K e.1)) ∧ (e.2.1 = 3 → e.2.2 < n ∧ K e.1 = 13 ∧ (K e.2.2 = 14 ∨ K e.2.2 = 15))
theorem yk_bnd {K : Nat → Int32} {nx : Nat → Nat} {cf : Nat → Nat → Nat} {ic : Nat → Prop} {n : Nat} : ∀ {es : List ZE} {q : Nat}, zk_S K nx cf ic q es → q ≤ n → yk_W K n es ∧ yk_h es ≤ q
  | [], _, _, _ => ⟨(fun _ h => nomatch h), Nat.zero_le _⟩
  | (t, s, c) :: es, q, h, hq => by
    have hb := zk_bnd h
    obtain ⟨⟨e1, e2, e3, e4, e5⟩, h2, h3⟩ := h
    obtain ⟨y1, y2⟩ := yk_bnd h2 (n := n) (by omega)
    obtain ⟨b1, b2, b3⟩ := hb _ (List.mem_cons_self ..)
    dsimp only at b1 b2 b3
    have hk : K t ≠ 14 ∧ K t ≠ 15 ∧ (K t ≠ 13 → s < zc_pc (K t)) := by
      rcases e5 with ⟨f1, f2, f3⟩ | ⟨f1, f2⟩
      · refine ⟨fun z => ?_, fun z => ?_, fun _ => f2⟩
        · rw [z] at f1; exact absurd f1 (by unfold zk_bi; decide)
        · rw [z] at f1; exact absurd f1 (by unfold zk_bi; decide)
      · exact ⟨by rw [f1]; decide, by rw [f1]; decide, fun z => absurd f1 z⟩
    refine ⟨fun e he => ?_, ?_⟩
    · rcases List.mem_cons.mp he with rfl | he
      · exact ⟨by dsimp only; omega, b2, hk.1, hk.2.1, hk.2.2, fun z => ⟨by have := (b3 z).1; dsimp only; omega, (b3 z).2⟩⟩
      · exact y1 e he
    · by_cases z : s = 3
      · obtain ⟨z1, z2, z3⟩ := b3 z
        have htc : t ≠ c := fun y => by
          rw [← y, z2] at z3
          exact absurd z3 (by decide)
        have hqc : q = c + 1 := by
          rcases e5 with ⟨f1, f2, f3⟩ | ⟨f1, f2⟩
          · rw [z2] at f1; exact absurd f1 (by unfold zk_bi; decide)
          · rcases f2 with ⟨g1, g2, g3⟩ | ⟨g1, g2, g3, g4, g5⟩ | ⟨g1, g2, g3, g4, g5, g6⟩ | ⟨g1, g2, g3⟩
            · omega
            · exact g4
            · exact g5
            · omega
        subst z
        rw [yk_h3]
        omega
      · rw [yk_hs z]; omega
section
variable {f_maxT f_maxP f_n f_st f_eCode f_ePos f_outN f_perfN f_resN f_res f_trap f_tpos f_hp : Int32} {a_tk a_ta a_tb a_tc a_nxt a_par a_nP a_nK a_out a_ce a_fp a_fk a_fx a_fb a_fe a_rH a_rTop a_rBot a_used : Nat → Int32} {n : Nat} {nx : Nat → Nat} {cf : Nat → Nat → Nat} {i : Nat}
def yb_c (K A B C nP nK : Nat → Int32) (x : Int32) (j : Nat) : Prop :=
  (K (nP j).toNatClampNeg = 9 ∧ nK j = 1 ∧ A (nP j).toNatClampNeg = x) ∨ (K (nP j).toNatClampNeg = 14 ∧ (A (nP j).toNatClampNeg = x ∨ B (nP j).toNatClampNeg = x)) ∨ (K (nP j).toNatClampNeg = 15 ∧ (B (nP j).toNatClampNeg = x ∨ C (nP j).toNatClampNeg = x))
theorem yc_bl {post : Int32 → Prop} {x : Int32} {sp : Nat} (hsp : sp ≤ 33) (hP : ∀ j, j < sp → ∃ p, a_nP j = nI p ∧ p < 33) (H1 : (∃ j, j < sp ∧ yb_c a_tk a_ta a_tb a_tc a_nP a_nK x j) → post 1) (H0 : ¬ (∃ j, j < sp ∧ yb_c a_tk a_ta a_tb a_tc a_nP a_nK x j) → post 0) :
    ∀ (d j fu : Nat), j + d = sp → d < fu → (∀ j', j' < j → ¬ yb_c a_tk a_ta a_tb a_tc a_nP a_nK x j') → wY_bound_2 post (nI sp) x f_maxT f_maxP f_n f_st f_eCode f_ePos f_outN f_perfN f_resN f_res f_trap f_tpos f_hp a_tk a_ta a_tb a_tc a_nxt a_par a_nP a_nK a_out a_ce a_fp a_fk a_fx a_fb a_fe a_rH a_rTop a_rBot a_used fu (nI j) := by
  intro d
  induction d with
  | zero =>
    intro j fu hj hf hb
    obtain ⟨fu, rfl⟩ : ∃ f', fu = f' + 1 := ⟨fu - 1, by omega⟩
    exact br_t (nI_le (by omega) (by omega)) (H0 (fun ⟨j', h1, h2⟩ => hb j' (by omega) h2))
  | succ d ih =>
    intro j fu hj hf hb
    obtain ⟨fu, rfl⟩ : ∃ f', fu = f' + 1 := ⟨fu - 1, by omega⟩
    have hcj : (nI j).toNatClampNeg = j := nI_clamp (by omega)
    have hij : vp_in (nI j) 33 := vp_in_nI (by omega) (by decide)
    obtain ⟨p, hp, hp3⟩ := hP j (by omega)
    have hcp : (nI p).toNatClampNeg = p := nI_clamp (by omega)
    have hip : vp_in (nI p) 33 := vp_in_nI hp3 (by decide)
    have yes : yb_c a_tk a_ta a_tb a_tc a_nP a_nK x j → post 1 := fun z => H1 ⟨j, by omega, z⟩
    have nxt : ¬ yb_c a_tk a_ta a_tb a_tc a_nP a_nK x j → wY_bound_2 post (nI sp) x f_maxT f_maxP f_n f_st f_eCode f_ePos f_outN f_perfN f_resN f_res f_trap f_tpos f_hp a_tk a_ta a_tb a_tc a_nxt a_par a_nP a_nK a_out a_ce a_fp a_fk a_fx a_fb a_fe a_rH a_rTop a_rBot a_used fu (nI (j + 1)) := fun z => ih (j + 1) fu (by omega) (by omega) (fun j' hj' => by
      by_cases c : j' = j
      · rw [c]; exact z
      · exact hb j' (by omega))
    unfold yb_c at yes nxt
    rw [hp, hcp] at yes nxt
    refine br_f (nI_ge (by omega) (by omega)) ⟨hij, xm_r hcj hp ⟨hip, xm_r hcp rfl ?_⟩⟩
    rw [hcj, hcp]
    have R15 : ¬ (a_tk p = 9 ∧ a_nK j = 1 ∧ a_ta p = x) → ¬ (a_tk p = 14 ∧ (a_ta p = x ∨ a_tb p = x)) → wY_bound_81 post (wY_bound_2 post (nI sp) x f_maxT f_maxP f_n f_st f_eCode f_ePos f_outN f_perfN f_resN f_res f_trap f_tpos f_hp a_tk a_ta a_tb a_tc a_nxt a_par a_nP a_nK a_out a_ce a_fp a_fk a_fx a_fb a_fe a_rH a_rTop a_rBot a_used fu) (nI sp) x (nI j) (nI p) (a_tk p) f_maxT f_maxP f_n f_st f_eCode f_ePos f_outN f_perfN f_resN f_res f_trap f_tpos f_hp a_tk a_ta a_tb a_tc a_nxt a_par a_nP a_nK a_out a_ce a_fp a_fk a_fx a_fb a_fe a_rH a_rTop a_rBot a_used := by
      intro n1 n2
      refine br_c (fun k => ⟨hip, ?_⟩) (fun k => nm_r (nI_1 j) (nxt (fun z => z.elim n1 (fun w => w.elim n2 (fun q => k q.1)))))
      rw [hcp]
      refine br_c (fun z => yes (Or.inr (Or.inr ⟨k, Or.inl z⟩))) (fun y1 => ⟨hip, br_c (fun z => yes (Or.inr (Or.inr ⟨k, Or.inr z⟩))) (fun y2 => nm_r (nI_1 j) (nxt (fun z => z.elim n1 (fun w => w.elim n2 (fun q => q.2.elim y1 y2)))))⟩)
    have R14 : ¬ (a_tk p = 9 ∧ a_nK j = 1 ∧ a_ta p = x) → wY_bound_52 post (wY_bound_2 post (nI sp) x f_maxT f_maxP f_n f_st f_eCode f_ePos f_outN f_perfN f_resN f_res f_trap f_tpos f_hp a_tk a_ta a_tb a_tc a_nxt a_par a_nP a_nK a_out a_ce a_fp a_fk a_fx a_fb a_fe a_rH a_rTop a_rBot a_used fu) (nI sp) x (nI j) (nI p) (a_tk p) f_maxT f_maxP f_n f_st f_eCode f_ePos f_outN f_perfN f_resN f_res f_trap f_tpos f_hp a_tk a_ta a_tb a_tc a_nxt a_par a_nP a_nK a_out a_ce a_fp a_fk a_fx a_fb a_fe a_rH a_rTop a_rBot a_used := by
      intro n1
      refine br_c (fun k => ⟨hip, ?_⟩) (fun k => R15 n1 (fun z => k z.1))
      rw [hcp]
      refine br_c (fun z => yes (Or.inr (Or.inl ⟨k, Or.inl z⟩))) (fun y1 => ⟨hip, br_c (fun z => yes (Or.inr (Or.inl ⟨k, Or.inr z⟩))) (fun y2 => R15 n1 (fun z => z.2.elim y1 y2))⟩)
    exact br_c (fun k => ⟨hij, br_c (fun k1 => ⟨hip, br_c (fun z => yes (Or.inl ⟨k, k1, z⟩)) (fun z => R14 (fun w => z w.2.2))⟩) (fun k1 => R14 (fun w => k1 w.2.1))⟩) (fun k => R14 (fun w => k w.1))
theorem yc_bx {K A B C nP nK : Nat → Int32} {x : Int32} (hn : n ≤ 32) (hi : i < 2 ^ 31) : ∀ {es : List ZE}, yk_W K n es → yk_S K nP nK i es →
    ((∃ j, j < yk_h es ∧ yb_c K A B C nP nK x j) ↔ (∃ e ∈ es, zc_bd K A B C x e)) ∧ ((∃ j, j < yk_h es ∧ K (nP j).toNatClampNeg = 15) ↔ zc_ic K es) ∧ ∀ j, j < yk_h es → ∃ p, nP j = nI p ∧ p < 33
  | [], _, _ => ⟨⟨fun ⟨_, h, _⟩ => absurd h (Nat.not_lt_zero _), fun ⟨_, h, _⟩ => nomatch h⟩, ⟨fun ⟨_, h, _⟩ => absurd h (Nat.not_lt_zero _), fun ⟨_, h, _⟩ => nomatch h⟩, fun _ h => absurd h (Nat.not_lt_zero _)⟩
  | (t, s, c) :: es, W, S => by
    obtain ⟨w1, w2, w3, w4, w5, w6⟩ := W _ (List.mem_cons_self ..)
    dsimp only at w1 w2 w3 w4 w5 w6
    obtain ⟨h1, ⟨k, h2, k1, k2, k3⟩, h3, h4⟩ := S
    obtain ⟨I1, I2, I3⟩ := yc_bx (A := A) (B := B) (C := C) (x := x) hn hi (fun e he => W e (List.mem_cons_of_mem _ he)) h4
    have hct : (nP (yk_h es)).toNatClampNeg = t := by rw [h1]; exact nI_clamp (by omega)
    have b0 : yb_c K A B C nP nK x (yk_h es) ↔ (K t = 9 ∧ s = 1 ∧ A t = x) := by
      unfold yb_c
      rw [hct, h2]
      constructor
      · rintro (⟨q1, q2, q3⟩ | ⟨q1, -⟩ | ⟨q1, -⟩)
        · have hk : k = s := k1 (by rw [q1]; decide)
          exact ⟨q1, by have := (nI_eq (b := 1) (by omega) (by decide)).mp q2; omega, q3⟩
        · exact absurd q1 w3
        · exact absurd q1 w4
      · rintro ⟨q1, q2, q3⟩
        have hk : k = s := k1 (by rw [q1]; decide)
        exact Or.inl ⟨q1, by rw [hk, q2]; rfl, q3⟩
    by_cases z : s = 3
    · obtain ⟨z1, z2, z3⟩ := w6 z
      obtain ⟨h5, h6⟩ := h3 z
      subst z
      rw [yk_h3]
      have hcc : (nP (yk_h es + 1)).toNatClampNeg = c := by rw [h5]; exact nI_clamp (by omega)
      have b1 : yb_c K A B C nP nK x (yk_h es + 1) ↔ ((K c = 14 ∧ (A c = x ∨ B c = x)) ∨ (K c = 15 ∧ (B c = x ∨ C c = x))) := by
        unfold yb_c
        rw [hcc]
        constructor
        · rintro (⟨q1, -⟩ | q)
          · rw [q1] at z3
            exact absurd z3 (by decide)
          · exact q
        · exact fun q => Or.inr q
      refine ⟨⟨?_, ?_⟩, ⟨?_, ?_⟩, fun j hj => ?_⟩
      · rintro ⟨j, hj, hb⟩
        by_cases j0 : j < yk_h es
        · obtain ⟨e, he, q⟩ := I1.mp ⟨j, j0, hb⟩
          exact ⟨e, List.mem_cons_of_mem _ he, q⟩
        · by_cases j1 : j = yk_h es
          · rw [j1] at hb
            have := (b0.mp hb).2.1
            omega
          · have j2 : j = yk_h es + 1 := by omega
            rw [j2] at hb
            exact ⟨_, List.mem_cons_self .., Or.inr ⟨z2, rfl, b1.mp hb⟩⟩
      · rintro ⟨e, he, q⟩
        rcases List.mem_cons.mp he with rfl | he
        · rcases q with ⟨-, q, -⟩ | ⟨-, -, q⟩
          · exact absurd (show (3 : Nat) = 1 from q) (by decide)
          · exact ⟨yk_h es + 1, by omega, b1.mpr q⟩
        · obtain ⟨j, hj, hb⟩ := I1.mpr ⟨e, he, q⟩
          exact ⟨j, by omega, hb⟩
      · rintro ⟨j, hj, hb⟩
        by_cases j0 : j < yk_h es
        · obtain ⟨e, he, q⟩ := I2.mp ⟨j, j0, hb⟩
          exact ⟨e, List.mem_cons_of_mem _ he, q⟩
        · by_cases j1 : j = yk_h es
          · rw [j1, hct] at hb
            exact absurd hb w4
          · have j2 : j = yk_h es + 1 := by omega
            rw [j2, hcc] at hb
            exact ⟨_, List.mem_cons_self .., z2, rfl, hb⟩
      · rintro ⟨e, he, q⟩
        rcases List.mem_cons.mp he with rfl | he
        · exact ⟨yk_h es + 1, by omega, by rw [hcc]; exact q.2.2⟩
        · obtain ⟨j, hj, hb⟩ := I2.mpr ⟨e, he, q⟩
          exact ⟨j, by omega, hb⟩
      · by_cases j0 : j < yk_h es
        · exact I3 j j0
        · by_cases j1 : j = yk_h es
          · exact ⟨t, by rw [j1]; exact h1, by omega⟩
          · have j2 : j = yk_h es + 1 := by omega
            exact ⟨c, by rw [j2]; exact h5, by omega⟩
    · rw [yk_hs z]
      refine ⟨⟨?_, ?_⟩, ⟨?_, ?_⟩, fun j hj => ?_⟩
      · rintro ⟨j, hj, hb⟩
        by_cases j0 : j < yk_h es
        · obtain ⟨e, he, q⟩ := I1.mp ⟨j, j0, hb⟩
          exact ⟨e, List.mem_cons_of_mem _ he, q⟩
        · have j1 : j = yk_h es := by omega
          rw [j1] at hb
          exact ⟨_, List.mem_cons_self .., Or.inl (b0.mp hb)⟩
      · rintro ⟨e, he, q⟩
        rcases List.mem_cons.mp he with rfl | he
        · rcases q with q | ⟨-, q, -⟩
          · exact ⟨yk_h es, by omega, b0.mpr q⟩
          · exact absurd q z
        · obtain ⟨j, hj, hb⟩ := I1.mpr ⟨e, he, q⟩
          exact ⟨j, by omega, hb⟩
      · rintro ⟨j, hj, hb⟩
        by_cases j0 : j < yk_h es
        · obtain ⟨e, he, q⟩ := I2.mp ⟨j, j0, hb⟩
          exact ⟨e, List.mem_cons_of_mem _ he, q⟩
        · have j1 : j = yk_h es := by omega
          rw [j1, hct] at hb
          exact absurd hb w4
      · rintro ⟨e, he, q⟩
        rcases List.mem_cons.mp he with rfl | he
        · exact absurd q.2.1 z
        · obtain ⟨j, hj, hb⟩ := I2.mpr ⟨e, he, q⟩
          exact ⟨j, by omega, hb⟩
      · by_cases j0 : j < yk_h es
        · exact I3 j j0
        · have j1 : j = yk_h es := by omega
          exact ⟨t, by rw [j1]; exact h1, by omega⟩
theorem yc_il {post : Int32 → Prop} {sp : Nat} (hsp : sp ≤ 33) (hP : ∀ j, j < sp → ∃ p, a_nP j = nI p ∧ p < 33) (H1 : (∃ j, j < sp ∧ a_tk (a_nP j).toNatClampNeg = 15) → post 1) (H0 : ¬ (∃ j, j < sp ∧ a_tk (a_nP j).toNatClampNeg = 15) → post 0) :
    ∀ (d j fu : Nat), j + d = sp → d < fu → (∀ j', j' < j → ¬ a_tk (a_nP j').toNatClampNeg = 15) → wY_inCase_2 post (nI sp) f_maxT f_maxP f_n f_st f_eCode f_ePos f_outN f_perfN f_resN f_res f_trap f_tpos f_hp a_tk a_ta a_tb a_tc a_nxt a_par a_nP a_nK a_out a_ce a_fp a_fk a_fx a_fb a_fe a_rH a_rTop a_rBot a_used fu (nI j) := by
  intro d
  induction d with
  | zero =>
    intro j fu hj hf hb
    obtain ⟨fu, rfl⟩ : ∃ f', fu = f' + 1 := ⟨fu - 1, by omega⟩
    exact br_t (nI_le (by omega) (by omega)) (H0 (fun ⟨j', h1, h2⟩ => hb j' (by omega) h2))
  | succ d ih =>
    intro j fu hj hf hb
    obtain ⟨fu, rfl⟩ : ∃ f', fu = f' + 1 := ⟨fu - 1, by omega⟩
    have hcj : (nI j).toNatClampNeg = j := nI_clamp (by omega)
    have hij : vp_in (nI j) 33 := vp_in_nI (by omega) (by decide)
    obtain ⟨p, hp, hp3⟩ := hP j (by omega)
    refine br_f (nI_ge (by omega) (by omega)) ⟨hij, ?_⟩
    rw [hcj]
    refine ⟨by rw [hp]; exact vp_in_nI hp3 (by decide), br_c (fun z => H1 ⟨j, by omega, z⟩) (fun z => nm_r (nI_1 j) (ih (j + 1) fu (by omega) (by omega) (fun j' hj' => ?_)))⟩
    by_cases c : j' = j
    · rw [c]; exact z
    · exact hb j' (by omega)
theorem yc_dl {post : Int32 → Prop} {t op : Nat} (hi : i < 32) (ht : t < 32) (ho : op < 8) (hA : a_ta i = nI op) (sc : yr_P a_tk a_ta i cf a_par) (H1 : cf t op ≠ 0 → post 1) (H0 : cf t op = 0 → post 0) :
    ∀ (d j fu : Nat), j + d = i → d < fu → (cf t op = 0 ∨ j ≤ cf t op) → wY_dup_2 post (nI i) (nI t) f_maxT f_maxP f_n f_st f_eCode f_ePos f_outN f_perfN f_resN f_res f_trap f_tpos f_hp a_tk a_ta a_tb a_tc a_nxt a_par a_nP a_nK a_out a_ce a_fp a_fk a_fx a_fb a_fe a_rH a_rTop a_rBot a_used fu (nI j) := by
  have hci : (nI i).toNatClampNeg = i := nI_clamp (by omega)
  have hii : vp_in (nI i) 33 := vp_in_nI (by omega) (by decide)
  intro d
  induction d with
  | zero =>
    intro j fu hj hf hm
    obtain ⟨fu, rfl⟩ : ∃ f', fu = f' + 1 := ⟨fu - 1, by omega⟩
    refine br_t (nI_le (by omega) (by omega)) (H0 ?_)
    rcases Nat.eq_zero_or_pos (cf t op) with z | z
    · exact z
    · have := (sc.2 t op (by omega)).2.1
      omega
  | succ d ih =>
    intro j fu hj hf hm
    obtain ⟨fu, rfl⟩ : ∃ f', fu = f' + 1 := ⟨fu - 1, by omega⟩
    have hcj : (nI j).toNatClampNeg = j := nI_clamp (by omega)
    have hij : vp_in (nI j) 33 := vp_in_nI (by omega) (by decide)
    have next : (cf t op ≠ 0 → ¬ cf t op = j) → wY_dup_2 post (nI i) (nI t) f_maxT f_maxP f_n f_st f_eCode f_ePos f_outN f_perfN f_resN f_res f_trap f_tpos f_hp a_tk a_ta a_tb a_tc a_nxt a_par a_nP a_nK a_out a_ce a_fp a_fk a_fx a_fb a_fe a_rH a_rTop a_rBot a_used fu (nI (j + 1)) := fun z => ih (j + 1) fu (by omega) (by omega) (by
      rcases Nat.eq_zero_or_pos (cf t op) with y | y
      · exact Or.inl y
      · have := z (by omega)
        omega)
    refine br_f (nI_ge (by omega) (by omega)) ⟨hij, ?_⟩
    rw [hcj, hci, hA]
    by_cases k : a_tk j = 15
    · obtain ⟨h', op', y1, y2, y3, y4, y5⟩ := sc.1 j (by omega) k
      refine br_t k ⟨hij, ?_⟩
      by_cases kh : h' = t
      · subst kh
        refine br_t y3 ⟨hij, hii, ?_⟩
        by_cases ko : op' = op
        · subst ko
          exact br_t y4 (H1 (by rw [y5]; omega))
        · exact br_f (fun z => ko ((nI_eq (by omega) (by omega)).mp (y4.symm.trans z))) (nm_r (nI_1 j) (next (fun z0 z => by
            have := (sc.2 h' op z0).2.2.2.2
            rw [z, y4] at this
            exact ko ((nI_eq (by omega) (by omega)).mp this))))
      · exact br_f (fun z => kh ((nI_eq (by omega) (by omega)).mp (y3.symm.trans z))) (nm_r (nI_1 j) (next (fun z0 z => by
            have := (sc.2 t op z0).2.2.2.1
            rw [z, y3] at this
            exact kh ((nI_eq (by omega) (by omega)).mp this))))
    · exact br_f k (nm_r (nI_1 j) (next (fun z0 z => by
            have := (sc.2 t op z0).2.2.1
            rw [z] at this
            exact k this)))
end
