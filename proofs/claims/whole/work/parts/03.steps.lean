section
variable {K A B C : Nat → Int32} {n : Nat} {nx : Nat → Nat} {cf : Nat → Nat → Nat} {mp : Nat} {cl ic : Nat → Prop} {v : Int32} {e0 e : Nat → Int32} {S : List ZF} {R : ZR} {pn rn : Nat} {out : Nat → Int32} {on st : Nat} {tc tp : Int32} {nc bc hc t s : Nat} {h : Int32}
theorem zi_on : zi_o nx none = 0 := rfl
theorem zi_os {p : Nat} : zi_o nx (some p) = nx p - p := rfl
theorem zi_pop (I : zi_I K nx mp cl ic (none, v, e0, (t, s, h, e) :: S, R, pn, rn, out, on, st, tc, tp, nc, bc, hc)) (fo' : Option Nat) (v' : Int32) (e' : Nat → Int32) (hfo : ∀ p, fo' = some p → cl p ∧ zi_E ic pn p e')
    (d bd : Nat) (hT : zi_o nx fo' + d ≤ zt_T K nx t s) (hs : s ≤ 1) (hd : bd ≤ d + 1) (out' : Nat → Int32) (on' : Nat) (ho : on' ≤ 16) (rn' : Nat) (tp' : Int32) :
    zi_I K nx mp cl ic (fo', v', e', S, R, pn, rn', out', on', 1, tc, tp', nc, bc + bd, hc) ∧
    zi_m K nx mp fo' S R pn < zi_m K nx mp none ((t, s, h, e) :: S) R pn := by
  obtain ⟨i1, i2, i3, i4, i5, i6, i7, iF, iS, iR, b1, b2, b3⟩ := I
  simp only [zi_on, zi_os, zw_s, zw_a, zw_b] at b1 b2 b3
  refine ⟨⟨rfl, i2, ho, i4, i5, i6, by omega, hfo, fun f hf => iS f (List.mem_cons_of_mem _ hf), iR, ?_, ?_, ?_⟩, ?_⟩
  · omega
  · omega
  · omega
  · simp only [zi_m, zi_on, zi_os, zw_s, zw_d]
    omega
theorem zi_leaf {p : Nat} (P : zl_P K A B C n nx cf cl ic) (I : zi_I K nx mp cl ic (some p, v, e, S, R, pn, rn, out, on, st, tc, tp, nc, bc, hc)) (hk : K p = 1 ∨ K p = 2) (v' : Int32) :
    zi_I K nx mp cl ic (none, v', e, S, R, pn, rn, out, on, 1, tc, tp, nc, bc, hc) ∧ zi_m K nx mp none S R pn < zi_m K nx mp (some p) S R pn := by
  obtain ⟨i1, i2, i3, i4, i5, i6, i7, iF, iS, iR, b1, b2, b3⟩ := I
  obtain ⟨hc, -⟩ := iF p rfl
  have hn := lc_leaf (P.2.2.2.2.2 p hc) hk
  simp only [zi_on, zi_os] at b1 b2 b3
  refine ⟨⟨rfl, i2, i3, i4, i5, i6, i7, (fun q hq => by cases hq), iS, iR, ?_, ?_, ?_⟩, ?_⟩
  · simp only [zi_on, zi_os]; omega
  · simp only [zi_on, zi_os]; omega
  · simp only [zi_on, zi_os]; omega
  · simp only [zi_m, zi_on, zi_os]
    omega
theorem zi_push {p : Nat} (P : zl_P K A B C n nx cf cl ic) (I : zi_I K nx mp cl ic (some p, v, e, S, R, pn, rn, out, on, st, tc, tp, nc, bc, hc)) (h1 : K p ≠ 1) (h2 : K p ≠ 2) :
    zi_I K nx mp cl ic (some (p + 1), v, e, (p, 0, 0, e) :: S, R, pn, rn, out, on, 1, tc, tp, nc + 1, bc, hc + 1) ∧ zi_m K nx mp (some (p + 1)) ((p, 0, 0, e) :: S) R pn < zi_m K nx mp (some p) S R pn := by
  obtain ⟨i1, i2, i3, i4, i5, i6, i7, iF, iS, iR, b1, b2, b3⟩ := I
  obtain ⟨hc, hE⟩ := iF p rfl
  have L := P.2.2.2.2.2 p hc
  have hx : cl (p + 1) ∧ nx (p + 1) ≤ nx p ∧ (ic (p + 1) → ic p) := by
    rcases lc_k L h1 h2 with k | k | k | k | k | k | k | k
    · obtain ⟨c1, c2, c3, c4, c5, -⟩ := lc_if L k
      have := (P.2.2.2.2.2 _ c2).1
      have := (P.2.2.2.2.2 _ c3).1
      exact ⟨c1, by omega, c5⟩
    · obtain ⟨-, c1, c2, c3, c4, -⟩ := lc_bi L (by simp [k])
      have := (P.2.2.2.2.2 _ c2).1
      exact ⟨c1, by omega, c4⟩
    · obtain ⟨-, c1, c2, c3, c4, -⟩ := lc_bi L (by simp [k])
      have := (P.2.2.2.2.2 _ c2).1
      exact ⟨c1, by omega, c4⟩
    · obtain ⟨c1, c2, c3⟩ := lc_un L (by simp [k])
      exact ⟨c1, by omega, c3⟩
    · obtain ⟨c1, c2, c3⟩ := lc_un L (by simp [k])
      exact ⟨c1, by omega, c3⟩
    · obtain ⟨c1, c2, c3, c4, c5, c6, c7, c8, -⟩ := lc_ha L k
      have := (P.2.2.2.2.2 _ c2).1
      have := (P.2.2.2.2.2 _ c6).1
      exact ⟨c1, by omega, c3⟩
    · obtain ⟨-, c1, c2, c3, c4, -⟩ := lc_bi L (by simp [k])
      have := (P.2.2.2.2.2 _ c2).1
      exact ⟨c1, by omega, c4⟩
    · obtain ⟨-, c1, c2, c3, c4, -⟩ := lc_bi L (by rcases k with k | k | k | k | k <;> simp [k])
      have := (P.2.2.2.2.2 _ c2).1
      exact ⟨c1, by omega, c4⟩
  obtain ⟨hc1, hx1, hx2⟩ := hx
  have hL := L.1
  have hL1 := (P.2.2.2.2.2 _ hc1).1
  simp only [zi_on, zi_os] at b1 b2 b3
  refine ⟨⟨rfl, i2, i3, i4, i5, by omega, i7, fun q hq => ?_, fun f hf => ?_, iR, ?_, ?_, ?_⟩, ?_⟩
  · cases hq
    exact ⟨hc1, fun z => hE (hx2 z)⟩
  · rcases List.mem_cons.mp hf with rfl | hf
    · exact ⟨hc, h1, h2, Or.inl rfl, hE⟩
    · exact iS f hf
  · simp only [zi_on, zi_os, zw_s, zw_a, zt_0]; omega
  · simp only [zi_on, zi_os, zw_s, zw_b, zt_0]; omega
  · simp only [zi_on, zi_os, zw_s, zw_a, zt_0]; omega
  · simp only [zi_m, zi_on, zi_os, zw_s, zw_d, zt_0]
    omega
theorem zi_keep (P : zl_P K A B C n nx cf cl ic) (I : zi_I K nx mp cl ic (none, v, e0, (t, s, h, e) :: S, R, pn, rn, out, on, st, tc, tp, nc, bc, hc)) (hs : s = 0) (hk : zs_kp (K t)) :
    zi_I K nx mp cl ic (some (nx (t + 1)), v, e, (t, 1, v, e) :: S, R, pn, rn, out, on, 1, tc, tp, nc, bc, hc) ∧ zi_m K nx mp (some (nx (t + 1))) ((t, 1, v, e) :: S) R pn < zi_m K nx mp none ((t, s, h, e) :: S) R pn := by
  subst hs
  obtain ⟨i1, i2, i3, i4, i5, i6, i7, iF, iS, iR, b1, b2, b3⟩ := I
  obtain ⟨f1, f2, f3, f4, f5⟩ := iS _ (List.mem_cons_self ..)
  dsimp only at f1 f2 f3 f4 f5
  have L := P.2.2.2.2.2 t f1
  have hx : cl (nx (t + 1)) ∧ (ic (nx (t + 1)) → ic t) ∧ zi_o nx (some (nx (t + 1))) + zt_T K nx t 1 ≤ zt_T K nx t 0 := by
    simp only [zi_on, zi_os, zt_0]
    by_cases k : K t = 13
    · obtain ⟨c1, c2, c3, c4, c5, c6, c7, c8, -⟩ := lc_ha L k
      have := (P.2.2.2.2.2 _ c2).1
      have := (P.2.2.2.2.2 _ c6).1
      rw [zt_h k]
      exact ⟨c2, c4, by omega⟩
    · obtain ⟨-, c1, c2, c3, c4, c5⟩ := lc_bi L (by rcases hk with k' | k' | k' | k' | k' | k' | k' <;> first | (exact absurd k' k) | simp [k'])
      have := (P.2.2.2.2.2 _ c2).1
      rw [zt_1 k]
      exact ⟨c2, c5, by omega⟩
  obtain ⟨x1, x2, x3⟩ := hx
  simp only [zi_on, zi_os, zw_s, zw_a, zw_b] at b1 b2 b3
  refine ⟨⟨rfl, i2, i3, i4, i5, i6, i7, fun q hq => ?_, fun f hf => ?_, iR, ?_, ?_, ?_⟩, ?_⟩
  · cases hq
    exact ⟨x1, fun z => f5 (x2 z)⟩
  · rcases List.mem_cons.mp hf with rfl | hf
    · exact ⟨f1, f2, f3, Or.inr ⟨rfl, hk⟩, f5⟩
    · exact iS f (List.mem_cons_of_mem _ hf)
  · simp only [zw_s, zw_a]; omega
  · simp only [zw_s, zw_b]; omega
  · simp only [zw_s, zw_a]; omega
  · simp only [zi_m, zw_s, zw_d, zi_on, zi_os] at x3 ⊢
    omega
theorem zi_perf (P : zl_P K A B C n nx cf cl ic) (I : zi_I K nx mp cl ic (none, v, e0, (t, s, h, e) :: S, R, pn, rn, out, on, st, tc, tp, nc, bc, hc)) (hk : K t = 12) (hp : pn ≠ mp) {op : Nat} (h8 : op < 8)
    {a : List ZF} {g : ZF} {b : List ZF} (hf : zs_fnd K cf op S = some (a, g, b)) (e' : Nat → Int32) :
    zi_I K nx mp cl ic (some (cf g.1 op + 1), v, upd e' 8 (nI pn), b, zo_set R pn (some (a, g)), pn + 1, rn, out, on, 1, tc, tp, nc, bc + 3, hc) ∧
    zi_m K nx mp (some (cf g.1 op + 1)) b (zo_set R pn (some (a, g))) (pn + 1) < zi_m K nx mp none ((t, s, h, e) :: S) R pn := by
  obtain ⟨i1, i2, i3, i4, i5, i6, i7, iF, iS, iR, b1, b2, b3⟩ := I
  obtain ⟨hS, ⟨g1, g2, g3⟩, -⟩ := zf_some hf
  have hg := iS g (by rw [hS]; simp)
  have Lg := P.2.2.2.2.2 _ hg.1
  obtain ⟨-, -, -, -, -, -, -, -, c9⟩ := lc_ha Lg g1
  obtain ⟨d1, d2, d3, d4⟩ := c9 op h8 g3
  have hn := P.1
  have hgn := Lg.2.1
  have hq := (P.2.2.2.2.2 _ d3).1
  have key : ∀ w : ZF → Nat, ∀ c, zw_r w c (zo_set R pn (some (a, g))) (pn + 1) + zw_s w b = zw_r w c R pn + zw_s w S + c := by
    intro w c
    rw [hS, zw_app]
    simp only [zw_r, zw_s]
    rw [zw_ge w c R pn _ pn (Nat.le_refl _), zo_s]
    simp only [zw_o]
    omega
  have k1 := key (zw_a K nx) 0
  have k2 := key (zw_b K nx) 0
  have k3 := key (zw_a K nx) 1
  have k4 := key (zw_d K nx) 0
  simp only [zi_on, zi_os, zw_s] at b1 b2 b3
  refine ⟨⟨rfl, i2, i3, by omega, i5, i6, by omega, fun q hq => ?_, fun f hf => ?_, ?_, ?_, ?_, ?_⟩, ?_⟩
  · cases hq
    exact ⟨d3, fun _ => ⟨pn, by omega, zu_s⟩⟩
  · exact zi_Fm (by omega) (iS f (by rw [hS]; simp [hf]))
  · exact zi_Rm iR (fun f hf => iS f (by rw [hS]; simp [hf])) hg g1 g2
  · simp only [zi_on, zi_os]; omega
  · simp only [zi_on, zi_os]; omega
  · simp only [zi_on, zi_os]; omega
  · simp only [zi_m, zi_on, zi_os, zw_s]
    omega
theorem zi_resu (I : zi_I K nx mp cl ic (none, v, e0, (t, s, h, e) :: S, R, pn, rn, out, on, st, tc, tp, nc, bc, hc)) (hs : s = 1) {r : Nat} (hr : r < pn)
    {a : List ZF} {g : ZF} (hf : R r = some (a, g)) (x : Nat) (hx : x ≤ 1) (S' : List ZF) (hS' : S' = S ∨ S' = (g.1, 1, h, g.2.2.2) :: S) (rn' : Nat) :
    zi_I K nx mp cl ic (none, v, e, a ++ S', zo_set R r none, pn, rn', out, on, 1, tc, tp, nc, bc, hc + x) ∧
    zi_m K nx mp none (a ++ S') (zo_set R r none) pn < zi_m K nx mp none ((t, s, h, e) :: S) R pn := by
  obtain ⟨i1, i2, i3, i4, i5, i6, i7, iF, iS, iR, b1, b2, b3⟩ := I
  obtain ⟨r1, r2, r3, r4⟩ := iR r hr a g hf
  have key : ∀ w : ZF → Nat, ∀ c, w (g.1, 1, h, g.2.2.2) = w g → zw_r w c (zo_set R r none) pn + zw_s w (a ++ S') + c ≤ zw_r w c R pn + zw_s w S := by
    intro w c hw
    have q := zw_lt w c R r none pn hr
    rw [hf] at q
    simp only [zw_o] at q
    rw [zw_app]
    rcases hS' with rfl | rfl
    · omega
    · simp only [zw_s]; omega
  have k1 := key (zw_a K nx) 0 (by simp only [zw_a, r4])
  have k2 := key (zw_b K nx) 0 (by simp only [zw_b, r4])
  have k3 := key (zw_a K nx) 1 (by simp only [zw_a, r4])
  have k4 := key (zw_d K nx) 0 (by simp only [zw_d, r4])
  simp only [zi_on, zi_os, zw_s] at b1 b2 b3
  refine ⟨⟨rfl, i2, i3, i4, i5, i6, i7, (fun q hq => by cases hq), fun f hf => ?_, zi_Rn iR, ?_, ?_, ?_⟩, ?_⟩
  · rcases List.mem_append.mp hf with hf | hf
    · exact r1 f hf
    · rcases hS' with rfl | rfl
      · exact iS f (List.mem_cons_of_mem _ hf)
      · rcases List.mem_cons.mp hf with rfl | hf
        · obtain ⟨q1, q2, q3, q4, q5⟩ := r2
          exact ⟨q1, q2, q3, Or.inr ⟨rfl, Or.inr (Or.inr (Or.inr (Or.inr (Or.inr (Or.inl r3)))))⟩, q5⟩
        · exact iS f (List.mem_cons_of_mem _ hf)
  · simp only [zi_on, zi_os]; omega
  · simp only [zi_on, zi_os]; omega
  · simp only [zi_on, zi_os]; omega
  · have : zw_d K nx (t, s, h, e) ≥ 1 := by simp only [zw_d]; omega
    simp only [zi_m, zi_on, zi_os, zw_s]
    omega
theorem zi_op (P : zl_P K A B C n nx cf cl ic) (ht : cl t) (hk : K t = 12) : ∃ op, op < 8 ∧ (A t).toNatClampNeg = op := by
  have L := P.2.2.2.2.2 t ht
  obtain ⟨x, hx, he⟩ := (P.2.2.1 t (Nat.lt_of_lt_of_le L.1 L.2.1)).2.1 (by simp [hk])
  exact ⟨x, hx, by rw [he]; exact nI_clamp (by omega)⟩
theorem zi_step (P : zl_P K A B C n nx cf cl ic) {z : ZZ} (I : zi_I K nx mp cl ic z) :
    (zi_I K nx mp cl ic (zs K A B C nx cf mp z) ∧ zi_mu K nx mp (zs K A B C nx cf mp z) < zi_mu K nx mp z) ∨ zi_X mp (zs K A B C nx cf mp z) := by
  obtain ⟨fo, v, e0, S, R, pn, rn, out, on, st, tc, tp, nc, bc, hc⟩ := z
  cases fo with
  | some p =>
    left
    by_cases h1 : K p = 1
    · rw [zr_leaf1 h1]; exact zi_leaf P I (Or.inl h1) _
    · by_cases h2 : K p = 2
      · rw [zr_leaf2 h2]; exact zi_leaf P I (Or.inr h2) _
      · rw [zr_push h1 h2]; exact zi_push P I h1 h2
  | none =>
    cases S with
    | nil =>
      right
      rw [zr_done]
      exact ⟨I.2.2.1, I.2.2.2.1, Or.inl ⟨rfl, I.2.1⟩⟩
    | cons f S =>
      obtain ⟨t, s, h, e⟩ := f
      obtain ⟨f1, f2, f3, f4, f5⟩ : zi_F K cl ic pn (t, s, h, e) := I.2.2.2.2.2.2.2.2.1 _ (List.mem_cons_self ..)
      dsimp only at f1 f2 f3 f4 f5
      have L := P.2.2.2.2.2 t f1
      have hs1 : s ≤ 1 := by rcases f4 with c | ⟨c, -⟩ <;> omega
      have hon := I.2.2.1
      by_cases hkp : s = 0 ∧ zs_kp (K t)
      · left
        rw [zr_keep hkp.1 hkp.2]
        exact zi_keep P I hkp.1 hkp.2
      · have s0 : ¬ zs_kp (K t) → s = 0 := fun c => f4.elim id (fun q => absurd q.2 c)
        have s1 : zs_kp (K t) → s = 1 := fun c => f4.elim (fun q => absurd ⟨q, c⟩ hkp) (fun q => q.1)
        rcases lc_k L f2 f3 with k | k | k | k | k | k | k | k
        · left
          have z0 := s0 (by rw [k]; decide)
          subst z0
          obtain ⟨c1, c2, c3, c4, c5, c6, c7⟩ := lc_if L k
          have q1 := (P.2.2.2.2.2 _ c2).1
          have q2 := (P.2.2.2.2.2 _ c3).1
          rw [zr_if k]
          refine zi_pop I _ _ _ (fun p hp => ?_) 0 0 ?_ hs1 (by omega) _ _ hon _ _
          · split at hp
            · cases hp; exact ⟨c3, fun z => f5 (c7 z)⟩
            · cases hp; exact ⟨c2, fun z => f5 (c6 z)⟩
          · rw [zt_0]
            split
            · simp only [zi_on, zi_os]; omega
            · simp only [zi_on, zi_os]; omega
        · left
          have z0 := s0 (by rw [k]; decide)
          subst z0
          obtain ⟨-, c1, c2, c3, c4, c5⟩ := lc_bi L (by simp [k])
          have q1 := (P.2.2.2.2.2 _ c2).1
          rw [zr_let k]
          refine zi_pop I _ _ _ (fun p hp => ?_) 0 1 ?_ hs1 (by omega) _ _ hon _ _
          · cases hp
            refine ⟨c2, fun z => ?_⟩
            obtain ⟨r, hr, he⟩ := f5 (c5 z)
            obtain ⟨x, hx, hxe⟩ := (P.2.2.1 t (Nat.lt_of_lt_of_le L.1 L.2.1)).2.1 (by simp [k])
            exact ⟨r, hr, by rw [hxe, nI_clamp (by omega), zu_n (by omega)]; exact he⟩
          · rw [zt_0]; simp only [zi_on, zi_os]; omega
        · left
          have z0 := s0 (by rw [k]; decide)
          subst z0
          obtain ⟨-, c1, c2, c3, c4, c5⟩ := lc_bi L (by simp [k])
          have q1 := (P.2.2.2.2.2 _ c2).1
          rw [zr_seq k]
          refine zi_pop I _ _ _ (fun p hp => ?_) 0 0 ?_ hs1 (by omega) _ _ hon _ _
          · cases hp
            exact ⟨c2, fun z => f5 (c5 z)⟩
          · rw [zt_0]; simp only [zi_on, zi_os]; omega
        · by_cases ho : on = 16
          · right
            rw [zr_em0 k ho]
            exact ⟨hon, I.2.2.2.1, Or.inr ⟨rfl, by decide⟩⟩
          · left
            rw [zr_em1 k ho]
            exact zi_pop I _ _ _ (fun p hp => by cases hp) 0 0 (by simp only [zi_on, zi_os]; omega) hs1 (by omega) _ _ (by omega) _ _
        · by_cases hp : pn = mp
          · right
            rw [zr_pf0 k hp]
            exact ⟨hon, I.2.2.2.1, Or.inr ⟨rfl, by decide⟩⟩
          · cases hf : zs_fnd K cf (A t).toNatClampNeg S with
            | none =>
              right
              rw [zr_pf1 k hp hf]
              have := I.2.2.2.1
              exact ⟨hon, by omega, Or.inr ⟨rfl, by decide⟩⟩
            | some q =>
              left
              obtain ⟨a, g, b⟩ := q
              rw [zr_pf2 k hp hf]
              obtain ⟨op, h8, hop⟩ := zi_op P f1 k
              rw [hop] at hf ⊢
              exact zi_perf P I k hp h8 hf _
        · left
          have z1 := s1 (by rw [k]; decide)
          subst z1
          obtain ⟨c1, c2, c3, c4, c5, c6, c7, c8, -⟩ := lc_ha L k
          have q1 := (P.2.2.2.2.2 _ c2)
          have q2 := (P.2.2.2.2.2 _ c6)
          have q3 := L.2.1
          rw [zr_ret k rfl]
          refine zi_pop I _ _ _ (fun p hp => ?_) 1 2 ?_ hs1 (by omega) _ _ hon _ _
          · cases hp
            refine ⟨c6, fun z => ?_⟩
            obtain ⟨r, hr, he⟩ := f5 (c7 z)
            obtain ⟨⟨x, hx, hxe⟩, ⟨y, hy, hye⟩⟩ := (P.2.2.1 (nx (nx (t + 1))) (by have := q2.1; have := q2.2.1; omega)).2.2.2.1 c5
            exact ⟨r, hr, by rw [hxe, hye, nI_clamp (by omega), nI_clamp (by omega), zu_n (by omega), zu_n (by omega)]; exact he⟩
          · rw [zt_h k]
            have := q2.1
            simp only [zi_on, zi_os]; omega
        · have z1 := s1 (by rw [k]; decide)
          subst z1
          obtain ⟨c0, -⟩ := lc_bi L (by simp [k])
          obtain ⟨r, hr, he⟩ := f5 (c0 k)
          have hpn := I.2.2.2.1
          have h16 := I.2.2.2.2.1
          have hcr : (e 8).toNatClampNeg = r := by rw [he]; exact nI_clamp (by omega)
          cases hf : R (e 8).toNatClampNeg with
          | none =>
            right
            rw [zr_rs0 k rfl hf]
            exact ⟨hon, hpn, Or.inr ⟨rfl, by decide⟩⟩
          | some q =>
            left
            obtain ⟨a, g⟩ := q
            rw [zr_rs1 k rfl hf]
            rw [hcr] at hf ⊢
            refine zi_resu I rfl hr hf _ (by split <;> omega) _ ?_ _
            split
            · exact Or.inr rfl
            · exact Or.inl rfl
        · left
          have z1 := s1 (by rcases k with k | k | k | k | k <;> (rw [k]; decide))
          subst z1
          rw [zr_bin k rfl]
          exact zi_pop I _ _ _ (fun p hp => by cases hp) 0 0 (by simp only [zi_on, zi_os]; omega) hs1 (by omega) _ _ hon _ _
theorem zi_run (P : zl_P K A B C n nx cf cl ic) : ∀ (m : Nat) (z : ZZ), zi_I K nx mp cl ic z → zi_mu K nx mp z < m →
    ∃ k, k < m ∧ zi_X mp (Nat.repeat (zs K A B C nx cf mp) (k + 1) z) ∧ ∀ j, j ≤ k → zi_I K nx mp cl ic (Nat.repeat (zs K A B C nx cf mp) j z) := by
  have rep : ∀ (f : ZZ → ZZ) (j : Nat) (z : ZZ), Nat.repeat f (j + 1) z = Nat.repeat f j (f z) := by
    intro f j
    induction j with
    | zero => intro z; rfl
    | succ j ih => intro z; show f (Nat.repeat f (j + 1) z) = _; rw [ih]; rfl
  intro m
  induction m with
  | zero => intro z _ h; omega
  | succ m ih =>
    intro z I hm
    rcases zi_step P I with ⟨I', hmu⟩ | X
    · obtain ⟨k, hk, hX, hI⟩ := ih _ I' (by omega)
      refine ⟨k + 1, by omega, by rw [rep]; exact hX, fun j hj => ?_⟩
      cases j with
      | zero => exact I
      | succ j => rw [rep]; exact hI j (by omega)
    · refine ⟨0, by omega, X, fun j hj => ?_⟩
      have : j = 0 := by omega
      subst this
      exact I
end
