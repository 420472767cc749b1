def xb_k (bN bV bO : Nat → Int32) (nm : Int32) : Nat → Nat → Int32
  | 0, _ => 0
  | f + 1, b => if b = 0 then 0 else if bN b = nm then bV b else xb_k bN bV bO nm f (bO b).toNatClampNeg
def xb_B (bO : Nat → Int32) (bc : Nat) : Prop := ∀ b, 0 < b → b < bc → ∃ o, bO b = nI o ∧ o < b
def xb_E (bN bV bO : Nat → Int32) (bc b : Nat) (e : Nat → Int32) : Prop := b < bc ∧ ∀ j, j < 9 → xb_k bN bV bO (nI j) b b = e j
section
variable {bN bV bO : Nat → Int32} {bc : Nat}
theorem xb_0 (nm : Int32) : ∀ f, xb_k bN bV bO nm f 0 = 0
  | 0 => rfl
  | f + 1 => by simp [xb_k]
theorem xb_f2 (HB : xb_B bO bc) (hb : bc < 2 ^ 31) (nm : Int32) : ∀ (m b f g : Nat), b ≤ m → b < bc → b ≤ f → b ≤ g → xb_k bN bV bO nm f b = xb_k bN bV bO nm g b := by
  intro m
  induction m with
  | zero =>
    intro b f g h1 _ _ _
    have : b = 0 := by omega
    subst this
    rw [xb_0, xb_0]
  | succ m ih =>
    intro b f g h1 h2 h3 h4
    by_cases hz : b = 0
    · subst hz; rw [xb_0, xb_0]
    · obtain ⟨f, rfl⟩ : ∃ f', f = f' + 1 := ⟨f - 1, by omega⟩
      obtain ⟨g, rfl⟩ : ∃ g', g = g' + 1 := ⟨g - 1, by omega⟩
      obtain ⟨o, ho, hlt⟩ := HB b (by omega) h2
      simp only [xb_k]
      rw [if_neg hz, if_neg hz, ho, nI_clamp (by omega), ih o f g (by omega) (by omega) (by omega) (by omega)]
theorem xb_B1 (HB : xb_B bO bc) {s : Nat} (hs : s < bc) : xb_B (upd bO bc (nI s)) (bc + 1) := by
  intro b h0 h1
  by_cases c : b = bc
  · subst c; exact ⟨s, zu_s, hs⟩
  · rw [zu_n c]; exact HB b h0 (by omega)
theorem xb_app (HB : xb_B bO bc) (hb : bc < 2 ^ 31) (nm n0 v o : Int32) : ∀ (f b : Nat), b < bc → xb_k (upd bN bc n0) (upd bV bc v) (upd bO bc o) nm f b = xb_k bN bV bO nm f b := by
  intro f
  induction f with
  | zero => intro b _; rfl
  | succ f ih =>
    intro b hb'
    simp only [xb_k]
    rw [zu_n (by omega), zu_n (by omega), zu_n (by omega)]
    by_cases hz : b = 0
    · rw [if_pos hz, if_pos hz]
    · obtain ⟨o', ho, hlt⟩ := HB b (by omega) hb'
      rw [ho, nI_clamp (by omega), ih o' (by omega)]
theorem xb_E0 (HB : xb_B bO bc) (hb : bc < 2 ^ 31) {b : Nat} {e : Nat → Int32} (h : xb_E bN bV bO bc b e) (n0 v o : Int32) : xb_E (upd bN bc n0) (upd bV bc v) (upd bO bc o) (bc + 1) b e :=
  ⟨by have := h.1; omega, fun j hj => by rw [xb_app HB hb _ _ _ _ _ _ h.1]; exact h.2 j hj⟩
theorem xb_E1 (HB : xb_B bO bc) (h0 : 0 < bc) (hb : bc < 2 ^ 31) {b : Nat} {e : Nat → Int32} (h : xb_E bN bV bO bc b e) {a : Nat} (ha : a < 9) (v : Int32) :
    xb_E (upd bN bc (nI a)) (upd bV bc v) (upd bO bc (nI b)) (bc + 1) bc (upd e a v) := by
  refine ⟨Nat.lt_succ_self _, fun j hj => ?_⟩
  obtain ⟨c, rfl⟩ : ∃ c, bc = c + 1 := ⟨bc - 1, by omega⟩
  have hbl := h.1
  simp only [xb_k]
  rw [if_neg (by omega), zu_s, zu_s, zu_s, nI_clamp (by omega), xb_app HB hb _ _ _ _ _ _ hbl, xb_f2 HB hb _ b b c b (by omega) hbl (by omega) (by omega), h.2 j hj]
  by_cases c' : j = a
  · subst c'; rw [if_pos rfl, zu_s]
  · rw [if_neg (fun z => c' ((nI_eq (by omega) (by omega)).mp z).symm), zu_n c']
theorem xb_hit {b : Nat} {nm : Int32} (h0 : b ≠ 0) (h : bN b = nm) : xb_k bN bV bO nm b b = bV b := by
  obtain ⟨c, rfl⟩ : ∃ c, b = c + 1 := ⟨b - 1, by omega⟩
  simp only [xb_k]
  rw [if_neg (by omega), if_pos h]
theorem xb_next (HB : xb_B bO bc) (hb : bc < 2 ^ 31) {b : Nat} {nm : Int32} (h0 : b ≠ 0) (hb' : b < bc) (h : ¬ bN b = nm) : ∃ o, bO b = nI o ∧ o < b ∧ xb_k bN bV bO nm b b = xb_k bN bV bO nm o o := by
  obtain ⟨o, ho, hlt⟩ := HB b (by omega) hb'
  refine ⟨o, ho, hlt, ?_⟩
  obtain ⟨c, rfl⟩ : ∃ c, b = c + 1 := ⟨b - 1, by omega⟩
  simp only [xb_k]
  rw [if_neg (by omega), if_neg h, ho, nI_clamp (by omega), xb_f2 HB hb nm o o c o (by omega) (by omega) (by omega) (by omega)]
end
def rx_I (nT nS nH nSc nB : Nat → Int32) (ncI topI : Int32) (bN bV bO : Nat → Int32) (bcI : Int32) (rF rT rB : Nat → Int32) (nextI scopeI valI : Int32) : ZZ → Prop
  | (fo, v, e, S, R, pn, _, _, _, _, _, _, nc, bc, _) =>
    ncI = nI nc ∧ bcI = nI bc ∧ xb_B bO bc ∧
    (∀ p, fo = some p → nextI = nI p ∧ ∃ b, scopeI = nI b ∧ xb_E bN bV bO bc b e) ∧ (fo = none → nextI = -1 ∧ valI = v) ∧
    hs_G nT nS nH nB (fun x e => ∃ b, nSc x = nI b ∧ xb_E bN bV bO bc b e) 1 nc 0 topI S R pn (fun r => rF r = 0) (fun r x L => rF r = nI x ∧ rB r = hf_l 0 L ∧ (L ≠ [] → rT r = hf_f 0 L))
def ry_I (gP gK gX gB gE : Nat → Int32) (hpI topI : Int32) (ce : Nat → Int32) (rH rTop rBot us : Nat → Int32) (pI vI evI : Int32) : ZZ → Prop
  | (fo, v, e, S, R, pn, _, _, _, _, _, _, _, _, hc) =>
    hpI = nI hc ∧
    (∀ p, fo = some p → evI = 1 ∧ pI = nI p ∧ ∀ j, j < 9 → ce j = e j) ∧ (fo = none → evI = 0 ∧ vI = v) ∧
    hs_G gP gK gX gB (fun x e => ∀ j, j < 9 → gE (9 * x + j) = e j) 0 hc (-1) topI S R pn (fun r => us r = 1) (fun r x L => us r = 0 ∧ rH r = nI x ∧ rTop r = hf_f (-1) L ∧ rBot r = hf_l (nI x) L)
