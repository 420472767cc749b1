def yp_fe (gE ce : Nat → Int32) (f m : Nat) : Nat → Int32 := fun k => if 9 * f ≤ k ∧ k < 9 * f + m then ce (k - 9 * f) else gE k
def yl_ce (gE ce : Nat → Int32) (f m : Nat) : Nat → Int32 := fun k => if k < m then gE (9 * f + k) else ce k
theorem yp_0 (gE ce : Nat → Int32) (f : Nat) : yp_fe gE ce f 0 = gE := by
  funext k
  unfold yp_fe
  rw [if_neg (by omega)]
theorem yp_s (gE ce : Nat → Int32) (f m : Nat) : upd (yp_fe gE ce f m) (9 * f + m) (ce m) = yp_fe gE ce f (m + 1) := by
  funext k
  by_cases c : k = 9 * f + m
  · subst c
    rw [zu_s]
    unfold yp_fe
    rw [if_pos (by omega), Nat.add_sub_cancel_left]
  · rw [zu_n c]
    unfold yp_fe
    by_cases d : 9 * f ≤ k ∧ k < 9 * f + m
    · rw [if_pos d, if_pos (by omega)]
    · rw [if_neg d, if_neg (by omega)]
theorem yl_0 (gE ce : Nat → Int32) (f : Nat) : yl_ce gE ce f 0 = ce := by
  funext k
  unfold yl_ce
  rw [if_neg (by omega)]
theorem yl_s (gE ce : Nat → Int32) (f m : Nat) : upd (yl_ce gE ce f m) m (gE (9 * f + m)) = yl_ce gE ce f (m + 1) := by
  funext k
  by_cases c : k = m
  · subst c
    rw [zu_s]
    unfold yl_ce
    rw [if_pos (by omega)]
  · rw [zu_n c]
    unfold yl_ce
    by_cases d : k < m
    · rw [if_pos d, if_pos (by omega)]
    · rw [if_neg d, if_neg (by omega)]
theorem yp_in {gE ce : Nat → Int32} {f j : Nat} (h : j < 9) : yp_fe gE ce f 9 (9 * f + j) = ce j := by
  unfold yp_fe
  rw [if_pos (by omega), Nat.add_sub_cancel_left]
theorem yp_out {gE ce : Nat → Int32} {f x j : Nat} (h : j < 9) (hx : x < f) : yp_fe gE ce f 9 (9 * x + j) = gE (9 * x + j) := by
  unfold yp_fe
  rw [if_neg (by omega)]
theorem yl_in {gE ce : Nat → Int32} {f j : Nat} (h : j < 9) : yl_ce gE ce f 9 j = gE (9 * f + j) := by
  unfold yl_ce
  rw [if_pos h]
