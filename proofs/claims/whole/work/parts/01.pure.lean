theorem pk_sub {a b : Nat} (h : b ≤ a) : nI a - nI b = nI (a - b) := by
  obtain ⟨c, rfl⟩ : ∃ c, a = c + b := ⟨a - b, by omega⟩
  rw [← nI_add, Int32.add_sub_cancel, Nat.add_sub_cancel]
theorem pk_mul (a b : Nat) : nI a * nI b = nI (a * b) := (Int32.ofNat_mul a b).symm
theorem pk_div {a d : Nat} (ha : a < 2 ^ 31) (h0 : 0 < d) (hd : d < 2 ^ 31) : nI a / nI d = nI (a / d) := by
  apply Int32.toInt_inj.mp
  rw [lg_idiv_nonneg (by rw [nI_toInt ha]; omega) (by rw [nI_toInt hd]; omega), nI_toInt ha, nI_toInt hd, nI_toInt (Nat.lt_of_le_of_lt (Nat.div_le_self a d) ha)]
  first | rfl | exact (Int.natCast_ediv _ _).symm
theorem pk_rem {a d : Nat} (ha : a < 2 ^ 31) (h0 : 0 < d) (hd : d < 2 ^ 31) : nI a - nI a / nI d * nI d = nI (a % d) := by
  rw [pk_div ha h0 hd, pk_mul, pk_sub (Nat.div_mul_le_self a d)]
  exact congrArg nI (by have := Nat.div_add_mod' a d; omega)
theorem dq_11 : nI 11 = 11 := by decide +kernel
theorem dq_12 : nI 12 = 12 := by decide +kernel
theorem dq_15 : nI 15 = 15 := by decide +kernel
theorem dq_16 : nI 16 = 16 := by decide +kernel
theorem dq_176 : nI 176 = 176 := by decide +kernel
theorem dq_192 : nI 192 = 192 := by decide +kernel
theorem dq_n16 : ¬ (16 : Int32) = 0 := by decide
theorem dq_nb1 : vp_nar .boolean 1 = 1 := by decide
theorem dq_nb0 : vp_nar .boolean 0 = 0 := by decide
/-- the counter of a scan over the 192 places -/
theorem dq_top {j : Nat} (h : j = 192) : (192 : Int32) ≤ nI j := by
  rw [← dq_192]; exact nI_le (by omega) (by omega)
theorem dq_low {j : Nat} (h : j < 192) : ¬ (192 : Int32) ≤ nI j := by
  rw [← dq_192]; exact nI_ge h (by omega)
/-- the squared distance, as both sides reckon it -/
def dq_sq (p c : Int32) : Int32 :=
  ((p - p / 16 * 16) - (c - c / 16 * 16)) * ((p - p / 16 * 16) - (c - c / 16 * 16)) + ((p / 16) - (c / 16)) * ((p / 16) - (c / 16))
theorem dq_col {i : Nat} (hi : i < 192) : nI i - nI i / 16 * 16 = nI (i % 16) := by
  rw [← dq_16]; exact pk_rem (by omega) (by omega) (by omega)
theorem dq_row {i : Nat} (hi : i < 192) : nI i / 16 = nI (i / 16) := by
  rw [← dq_16]; exact pk_div (by omega) (by omega) (by omega)
theorem dq_swap (x y : Int32) : (x - y) * (x - y) = (y - x) * (y - x) := by grind
theorem dq_small {d : Nat} (h : d ≤ 15) : d * d < 256 :=
  Nat.lt_of_le_of_lt (Nat.mul_le_mul h h) (by decide)
theorem dq_diff {a b : Nat} (ha : a < 16) (hb : b < 16) : ∃ n : Nat, n < 256 ∧ (nI a - nI b) * (nI a - nI b) = nI n := by
  rcases Nat.le_total b a with h | h
  · exact ⟨(a - b) * (a - b), dq_small (by omega), by rw [pk_sub h, pk_mul]⟩
  · exact ⟨(b - a) * (b - a), dq_small (by omega), by rw [dq_swap, pk_sub h, pk_mul]⟩
theorem dq_sq_nn {i c : Nat} (hi : i < 192) (hc : c < 192) : ∃ n : Nat, n < 512 ∧ dq_sq (nI i) (nI c) = nI n := by
  obtain ⟨m, hm, em⟩ := dq_diff (a := i % 16) (b := c % 16) (by omega) (by omega)
  obtain ⟨n, hn, en⟩ := dq_diff (a := i / 16) (b := c / 16) (by omega) (by omega)
  refine ⟨m + n, by omega, ?_⟩
  unfold dq_sq
  rw [dq_col hi, dq_col hc, dq_row hi, dq_row hc, em, en, nI_add]
/-- the mark of p among the places below j -/
def dq_mk (a : Nat → Int32) (p : Int32) : Nat → Int32
  | 0 => -1
  | j + 1 => if a j = 0 then dq_mk a p j else if dq_mk a p j = -1 then nI j else if dq_sq p (dq_mk a p j) ≤ dq_sq p (nI j) then dq_mk a p j else nI j
theorem dq_mk_s (a : Nat → Int32) (p : Int32) (j : Nat) : dq_mk a p (j + 1) = if a j = 0 then dq_mk a p j else if dq_mk a p j = -1 then nI j else if dq_sq p (dq_mk a p j) ≤ dq_sq p (nI j) then dq_mk a p j else nI j := rfl
theorem dq_mk_0 (a : Nat → Int32) (p : Int32) (j : Nat) (h : a j = 0) : dq_mk a p (j + 1) = dq_mk a p j := by
  rw [dq_mk_s, if_pos h]
theorem dq_mk_n (a : Nat → Int32) (p : Int32) (j : Nat) (h : ¬ a j = 0) (hm : dq_mk a p j = -1) : dq_mk a p (j + 1) = nI j := by
  rw [dq_mk_s, if_neg h, if_pos hm]
theorem dq_mk_k (a : Nat → Int32) (p : Int32) (j : Nat) (h : ¬ a j = 0) (hm : ¬ dq_mk a p j = -1) (hl : dq_sq p (dq_mk a p j) ≤ dq_sq p (nI j)) : dq_mk a p (j + 1) = dq_mk a p j := by
  rw [dq_mk_s, if_neg h, if_neg hm, if_pos hl]
theorem dq_mk_l (a : Nat → Int32) (p : Int32) (j : Nat) (h : ¬ a j = 0) (hm : ¬ dq_mk a p j = -1) (hl : ¬ dq_sq p (dq_mk a p j) ≤ dq_sq p (nI j)) : dq_mk a p (j + 1) = nI j := by
  rw [dq_mk_s, if_neg h, if_neg hm, if_neg hl]
theorem dq_mk_in (a : Nat → Int32) (p : Int32) : ∀ j : Nat, dq_mk a p j = -1 ∨ ∃ i : Nat, i < j ∧ dq_mk a p j = nI i := by
  intro j
  induction j with
  | zero => exact Or.inl rfl
  | succ j ih =>
    have keep : dq_mk a p j = -1 ∨ ∃ i : Nat, i < j + 1 ∧ dq_mk a p j = nI i := by
      rcases ih with h | ⟨i, hi, h⟩
      · exact Or.inl h
      · exact Or.inr ⟨i, by omega, h⟩
    by_cases h : a j = 0
    · rw [dq_mk_0 a p j h]; exact keep
    · by_cases hm : dq_mk a p j = -1
      · rw [dq_mk_n a p j h hm]; exact Or.inr ⟨j, by omega, rfl⟩
      · by_cases hl : dq_sq p (dq_mk a p j) ≤ dq_sq p (nI j)
        · rw [dq_mk_k a p j h hm hl]; exact keep
        · rw [dq_mk_l a p j h hm hl]; exact Or.inr ⟨j, by omega, rfl⟩
theorem dq_n1 {n : Nat} (h : n < 2 ^ 31) : ¬ nI n = -1 := fun e => nI_pos h (by rw [e]; decide)
/-- no mark: less than 0; a mark: not less than 0 -/
theorem dq_neg {x : Int32} (h : x = -1) : x < 0 := by rw [h]; decide
theorem dq_nge {x : Int32} (h : x = -1) : ¬ 0 ≤ x := by rw [h]; decide
theorem dq_mk_pos {a : Nat → Int32} {p : Int32} {j : Nat} (hj : j ≤ 192) (h : ¬ dq_mk a p j = -1) : ¬ dq_mk a p j < 0 ∧ 0 ≤ dq_mk a p j := by
  rcases dq_mk_in a p j with e | ⟨i, hi, e⟩
  · exact absurd e h
  · rw [e]; exact ⟨nI_pos (by omega), nI_pos' (by omega)⟩
/-- the distance of p to its mark -/
def dq_dm (a : Nat → Int32) (p : Int32) : Int32 := if dq_mk a p 192 = -1 then -1 else dq_sq p (dq_mk a p 192)
theorem dq_dm_n {a : Nat → Int32} {p : Int32} (h : dq_mk a p 192 = -1) : dq_dm a p = -1 := if_pos h
theorem dq_dm_s {a : Nat → Int32} {p : Int32} (h : ¬ dq_mk a p 192 = -1) : dq_dm a p = dq_sq p (dq_mk a p 192) := if_neg h
theorem dq_dm_in (a : Nat → Int32) {i : Nat} (hi : i < 192) : dq_dm a (nI i) = -1 ∨ (¬ dq_dm a (nI i) = -1 ∧ ¬ dq_dm a (nI i) < 0 ∧ 0 ≤ dq_dm a (nI i)) := by
  rcases dq_mk_in a (nI i) 192 with e | ⟨c, hc, e⟩
  · exact Or.inl (dq_dm_n e)
  · have h : ¬ dq_mk a (nI i) 192 = -1 := by rw [e]; exact dq_n1 (by omega)
    obtain ⟨n, hn, en⟩ := dq_sq_nn hi hc
    rw [dq_dm_s h, e, en]
    exact Or.inr ⟨dq_n1 (by omega), nI_pos (by omega), nI_pos' (by omega)⟩
theorem dq_num (x y : Nat) : (16 : Int32) * nI y + nI x = nI (16 * y + x) := by
  rw [← dq_16, pk_mul, nI_add]
/-- a store of what stands there already -/
theorem dq_same {a : Nat → Int32} {n : Nat} {x : Int32} (h : a n = x) : upd a n x = a := by
  funext j
  show (if j = n then x else a j) = a j
  by_cases e : j = n
  · rw [if_pos e, e]; exact h.symm
  · rw [if_neg e]
theorem dq_01 {a : Nat → Int32} {n : Nat} {x : Int32} (h : ∀ j, a j = 0 ∨ a j = 1) (hx : x = 0 ∨ x = 1) : ∀ j, upd a n x j = 0 ∨ upd a n x j = 1 := by
  intro j
  show (if j = n then x else a j) = 0 ∨ (if j = n then x else a j) = 1
  by_cases e : j = n
  · rw [if_pos e]; exact hx
  · rw [if_neg e]; exact h j
