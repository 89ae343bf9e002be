section
theorem pk_sub {a b : Nat} (h : b ≤ a) : nI a - nI b = nI (a - b) := by
  obtain ⟨c, rfl⟩ : ∃ c, a = c + b := ⟨a - b, by omega⟩
  rw [← nI_add, Int32.add_sub_cancel, Nat.add_sub_cancel]
theorem pk_mul (a b : Nat) : nI a * nI b = nI (a * b) := (Int32.ofNat_mul a b).symm
theorem pk_div {a d : Nat} (ha : a < 2 ^ 31) (h0 : 0 < d) (hd : d < 2 ^ 31) : nI a / nI d = nI (a / d) := by
  apply Int32.toInt_inj.mp
  rw [lg_idiv_nonneg (by rw [nI_toInt ha]; omega) (by rw [nI_toInt hd]; omega), nI_toInt ha, nI_toInt hd, nI_toInt (Nat.lt_of_le_of_lt (Nat.div_le_self a d) ha)]
  first | rfl | exact (Int.natCast_ediv _ _).symm
theorem pk_rem {a d : Nat} (ha : a < 2 ^ 31) (h0 : 0 < d) (hd : d < 2 ^ 31) : nI a - nI a / nI d * nI d = nI (a % d) := by
  rw [pk_div ha h0 hd, pk_mul, pk_sub (Nat.div_mul_le_self a d)]
  exact congrArg nI (by have := Nat.div_add_mod' a d; omega)
theorem dq_11 : nI 11 = 11 := by decide +kernel
theorem dq_12 : nI 12 = 12 := by decide +kernel
theorem dq_15 : nI 15 = 15 := by decide +kernel
theorem dq_16 : nI 16 = 16 := by decide +kernel
theorem dq_176 : nI 176 = 176 := by decide +kernel
theorem dq_192 : nI 192 = 192 := by decide +kernel
theorem dq_n16 : ¬ (16 : Int32) = 0 := by decide
theorem dq_nb1 : vp_nar .boolean 1 = 1 := by decide
theorem dq_nb0 : vp_nar .boolean 0 = 0 := by decide
/-- the counter of a scan over the 192 places -/
theorem dq_top {j : Nat} (h : j = 192) : (192 : Int32) ≤ nI j := by
  rw [← dq_192]; exact nI_le (by omega) (by omega)
theorem dq_low {j : Nat} (h : j < 192) : ¬ (192 : Int32) ≤ nI j := by
  rw [← dq_192]; exact nI_ge h (by omega)
/-- the squared distance, as both sides reckon it -/
def dq_sq (p c : Int32) : Int32 :=
  ((p - p / 16 * 16) - (c - c / 16 * 16)) * ((p - p / 16 * 16) - (c - c / 16 * 16)) + ((p / 16) - (c / 16)) * ((p / 16) - (c / 16))
theorem dq_col {i : Nat} (hi : i < 192) : nI i - nI i / 16 * 16 = nI (i % 16) := by
  rw [← dq_16]; exact pk_rem (by omega) (by omega) (by omega)
theorem dq_row {i : Nat} (hi : i < 192) : nI i / 16 = nI (i / 16) := by
  rw [← dq_16]; exact pk_div (by omega) (by omega) (by omega)
theorem dq_swap (x y : Int32) : (x - y) * (x - y) = (y - x) * (y - x) := by grind
theorem dq_small {d : Nat} (h : d ≤ 15) : d * d < 256 :=
  Nat.lt_of_le_of_lt (Nat.mul_le_mul h h) (by decide)
theorem dq_diff {a b : Nat} (ha : a < 16) (hb : b < 16) : ∃ n : Nat, n < 256 ∧ (nI a - nI b) * (nI a - nI b) = nI n := by
  rcases Nat.le_total b a with h | h
  · exact ⟨(a - b) * (a - b), dq_small (by omega), by rw [pk_sub h, pk_mul]⟩
  · exact ⟨(b - a) * (b - a), dq_small (by omega), by rw [dq_swap, pk_sub h, pk_mul]⟩
theorem dq_sq_nn {i c : Nat} (hi : i < 192) (hc : c < 192) : ∃ n : Nat, n < 512 ∧ dq_sq (nI i) (nI c) = nI n := by
  obtain ⟨m, hm, em⟩ := dq_diff (a := i % 16) (b := c % 16) (by omega) (by omega)
  obtain ⟨n, hn, en⟩ := dq_diff (a := i / 16) (b := c / 16) (by omega) (by omega)
  refine ⟨m + n, by omega, ?_⟩
  unfold dq_sq
  rw [dq_col hi, dq_col hc, dq_row hi, dq_row hc, em, en, nI_add]
/-- the mark of p among the places below j -/
def dq_mk (a : Nat → Int32) (p : Int32) : Nat → Int32
  | 0 => -1
  | j + 1 => if a j = 0 then dq_mk a p j else if dq_mk a p j = -1 then nI j else if dq_sq p (dq_mk a p j) ≤ dq_sq p (nI j) then dq_mk a p j else nI j
theorem dq_mk_s (a : Nat → Int32) (p : Int32) (j : Nat) : dq_mk a p (j + 1) = if a j = 0 then dq_mk a p j else if dq_mk a p j = -1 then nI j else if dq_sq p (dq_mk a p j) ≤ dq_sq p (nI j) then dq_mk a p j else nI j := rfl
theorem dq_mk_0 (a : Nat → Int32) (p : Int32) (j : Nat) (h : a j = 0) : dq_mk a p (j + 1) = dq_mk a p j := by
  rw [dq_mk_s, if_pos h]
theorem dq_mk_n (a : Nat → Int32) (p : Int32) (j : Nat) (h : ¬ a j = 0) (hm : dq_mk a p j = -1) : dq_mk a p (j + 1) = nI j := by
  rw [dq_mk_s, if_neg h, if_pos hm]
theorem dq_mk_k (a : Nat → Int32) (p : Int32) (j : Nat) (h : ¬ a j = 0) (hm : ¬ dq_mk a p j = -1) (hl : dq_sq p (dq_mk a p j) ≤ dq_sq p (nI j)) : dq_mk a p (j + 1) = dq_mk a p j := by
  rw [dq_mk_s, if_neg h, if_neg hm, if_pos hl]
theorem dq_mk_l (a : Nat → Int32) (p : Int32) (j : Nat) (h : ¬ a j = 0) (hm : ¬ dq_mk a p j = -1) (hl : ¬ dq_sq p (dq_mk a p j) ≤ dq_sq p (nI j)) : dq_mk a p (j + 1) = nI j := by
  rw [dq_mk_s, if_neg h, if_neg hm, if_neg hl]
theorem dq_mk_in (a : Nat → Int32) (p : Int32) : ∀ j : Nat, dq_mk a p j = -1 ∨ ∃ i : Nat, i < j ∧ dq_mk a p j = nI i := by
  intro j
  induction j with
  | zero => exact Or.inl rfl
  | succ j ih =>
    have keep : dq_mk a p j = -1 ∨ ∃ i : Nat, i < j + 1 ∧ dq_mk a p j = nI i := by
      rcases ih with h | ⟨i, hi, h⟩
      · exact Or.inl h
      · exact Or.inr ⟨i, by omega, h⟩
    by_cases h : a j = 0
    · rw [dq_mk_0 a p j h]; exact keep
    · by_cases hm : dq_mk a p j = -1
      · rw [dq_mk_n a p j h hm]; exact Or.inr ⟨j, by omega, rfl⟩
      · by_cases hl : dq_sq p (dq_mk a p j) ≤ dq_sq p (nI j)
        · rw [dq_mk_k a p j h hm hl]; exact keep
        · rw [dq_mk_l a p j h hm hl]; exact Or.inr ⟨j, by omega, rfl⟩
theorem dq_n1 {n : Nat} (h : n < 2 ^ 31) : ¬ nI n = -1 := fun e => nI_pos h (by rw [e]; decide)
/-- no mark: less than 0; a mark: not less than 0 -/
theorem dq_neg {x : Int32} (h : x = -1) : x < 0 := by rw [h]; decide
theorem dq_nge {x : Int32} (h : x = -1) : ¬ 0 ≤ x := by rw [h]; decide
theorem dq_mk_pos {a : Nat → Int32} {p : Int32} {j : Nat} (hj : j ≤ 192) (h : ¬ dq_mk a p j = -1) : ¬ dq_mk a p j < 0 ∧ 0 ≤ dq_mk a p j := by
  rcases dq_mk_in a p j with e | ⟨i, hi, e⟩
  · exact absurd e h
  · rw [e]; exact ⟨nI_pos (by omega), nI_pos' (by omega)⟩
/-- the distance of p to its mark -/
def dq_dm (a : Nat → Int32) (p : Int32) : Int32 := if dq_mk a p 192 = -1 then -1 else dq_sq p (dq_mk a p 192)
theorem dq_dm_n {a : Nat → Int32} {p : Int32} (h : dq_mk a p 192 = -1) : dq_dm a p = -1 := if_pos h
theorem dq_dm_s {a : Nat → Int32} {p : Int32} (h : ¬ dq_mk a p 192 = -1) : dq_dm a p = dq_sq p (dq_mk a p 192) := if_neg h
theorem dq_dm_in (a : Nat → Int32) {i : Nat} (hi : i < 192) : dq_dm a (nI i) = -1 ∨ (¬ dq_dm a (nI i) = -1 ∧ ¬ dq_dm a (nI i) < 0 ∧ 0 ≤ dq_dm a (nI i)) := by
  rcases dq_mk_in a (nI i) 192 with e | ⟨c, hc, e⟩
  · exact Or.inl (dq_dm_n e)
  · have h : ¬ dq_mk a (nI i) 192 = -1 := by rw [e]; exact dq_n1 (by omega)
    obtain ⟨n, hn, en⟩ := dq_sq_nn hi hc
    rw [dq_dm_s h, e, en]
    exact Or.inr ⟨dq_n1 (by omega), nI_pos (by omega), nI_pos' (by omega)⟩
theorem dq_num (x y : Nat) : (16 : Int32) * nI y + nI x = nI (16 * y + x) := by
  rw [← dq_16, pk_mul, nI_add]
/-- a store of what stands there already -/
theorem dq_same {a : Nat → Int32} {n : Nat} {x : Int32} (h : a n = x) : upd a n x = a := by
  funext j
  show (if j = n then x else a j) = a j
  by_cases e : j = n
  · rw [if_pos e, e]; exact h.symm
  · rw [if_neg e]
theorem dq_01 {a : Nat → Int32} {n : Nat} {x : Int32} (h : ∀ j, a j = 0 ∨ a j = 1) (hx : x = 0 ∨ x = 1) : ∀ j, upd a n x j = 0 ∨ upd a n x j = 1 := by
  intro j
  show (if j = n then x else a j) = 0 ∨ (if j = n then x else a j) = 1
  by_cases e : j = n
  · rw [if_pos e]; exact hx
  · rw [if_neg e]; exact h j
end
section
theorem dq_x_sq (post : Int32 → Prop) (p c : Int32) (h : post (dq_sq p c)) : wpX_squaredDistance post p c :=
  ⟨dq_n16, ⟨dq_n16, nm_e ⟨dq_n16, ⟨dq_n16, nm_e h⟩⟩⟩⟩
theorem dq_y_sq (post : Int32 → Prop) (p c : Int32) (h : post (dq_sq p c)) : wpY_apart post p c :=
  ⟨dq_n16, ⟨dq_n16, nm_e ⟨dq_n16, ⟨dq_n16, nm_e h⟩⟩⟩⟩
theorem dq_x_num (post : Int32 → Prop) (p0 p1 : Int32) (h : post ((16 * p1) + p0)) : wpX_numberOf post p0 p1 := h
/-- the component's scan for a mark: it holds the least distance beside the mark -/
theorem dq_x_scan (post : Int32 → Prop) (a : Nat → Int32) (p : Int32) (h : post (dq_mk a p 192)) : ∀ (d j : Nat) (l : Int32), j + d = 192 → (¬ dq_mk a p j = -1 → l = dq_sq p (dq_mk a p j)) → wX_markOf_7 post p a (d + 1) (dq_mk a p j) l (nI j) := by
  intro d
  induction d with
  | zero =>
    intro j l hj hl
    have e : j = 192 := by omega
    subst e
    exact br_t (dq_top rfl) h
  | succ d ih =>
    intro j l hj hl
    have hj' : j < 192 := by omega
    have hc : (nI j).toNatClampNeg = j := nI_clamp (by omega)
    have hin : vp_in (nI j) 192 := vp_in_nI hj' (by omega)
    by_cases z : a j = 0
    · have z' : a (nI j).toNatClampNeg = 0 := by rw [hc]; exact z
      have g := ih (j + 1) l (by omega) (by rw [dq_mk_0 a p j z]; exact hl)
      rw [dq_mk_0 a p j z] at g
      exact br_f (dq_low hj') ⟨hin, br_t z' (nm_r (nI_1 j) g)⟩
    · have z' : ¬ a (nI j).toNatClampNeg = 0 := by rw [hc]; exact z
      by_cases hm : dq_mk a p j = -1
      · have g := ih (j + 1) (dq_sq p (nI j)) (by omega) (fun _ => by rw [dq_mk_n a p j z hm])
        rw [dq_mk_n a p j z hm] at g
        exact br_f (dq_low hj') ⟨hin, br_f z' (dq_x_sq _ _ _ (br_t hm (nm_r (nI_1 j) g)))⟩
      · have el := hl hm
        subst el
        by_cases hk : dq_sq p (dq_mk a p j) ≤ dq_sq p (nI j)
        · have g := ih (j + 1) (dq_sq p (dq_mk a p j)) (by omega) (fun _ => by rw [dq_mk_k a p j z hm hk])
          rw [dq_mk_k a p j z hm hk] at g
          exact br_f (dq_low hj') ⟨hin, br_f z' (dq_x_sq _ _ _ (br_f hm (br_t hk (nm_r (nI_1 j) g))))⟩
        · have g := ih (j + 1) (dq_sq p (nI j)) (by omega) (fun _ => by rw [dq_mk_l a p j z hm hk])
          rw [dq_mk_l a p j z hm hk] at g
          exact br_f (dq_low hj') ⟨hin, br_f z' (dq_x_sq _ _ _ (br_f hm (br_f hk (nm_r (nI_1 j) g))))⟩
theorem dq_x_mk (post : Int32 → Prop) (a : Nat → Int32) (p : Int32) (h : post (dq_mk a p 192)) : wpX_markOf post a p := by
  have g := dq_x_scan post a p h 192 0 0 (by omega) (fun n => absurd rfl n)
  rw [nI_0] at g
  exact ⟨_, g⟩
/-- the reference's scan for a mark: it reckons the distance anew -/
theorem dq_y_scan (post : Int32 → Prop) (a : Nat → Int32) (p : Int32) (h : post (dq_mk a p 192)) : ∀ (d j : Nat), j + d = 192 → wY_markOf_4 post p a (d + 1) (dq_mk a p j) (nI j) := by
  intro d
  induction d with
  | zero =>
    intro j hj
    have e : j = 192 := by omega
    subst e
    exact br_t (dq_top rfl) h
  | succ d ih =>
    intro j hj
    have hj' : j < 192 := by omega
    have hc : (nI j).toNatClampNeg = j := nI_clamp (by omega)
    have hin : vp_in (nI j) 192 := vp_in_nI hj' (by omega)
    have g := ih (j + 1) (by omega)
    by_cases z : a j = 0
    · have z' : a (nI j).toNatClampNeg = 0 := by rw [hc]; exact z
      rw [dq_mk_0 a p j z] at g
      exact br_f (dq_low hj') ⟨hin, br_t z' (nm_r (nI_1 j) g)⟩
    · have z' : ¬ a (nI j).toNatClampNeg = 0 := by rw [hc]; exact z
      by_cases hm : dq_mk a p j = -1
      · rw [dq_mk_n a p j z hm] at g
        exact br_f (dq_low hj') ⟨hin, br_f z' (br_t (dq_neg hm) (nm_r (nI_1 j) g))⟩
      · have hn := (dq_mk_pos (by omega) hm).1
        by_cases hk : dq_sq p (dq_mk a p j) ≤ dq_sq p (nI j)
        · rw [dq_mk_k a p j z hm hk] at g
          exact br_f (dq_low hj') ⟨hin, br_f z' (br_f hn (dq_y_sq _ _ _ (dq_y_sq _ _ _ (br_t hk (nm_r (nI_1 j) g)))))⟩
        · rw [dq_mk_l a p j z hm hk] at g
          exact br_f (dq_low hj') ⟨hin, br_f z' (br_f hn (dq_y_sq _ _ _ (dq_y_sq _ _ _ (br_f hk (nm_r (nI_1 j) g)))))⟩
theorem dq_y_mk (post : Int32 → Prop) (a : Nat → Int32) (p : Int32) (h : post (dq_mk a p 192)) : wpY_markOf post a p := by
  have g := dq_y_scan post a p h 192 0 (by omega)
  rw [nI_0] at g
  exact ⟨_, g⟩
theorem dq_x_dm (post : Int32 → Prop) (a : Nat → Int32) (p : Int32) (h : post (dq_dm a p)) : wpX_distanceToMark post a p := by
  unfold wpX_distanceToMark
  refine dq_x_mk _ a p ?_
  by_cases hm : dq_mk a p 192 = -1
  · rw [dq_dm_n hm] at h
    exact br_t hm h
  · rw [dq_dm_s hm] at h
    exact br_f hm (dq_x_sq _ _ _ h)
theorem dq_y_dm (post : Int32 → Prop) (a : Nat → Int32) (p : Int32) (h : post (dq_dm a p)) : wpY_far post a p := by
  unfold wpY_far
  refine dq_y_mk _ a p ?_
  by_cases hm : dq_mk a p 192 = -1
  · rw [dq_dm_n hm] at h
    exact br_f (dq_nge hm) h
  · rw [dq_dm_s hm] at h
    exact br_t (dq_mk_pos (by omega) hm).2 (dq_y_sq _ _ _ h)
/-- a place is on the board for both sides, or for neither -/
theorem dq_board (v1 v2 : Int32) : (vp_in ((16 * v2) + v1) 192 ∧ (∀ post : Int32 → Prop, post 1 → wpX_isOnBoard post v1 v2) ∧ (∀ post : Int32 → Prop, post 0 → wpY_bad post v1 v2)) ∨ ((∀ post : Int32 → Prop, post 0 → wpX_isOnBoard post v1 v2) ∧ (∀ post : Int32 → Prop, post 1 → wpY_bad post v1 v2)) := by
  by_cases h0 : v1 < 0
  · exact Or.inr ⟨fun _ h => br_t h0 h, fun _ h => br_t h0 h⟩
  · obtain ⟨x, hx, rfl⟩ := nI_of h0
    by_cases h1 : x < 16
    · have gX : ¬ (16 : Int32) ≤ nI x := by rw [← dq_16]; exact nI_ge h1 (by omega)
      have gY : ¬ (15 : Int32) < nI x := by rw [← dq_15]; exact nI_nlt (by omega) (by omega)
      by_cases h2 : v2 < 0
      · exact Or.inr ⟨fun _ h => br_f h0 (br_f gX (br_t h2 h)), fun _ h => br_f h0 (br_f gY (br_t h2 h))⟩
      · obtain ⟨y, hy, rfl⟩ := nI_of h2
        by_cases h3 : y < 12
        · have kX : ¬ (12 : Int32) ≤ nI y := by rw [← dq_12]; exact nI_ge h3 (by omega)
          have kY : nI y ≤ (11 : Int32) := by rw [← dq_11]; exact nI_le (by omega) (by omega)
          refine Or.inl ⟨?_, fun _ h => br_f h0 (br_f gX (br_f h2 (br_f kX h))), fun _ h => br_f h0 (br_f gY (br_f h2 (br_t kY h)))⟩
          rw [dq_num]
          exact vp_in_nI (by omega) (by omega)
        · have kX : (12 : Int32) ≤ nI y := by rw [← dq_12]; exact nI_le (by omega) hy
          have kY : ¬ nI y ≤ (11 : Int32) := by rw [← dq_11]; exact nI_ge (by omega) hy
          exact Or.inr ⟨fun _ h => br_f h0 (br_f gX (br_f h2 (br_t kX h))), fun _ h => br_f h0 (br_f gY (br_f h2 (br_f kY h)))⟩
    · have gX : (16 : Int32) ≤ nI x := by rw [← dq_16]; exact nI_le (by omega) hx
      have gY : (15 : Int32) < nI x := by rw [← dq_15]; exact nI_lt (by omega) hx
      exact Or.inr ⟨fun _ h => br_f h0 (br_t gX h), fun _ h => br_f h0 (br_t gY h)⟩
theorem dq_x_set (post : Int32 → SX → Prop) (a : Nat → Int32) (v1 v2 w : Int32) (hb : ∀ q : Int32 → Prop, q 1 → wpX_isOnBoard q v1 v2) (hin : vp_in ((16 * v2) + v1) 192) (h1 : a ((16 * v2) + v1).toNatClampNeg = w → post 0 a) (h2 : ¬ a ((16 * v2) + v1).toNatClampNeg = w → post 1 (upd a ((16 * v2) + v1).toNatClampNeg (vp_nar .boolean w))) : wpX_setMarked post a v1 v2 w := by
  unfold wpX_setMarked
  exact hb _ (br_f (by decide) (dq_x_num _ _ _ ⟨hin, br_c h1 (fun z => ⟨hin, nm_e (h2 z)⟩)⟩))
theorem dq_y_mark (post : Int32 → SY → Prop) (a : Nat → Int32) (v1 v2 : Int32) (hb : ∀ q : Int32 → Prop, q 0 → wpY_bad q v1 v2) (hin : vp_in ((16 * v2) + v1) 192) (h1 : a ((16 * v2) + v1).toNatClampNeg = 0 → post 1 (upd a ((16 * v2) + v1).toNatClampNeg (vp_nar .boolean 1))) (h2 : ¬ a ((16 * v2) + v1).toNatClampNeg = 0 → post 0 (upd a ((16 * v2) + v1).toNatClampNeg (vp_nar .boolean 1))) : wpY_mark post a v1 v2 := by
  unfold wpY_mark
  exact hb _ (br_t rfl ⟨hin, nm_e ⟨hin, nm_e (br_c h1 h2)⟩⟩)
theorem dq_y_clear (post : Int32 → SY → Prop) (a : Nat → Int32) (v1 v2 : Int32) (hb : ∀ q : Int32 → Prop, q 0 → wpY_bad q v1 v2) (hin : vp_in ((16 * v2) + v1) 192) (h1 : a ((16 * v2) + v1).toNatClampNeg = 0 → post 0 (upd a ((16 * v2) + v1).toNatClampNeg (vp_nar .boolean 0))) (h2 : ¬ a ((16 * v2) + v1).toNatClampNeg = 0 → post 1 (upd a ((16 * v2) + v1).toNatClampNeg (vp_nar .boolean 0))) : wpY_clear post a v1 v2 := by
  unfold wpY_clear
  exact hb _ (br_t rfl ⟨hin, nm_e ⟨hin, nm_e (br_c h1 h2)⟩⟩)
end
section
/-- each loop over the places: one answer, whatever is asked of it, on both sides -/
theorem dq_l_reach (a : Nat → Int32) (v1 v2 : Int32) : ∀ (d j : Nat) (c : Int32), j + d = 192 → ∃ r : Int32, (∀ post : Int32 → Prop, post r → wX_reach_22 post ((16 * v2) + v1) a (d + 1) c (nI j)) ∧ (∀ post : Int32 → Prop, post r → wY_reach_15 post v1 v2 a (d + 1) c (nI j)) := by
  intro d
  induction d with
  | zero =>
    intro j c hj
    have h : (192 : Int32) ≤ nI j := dq_top (by omega)
    exact ⟨c, fun _ hp => br_t h hp, fun _ hp => br_t h hp⟩
  | succ d ih =>
    intro j c hj
    have h : ¬ (192 : Int32) ≤ nI j := dq_low (by omega)
    by_cases z : dq_mk a (nI j) 192 = (16 * v2) + v1
    · obtain ⟨r, hX, hY⟩ := ih (j + 1) (c + 1) (by omega)
      exact ⟨r, fun post hp => br_f h (dq_x_mk _ _ _ (br_t z (nm_e (nm_r (nI_1 j) (hX post hp))))), fun post hp => br_f h (dq_y_mk _ _ _ (br_t z (nm_e (nm_r (nI_1 j) (hY post hp)))))⟩
    · obtain ⟨r, hX, hY⟩ := ih (j + 1) c (by omega)
      exact ⟨r, fun post hp => br_f h (dq_x_mk _ _ _ (br_f z (nm_r (nI_1 j) (hX post hp)))), fun post hp => br_f h (dq_y_mk _ _ _ (br_f z (nm_r (nI_1 j) (hY post hp))))⟩
theorem dq_l_farthest (a : Nat → Int32) : ∀ (d j : Nat) (c : Int32), j + d = 192 → ∃ r : Int32, (∀ post : Int32 → Prop, post r → wX_farthest_4 post a (d + 1) c (nI j)) ∧ (∀ post : Int32 → Prop, post r → wY_farthest_4 post a (d + 1) c (nI j)) := by
  intro d
  induction d with
  | zero =>
    intro j c hj
    have h : (192 : Int32) ≤ nI j := dq_top (by omega)
    exact ⟨c, fun _ hp => br_t h hp, fun _ hp => br_t h hp⟩
  | succ d ih =>
    intro j c hj
    have h : ¬ (192 : Int32) ≤ nI j := dq_low (by omega)
    by_cases z : dq_dm a (nI j) ≤ c
    · obtain ⟨r, hX, hY⟩ := ih (j + 1) c (by omega)
      exact ⟨r, fun post hp => br_f h (dq_x_dm _ _ _ (br_t z (nm_r (nI_1 j) (hX post hp)))), fun post hp => br_f h (dq_y_dm _ _ _ (br_t z (nm_r (nI_1 j) (hY post hp))))⟩
    · obtain ⟨r, hX, hY⟩ := ih (j + 1) (dq_dm a (nI j)) (by omega)
      exact ⟨r, fun post hp => br_f h (dq_x_dm _ _ _ (br_f z (nm_r (nI_1 j) (hX post hp)))), fun post hp => br_f h (dq_y_dm _ _ _ (br_f z (nm_r (nI_1 j) (hY post hp))))⟩
theorem dq_l_within (a : Nat → Int32) (v1 : Int32) : ∀ (d j : Nat) (c : Int32), j + d = 192 → ∃ r : Int32, (∀ post : Int32 → Prop, post r → wX_within_4 post v1 a (d + 1) c (nI j)) ∧ (∀ post : Int32 → Prop, post r → wY_within_4 post v1 a (d + 1) c (nI j)) := by
  intro d
  induction d with
  | zero =>
    intro j c hj
    have h : (192 : Int32) ≤ nI j := dq_top (by omega)
    exact ⟨c, fun _ hp => br_t h hp, fun _ hp => br_t h hp⟩
  | succ d ih =>
    intro j c hj
    have hj' : j < 192 := by omega
    have h : ¬ (192 : Int32) ≤ nI j := dq_low hj'
    rcases dq_dm_in a hj' with e | ⟨e, n0, _⟩
    · obtain ⟨r, hX, hY⟩ := ih (j + 1) c (by omega)
      exact ⟨r, fun post hp => br_f h (dq_x_dm _ _ _ (br_t e (nm_r (nI_1 j) (hX post hp)))), fun post hp => br_f h (dq_y_dm _ _ _ (br_t (dq_neg e) (nm_r (nI_1 j) (hY post hp))))⟩
    · by_cases z : v1 < dq_dm a (nI j)
      · obtain ⟨r, hX, hY⟩ := ih (j + 1) c (by omega)
        exact ⟨r, fun post hp => br_f h (dq_x_dm _ _ _ (br_f e (br_t z (nm_r (nI_1 j) (hX post hp))))), fun post hp => br_f h (dq_y_dm _ _ _ (br_f n0 (br_t z (nm_r (nI_1 j) (hY post hp)))))⟩
      · obtain ⟨r, hX, hY⟩ := ih (j + 1) (c + 1) (by omega)
        exact ⟨r, fun post hp => br_f h (dq_x_dm _ _ _ (br_f e (br_f z (nm_e (nm_r (nI_1 j) (hX post hp)))))), fun post hp => br_f h (dq_y_dm _ _ _ (br_f n0 (br_f z (nm_e (nm_r (nI_1 j) (hY post hp))))))⟩
/-- the lower neighbour of place j, whatever follows -/
theorem dq_l_down (a : Nat → Int32) {j : Nat} (hj : j < 192) (c : Int32) : ∃ c' : Int32, (∀ (post : Int32 → Prop) (J : Int32 → Int32 → Prop), J c' (nI (j + 1)) → wX_edges_42 post J c (nI j) (dq_mk a (nI j) 192) a) ∧ (∀ (post : Int32 → Prop) (J : Int32 → Int32 → Prop), J c' (nI (j + 1)) → wY_edges_38 post J c (nI j) a) := by
  by_cases w : 176 ≤ j
  · have gX : (12 : Int32) ≤ nI j / 16 + 1 := by rw [dq_row hj, nI_1, ← dq_12]; exact nI_le (by omega) (by omega)
    have gY : (176 : Int32) ≤ nI j := by rw [← dq_176]; exact nI_le w (by omega)
    exact ⟨c, fun _ J h => ⟨dq_n16, br_t gX (nm_r (nI_1 j) h)⟩, fun _ J h => br_t gY (nm_r (nI_1 j) h)⟩
  · have gX : ¬ (12 : Int32) ≤ nI j / 16 + 1 := by rw [dq_row hj, nI_1, ← dq_12]; exact nI_ge (by omega) (by omega)
    have gY : ¬ (176 : Int32) ≤ nI j := by rw [← dq_176]; exact nI_ge (by omega) (by omega)
    by_cases z : dq_mk a (nI j + 16) 192 = dq_mk a (nI j) 192
    · exact ⟨c, fun _ J h => ⟨dq_n16, br_f gX (dq_x_mk _ _ _ (br_t z (nm_r (nI_1 j) h)))⟩, fun _ J h => br_f gY (dq_y_mk _ _ _ (dq_y_mk _ _ _ (br_t z.symm (nm_r (nI_1 j) h))))⟩
    · have z' : ¬ dq_mk a (nI j) 192 = dq_mk a (nI j + 16) 192 := fun e => z e.symm
      exact ⟨c + 1, fun _ J h => ⟨dq_n16, br_f gX (dq_x_mk _ _ _ (br_f z (nm_e (nm_r (nI_1 j) h))))⟩, fun _ J h => br_f gY (dq_y_mk _ _ _ (dq_y_mk _ _ _ (br_f z' (nm_e (nm_r (nI_1 j) h)))))⟩
theorem dq_l_edges (a : Nat → Int32) : ∀ (d j : Nat) (c : Int32), j + d = 192 → ∃ r : Int32, (∀ post : Int32 → Prop, post r → wX_edges_4 post a (d + 1) c (nI j)) ∧ (∀ post : Int32 → Prop, post r → wY_edges_4 post a (d + 1) c (nI j)) := by
  intro d
  induction d with
  | zero =>
    intro j c hj
    have h : (192 : Int32) ≤ nI j := dq_top (by omega)
    exact ⟨c, fun _ hp => br_t h hp, fun _ hp => br_t h hp⟩
  | succ d ih =>
    intro j c hj
    have hj' : j < 192 := by omega
    have h : ¬ (192 : Int32) ≤ nI j := dq_low hj'
    by_cases w : 15 ≤ j % 16
    · have gX : (16 : Int32) ≤ (nI j - nI j / 16 * 16) + 1 := by rw [dq_col hj', nI_1, ← dq_16]; exact nI_le (by omega) (by omega)
      have gY : (15 : Int32) ≤ (nI j - nI j / 16 * 16) := by rw [dq_col hj', ← dq_15]; exact nI_le (by omega) (by omega)
      obtain ⟨c1, eX, eY⟩ := dq_l_down a hj' c
      obtain ⟨r, hX, hY⟩ := ih (j + 1) c1 (by omega)
      exact ⟨r, fun post hp => br_f h (dq_x_mk _ _ _ ⟨dq_n16, br_t gX (eX _ _ (hX post hp))⟩), fun post hp => br_f h ⟨dq_n16, br_t gY (eY _ _ (hY post hp))⟩⟩
    · have gX : ¬ (16 : Int32) ≤ (nI j - nI j / 16 * 16) + 1 := by rw [dq_col hj', nI_1, ← dq_16]; exact nI_ge (by omega) (by omega)
      have gY : ¬ (15 : Int32) ≤ (nI j - nI j / 16 * 16) := by rw [dq_col hj', ← dq_15]; exact nI_ge (by omega) (by omega)
      by_cases z : dq_mk a (nI j + 1) 192 = dq_mk a (nI j) 192
      · obtain ⟨c1, eX, eY⟩ := dq_l_down a hj' c
        obtain ⟨r, hX, hY⟩ := ih (j + 1) c1 (by omega)
        exact ⟨r, fun post hp => br_f h (dq_x_mk _ _ _ ⟨dq_n16, br_f gX (dq_x_mk _ _ _ (br_t z (eX _ _ (hX post hp))))⟩), fun post hp => br_f h ⟨dq_n16, br_f gY (dq_y_mk _ _ _ (dq_y_mk _ _ _ (br_t z.symm (eY _ _ (hY post hp)))))⟩⟩
      · have z' : ¬ dq_mk a (nI j) 192 = dq_mk a (nI j + 1) 192 := fun e => z e.symm
        obtain ⟨c1, eX, eY⟩ := dq_l_down a hj' (c + 1)
        obtain ⟨r, hX, hY⟩ := ih (j + 1) c1 (by omega)
        exact ⟨r, fun post hp => br_f h (dq_x_mk _ _ _ ⟨dq_n16, br_f gX (dq_x_mk _ _ _ (br_f z (nm_e (eX _ _ (hX post hp)))))⟩), fun post hp => br_f h ⟨dq_n16, br_f gY (dq_y_mk _ _ _ (dq_y_mk _ _ _ (br_f z' (nm_e (eY _ _ (hY post hp))))))⟩⟩
theorem dq_l_total (a : Nat → Int32) : ∀ (d j : Nat) (c : Int32), j + d = 192 → ∃ r : Int32, (∀ post : Int32 → Prop, post r → wX_total_4 post a (d + 1) c (nI j)) ∧ (∀ post : Int32 → Prop, post r → wY_total_4 post a (d + 1) c (nI j)) := by
  intro d
  induction d with
  | zero =>
    intro j c hj
    have h : (192 : Int32) ≤ nI j := dq_top (by omega)
    exact ⟨c, fun _ hp => br_t h hp, fun _ hp => br_t h hp⟩
  | succ d ih =>
    intro j c hj
    have hj' : j < 192 := by omega
    have h : ¬ (192 : Int32) ≤ nI j := dq_low hj'
    rcases dq_dm_in a hj' with e | ⟨e, _, g0⟩
    · exact ⟨-1, fun post hp => br_f h (dq_x_dm _ _ _ (br_t e hp)), fun post hp => br_f h (dq_y_dm _ _ _ (br_f (dq_nge e) hp))⟩
    · obtain ⟨r, hX, hY⟩ := ih (j + 1) (c + dq_dm a (nI j)) (by omega)
      exact ⟨r, fun post hp => br_f h (dq_x_dm _ _ _ (br_f e (nm_e (nm_r (nI_1 j) (hX post hp))))), fun post hp => br_f h (dq_y_dm _ _ _ (br_t g0 (nm_e (nm_r (nI_1 j) (hY post hp)))))⟩
end
section
/-- both sides hold the same row of marks, each 0 or 1 -/
def i_Rel (k : Nat) (u : SX) (v : SY) : Prop := u = v ∧ ∀ j, u j = 0 ∨ u j = 1
theorem i_up {k : Nat} {u : SX} {v : SY} (h : i_Rel k u v) : i_Rel (k + 3) u v := h
theorem i_vc0 : wpX_init (fun u => wpY_init (fun v => i_Rel 0 u v)) := ⟨rfl, fun _ => Or.inl rfl⟩
theorem i_vc_mark {k : Nat} {u : SX} {v : SY} (I : i_Rel k u v) (hk : k + 3 ≤ 1536) (v1 : Int32) (v2 : Int32) : wpX_mark (fun r u' => wpY_mark (fun r' v' => r' = r ∧ i_Rel (k + 3) u' v') v v1 v2) u v1 v2 := by
  obtain ⟨e, h01⟩ := I
  subst e
  rcases dq_board v1 v2 with ⟨hin, hX, hY⟩ | ⟨hX, hY⟩
  · unfold wpX_mark
    refine dq_x_set _ u v1 v2 1 hX hin ?_ ?_
    · intro z
      refine dq_y_mark _ u v1 v2 hY hin (fun z0 => absurd (z0.symm.trans z) (by decide)) (fun _ => ⟨rfl, ?_⟩)
      rw [dq_nb1, dq_same z]
      exact ⟨rfl, h01⟩
    · intro z
      refine dq_y_mark _ u v1 v2 hY hin (fun _ => ⟨rfl, rfl, dq_01 h01 (Or.inr dq_nb1)⟩) (fun z0 => absurd ((h01 _).resolve_right z) z0)
  · unfold wpX_mark wpX_setMarked
    refine hX _ (br_t rfl ?_)
    show wpY_mark _ u v1 v2
    unfold wpY_mark
    exact hY _ (br_f (by decide) ⟨rfl, rfl, h01⟩)
theorem i_vc_clear {k : Nat} {u : SX} {v : SY} (I : i_Rel k u v) (hk : k + 3 ≤ 1536) (v1 : Int32) (v2 : Int32) : wpX_clear (fun r u' => wpY_clear (fun r' v' => r' = r ∧ i_Rel (k + 3) u' v') v v1 v2) u v1 v2 := by
  obtain ⟨e, h01⟩ := I
  subst e
  rcases dq_board v1 v2 with ⟨hin, hX, hY⟩ | ⟨hX, hY⟩
  · unfold wpX_clear
    refine dq_x_set _ u v1 v2 0 hX hin ?_ ?_
    · intro z
      refine dq_y_clear _ u v1 v2 hY hin (fun _ => ⟨rfl, ?_⟩) (fun z0 => absurd z z0)
      rw [dq_nb0, dq_same z]
      exact ⟨rfl, h01⟩
    · intro z
      exact dq_y_clear _ u v1 v2 hY hin (fun z0 => absurd z0 z) (fun _ => ⟨rfl, rfl, dq_01 h01 (Or.inl dq_nb0)⟩)
  · unfold wpX_clear wpX_setMarked
    refine hX _ (br_t rfl ?_)
    show wpY_clear _ u v1 v2
    unfold wpY_clear
    exact hY _ (br_f (by decide) ⟨rfl, rfl, h01⟩)
theorem i_vc_distance {k : Nat} {u : SX} {v : SY} (I : i_Rel k u v) (hk : k + 3 ≤ 1536) (v1 : Int32) (v2 : Int32) : wpX_distance (fun r => wpY_distance (fun r' => r' = r ∧ i_Rel (k + 3) u v) v v1 v2) u v1 v2 := by
  obtain ⟨e, h01⟩ := I
  subst e
  rcases dq_board v1 v2 with ⟨hin, hX, hY⟩ | ⟨hX, hY⟩
  · unfold wpX_distance
    refine hX _ (br_f (by decide) (dq_x_num _ _ _ (dq_x_dm _ _ _ ?_)))
    show wpY_distance _ u v1 v2
    unfold wpY_distance
    exact hY _ (br_t rfl (dq_y_dm _ _ _ ⟨rfl, rfl, h01⟩))
  · unfold wpX_distance
    refine hX _ (br_t rfl ?_)
    show wpY_distance _ u v1 v2
    unfold wpY_distance
    exact hY _ (br_f (by decide) ⟨rfl, rfl, h01⟩)
theorem i_vc_nearest {k : Nat} {u : SX} {v : SY} (I : i_Rel k u v) (hk : k + 3 ≤ 1536) (v1 : Int32) (v2 : Int32) : wpX_nearest (fun r => wpY_nearest (fun r' => r' = r ∧ i_Rel (k + 3) u v) v v1 v2) u v1 v2 := by
  obtain ⟨e, h01⟩ := I
  subst e
  rcases dq_board v1 v2 with ⟨hin, hX, hY⟩ | ⟨hX, hY⟩
  · unfold wpX_nearest
    refine hX _ (br_f (by decide) (dq_x_num _ _ _ (dq_x_mk _ _ _ ?_)))
    show wpY_nearest _ u v1 v2
    unfold wpY_nearest
    exact hY _ (br_t rfl (dq_y_mk _ _ _ ⟨rfl, rfl, h01⟩))
  · unfold wpX_nearest
    refine hX _ (br_t rfl ?_)
    show wpY_nearest _ u v1 v2
    unfold wpY_nearest
    exact hY _ (br_f (by decide) ⟨rfl, rfl, h01⟩)
theorem i_vc_reach {k : Nat} {u : SX} {v : SY} (I : i_Rel k u v) (hk : k + 3 ≤ 1536) (v1 : Int32) (v2 : Int32) : wpX_reach (fun r => wpY_reach (fun r' => r' = r ∧ i_Rel (k + 3) u v) v v1 v2) u v1 v2 := by
  obtain ⟨e, h01⟩ := I
  subst e
  rcases dq_board v1 v2 with ⟨hin, hX, hY⟩ | ⟨hX, hY⟩
  · obtain ⟨r, gX, gY⟩ := dq_l_reach u v1 v2 192 0 0 (by omega)
    rw [nI_0] at gX gY
    unfold wpX_reach
    refine hX _ (br_f (by decide) (dq_x_num _ _ _ ⟨_, gX _ ?_⟩))
    show wpY_reach _ u v1 v2
    unfold wpY_reach
    exact hY _ (br_t rfl ⟨_, gY _ ⟨rfl, rfl, h01⟩⟩)
  · unfold wpX_reach
    refine hX _ (br_t rfl ?_)
    show wpY_reach _ u v1 v2
    unfold wpY_reach
    exact hY _ (br_f (by decide) ⟨rfl, rfl, h01⟩)
theorem i_vc_farthest {k : Nat} {u : SX} {v : SY} (I : i_Rel k u v) (hk : k + 3 ≤ 1536) : wpX_farthest (fun r => wpY_farthest (fun r' => r' = r ∧ i_Rel (k + 3) u v) v) u := by
  obtain ⟨e, h01⟩ := I
  subst e
  obtain ⟨r, gX, gY⟩ := dq_l_farthest u 192 0 (-1) (by omega)
  rw [nI_0] at gX gY
  exact ⟨_, gX _ ⟨_, gY _ ⟨rfl, rfl, h01⟩⟩⟩
theorem i_vc_within {k : Nat} {u : SX} {v : SY} (I : i_Rel k u v) (hk : k + 3 ≤ 1536) (v1 : Int32) : wpX_within (fun r => wpY_within (fun r' => r' = r ∧ i_Rel (k + 3) u v) v v1) u v1 := by
  obtain ⟨e, h01⟩ := I
  subst e
  obtain ⟨r, gX, gY⟩ := dq_l_within u v1 192 0 0 (by omega)
  rw [nI_0] at gX gY
  exact ⟨_, gX _ ⟨_, gY _ ⟨rfl, rfl, h01⟩⟩⟩
theorem i_vc_edges {k : Nat} {u : SX} {v : SY} (I : i_Rel k u v) (hk : k + 3 ≤ 1536) : wpX_edges (fun r => wpY_edges (fun r' => r' = r ∧ i_Rel (k + 3) u v) v) u := by
  obtain ⟨e, h01⟩ := I
  subst e
  obtain ⟨r, gX, gY⟩ := dq_l_edges u 192 0 0 (by omega)
  rw [nI_0] at gX gY
  exact ⟨_, gX _ ⟨_, gY _ ⟨rfl, rfl, h01⟩⟩⟩
theorem i_vc_total {k : Nat} {u : SX} {v : SY} (I : i_Rel k u v) (hk : k + 3 ≤ 1536) : wpX_total (fun r => wpY_total (fun r' => r' = r ∧ i_Rel (k + 3) u v) v) u := by
  obtain ⟨e, h01⟩ := I
  subst e
  obtain ⟨r, gX, gY⟩ := dq_l_total u 192 0 0 (by omega)
  rw [nI_0] at gX gY
  exact ⟨_, gX _ ⟨_, gY _ ⟨rfl, rfl, h01⟩⟩⟩
end
