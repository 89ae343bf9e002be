/-- each loop over the places: one answer, whatever is asked of it, on both sides -/
theorem dq_l_reach (a : Nat → Int32) (v1 v2 : Int32) : ∀ (d j : Nat) (c : Int32), j + d = 192 → ∃ r : Int32, (∀ post : Int32 → Prop, post r → wX_reach_22 post ((16 * v2) + v1) a (d + 1) c (nI j)) ∧ (∀ post : Int32 → Prop, post r → wY_reach_15 post v1 v2 a (d + 1) c (nI j)) := by
  intro d
  induction d with
  | zero =>
    intro j c hj
    have h : (192 : Int32) ≤ nI j := dq_top (by omega)
    exact ⟨c, fun _ hp => br_t h hp, fun _ hp => br_t h hp⟩
  | succ d ih =>
    intro j c hj
    have h : ¬ (192 : Int32) ≤ nI j := dq_low (by omega)
    by_cases z : dq_mk a (nI j) 192 = (16 * v2) + v1
    · obtain ⟨r, hX, hY⟩ := ih (j + 1) (c + 1) (by omega)
      exact ⟨r, fun post hp => br_f h (dq_x_mk _ _ _ (br_t z (nm_e (nm_r (nI_1 j) (hX post hp))))), fun post hp => br_f h (dq_y_mk _ _ _ (br_t z (nm_e (nm_r (nI_1 j) (hY post hp)))))⟩
    · obtain ⟨r, hX, hY⟩ := ih (j + 1) c (by omega)
      exact ⟨r, fun post hp => br_f h (dq_x_mk _ _ _ (br_f z (nm_r (nI_1 j) (hX post hp)))), fun post hp => br_f h (dq_y_mk _ _ _ (br_f z (nm_r (nI_1 j) (hY post hp))))⟩
theorem dq_l_farthest (a : Nat → Int32) : ∀ (d j : Nat) (c : Int32), j + d = 192 → ∃ r : Int32, (∀ post : Int32 → Prop, post r → wX_farthest_4 post a (d + 1) c (nI j)) ∧ (∀ post : Int32 → Prop, post r → wY_farthest_4 post a (d + 1) c (nI j)) := by
  intro d
  induction d with
  | zero =>
    intro j c hj
    have h : (192 : Int32) ≤ nI j := dq_top (by omega)
    exact ⟨c, fun _ hp => br_t h hp, fun _ hp => br_t h hp⟩
  | succ d ih =>
    intro j c hj
    have h : ¬ (192 : Int32) ≤ nI j := dq_low (by omega)
    by_cases z : dq_dm a (nI j) ≤ c
    · obtain ⟨r, hX, hY⟩ := ih (j + 1) c (by omega)
      exact ⟨r, fun post hp => br_f h (dq_x_dm _ _ _ (br_t z (nm_r (nI_1 j) (hX post hp)))), fun post hp => br_f h (dq_y_dm _ _ _ (br_t z (nm_r (nI_1 j) (hY post hp))))⟩
    · obtain ⟨r, hX, hY⟩ := ih (j + 1) (dq_dm a (nI j)) (by omega)
      exact ⟨r, fun post hp => br_f h (dq_x_dm _ _ _ (br_f z (nm_r (nI_1 j) (hX post hp)))), fun post hp => br_f h (dq_y_dm _ _ _ (br_f z (nm_r (nI_1 j) (hY post hp))))⟩
theorem dq_l_within (a : Nat → Int32) (v1 : Int32) : ∀ (d j : Nat) (c : Int32), j + d = 192 → ∃ r : Int32, (∀ post : Int32 → Prop, post r → wX_within_4 post v1 a (d + 1) c (nI j)) ∧ (∀ post : Int32 → Prop, post r → wY_within_4 post v1 a (d + 1) c (nI j)) := by
  intro d
  induction d with
  | zero =>
    intro j c hj
    have h : (192 : Int32) ≤ nI j := dq_top (by omega)
    exact ⟨c, fun _ hp => br_t h hp, fun _ hp => br_t h hp⟩
  | succ d ih =>
    intro j c hj
    have hj' : j < 192 := by omega
    have h : ¬ (192 : Int32) ≤ nI j := dq_low hj'
    rcases dq_dm_in a hj' with e | ⟨e, n0, _⟩
    · obtain ⟨r, hX, hY⟩ := ih (j + 1) c (by omega)
      exact ⟨r, fun post hp => br_f h (dq_x_dm _ _ _ (br_t e (nm_r (nI_1 j) (hX post hp)))), fun post hp => br_f h (dq_y_dm _ _ _ (br_t (dq_neg e) (nm_r (nI_1 j) (hY post hp))))⟩
    · by_cases z : v1 < dq_dm a (nI j)
      · obtain ⟨r, hX, hY⟩ := ih (j + 1) c (by omega)
        exact ⟨r, fun post hp => br_f h (dq_x_dm _ _ _ (br_f e (br_t z (nm_r (nI_1 j) (hX post hp))))), fun post hp => br_f h (dq_y_dm _ _ _ (br_f n0 (br_t z (nm_r (nI_1 j) (hY post hp)))))⟩
      · obtain ⟨r, hX, hY⟩ := ih (j + 1) (c + 1) (by omega)
        exact ⟨r, fun post hp => br_f h (dq_x_dm _ _ _ (br_f e (br_f z (nm_e (nm_r (nI_1 j) (hX post hp)))))), fun post hp => br_f h (dq_y_dm _ _ _ (br_f n0 (br_f z (nm_e (nm_r (nI_1 j) (hY post hp))))))⟩
/-- the lower neighbour of place j, whatever follows -/
theorem dq_l_down (a : Nat → Int32) {j : Nat} (hj : j < 192) (c : Int32) : ∃ c' : Int32, (∀ (post : Int32 → Prop) (J : Int32 → Int32 → Prop), J c' (nI (j + 1)) → wX_edges_42 post J c (nI j) (dq_mk a (nI j) 192) a) ∧ (∀ (post : Int32 → Prop) (J : Int32 → Int32 → Prop), J c' (nI (j + 1)) → wY_edges_38 post J c (nI j) a) := by
  by_cases w : 176 ≤ j
  · have gX : (12 : Int32) ≤ nI j / 16 + 1 := by rw [dq_row hj, nI_1, ← dq_12]; exact nI_le (by omega) (by omega)
    have gY : (176 : Int32) ≤ nI j := by rw [← dq_176]; exact nI_le w (by omega)
    exact ⟨c, fun _ J h => ⟨dq_n16, br_t gX (nm_r (nI_1 j) h)⟩, fun _ J h => br_t gY (nm_r (nI_1 j) h)⟩
  · have gX : ¬ (12 : Int32) ≤ nI j / 16 + 1 := by rw [dq_row hj, nI_1, ← dq_12]; exact nI_ge (by omega) (by omega)
    have gY : ¬ (176 : Int32) ≤ nI j := by rw [← dq_176]; exact nI_ge (by omega) (by omega)
    by_cases z : dq_mk a (nI j + 16) 192 = dq_mk a (nI j) 192
    · exact ⟨c, fun _ J h => ⟨dq_n16, br_f gX (dq_x_mk _ _ _ (br_t z (nm_r (nI_1 j) h)))⟩, fun _ J h => br_f gY (dq_y_mk _ _ _ (dq_y_mk _ _ _ (br_t z.symm (nm_r (nI_1 j) h))))⟩
    · have z' : ¬ dq_mk a (nI j) 192 = dq_mk a (nI j + 16) 192 := fun e => z e.symm
      exact ⟨c + 1, fun _ J h => ⟨dq_n16, br_f gX (dq_x_mk _ _ _ (br_f z (nm_e (nm_r (nI_1 j) h))))⟩, fun _ J h => br_f gY (dq_y_mk _ _ _ (dq_y_mk _ _ _ (br_f z' (nm_e (nm_r (nI_1 j) h)))))⟩
theorem dq_l_edges (a : Nat → Int32) : ∀ (d j : Nat) (c : Int32), j + d = 192 → ∃ r : Int32, (∀ post : Int32 → Prop, post r → wX_edges_4 post a (d + 1) c (nI j)) ∧ (∀ post : Int32 → Prop, post r → wY_edges_4 post a (d + 1) c (nI j)) := by
  intro d
  induction d with
  | zero =>
    intro j c hj
    have h : (192 : Int32) ≤ nI j := dq_top (by omega)
    exact ⟨c, fun _ hp => br_t h hp, fun _ hp => br_t h hp⟩
  | succ d ih =>
    intro j c hj
    have hj' : j < 192 := by omega
    have h : ¬ (192 : Int32) ≤ nI j := dq_low hj'
    by_cases w : 15 ≤ j % 16
    · have gX : (16 : Int32) ≤ (nI j - nI j / 16 * 16) + 1 := by rw [dq_col hj', nI_1, ← dq_16]; exact nI_le (by omega) (by omega)
      have gY : (15 : Int32) ≤ (nI j - nI j / 16 * 16) := by rw [dq_col hj', ← dq_15]; exact nI_le (by omega) (by omega)
      obtain ⟨c1, eX, eY⟩ := dq_l_down a hj' c
      obtain ⟨r, hX, hY⟩ := ih (j + 1) c1 (by omega)
      exact ⟨r, fun post hp => br_f h (dq_x_mk _ _ _ ⟨dq_n16, br_t gX (eX _ _ (hX post hp))⟩), fun post hp => br_f h ⟨dq_n16, br_t gY (eY _ _ (hY post hp))⟩⟩
    · have gX : ¬ (16 : Int32) ≤ (nI j - nI j / 16 * 16) + 1 := by rw [dq_col hj', nI_1, ← dq_16]; exact nI_ge (by omega) (by omega)
      have gY : ¬ (15 : Int32) ≤ (nI j - nI j / 16 * 16) := by rw [dq_col hj', ← dq_15]; exact nI_ge (by omega) (by omega)
      by_cases z : dq_mk a (nI j + 1) 192 = dq_mk a (nI j) 192
      · obtain ⟨c1, eX, eY⟩ := dq_l_down a hj' c
        obtain ⟨r, hX, hY⟩ := ih (j + 1) c1 (by omega)
        exact ⟨r, fun post hp => br_f h (dq_x_mk _ _ _ ⟨dq_n16, br_f gX (dq_x_mk _ _ _ (br_t z (eX _ _ (hX post hp))))⟩), fun post hp => br_f h ⟨dq_n16, br_f gY (dq_y_mk _ _ _ (dq_y_mk _ _ _ (br_t z.symm (eY _ _ (hY post hp)))))⟩⟩
      · have z' : ¬ dq_mk a (nI j) 192 = dq_mk a (nI j + 1) 192 := fun e => z e.symm
        obtain ⟨c1, eX, eY⟩ := dq_l_down a hj' (c + 1)
        obtain ⟨r, hX, hY⟩ := ih (j + 1) c1 (by omega)
        exact ⟨r, fun post hp => br_f h (dq_x_mk _ _ _ ⟨dq_n16, br_f gX (dq_x_mk _ _ _ (br_f z (nm_e (eX _ _ (hX post hp)))))⟩), fun post hp => br_f h ⟨dq_n16, br_f gY (dq_y_mk _ _ _ (dq_y_mk _ _ _ (br_f z' (nm_e (eY _ _ (hY post hp))))))⟩⟩
theorem dq_l_total (a : Nat → Int32) : ∀ (d j : Nat) (c : Int32), j + d = 192 → ∃ r : Int32, (∀ post : Int32 → Prop, post r → wX_total_4 post a (d + 1) c (nI j)) ∧ (∀ post : Int32 → Prop, post r → wY_total_4 post a (d + 1) c (nI j)) := by
  intro d
  induction d with
  | zero =>
    intro j c hj
    have h : (192 : Int32) ≤ nI j := dq_top (by omega)
    exact ⟨c, fun _ hp => br_t h hp, fun _ hp => br_t h hp⟩
  | succ d ih =>
    intro j c hj
    have hj' : j < 192 := by omega
    have h : ¬ (192 : Int32) ≤ nI j := dq_low hj'
    rcases dq_dm_in a hj' with e | ⟨e, _, g0⟩
    · exact ⟨-1, fun post hp => br_f h (dq_x_dm _ _ _ (br_t e hp)), fun post hp => br_f h (dq_y_dm _ _ _ (br_f (dq_nge e) hp))⟩
    · obtain ⟨r, hX, hY⟩ := ih (j + 1) (c + dq_dm a (nI j)) (by omega)
      exact ⟨r, fun post hp => br_f h (dq_x_dm _ _ _ (br_f e (nm_e (nm_r (nI_1 j) (hX post hp))))), fun post hp => br_f h (dq_y_dm _ _ _ (br_t g0 (nm_e (nm_r (nI_1 j) (hY post hp)))))⟩
