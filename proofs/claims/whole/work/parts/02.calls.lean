theorem dq_x_sq (post : Int32 → Prop) (p c : Int32) (h : post (dq_sq p c)) : wpX_squaredDistance post p c :=
  ⟨dq_n16, ⟨dq_n16, nm_e ⟨dq_n16, ⟨dq_n16, nm_e h⟩⟩⟩⟩
theorem dq_y_sq (post : Int32 → Prop) (p c : Int32) (h : post (dq_sq p c)) : wpY_apart post p c :=
  ⟨dq_n16, ⟨dq_n16, nm_e ⟨dq_n16, ⟨dq_n16, nm_e h⟩⟩⟩⟩
theorem dq_x_num (post : Int32 → Prop) (p0 p1 : Int32) (h : post ((16 * p1) + p0)) : wpX_numberOf post p0 p1 := h
/-- the component's scan for a mark: it holds the least distance beside the mark -/
theorem dq_x_scan (post : Int32 → Prop) (a : Nat → Int32) (p : Int32) (h : post (dq_mk a p 192)) : ∀ (d j : Nat) (l : Int32), j + d = 192 → (¬ dq_mk a p j = -1 → l = dq_sq p (dq_mk a p j)) → wX_markOf_7 post p a (d + 1) (dq_mk a p j) l (nI j) := by
  intro d
  induction d with
  | zero =>
    intro j l hj hl
    have e : j = 192 := by omega
    subst e
    exact br_t (dq_top rfl) h
  | succ d ih =>
    intro j l hj hl
    have hj' : j < 192 := by omega
    have hc : (nI j).toNatClampNeg = j := nI_clamp (by omega)
    have hin : vp_in (nI j) 192 := vp_in_nI hj' (by omega)
    by_cases z : a j = 0
    · have z' : a (nI j).toNatClampNeg = 0 := by rw [hc]; exact z
      have g := ih (j + 1) l (by omega) (by rw [dq_mk_0 a p j z]; exact hl)
      rw [dq_mk_0 a p j z] at g
      exact br_f (dq_low hj') ⟨hin, br_t z' (nm_r (nI_1 j) g)⟩
    · have z' : ¬ a (nI j).toNatClampNeg = 0 := by rw [hc]; exact z
      by_cases hm : dq_mk a p j = -1
      · have g := ih (j + 1) (dq_sq p (nI j)) (by omega) (fun _ => by rw [dq_mk_n a p j z hm])
        rw [dq_mk_n a p j z hm] at g
        exact br_f (dq_low hj') ⟨hin, br_f z' (dq_x_sq _ _ _ (br_t hm (nm_r (nI_1 j) g)))⟩
      · have el := hl hm
        subst el
        by_cases hk : dq_sq p (dq_mk a p j) ≤ dq_sq p (nI j)
        · have g := ih (j + 1) (dq_sq p (dq_mk a p j)) (by omega) (fun _ => by rw [dq_mk_k a p j z hm hk])
          rw [dq_mk_k a p j z hm hk] at g
          exact br_f (dq_low hj') ⟨hin, br_f z' (dq_x_sq _ _ _ (br_f hm (br_t hk (nm_r (nI_1 j) g))))⟩
        · have g := ih (j + 1) (dq_sq p (nI j)) (by omega) (fun _ => by rw [dq_mk_l a p j z hm hk])
          rw [dq_mk_l a p j z hm hk] at g
          exact br_f (dq_low hj') ⟨hin, br_f z' (dq_x_sq _ _ _ (br_f hm (br_f hk (nm_r (nI_1 j) g))))⟩
theorem dq_x_mk (post : Int32 → Prop) (a : Nat → Int32) (p : Int32) (h : post (dq_mk a p 192)) : wpX_markOf post a p := by
  have g := dq_x_scan post a p h 192 0 0 (by omega) (fun n => absurd rfl n)
  rw [nI_0] at g
  exact ⟨_, g⟩
/-- the reference's scan for a mark: it reckons the distance anew -/
theorem dq_y_scan (post : Int32 → Prop) (a : Nat → Int32) (p : Int32) (h : post (dq_mk a p 192)) : ∀ (d j : Nat), j + d = 192 → wY_markOf_4 post p a (d + 1) (dq_mk a p j) (nI j) := by
  intro d
  induction d with
  | zero =>
    intro j hj
    have e : j = 192 := by omega
    subst e
    exact br_t (dq_top rfl) h
  | succ d ih =>
    intro j hj
    have hj' : j < 192 := by omega
    have hc : (nI j).toNatClampNeg = j := nI_clamp (by omega)
    have hin : vp_in (nI j) 192 := vp_in_nI hj' (by omega)
    have g := ih (j + 1) (by omega)
    by_cases z : a j = 0
    · have z' : a (nI j).toNatClampNeg = 0 := by rw [hc]; exact z
      rw [dq_mk_0 a p j z] at g
      exact br_f (dq_low hj') ⟨hin, br_t z' (nm_r (nI_1 j) g)⟩
    · have z' : ¬ a (nI j).toNatClampNeg = 0 := by rw [hc]; exact z
      by_cases hm : dq_mk a p j = -1
      · rw [dq_mk_n a p j z hm] at g
        exact br_f (dq_low hj') ⟨hin, br_f z' (br_t (dq_neg hm) (nm_r (nI_1 j) g))⟩
      · have hn := (dq_mk_pos (by omega) hm).1
        by_cases hk : dq_sq p (dq_mk a p j) ≤ dq_sq p (nI j)
        · rw [dq_mk_k a p j z hm hk] at g
          exact br_f (dq_low hj') ⟨hin, br_f z' (br_f hn (dq_y_sq _ _ _ (dq_y_sq _ _ _ (br_t hk (nm_r (nI_1 j) g)))))⟩
        · rw [dq_mk_l a p j z hm hk] at g
          exact br_f (dq_low hj') ⟨hin, br_f z' (br_f hn (dq_y_sq _ _ _ (dq_y_sq _ _ _ (br_f hk (nm_r (nI_1 j) g)))))⟩
theorem dq_y_mk (post : Int32 → Prop) (a : Nat → Int32) (p : Int32) (h : post (dq_mk a p 192)) : wpY_markOf post a p := by
  have g := dq_y_scan post a p h 192 0 (by omega)
  rw [nI_0] at g
  exact ⟨_, g⟩
theorem dq_x_dm (post : Int32 → Prop) (a : Nat → Int32) (p : Int32) (h : post (dq_dm a p)) : wpX_distanceToMark post a p := by
  unfold wpX_distanceToMark
  refine dq_x_mk _ a p ?_
  by_cases hm : dq_mk a p 192 = -1
  · rw [dq_dm_n hm] at h
    exact br_t hm h
  · rw [dq_dm_s hm] at h
    exact br_f hm (dq_x_sq _ _ _ h)
theorem dq_y_dm (post : Int32 → Prop) (a : Nat → Int32) (p : Int32) (h : post (dq_dm a p)) : wpY_far post a p := by
  unfold wpY_far
  refine dq_y_mk _ a p ?_
  by_cases hm : dq_mk a p 192 = -1
  · rw [dq_dm_n hm] at h
    exact br_f (dq_nge hm) h
  · rw [dq_dm_s hm] at h
    exact br_t (dq_mk_pos (by omega) hm).2 (dq_y_sq _ _ _ h)
/-- a place is on the board for both sides, or for neither -/
theorem dq_board (v1 v2 : Int32) : (vp_in ((16 * v2) + v1) 192 ∧ (∀ post : Int32 → Prop, post 1 → wpX_isOnBoard post v1 v2) ∧ (∀ post : Int32 → Prop, post 0 → wpY_bad post v1 v2)) ∨ ((∀ post : Int32 → Prop, post 0 → wpX_isOnBoard post v1 v2) ∧ (∀ post : Int32 → Prop, post 1 → wpY_bad post v1 v2)) := by
  by_cases h0 : v1 < 0
  · exact Or.inr ⟨fun _ h => br_t h0 h, fun _ h => br_t h0 h⟩
  · obtain ⟨x, hx, rfl⟩ := nI_of h0
    by_cases h1 : x < 16
    · have gX : ¬ (16 : Int32) ≤ nI x := by rw [← dq_16]; exact nI_ge h1 (by omega)
      have gY : ¬ (15 : Int32) < nI x := by rw [← dq_15]; exact nI_nlt (by omega) (by omega)
      by_cases h2 : v2 < 0
      · exact Or.inr ⟨fun _ h => br_f h0 (br_f gX (br_t h2 h)), fun _ h => br_f h0 (br_f gY (br_t h2 h))⟩
      · obtain ⟨y, hy, rfl⟩ := nI_of h2
        by_cases h3 : y < 12
        · have kX : ¬ (12 : Int32) ≤ nI y := by rw [← dq_12]; exact nI_ge h3 (by omega)
          have kY : nI y ≤ (11 : Int32) := by rw [← dq_11]; exact nI_le (by omega) (by omega)
          refine Or.inl ⟨?_, fun _ h => br_f h0 (br_f gX (br_f h2 (br_f kX h))), fun _ h => br_f h0 (br_f gY (br_f h2 (br_t kY h)))⟩
          rw [dq_num]
          exact vp_in_nI (by omega) (by omega)
        · have kX : (12 : Int32) ≤ nI y := by rw [← dq_12]; exact nI_le (by omega) hy
          have kY : ¬ nI y ≤ (11 : Int32) := by rw [← dq_11]; exact nI_ge (by omega) hy
          exact Or.inr ⟨fun _ h => br_f h0 (br_f gX (br_f h2 (br_t kX h))), fun _ h => br_f h0 (br_f gY (br_f h2 (br_f kY h)))⟩
    · have gX : (16 : Int32) ≤ nI x := by rw [← dq_16]; exact nI_le (by omega) hx
      have gY : (15 : Int32) < nI x := by rw [← dq_15]; exact nI_lt (by omega) hx
      exact Or.inr ⟨fun _ h => br_f h0 (br_t gX h), fun _ h => br_f h0 (br_t gY h)⟩
theorem dq_x_set (post : Int32 → SX → Prop) (a : Nat → Int32) (v1 v2 w : Int32) (hb : ∀ q : Int32 → Prop, q 1 → wpX_isOnBoard q v1 v2) (hin : vp_in ((16 * v2) + v1) 192) (h1 : a ((16 * v2) + v1).toNatClampNeg = w → post 0 a) (h2 : ¬ a ((16 * v2) + v1).toNatClampNeg = w → post 1 (upd a ((16 * v2) + v1).toNatClampNeg (vp_nar .boolean w))) : wpX_setMarked post a v1 v2 w := by
  unfold wpX_setMarked
  exact hb _ (br_f (by decide) (dq_x_num _ _ _ ⟨hin, br_c h1 (fun z => ⟨hin, nm_e (h2 z)⟩)⟩))
theorem dq_y_mark (post : Int32 → SY → Prop) (a : Nat → Int32) (v1 v2 : Int32) (hb : ∀ q : Int32 → Prop, q 0 → wpY_bad q v1 v2) (hin : vp_in ((16 * v2) + v1) 192) (h1 : a ((16 * v2) + v1).toNatClampNeg = 0 → post 1 (upd a ((16 * v2) + v1).toNatClampNeg (vp_nar .boolean 1))) (h2 : ¬ a ((16 * v2) + v1).toNatClampNeg = 0 → post 0 (upd a ((16 * v2) + v1).toNatClampNeg (vp_nar .boolean 1))) : wpY_mark post a v1 v2 := by
  unfold wpY_mark
  exact hb _ (br_t rfl ⟨hin, nm_e ⟨hin, nm_e (br_c h1 h2)⟩⟩)
theorem dq_y_clear (post : Int32 → SY → Prop) (a : Nat → Int32) (v1 v2 : Int32) (hb : ∀ q : Int32 → Prop, q 0 → wpY_bad q v1 v2) (hin : vp_in ((16 * v2) + v1) 192) (h1 : a ((16 * v2) + v1).toNatClampNeg = 0 → post 0 (upd a ((16 * v2) + v1).toNatClampNeg (vp_nar .boolean 0))) (h2 : ¬ a ((16 * v2) + v1).toNatClampNeg = 0 → post 1 (upd a ((16 * v2) + v1).toNatClampNeg (vp_nar .boolean 0))) : wpY_clear post a v1 v2 := by
  unfold wpY_clear
  exact hb _ (br_t rfl ⟨hin, nm_e ⟨hin, nm_e (br_c h1 h2)⟩⟩)
