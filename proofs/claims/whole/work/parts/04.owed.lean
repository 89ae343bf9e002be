/-- both sides hold the same row of marks, each 0 or 1 -/
def i_Rel (k : Nat) (u : SX) (v : SY) : Prop := u = v ∧ ∀ j, u j = 0 ∨ u j = 1
theorem i_up {k : Nat} {u : SX} {v : SY} (h : i_Rel k u v) : i_Rel (k + 3) u v := h
theorem i_vc0 : wpX_init (fun u => wpY_init (fun v => i_Rel 0 u v)) := ⟨rfl, fun _ => Or.inl rfl⟩
theorem i_vc_mark {k : Nat} {u : SX} {v : SY} (I : i_Rel k u v) (hk : k + 3 ≤ 1536) (v1 : Int32) (v2 : Int32) : wpX_mark (fun r u' => wpY_mark (fun r' v' => r' = r ∧ i_Rel (k + 3) u' v') v v1 v2) u v1 v2 := by
  obtain ⟨e, h01⟩ := I
  subst e
  rcases dq_board v1 v2 with ⟨hin, hX, hY⟩ | ⟨hX, hY⟩
  · unfold wpX_mark
    refine dq_x_set _ u v1 v2 1 hX hin ?_ ?_
    · intro z
      refine dq_y_mark _ u v1 v2 hY hin (fun z0 => absurd (z0.symm.trans z) (by decide)) (fun _ => ⟨rfl, ?_⟩)
      rw [dq_nb1, dq_same z]
      exact ⟨rfl, h01⟩
    · intro z
      refine dq_y_mark _ u v1 v2 hY hin (fun _ => ⟨rfl, rfl, dq_01 h01 (Or.inr dq_nb1)⟩) (fun z0 => absurd ((h01 _).resolve_right z) z0)
  · unfold wpX_mark wpX_setMarked
    refine hX _ (br_t rfl ?_)
    show wpY_mark _ u v1 v2
    unfold wpY_mark
    exact hY _ (br_f (by decide) ⟨rfl, rfl, h01⟩)
theorem i_vc_clear {k : Nat} {u : SX} {v : SY} (I : i_Rel k u v) (hk : k + 3 ≤ 1536) (v1 : Int32) (v2 : Int32) : wpX_clear (fun r u' => wpY_clear (fun r' v' => r' = r ∧ i_Rel (k + 3) u' v') v v1 v2) u v1 v2 := by
  obtain ⟨e, h01⟩ := I
  subst e
  rcases dq_board v1 v2 with ⟨hin, hX, hY⟩ | ⟨hX, hY⟩
  · unfold wpX_clear
    refine dq_x_set _ u v1 v2 0 hX hin ?_ ?_
    · intro z
      refine dq_y_clear _ u v1 v2 hY hin (fun _ => ⟨rfl, ?_⟩) (fun z0 => absurd z z0)
      rw [dq_nb0, dq_same z]
      exact ⟨rfl, h01⟩
    · intro z
      exact dq_y_clear _ u v1 v2 hY hin (fun z0 => absurd z0 z) (fun _ => ⟨rfl, rfl, dq_01 h01 (Or.inl dq_nb0)⟩)
  · unfold wpX_clear wpX_setMarked
    refine hX _ (br_t rfl ?_)
    show wpY_clear _ u v1 v2
    unfold wpY_clear
    exact hY _ (br_f (by decide) ⟨rfl, rfl, h01⟩)
theorem i_vc_distance {k : Nat} {u : SX} {v : SY} (I : i_Rel k u v) (hk : k + 3 ≤ 1536) (v1 : Int32) (v2 : Int32) : wpX_distance (fun r => wpY_distance (fun r' => r' = r ∧ i_Rel (k + 3) u v) v v1 v2) u v1 v2 := by
  obtain ⟨e, h01⟩ := I
  subst e
  rcases dq_board v1 v2 with ⟨hin, hX, hY⟩ | ⟨hX, hY⟩
  · unfold wpX_distance
    refine hX _ (br_f (by decide) (dq_x_num _ _ _ (dq_x_dm _ _ _ ?_)))
    show wpY_distance _ u v1 v2
    unfold wpY_distance
    exact hY _ (br_t rfl (dq_y_dm _ _ _ ⟨rfl, rfl, h01⟩))
  · unfold wpX_distance
    refine hX _ (br_t rfl ?_)
    show wpY_distance _ u v1 v2
    unfold wpY_distance
    exact hY _ (br_f (by decide) ⟨rfl, rfl, h01⟩)
theorem i_vc_nearest {k : Nat} {u : SX} {v : SY} (I : i_Rel k u v) (hk : k + 3 ≤ 1536) (v1 : Int32) (v2 : Int32) : wpX_nearest (fun r => wpY_nearest (fun r' => r' = r ∧ i_Rel (k + 3) u v) v v1 v2) u v1 v2 := by
  obtain ⟨e, h01⟩ := I
  subst e
  rcases dq_board v1 v2 with ⟨hin, hX, hY⟩ | ⟨hX, hY⟩
  · unfold wpX_nearest
    refine hX _ (br_f (by decide) (dq_x_num _ _ _ (dq_x_mk _ _ _ ?_)))
    show wpY_nearest _ u v1 v2
    unfold wpY_nearest
    exact hY _ (br_t rfl (dq_y_mk _ _ _ ⟨rfl, rfl, h01⟩))
  · unfold wpX_nearest
    refine hX _ (br_t rfl ?_)
    show wpY_nearest _ u v1 v2
    unfold wpY_nearest
    exact hY _ (br_f (by decide) ⟨rfl, rfl, h01⟩)
theorem i_vc_reach {k : Nat} {u : SX} {v : SY} (I : i_Rel k u v) (hk : k + 3 ≤ 1536) (v1 : Int32) (v2 : Int32) : wpX_reach (fun r => wpY_reach (fun r' => r' = r ∧ i_Rel (k + 3) u v) v v1 v2) u v1 v2 := by
  obtain ⟨e, h01⟩ := I
  subst e
  rcases dq_board v1 v2 with ⟨hin, hX, hY⟩ | ⟨hX, hY⟩
  · obtain ⟨r, gX, gY⟩ := dq_l_reach u v1 v2 192 0 0 (by omega)
    rw [nI_0] at gX gY
    unfold wpX_reach
    refine hX _ (br_f (by decide) (dq_x_num _ _ _ ⟨_, gX _ ?_⟩))
    show wpY_reach _ u v1 v2
    unfold wpY_reach
    exact hY _ (br_t rfl ⟨_, gY _ ⟨rfl, rfl, h01⟩⟩)
  · unfold wpX_reach
    refine hX _ (br_t rfl ?_)
    show wpY_reach _ u v1 v2
    unfold wpY_reach
    exact hY _ (br_f (by decide) ⟨rfl, rfl, h01⟩)
theorem i_vc_farthest {k : Nat} {u : SX} {v : SY} (I : i_Rel k u v) (hk : k + 3 ≤ 1536) : wpX_farthest (fun r => wpY_farthest (fun r' => r' = r ∧ i_Rel (k + 3) u v) v) u := by
  obtain ⟨e, h01⟩ := I
  subst e
  obtain ⟨r, gX, gY⟩ := dq_l_farthest u 192 0 (-1) (by omega)
  rw [nI_0] at gX gY
  exact ⟨_, gX _ ⟨_, gY _ ⟨rfl, rfl, h01⟩⟩⟩
theorem i_vc_within {k : Nat} {u : SX} {v : SY} (I : i_Rel k u v) (hk : k + 3 ≤ 1536) (v1 : Int32) : wpX_within (fun r => wpY_within (fun r' => r' = r ∧ i_Rel (k + 3) u v) v v1) u v1 := by
  obtain ⟨e, h01⟩ := I
  subst e
  obtain ⟨r, gX, gY⟩ := dq_l_within u v1 192 0 0 (by omega)
  rw [nI_0] at gX gY
  exact ⟨_, gX _ ⟨_, gY _ ⟨rfl, rfl, h01⟩⟩⟩
theorem i_vc_edges {k : Nat} {u : SX} {v : SY} (I : i_Rel k u v) (hk : k + 3 ≤ 1536) : wpX_edges (fun r => wpY_edges (fun r' => r' = r ∧ i_Rel (k + 3) u v) v) u := by
  obtain ⟨e, h01⟩ := I
  subst e
  obtain ⟨r, gX, gY⟩ := dq_l_edges u 192 0 0 (by omega)
  rw [nI_0] at gX gY
  exact ⟨_, gX _ ⟨_, gY _ ⟨rfl, rfl, h01⟩⟩⟩
theorem i_vc_total {k : Nat} {u : SX} {v : SY} (I : i_Rel k u v) (hk : k + 3 ≤ 1536) : wpX_total (fun r => wpY_total (fun r' => r' = r ∧ i_Rel (k + 3) u v) v) u := by
  obtain ⟨e, h01⟩ := I
  subst e
  obtain ⟨r, gX, gY⟩ := dq_l_total u 192 0 0 (by omega)
  rw [nI_0] at gX gY
  exact ⟨_, gX _ ⟨_, gY _ ⟨rfl, rfl, h01⟩⟩⟩
