/-- one tree, one row of values, two ways to keep the top's parent -/
def i_Rel (_ : Nat) (u : SX) (v : SY) : Prop :=
  ∃ (P D : Nat → Nat) (c : Nat) (vs : Nat → Int32), tw_T P D c ∧ (∀ j, c ≤ j → vs j = 0) ∧ u = (nI c, tw_X P, vs) ∧ v = (nI c, tw_Y P, vs)
theorem i_up {k : Nat} {u : SX} {v : SY} (h : i_Rel k u v) : i_Rel (k + 4) u v := h
theorem i_vc0 : wpX_init (fun u => wpY_init (fun v => i_Rel 0 u v)) := by
  have e1 : (fun _ => 0 : Nat → Int32) = tw_X (fun _ => 0) := by
    funext j
    exact nI_0.symm
  have e2 : upd (fun _ => 0) 0 (-1) = tw_Y (fun _ => 0) := by
    funext j
    show (if j = 0 then (-1 : Int32) else 0) = (if j = 0 then -1 else nI 0)
    rw [nI_0]
  have e3 : (1 : Int32) = nI 1 := by decide
  unfold wpX_init wpY_init
  refine nm_r e2 ⟨fun _ => 0, fun _ => 0, 1, fun _ => 0, tw_T_new, fun _ _ => rfl, ?_, ?_⟩
  · rw [← e1, ← e3]
  · rw [← e3]
theorem i_vc_nodes {k : Nat} {u : SX} {v : SY} (I : i_Rel k u v) (hk : k + 4 ≤ 2048) : wpX_nodes (fun r => wpY_nodes (fun r' => r' = r ∧ i_Rel (k + 4) u v) v) u := by
  obtain ⟨P, D, c, vs, T, Z, rfl, rfl⟩ := I
  have h24 := T.2.1
  have R : i_Rel (k + 4) (nI c, tw_X P, vs) (nI c, tw_Y P, vs) := ⟨P, D, c, vs, T, Z, rfl, rfl⟩
  exact ⟨rfl, R⟩
theorem i_vc_widest {k : Nat} {u : SX} {v : SY} (I : i_Rel k u v) (hk : k + 4 ≤ 2048) : wpX_widest (fun r => wpY_widest (fun r' => r' = r ∧ i_Rel (k + 4) u v) v) u := by
  obtain ⟨P, D, c, vs, T, Z, rfl, rfl⟩ := I
  have h24 := T.2.1
  have R : i_Rel (k + 4) (nI c, tw_X P, vs) (nI c, tw_Y P, vs) := ⟨P, D, c, vs, T, Z, rfl, rfl⟩
  exact tx_widest T (ty_widest T ⟨rfl, R⟩)
theorem i_vc_heart {k : Nat} {u : SX} {v : SY} (I : i_Rel k u v) (hk : k + 4 ≤ 2048) : wpX_heart (fun r => wpY_heart (fun r' => r' = r ∧ i_Rel (k + 4) u v) v) u := by
  obtain ⟨P, D, c, vs, T, Z, rfl, rfl⟩ := I
  have h24 := T.2.1
  have R : i_Rel (k + 4) (nI c, tw_X P, vs) (nI c, tw_Y P, vs) := ⟨P, D, c, vs, T, Z, rfl, rfl⟩
  exact tx_heart T (ty_heart T ⟨rfl, R⟩)
theorem i_vc_partSize {k : Nat} {u : SX} {v : SY} (I : i_Rel k u v) (hk : k + 4 ≤ 2048) (v1 : Int32) : wpX_partSize (fun r => wpY_partSize (fun r' => r' = r ∧ i_Rel (k + 4) u v) v v1) u v1 := by
  obtain ⟨P, D, c, vs, T, Z, rfl, rfl⟩ := I
  have h24 := T.2.1
  have R : i_Rel (k + 4) (nI c, tw_X P, vs) (nI c, tw_Y P, vs) := ⟨P, D, c, vs, T, Z, rfl, rfl⟩
  rcases tw_nd h24 v1 with h1 | ⟨a, ha, rfl⟩
  · unfold wpX_partSize wpY_partSize
    dsimp only
    exact tx_isNode_n h1 (br_t rfl (ty_isNode_n h1 (br_t rfl ⟨rfl, R⟩)))
  · exact tx_partSize T ha (ty_partSize T ha ⟨rfl, R⟩)
theorem i_vc_partSum {k : Nat} {u : SX} {v : SY} (I : i_Rel k u v) (hk : k + 4 ≤ 2048) (v1 : Int32) : wpX_partSum (fun r => wpY_partSum (fun r' => r' = r ∧ i_Rel (k + 4) u v) v v1) u v1 := by
  obtain ⟨P, D, c, vs, T, Z, rfl, rfl⟩ := I
  have h24 := T.2.1
  have R : i_Rel (k + 4) (nI c, tw_X P, vs) (nI c, tw_Y P, vs) := ⟨P, D, c, vs, T, Z, rfl, rfl⟩
  rcases tw_nd h24 v1 with h1 | ⟨a, ha, rfl⟩
  · unfold wpX_partSum wpY_partSum
    dsimp only
    exact tx_isNode_n h1 (br_t rfl (ty_isNode_n h1 (br_t rfl ⟨rfl, R⟩)))
  · exact tx_partSum T ha (ty_partSum T ha ⟨rfl, R⟩)
theorem i_vc_partMost {k : Nat} {u : SX} {v : SY} (I : i_Rel k u v) (hk : k + 4 ≤ 2048) (v1 : Int32) : wpX_partMost (fun r => wpY_partMost (fun r' => r' = r ∧ i_Rel (k + 4) u v) v v1) u v1 := by
  obtain ⟨P, D, c, vs, T, Z, rfl, rfl⟩ := I
  have h24 := T.2.1
  have R : i_Rel (k + 4) (nI c, tw_X P, vs) (nI c, tw_Y P, vs) := ⟨P, D, c, vs, T, Z, rfl, rfl⟩
  rcases tw_nd h24 v1 with h1 | ⟨a, ha, rfl⟩
  · unfold wpX_partMost wpY_partMost
    dsimp only
    exact tx_isNode_n h1 (br_t rfl (ty_isNode_n h1 (br_t rfl ⟨rfl, R⟩)))
  · exact tx_partMost T ha (ty_partMost T ha ⟨rfl, R⟩)
theorem i_vc_within {k : Nat} {u : SX} {v : SY} (I : i_Rel k u v) (hk : k + 4 ≤ 2048) (v1 : Int32) (v2 : Int32) : wpX_within (fun r => wpY_within (fun r' => r' = r ∧ i_Rel (k + 4) u v) v v1 v2) u v1 v2 := by
  obtain ⟨P, D, c, vs, T, Z, rfl, rfl⟩ := I
  have h24 := T.2.1
  have R : i_Rel (k + 4) (nI c, tw_X P, vs) (nI c, tw_Y P, vs) := ⟨P, D, c, vs, T, Z, rfl, rfl⟩
  rcases tw_nd h24 v1 with h1 | ⟨a, ha, rfl⟩
  · unfold wpX_within wpY_within
    dsimp only
    exact tx_isNode_n h1 (br_t rfl (ty_isNode_n h1 (br_t rfl ⟨rfl, R⟩)))
  · exact tx_within T ha (ty_within T ha ⟨rfl, R⟩)
theorem i_vc_depth {k : Nat} {u : SX} {v : SY} (I : i_Rel k u v) (hk : k + 4 ≤ 2048) (v1 : Int32) : wpX_depth (fun r => wpY_depth (fun r' => r' = r ∧ i_Rel (k + 4) u v) v v1) u v1 := by
  obtain ⟨P, D, c, vs, T, Z, rfl, rfl⟩ := I
  have h24 := T.2.1
  have R : i_Rel (k + 4) (nI c, tw_X P, vs) (nI c, tw_Y P, vs) := ⟨P, D, c, vs, T, Z, rfl, rfl⟩
  rcases tw_nd h24 v1 with h1 | ⟨a, ha, rfl⟩
  · unfold wpX_depth wpY_depth
    dsimp only
    exact tx_isNode_n h1 (br_t rfl (ty_isNode_n h1 (br_t rfl ⟨rfl, R⟩)))
  · unfold wpX_depth wpY_depth
    dsimp only
    exact tx_isNode_y h24 ha (br_f tw_10 (tx_depth T ha (ty_isNode_y h24 ha (br_f tw_10 (ty_steps T ha ⟨rfl, R⟩)))))
theorem i_vc_farSum {k : Nat} {u : SX} {v : SY} (I : i_Rel k u v) (hk : k + 4 ≤ 2048) (v1 : Int32) : wpX_farSum (fun r => wpY_farSum (fun r' => r' = r ∧ i_Rel (k + 4) u v) v v1) u v1 := by
  obtain ⟨P, D, c, vs, T, Z, rfl, rfl⟩ := I
  have h24 := T.2.1
  have R : i_Rel (k + 4) (nI c, tw_X P, vs) (nI c, tw_Y P, vs) := ⟨P, D, c, vs, T, Z, rfl, rfl⟩
  rcases tw_nd h24 v1 with h1 | ⟨a, ha, rfl⟩
  · unfold wpX_farSum wpY_farSum
    dsimp only
    exact tx_isNode_n h1 (br_t rfl (ty_isNode_n h1 (br_t rfl ⟨rfl, R⟩)))
  · unfold wpX_farSum wpY_farSum
    dsimp only
    exact tx_isNode_y h24 ha (br_f tw_10 (tx_sum T ha (ty_isNode_y h24 ha (br_f tw_10 (ty_sum T ha ⟨rfl, R⟩)))))
theorem i_vc_value {k : Nat} {u : SX} {v : SY} (I : i_Rel k u v) (hk : k + 4 ≤ 2048) (v1 : Int32) : wpX_value (fun r => wpY_value (fun r' => r' = r ∧ i_Rel (k + 4) u v) v v1) u v1 := by
  obtain ⟨P, D, c, vs, T, Z, rfl, rfl⟩ := I
  have h24 := T.2.1
  have R : i_Rel (k + 4) (nI c, tw_X P, vs) (nI c, tw_Y P, vs) := ⟨P, D, c, vs, T, Z, rfl, rfl⟩
  rcases tw_nd h24 v1 with h1 | ⟨a, ha, rfl⟩
  · unfold wpX_value wpY_value
    dsimp only
    exact tx_isNode_n h1 (br_t rfl (ty_isNode_n h1 (br_t rfl ⟨rfl, R⟩)))
  · have vp := vp_in_nI (N := 24) (tw_c24 T ha) (by omega)
    unfold wpX_value wpY_value
    dsimp only
    exact tx_isNode_y h24 ha (br_f tw_10 ⟨vp, ty_isNode_y h24 ha (br_f tw_10 ⟨vp, rfl, R⟩)⟩)
theorem i_vc_parent {k : Nat} {u : SX} {v : SY} (I : i_Rel k u v) (hk : k + 4 ≤ 2048) (v1 : Int32) : wpX_parent (fun r => wpY_parent (fun r' => r' = r ∧ i_Rel (k + 4) u v) v v1) u v1 := by
  obtain ⟨P, D, c, vs, T, Z, rfl, rfl⟩ := I
  have h24 := T.2.1
  have R : i_Rel (k + 4) (nI c, tw_X P, vs) (nI c, tw_Y P, vs) := ⟨P, D, c, vs, T, Z, rfl, rfl⟩
  rcases tw_nd h24 v1 with h1 | ⟨a, ha, rfl⟩
  · unfold wpX_parent wpY_parent
    dsimp only
    exact tx_isNode_n h1 (br_t rfl (ty_isNode_n h1 (br_t rfl ⟨rfl, R⟩)))
  · have a24 := tw_c24 T ha
    have vp := vp_in_nI (N := 24) a24 (by omega)
    unfold wpX_parent wpY_parent
    dsimp only
    by_cases h0 : a = 0
    · have e : nI a = 0 := by rw [h0]; exact nI_0
      exact tx_isNode_y h24 ha (br_f tw_10 (br_t e (ty_isNode_y h24 ha (br_f tw_10 (br_t e ⟨rfl, R⟩)))))
    · have e : ¬ nI a = 0 := nI_ne0 (by omega) (by omega)
      exact tx_isNode_y h24 ha (br_f tw_10 (br_f e ⟨vp, ty_isNode_y h24 ha (br_f tw_10 (br_f e ⟨vp, (tw_Y_at P a24 h0).trans (tw_X_at P a24).symm, R⟩))⟩))
theorem i_vc_waySum {k : Nat} {u : SX} {v : SY} (I : i_Rel k u v) (hk : k + 4 ≤ 2048) (v1 : Int32) (v2 : Int32) : wpX_waySum (fun r => wpY_waySum (fun r' => r' = r ∧ i_Rel (k + 4) u v) v v1 v2) u v1 v2 := by
  obtain ⟨P, D, c, vs, T, Z, rfl, rfl⟩ := I
  have h24 := T.2.1
  have R : i_Rel (k + 4) (nI c, tw_X P, vs) (nI c, tw_Y P, vs) := ⟨P, D, c, vs, T, Z, rfl, rfl⟩
  rcases tw_nd h24 v1 with h1 | ⟨a, ha, rfl⟩
  · unfold wpX_waySum wpY_waySum
    dsimp only
    exact tx_isNode_n h1 (br_t rfl (ty_are_n h24 (Or.inl h1) (br_t rfl ⟨rfl, R⟩)))
  · rcases tw_nd h24 v2 with h2 | ⟨b, hb, rfl⟩
    · unfold wpX_waySum wpY_waySum
      dsimp only
      exact tx_isNode_y h24 ha (br_f tw_10 (tx_isNode_n h2 (br_t rfl (ty_are_n h24 (Or.inr h2) (br_t rfl ⟨rfl, R⟩)))))
    · exact tx_waySum T ha hb (ty_waySum T ha hb ⟨rfl, R⟩)
theorem i_vc_wayMost {k : Nat} {u : SX} {v : SY} (I : i_Rel k u v) (hk : k + 4 ≤ 2048) (v1 : Int32) (v2 : Int32) : wpX_wayMost (fun r => wpY_wayMost (fun r' => r' = r ∧ i_Rel (k + 4) u v) v v1 v2) u v1 v2 := by
  obtain ⟨P, D, c, vs, T, Z, rfl, rfl⟩ := I
  have h24 := T.2.1
  have R : i_Rel (k + 4) (nI c, tw_X P, vs) (nI c, tw_Y P, vs) := ⟨P, D, c, vs, T, Z, rfl, rfl⟩
  rcases tw_nd h24 v1 with h1 | ⟨a, ha, rfl⟩
  · unfold wpX_wayMost wpY_wayMost
    dsimp only
    exact tx_isNode_n h1 (br_t rfl (ty_are_n h24 (Or.inl h1) (br_t rfl ⟨rfl, R⟩)))
  · rcases tw_nd h24 v2 with h2 | ⟨b, hb, rfl⟩
    · unfold wpX_wayMost wpY_wayMost
      dsimp only
      exact tx_isNode_y h24 ha (br_f tw_10 (tx_isNode_n h2 (br_t rfl (ty_are_n h24 (Or.inr h2) (br_t rfl ⟨rfl, R⟩)))))
    · exact tx_wayMost T ha hb (ty_wayMost T ha hb ⟨rfl, R⟩)
theorem i_vc_fork {k : Nat} {u : SX} {v : SY} (I : i_Rel k u v) (hk : k + 4 ≤ 2048) (v1 : Int32) (v2 : Int32) : wpX_fork (fun r => wpY_fork (fun r' => r' = r ∧ i_Rel (k + 4) u v) v v1 v2) u v1 v2 := by
  obtain ⟨P, D, c, vs, T, Z, rfl, rfl⟩ := I
  have h24 := T.2.1
  have R : i_Rel (k + 4) (nI c, tw_X P, vs) (nI c, tw_Y P, vs) := ⟨P, D, c, vs, T, Z, rfl, rfl⟩
  rcases tw_nd h24 v1 with h1 | ⟨a, ha, rfl⟩
  · unfold wpX_fork wpY_fork
    dsimp only
    exact tx_isNode_n h1 (br_t rfl (ty_are_n h24 (Or.inl h1) (br_t rfl ⟨rfl, R⟩)))
  · rcases tw_nd h24 v2 with h2 | ⟨b, hb, rfl⟩
    · unfold wpX_fork wpY_fork
      dsimp only
      exact tx_isNode_y h24 ha (br_f tw_10 (tx_isNode_n h2 (br_t rfl (ty_are_n h24 (Or.inr h2) (br_t rfl ⟨rfl, R⟩)))))
    · unfold wpX_fork wpY_fork
      dsimp only
      exact tx_isNode_y h24 ha (br_f tw_10 (tx_isNode_y h24 hb (br_f tw_10 (tx_fork T ha hb (ty_are_y h24 ha hb (br_f tw_10 (ty_join T ha hb ⟨rfl, R⟩)))))))
theorem i_vc_distance {k : Nat} {u : SX} {v : SY} (I : i_Rel k u v) (hk : k + 4 ≤ 2048) (v1 : Int32) (v2 : Int32) : wpX_distance (fun r => wpY_distance (fun r' => r' = r ∧ i_Rel (k + 4) u v) v v1 v2) u v1 v2 := by
  obtain ⟨P, D, c, vs, T, Z, rfl, rfl⟩ := I
  have h24 := T.2.1
  have R : i_Rel (k + 4) (nI c, tw_X P, vs) (nI c, tw_Y P, vs) := ⟨P, D, c, vs, T, Z, rfl, rfl⟩
  rcases tw_nd h24 v1 with h1 | ⟨a, ha, rfl⟩
  · unfold wpX_distance wpY_distance
    dsimp only
    exact tx_isNode_n h1 (br_t rfl (ty_are_n h24 (Or.inl h1) (br_t rfl ⟨rfl, R⟩)))
  · rcases tw_nd h24 v2 with h2 | ⟨b, hb, rfl⟩
    · unfold wpX_distance wpY_distance
      dsimp only
      exact tx_isNode_y h24 ha (br_f tw_10 (tx_isNode_n h2 (br_t rfl (ty_are_n h24 (Or.inr h2) (br_t rfl ⟨rfl, R⟩)))))
    · unfold wpX_distance wpY_distance
      dsimp only
      exact tx_isNode_y h24 ha (br_f tw_10 (tx_isNode_y h24 hb (br_f tw_10 (tx_far T ha hb (ty_are_y h24 ha hb (br_f tw_10 (ty_far T ha hb ⟨rfl, R⟩)))))))
theorem i_vc_wayNode {k : Nat} {u : SX} {v : SY} (I : i_Rel k u v) (hk : k + 4 ≤ 2048) (v1 : Int32) (v2 : Int32) (v3 : Int32) : wpX_wayNode (fun r => wpY_wayNode (fun r' => r' = r ∧ i_Rel (k + 4) u v) v v1 v2 v3) u v1 v2 v3 := by
  obtain ⟨P, D, c, vs, T, Z, rfl, rfl⟩ := I
  have h24 := T.2.1
  have R : i_Rel (k + 4) (nI c, tw_X P, vs) (nI c, tw_Y P, vs) := ⟨P, D, c, vs, T, Z, rfl, rfl⟩
  rcases tw_nd h24 v1 with h1 | ⟨a, ha, rfl⟩
  · unfold wpX_wayNode wpY_wayNode
    dsimp only
    exact tx_isNode_n h1 (br_t rfl (ty_are_n h24 (Or.inl h1) (br_t rfl ⟨rfl, R⟩)))
  · rcases tw_nd h24 v2 with h2 | ⟨b, hb, rfl⟩
    · unfold wpX_wayNode wpY_wayNode
      dsimp only
      exact tx_isNode_y h24 ha (br_f tw_10 (tx_isNode_n h2 (br_t rfl (ty_are_n h24 (Or.inr h2) (br_t rfl ⟨rfl, R⟩)))))
    · have l := tw_far_lt T ha hb
      by_cases z : v3 < 0
      · exact tx_wayNode_n T ha hb (Or.inl z) (ty_wayNode_n T ha hb (Or.inl z) ⟨rfl, R⟩)
      · by_cases y : v3 ≤ nI (tw_far P D a b)
        · obtain ⟨j, hj, rfl⟩ := nI_of z
          have q : j ≤ tw_far P D a b := (nI_leI hj (by omega)).mp y
          exact tx_wayNode_y T ha hb q (ty_wayNode_y T ha hb q ⟨rfl, R⟩)
        · exact tx_wayNode_n T ha hb (Or.inr y) (ty_wayNode_n T ha hb (Or.inr y) ⟨rfl, R⟩)
theorem i_vc_middle {k : Nat} {u : SX} {v : SY} (I : i_Rel k u v) (hk : k + 4 ≤ 2048) (v1 : Int32) (v2 : Int32) (v3 : Int32) : wpX_middle (fun r => wpY_middle (fun r' => r' = r ∧ i_Rel (k + 4) u v) v v1 v2 v3) u v1 v2 v3 := by
  obtain ⟨P, D, c, vs, T, Z, rfl, rfl⟩ := I
  have h24 := T.2.1
  have R : i_Rel (k + 4) (nI c, tw_X P, vs) (nI c, tw_Y P, vs) := ⟨P, D, c, vs, T, Z, rfl, rfl⟩
  rcases tw_nd h24 v1 with h1 | ⟨a, ha, rfl⟩
  · unfold wpX_middle wpY_middle
    dsimp only
    exact tx_isNode_n h1 (br_t rfl (ty_are_n h24 (Or.inl h1) (br_t rfl ⟨rfl, R⟩)))
  · rcases tw_nd h24 v2 with h2 | ⟨b, hb, rfl⟩
    · unfold wpX_middle wpY_middle
      dsimp only
      exact tx_isNode_y h24 ha (br_f tw_10 (tx_isNode_n h2 (br_t rfl (ty_are_n h24 (Or.inr h2) (br_t rfl ⟨rfl, R⟩)))))
    · rcases tw_nd h24 v3 with h3 | ⟨d, hd, rfl⟩
      · unfold wpX_middle wpY_middle
        dsimp only
        exact tx_isNode_y h24 ha (br_f tw_10 (tx_isNode_y h24 hb (br_f tw_10 (tx_isNode_n h3 (br_t rfl (ty_are_y h24 ha hb (br_f tw_10 (ty_isNode_n h3 (br_t rfl ⟨rfl, R⟩)))))))))
      · exact tx_middle T ha hb hd (ty_middle T ha hb hd ⟨rfl, R⟩)
theorem i_vc_grow {k : Nat} {u : SX} {v : SY} (I : i_Rel k u v) (hk : k + 4 ≤ 2048) (v1 : Int32) : wpX_grow (fun r u' => wpY_grow (fun r' v' => r' = r ∧ i_Rel (k + 4) u' v') v v1) u v1 := by
  obtain ⟨P, D, c, vs, T, Z, rfl, rfl⟩ := I
  have h24 := T.2.1
  have R : i_Rel (k + 4) (nI c, tw_X P, vs) (nI c, tw_Y P, vs) := ⟨P, D, c, vs, T, Z, rfl, rfl⟩
  rcases tw_nd h24 v1 with h1 | ⟨a, ha, rfl⟩
  · unfold wpX_grow wpY_grow
    dsimp only
    exact tx_isNode_n h1 (br_t rfl (ty_isNode_n h1 (br_t rfl ⟨rfl, R⟩)))
  · unfold wpX_grow wpY_grow
    dsimp only
    by_cases h : c < 24
    · have vp := vp_in_nI (N := 24) h (by omega)
      have c0 := T.1
      have e1 : upd (tw_X P) (nI c).toNatClampNeg (nI a) = tw_X (tw_up P c a) := by
        rw [nI_clamp (by omega)]
        exact tw_X_up P c a
      have e2 : upd (tw_Y P) (nI c).toNatClampNeg (nI a) = tw_Y (tw_up P c a) := by
        rw [nI_clamp (by omega)]
        exact tw_Y_up P a (by omega)
      have e3 : upd vs (nI c).toNatClampNeg 0 = vs := by
        rw [nI_clamp (by omega)]
        exact tw_u0 (Z c (Nat.le_refl c))
      have e4 : ¬ nI c = 24 := by
        intro e
        have q := (nI_eq (a := c) (b := 24) (by omega) (by omega)).mp e
        omega
      refine tx_isNode_y h24 ha (br_f tw_10 (br_t (nI_lt (b := 24) h (by decide)) ⟨vp, nm_r e1 (nm_r (nI_1 c) ?_)⟩))
      refine ty_isNode_y h24 ha (br_f tw_10 (br_f e4 ⟨vp, nm_r e2 ⟨vp, nm_r e3 (nm_r (nI_1 c) ?_)⟩⟩))
      exact ⟨nI_pred c, tw_up P c a, tw_up D c (D a + 1), c + 1, vs, tw_T_grow T ha h, fun j hj => Z j (by omega), rfl, rfl⟩
    · have e : c = 24 := by omega
      have e4 : nI c = 24 := by rw [e]; rfl
      have e5 : ¬ nI c < 24 := nI_nlt (b := 24) (by omega) (by omega)
      exact tx_isNode_y h24 ha (br_f tw_10 (br_f e5 (ty_isNode_y h24 ha (br_f tw_10 (br_t e4 ⟨rfl, R⟩)))))
theorem i_vc_move {k : Nat} {u : SX} {v : SY} (I : i_Rel k u v) (hk : k + 4 ≤ 2048) (v1 : Int32) (v2 : Int32) : wpX_move (fun r u' => wpY_move (fun r' v' => r' = r ∧ i_Rel (k + 4) u' v') v v1 v2) u v1 v2 := by
  obtain ⟨P, D, c, vs, T, Z, rfl, rfl⟩ := I
  have h24 := T.2.1
  have R : i_Rel (k + 4) (nI c, tw_X P, vs) (nI c, tw_Y P, vs) := ⟨P, D, c, vs, T, Z, rfl, rfl⟩
  rcases tw_nd h24 v1 with h1 | ⟨a, ha, rfl⟩
  · unfold wpX_move wpY_move
    dsimp only
    exact tx_isNode_n h1 (br_t rfl (ty_isNode_n h1 (br_t rfl ⟨rfl, R⟩)))
  · rcases tw_nd h24 v2 with h2 | ⟨b, hb, rfl⟩
    · unfold wpX_move wpY_move
      dsimp only
      exact tx_isNode_y h24 ha (br_f tw_10 (tx_isNode_n h2 (br_t rfl (ty_isNode_y h24 ha (br_f tw_10 (ty_isNode_n h2 (br_t rfl ⟨rfl, R⟩)))))))
    · unfold wpX_move wpY_move
      dsimp only
      have a24 := tw_c24 T ha
      have vp := vp_in_nI (N := 24) a24 (by omega)
      by_cases h0 : a = 0
      · have e : nI a = 0 := by rw [h0]; exact nI_0
        exact tx_isNode_y h24 ha (br_f tw_10 (tx_isNode_y h24 hb (br_f tw_10 (br_t e (ty_isNode_y h24 ha (br_f tw_10 (ty_isNode_y h24 hb (br_f tw_10 (br_t e ⟨rfl, R⟩)))))))))
      · have e : ¬ nI a = 0 := nI_ne0 (by omega) (by omega)
        refine tx_isNode_y h24 ha (br_f tw_10 (tx_isNode_y h24 hb (br_f tw_10 (br_f e ?_))))
        cases z : tw_in P D b a with
        | true =>
          exact tx_in_t T hb ha z (br_f tw_10 (ty_isNode_y h24 ha (br_f tw_10 (ty_isNode_y h24 hb (br_f tw_10 (br_f e (ty_in_t T hb ha z (br_f tw_10 ⟨rfl, R⟩))))))))
        | false =>
          have e1 : upd (tw_X P) (nI a).toNatClampNeg (nI b) = tw_X (tw_up P a b) := by
            rw [nI_clamp (by omega)]
            exact tw_X_up P a b
          have e2 : upd (tw_Y P) (nI a).toNatClampNeg (nI b) = tw_Y (tw_up P a b) := by
            rw [nI_clamp (by omega)]
            exact tw_Y_up P b h0
          have T' := tw_T_move T ha hb h0 (by rw [z]; exact Bool.false_ne_true)
          refine tx_in_f T hb ha z (br_t rfl ⟨vp, nm_r (tw_X_at P a24) ⟨vp, nm_r e1 ?_⟩⟩)
          refine ty_isNode_y h24 ha (br_f tw_10 (ty_isNode_y h24 hb (br_f tw_10 (br_f e (ty_in_f T hb ha z (br_t rfl ⟨vp, nm_r (tw_Y_at P a24 h0) ⟨vp, nm_r e2 ?_⟩⟩))))))
          exact ⟨rfl, _, _, c, vs, T', Z, rfl, rfl⟩
theorem i_vc_put {k : Nat} {u : SX} {v : SY} (I : i_Rel k u v) (hk : k + 4 ≤ 2048) (v1 : Int32) (v2 : Int32) : wpX_put (fun r u' => wpY_put (fun r' v' => r' = r ∧ i_Rel (k + 4) u' v') v v1 v2) u v1 v2 := by
  obtain ⟨P, D, c, vs, T, Z, rfl, rfl⟩ := I
  have h24 := T.2.1
  have R : i_Rel (k + 4) (nI c, tw_X P, vs) (nI c, tw_Y P, vs) := ⟨P, D, c, vs, T, Z, rfl, rfl⟩
  rcases tw_nd h24 v1 with h1 | ⟨a, ha, rfl⟩
  · unfold wpX_put wpY_put
    dsimp only
    exact tx_isNode_n h1 (br_t rfl (ty_isNode_n h1 (br_t rfl ⟨rfl, R⟩)))
  · unfold wpX_put wpY_put
    dsimp only
    have a24 := tw_c24 T ha
    have vp := vp_in_nI (N := 24) a24 (by omega)
    by_cases l : v2 < -1000
    · exact tx_isNode_y h24 ha (br_f tw_10 (tx_btw_l l (br_t rfl (ty_isNode_y h24 ha (br_f tw_10 (br_t l ⟨rfl, R⟩))))))
    · by_cases g : v2 ≤ 1000
      · have e : upd vs (nI a).toNatClampNeg v2 = upd vs a v2 := by rw [nI_clamp (by omega)]
        refine tx_isNode_y h24 ha (br_f tw_10 (tx_btw_y l g (br_f tw_10 ⟨vp, nm_r (tw_at vs a24) ⟨vp, nm_r e ?_⟩⟩)))
        refine ty_isNode_y h24 ha (br_f tw_10 (br_f l (br_t g ⟨vp, nm_r (tw_at vs a24) ⟨vp, nm_r e ?_⟩⟩)))
        refine ⟨rfl, P, D, c, upd vs a v2, T, fun j hj => ?_, rfl, rfl⟩
        rw [pk_un (by omega)]
        exact Z j hj
      · exact tx_isNode_y h24 ha (br_f tw_10 (tx_btw_h l g (br_t rfl (ty_isNode_y h24 ha (br_f tw_10 (br_f l (br_f g ⟨rfl, R⟩)))))))
theorem i_vc_addPart {k : Nat} {u : SX} {v : SY} (I : i_Rel k u v) (hk : k + 4 ≤ 2048) (v1 : Int32) (v2 : Int32) : wpX_addPart (fun r u' => wpY_addPart (fun r' v' => r' = r ∧ i_Rel (k + 4) u' v') v v1 v2) u v1 v2 := by
  obtain ⟨P, D, c, vs, T, Z, rfl, rfl⟩ := I
  have h24 := T.2.1
  have R : i_Rel (k + 4) (nI c, tw_X P, vs) (nI c, tw_Y P, vs) := ⟨P, D, c, vs, T, Z, rfl, rfl⟩
  rcases tw_nd h24 v1 with h1 | ⟨a, ha, rfl⟩
  · unfold wpX_addPart wpY_addPart
    dsimp only
    exact tx_isNode_n h1 (br_t rfl (ty_isNode_n h1 (br_t rfl ⟨rfl, R⟩)))
  · by_cases l : v2 < -100
    · unfold wpX_addPart wpY_addPart
      dsimp only
      exact tx_isNode_y h24 ha (br_f tw_10 (tx_btw_l l (br_t rfl (ty_isNode_y h24 ha (br_f tw_10 (br_t l ⟨rfl, R⟩))))))
    · by_cases g : v2 ≤ 100
      · exact tx_addPart T ha l g (ty_addPart T ha l g ⟨rfl, P, D, c, _, T, tw_ad_z _ v2 Z, rfl, rfl⟩)
      · unfold wpX_addPart wpY_addPart
        dsimp only
        exact tx_isNode_y h24 ha (br_f tw_10 (tx_btw_h l g (br_t rfl (ty_isNode_y h24 ha (br_f tw_10 (br_f l (br_f g ⟨rfl, R⟩)))))))
theorem i_vc_addWay {k : Nat} {u : SX} {v : SY} (I : i_Rel k u v) (hk : k + 4 ≤ 2048) (v1 : Int32) (v2 : Int32) (v3 : Int32) : wpX_addWay (fun r u' => wpY_addWay (fun r' v' => r' = r ∧ i_Rel (k + 4) u' v') v v1 v2 v3) u v1 v2 v3 := by
  obtain ⟨P, D, c, vs, T, Z, rfl, rfl⟩ := I
  have h24 := T.2.1
  have R : i_Rel (k + 4) (nI c, tw_X P, vs) (nI c, tw_Y P, vs) := ⟨P, D, c, vs, T, Z, rfl, rfl⟩
  rcases tw_nd h24 v1 with h1 | ⟨a, ha, rfl⟩
  · unfold wpX_addWay wpY_addWay
    dsimp only
    exact tx_isNode_n h1 (br_t rfl (ty_isNode_n h1 (br_t rfl ⟨rfl, R⟩)))
  · rcases tw_nd h24 v2 with h2 | ⟨b, hb, rfl⟩
    · unfold wpX_addWay wpY_addWay
      dsimp only
      exact tx_isNode_y h24 ha (br_f tw_10 (tx_isNode_n h2 (br_t rfl (ty_isNode_y h24 ha (br_f tw_10 (ty_isNode_n h2 (br_t rfl ⟨rfl, R⟩)))))))
    · by_cases l : v3 < -100
      · unfold wpX_addWay wpY_addWay
        dsimp only
        exact tx_isNode_y h24 ha (br_f tw_10 (tx_isNode_y h24 hb (br_f tw_10 (tx_btw_l l (br_t rfl (ty_isNode_y h24 ha (br_f tw_10 (ty_isNode_y h24 hb (br_f tw_10 (br_t l ⟨rfl, R⟩))))))))))
      · by_cases g : v3 ≤ 100
        · exact tx_addWay T ha hb l g (ty_addWay T ha hb l g ⟨rfl, P, D, c, _, T, tw_ad_z _ v3 Z, rfl, rfl⟩)
        · unfold wpX_addWay wpY_addWay
          dsimp only
          exact tx_isNode_y h24 ha (br_f tw_10 (tx_isNode_y h24 hb (br_f tw_10 (tx_btw_h l g (br_t rfl (ty_isNode_y h24 ha (br_f tw_10 (ty_isNode_y h24 hb (br_f tw_10 (br_f l (br_f g ⟨rfl, R⟩)))))))))))
