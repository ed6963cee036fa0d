section
variable {P D : Nat → Nat} {c : Nat} {vs : Nat → Int32}
theorem ty_are_n {a : Nat → Int32} {x y : Int32} {post : Int32 → Prop} (hc : c ≤ 24) (h : tw_bad c x ∨ tw_bad c y) (hp : post 0) : wpY_areNodes post (nI c, a, vs) x y := by
  unfold wpY_areNodes
  dsimp only
  rcases tw_nd hc x with h1 | ⟨j, hj, e⟩
  · exact ty_isNode_n h1 (br_t rfl hp)
  · rcases h with h1 | h2
    · exact ty_isNode_n h1 (br_t rfl hp)
    · rw [e]
      exact ty_isNode_y hc hj (br_f tw_10 (ty_isNode_n h2 (br_t rfl hp)))
theorem ty_are_y {a : Nat → Int32} {i j : Nat} {post : Int32 → Prop} (hc : c ≤ 24) (hi : i < c) (hj : j < c) (hp : post 1) : wpY_areNodes post (nI c, a, vs) (nI i) (nI j) := by
  unfold wpY_areNodes
  dsimp only
  exact ty_isNode_y hc hi (br_f tw_10 (ty_isNode_y hc hj (br_f tw_10 hp)))
theorem ty_in_f (T : tw_T P D c) {post : Int32 → Prop} {n v : Nat} (hn : n < c) (hv : v < c) (z : tw_in P D n v = false) (hp : post 0) :
    wpY_isIn post (nI c, tw_Y P, vs) (nI n) (nI v) := ty_in T hn hv (by rw [z]; exact hp)
theorem ty_in_t (T : tw_T P D c) {post : Int32 → Prop} {n v : Nat} (hn : n < c) (hv : v < c) (z : tw_in P D n v = true) (hp : post 1) :
    wpY_isIn post (nI c, tw_Y P, vs) (nI n) (nI v) := ty_in T hn hv (by rw [z]; exact hp)
theorem ty_waySum (T : tw_T P D c) {post : Int32 → Prop} {u v : Nat} (hu : u < c) (hv : v < c) (hp : post (tw_sm (fun n => tw_on P D n u v) vs c)) :
    wpY_waySum post (nI c, tw_Y P, vs) (nI u) (nI v) := by
  have h24 := T.2.1
  unfold wpY_waySum
  dsimp only
  refine ty_are_y h24 hu hv (br_f tw_10 (?_))
  refine tw_lpi (fun n i s => wY_waySum_17 post (nI u) (nI v) (nI c) (tw_Y P) vs n s (nI i)) (fun n => tw_on P D n u v) (fun n s => s + vs n) 0 c (fun n => ?_) (fun n i s hi hf ht => ?_)
  · exact br_t (nI_le (Nat.le_refl c) (by omega)) hp
  · exact br_f (nI_ge hi (by omega)) (ty_on T hi hu hv (tw_br (fun z => nm_r (nI_1 i) (hf z)) (fun z => ⟨vp_in_nI (tw_c24 T hi) (by omega), nm_r (congrArg (fun y => s + y) (tw_at vs (tw_c24 T hi))) (nm_r (nI_1 i) (ht z))⟩)))
theorem ty_wayMost (T : tw_T P D c) {post : Int32 → Prop} {u v : Nat} (hu : u < c) (hv : v < c) (hp : post (tw_mx (fun n => tw_on P D n u v) vs (vs u) c)) :
    wpY_wayMost post (nI c, tw_Y P, vs) (nI u) (nI v) := by
  have h24 := T.2.1
  unfold wpY_wayMost
  dsimp only
  refine ty_are_y h24 hu hv (br_f tw_10 (⟨vp_in_nI (tw_c24 T hu) (by omega), nm_r (tw_at vs (tw_c24 T hu)) ?_⟩))
  refine tw_lpi (fun n i s => wY_wayMost_22 post (nI u) (nI v) (nI c) (tw_Y P) vs n s (nI i)) (fun n => tw_on P D n u v) (tw_m vs) (vs u) c (fun n => ?_) (fun n i s hi hf ht => ?_)
  · exact br_t (nI_le (Nat.le_refl c) (by omega)) hp
  · have e := tw_at vs (tw_c24 T hi)
    refine br_f (nI_ge hi (by omega)) (ty_on T hi hu hv (tw_br (fun z => nm_r (nI_1 i) (hf z)) (fun z => ⟨vp_in_nI (tw_c24 T hi) (by omega), ?_⟩)))
    have k := ht z
    by_cases q : vs i ≤ s
    · rw [tw_m_f q] at k
      exact br_t (by rw [e]; exact q) (nm_r (nI_1 i) k)
    · rw [tw_m_t q] at k
      exact br_f (by rw [e]; exact q) ⟨vp_in_nI (tw_c24 T hi) (by omega), nm_r e (nm_r (nI_1 i) k)⟩
theorem ty_partSize (T : tw_T P D c) {post : Int32 → Prop} {v : Nat} (hv : v < c) (hp : post (tw_ct (fun n => tw_in P D n v) c)) :
    wpY_partSize post (nI c, tw_Y P, vs) (nI v) := by
  have h24 := T.2.1
  unfold wpY_partSize
  dsimp only
  refine ty_isNode_y h24 hv (br_f tw_10 (?_))
  refine tw_lpi (fun n i s => wY_partSize_15 post (nI v) (nI c) (tw_Y P) vs n s (nI i)) (fun n => tw_in P D n v) (fun _ s => s + 1) 0 c (fun n => ?_) (fun n i s hi hf ht => ?_)
  · exact br_t (nI_le (Nat.le_refl c) (by omega)) hp
  · exact br_f (nI_ge hi (by omega)) (ty_in T hi hv (tw_br (fun z => nm_r (nI_1 i) (hf z)) (fun z => nm_e (nm_r (nI_1 i) (ht z)))))
theorem ty_partSum (T : tw_T P D c) {post : Int32 → Prop} {v : Nat} (hv : v < c) (hp : post (tw_sm (fun n => tw_in P D n v) vs c)) :
    wpY_partSum post (nI c, tw_Y P, vs) (nI v) := by
  have h24 := T.2.1
  unfold wpY_partSum
  dsimp only
  refine ty_isNode_y h24 hv (br_f tw_10 (?_))
  refine tw_lpi (fun n i s => wY_partSum_15 post (nI v) (nI c) (tw_Y P) vs n s (nI i)) (fun n => tw_in P D n v) (fun n s => s + vs n) 0 c (fun n => ?_) (fun n i s hi hf ht => ?_)
  · exact br_t (nI_le (Nat.le_refl c) (by omega)) hp
  · exact br_f (nI_ge hi (by omega)) (ty_in T hi hv (tw_br (fun z => nm_r (nI_1 i) (hf z)) (fun z => ⟨vp_in_nI (tw_c24 T hi) (by omega), nm_r (congrArg (fun y => s + y) (tw_at vs (tw_c24 T hi))) (nm_r (nI_1 i) (ht z))⟩)))
theorem ty_partMost (T : tw_T P D c) {post : Int32 → Prop} {v : Nat} (hv : v < c) (hp : post (tw_mx (fun n => tw_in P D n v) vs (vs v) c)) :
    wpY_partMost post (nI c, tw_Y P, vs) (nI v) := by
  have h24 := T.2.1
  unfold wpY_partMost
  dsimp only
  refine ty_isNode_y h24 hv (br_f tw_10 (⟨vp_in_nI (tw_c24 T hv) (by omega), nm_r (tw_at vs (tw_c24 T hv)) ?_⟩))
  refine tw_lpi (fun n i s => wY_partMost_20 post (nI v) (nI c) (tw_Y P) vs n s (nI i)) (fun n => tw_in P D n v) (tw_m vs) (vs v) c (fun n => ?_) (fun n i s hi hf ht => ?_)
  · exact br_t (nI_le (Nat.le_refl c) (by omega)) hp
  · have e := tw_at vs (tw_c24 T hi)
    refine br_f (nI_ge hi (by omega)) (ty_in T hi hv (tw_br (fun z => nm_r (nI_1 i) (hf z)) (fun z => ⟨vp_in_nI (tw_c24 T hi) (by omega), ?_⟩)))
    have k := ht z
    by_cases q : vs i ≤ s
    · rw [tw_m_f q] at k
      exact br_t (by rw [e]; exact q) (nm_r (nI_1 i) k)
    · rw [tw_m_t q] at k
      exact br_f (by rw [e]; exact q) ⟨vp_in_nI (tw_c24 T hi) (by omega), nm_r e (nm_r (nI_1 i) k)⟩
theorem ty_within (T : tw_T P D c) {post : Int32 → Prop} {v : Nat} {d : Int32} (hv : v < c) (hp : post (tw_ct (fun n => decide (¬ d < nI (tw_far P D v n))) c)) :
    wpY_within post (nI c, tw_Y P, vs) (nI v) d := by
  have h24 := T.2.1
  unfold wpY_within
  dsimp only
  refine ty_isNode_y h24 hv (br_f tw_10 (?_))
  refine tw_lpi (fun n i s => wY_within_16 post (nI v) d (nI c) (tw_Y P) vs n s (nI i)) (fun n => decide (¬ d < nI (tw_far P D v n))) (fun _ s => s + 1) 0 c (fun n => ?_) (fun n i s hi hf ht => ?_)
  · exact br_t (nI_le (Nat.le_refl c) (by omega)) hp
  · refine br_f (nI_ge hi (by omega)) (ty_far T hv hi (br_c (fun q => nm_r (nI_1 i) (hf ?_)) (fun q => nm_e (nm_r (nI_1 i) (ht ?_)))))
    · exact decide_eq_false (fun k => k q)
    · exact decide_eq_true q
theorem ty_addWay (T : tw_T P D c) {post : Int32 → SY → Prop} {u v : Nat} {x : Int32} (hu : u < c) (hv : v < c) (hl : ¬ x < -100) (hh : x ≤ 100)
    (hp : post (tw_ad (fun n => tw_on P D n u v) x vs c).1 (nI c, tw_Y P, (tw_ad (fun n => tw_on P D n u v) x vs c).2)) :
    wpY_addWay post (nI c, tw_Y P, vs) (nI u) (nI v) x := by
  have h24 := T.2.1
  unfold wpY_addWay
  dsimp only
  refine ty_isNode_y h24 hu (br_f tw_10 (ty_isNode_y h24 hv (br_f tw_10 (br_f hl (br_t hh ?_)))))
  refine tw_lpi (fun n i s => wY_addWay_37 post (nI u) (nI v) x (nI c) n s.1 (nI i) (tw_Y P) s.2) (fun n => tw_on P D n u v) (tw_a x) (0, vs) c (fun n => ?_) (fun n i s hi hf ht => ?_)
  · exact br_t (nI_le (Nat.le_refl c) (by omega)) hp
  · have e : upd s.2 (nI i).toNatClampNeg (s.2 (nI i).toNatClampNeg + x) = upd s.2 i (s.2 i + x) := by rw [nI_clamp (by omega)]
    exact br_f (nI_ge hi (by omega)) (ty_on T hi hu hv (tw_br (fun z => nm_r (nI_1 i) (hf z)) (fun z => ⟨vp_in_nI (tw_c24 T hi) (by omega), vp_in_nI (tw_c24 T hi) (by omega), nm_r e (nm_e (nm_r (nI_1 i) (ht z)))⟩)))
theorem ty_addPart (T : tw_T P D c) {post : Int32 → SY → Prop} {v : Nat} {x : Int32} (hv : v < c) (hl : ¬ x < -100) (hh : x ≤ 100)
    (hp : post (tw_ad (fun n => tw_in P D n v) x vs c).1 (nI c, tw_Y P, (tw_ad (fun n => tw_in P D n v) x vs c).2)) :
    wpY_addPart post (nI c, tw_Y P, vs) (nI v) x := by
  have h24 := T.2.1
  unfold wpY_addPart
  dsimp only
  refine ty_isNode_y h24 hv (br_f tw_10 (br_f hl (br_t hh ?_)))
  refine tw_lpi (fun n i s => wY_addPart_28 post (nI v) x (nI c) n s.1 (nI i) (tw_Y P) s.2) (fun n => tw_in P D n v) (tw_a x) (0, vs) c (fun n => ?_) (fun n i s hi hf ht => ?_)
  · exact br_t (nI_le (Nat.le_refl c) (by omega)) hp
  · have e : upd s.2 (nI i).toNatClampNeg (s.2 (nI i).toNatClampNeg + x) = upd s.2 i (s.2 i + x) := by rw [nI_clamp (by omega)]
    exact br_f (nI_ge hi (by omega)) (ty_in T hi hv (tw_br (fun z => nm_r (nI_1 i) (hf z)) (fun z => ⟨vp_in_nI (tw_c24 T hi) (by omega), vp_in_nI (tw_c24 T hi) (by omega), nm_r e (nm_e (nm_r (nI_1 i) (ht z)))⟩)))
theorem ty_wi (T : tw_T P D c) {post : Int32 → Prop} {J : Int32 → Int32 → Prop} {u : Nat} {s0 : Int32} (hu : u < c) (hJ : J (tw_wo P D u s0) (nI (u + 1))) :
    ∃ n, wY_widest_14 post J (nI u) (nI c) (tw_Y P) vs n s0 0 := by
  have h24 := T.2.1
  refine tw_lpa (fun n i s => wY_widest_14 post J (nI u) (nI c) (tw_Y P) vs n s (nI i)) (tw_wi P D u) s0 u (fun n => ?_) (fun n i s hi h => ?_)
  · exact br_t (nI_le (Nat.le_refl u) (by omega)) (nm_r (nI_1 u) hJ)
  · refine br_f (nI_ge hi (by omega)) (ty_far T hu (Nat.lt_trans hi hu) (br_c (fun q => nm_r (nI_1 i) ?_) (fun q => nm_r (nI_1 i) ?_)))
    · rw [tw_wi_f q] at h
      exact h
    · rw [tw_wi_t q] at h
      exact h
theorem ty_widest (T : tw_T P D c) {post : Int32 → Prop} (hp : post (tw_wd P D c)) : wpY_widest post (nI c, tw_Y P, vs) := by
  have h24 := T.2.1
  unfold wpY_widest
  dsimp only
  refine tw_lpa (fun n i s => wY_widest_4 post (nI c) (tw_Y P) vs n s (nI i)) (tw_wo P D) 0 c (fun n => ?_) (fun n i s hi h => ?_)
  · exact br_t (nI_le (Nat.le_refl c) (by omega)) hp
  · exact br_f (nI_ge hi (by omega)) (ty_wi T hi h)
theorem ty_heart (T : tw_T P D c) {post : Int32 → Prop} (hp : post (nI (tw_ht P D c (c - 1)))) : wpY_heart post (nI c, tw_Y P, vs) := by
  have h24 := T.2.1
  have h0 := T.1
  unfold wpY_heart
  dsimp only
  refine ⟨c - 1 + 1, tw_lp (fun n m b => wY_heart_4 post (nI c) (tw_Y P) vs n (nI b) (nI (m + 1))) (tw_hs P D c) 0 (c - 1) (fun n => ?_) (fun n m hm h => ?_) (c - 1) 0 (Nat.zero_add _)⟩
  · exact br_t (nI_le (by omega) (by omega)) hp
  · have hb : tw_fd (tw_hs P D c) 0 m < c := tw_ht_lt P D c h0 m (by omega)
    refine br_f (nI_ge (by omega) (by omega)) (ty_sum T (by omega) (ty_sum T hb ?_))
    refine br_c (fun q => nm_r (nI_1 (m + 1)) ?_) (fun q => nm_r (nI_1 (m + 1)) ?_)
    · rw [tw_hs_f q] at h
      exact h
    · rw [tw_hs_t q] at h
      exact h
theorem ty_wayNode_y (T : tw_T P D c) {post : Int32 → Prop} {u v j : Nat} (hu : u < c) (hv : v < c) (hj : j ≤ tw_far P D u v) (hp : post (nI (tw_wn P D u v j))) :
    wpY_wayNode post (nI c, tw_Y P, vs) (nI u) (nI v) (nI j) := by
  have h24 := T.2.1
  have l := tw_far_lt T hu hv
  have ht := tw_wn_lt T hu hv j
  unfold wpY_wayNode
  dsimp only
  refine ty_are_y h24 hu hv (br_f tw_10 ?_)
  refine tw_sc (fun n i => wY_wayNode_15 post (nI u) (nI v) (nI j) (nI c) (tw_Y P) vs n (nI i)) c (tw_wn P D u v j) ht (fun n => ?_) (fun n i hi hne h => ?_)
  · have q := (tw_wn_on T ht hu hv hj).mpr rfl
    refine br_f (nI_ge ht (by omega)) (ty_on T ht hu hv (tw_br (fun z => ?_) (fun z => ty_far T hu ht (br_t ?_ hp))))
    · rw [q.1] at z
      exact absurd z (by decide)
    · rw [q.2]
  · have l2 := tw_far_lt T hu hi
    refine br_f (nI_ge hi (by omega)) (ty_on T hi hu hv (tw_br (fun z => nm_r (nI_1 i) h) (fun z => ty_far T hu hi (pk_eq (tw_far P D u i) j (fun e => ?_) (fun e => nm_r (nI_1 i) h)))))
    exact absurd ((tw_wn_on T hi hu hv hj).mp ⟨z, e⟩) hne
theorem ty_wayNode_n (T : tw_T P D c) {post : Int32 → Prop} {u v : Nat} {k : Int32} (hu : u < c) (hv : v < c) (hk : k < 0 ∨ ¬ k ≤ nI (tw_far P D u v)) (hp : post (-3000000)) :
    wpY_wayNode post (nI c, tw_Y P, vs) (nI u) (nI v) k := by
  have h24 := T.2.1
  have l := tw_far_lt T hu hv
  unfold wpY_wayNode
  dsimp only
  refine ty_are_y h24 hu hv (br_f tw_10 ?_)
  refine tw_sn (fun n i => wY_wayNode_15 post (nI u) (nI v) k (nI c) (tw_Y P) vs n (nI i)) c (fun n => ?_) (fun n i hi h => ?_)
  · exact br_t (nI_le (Nat.le_refl c) (by omega)) hp
  · have l2 := tw_far_lt T hu hi
    refine br_f (nI_ge hi (by omega)) (ty_on T hi hu hv (tw_br (fun z => nm_r (nI_1 i) h) (fun z => ty_far T hu hi (br_f (fun e => ?_) (nm_r (nI_1 i) h)))))
    have l3 := tw_on_le T hi hu hv z
    rw [← e] at hk
    rcases hk with hk | hk
    · exact nI_pos (by omega) hk
    · exact hk (nI_le l3 (by omega))
theorem ty_middle (T : tw_T P D c) {post : Int32 → Prop} {u v w : Nat} (hu : u < c) (hv : v < c) (hw : w < c) (hp : post (nI (tw_mid P D u v w))) :
    wpY_middle post (nI c, tw_Y P, vs) (nI u) (nI v) (nI w) := by
  have h24 := T.2.1
  have ht := tw_mid_lt T hu hv hw
  unfold wpY_middle
  dsimp only
  refine ty_are_y h24 hu hv (br_f tw_10 (ty_isNode_y h24 hw (br_f tw_10 ?_)))
  refine tw_sc (fun n i => wY_middle_23 post (nI u) (nI v) (nI w) (nI c) (tw_Y P) vs n (nI i)) c (tw_mid P D u v w) ht (fun n => ?_) (fun n i hi hne h => ?_)
  · have q := (tw_mid_on T ht hu hv hw).mpr rfl
    refine br_f (nI_ge ht (by omega)) (ty_on T ht hu hv (tw_br (fun z => ?_) (fun _ => ty_on T ht hu hw (tw_br (fun z => ?_) (fun _ => ty_on T ht hv hw (tw_br (fun z => ?_) (fun _ => hp)))))))
    · rw [q.1] at z
      exact absurd z (by decide)
    · rw [q.2.1] at z
      exact absurd z (by decide)
    · rw [q.2.2] at z
      exact absurd z (by decide)
  · refine br_f (nI_ge hi (by omega)) (ty_on T hi hu hv (tw_br (fun _ => nm_r (nI_1 i) h) (fun z1 => ty_on T hi hu hw (tw_br (fun _ => nm_r (nI_1 i) h) (fun z2 => ty_on T hi hv hw (tw_br (fun _ => nm_r (nI_1 i) h) (fun z3 => ?_)))))))
    exact absurd ((tw_mid_on T hi hu hv hw).mp ⟨z1, z2, z3⟩) hne
end
