section
variable {P D : Nat → Nat} {c : Nat} {vs : Nat → Int32}
theorem tx_btw_y {x l h : Int32} {post : Int32 → Prop} (a : ¬ x < l) (b : x ≤ h) (hp : post 1) : wpX_isBetween post x l h := br_f a (br_f (Int32.not_lt.mpr b) hp)
theorem tx_btw_l {x l h : Int32} {post : Int32 → Prop} (a : x < l) (hp : post 0) : wpX_isBetween post x l h := br_t a hp
theorem tx_btw_h {x l h : Int32} {post : Int32 → Prop} (a : ¬ x < l) (b : ¬ x ≤ h) (hp : post 0) : wpX_isBetween post x l h := br_f a (br_t (Int32.not_le.mp b) hp)
theorem tx_in_f (T : tw_T P D c) {post : Int32 → Prop} {n v : Nat} (hn : n < c) (hv : v < c) (z : tw_in P D n v = false) (hp : post 0) :
    wpX_isInPart post (nI c, tw_X P, vs) (nI n) (nI v) := tx_in T hn hv (by rw [z]; exact hp)
theorem tx_in_t (T : tw_T P D c) {post : Int32 → Prop} {n v : Nat} (hn : n < c) (hv : v < c) (z : tw_in P D n v = true) (hp : post 1) :
    wpX_isInPart post (nI c, tw_X P, vs) (nI n) (nI v) := tx_in T hn hv (by rw [z]; exact hp)
theorem tx_waySum (T : tw_T P D c) {post : Int32 → Prop} {u v : Nat} (hu : u < c) (hv : v < c) (hp : post (tw_sm (fun n => tw_on P D n u v) vs c)) :
    wpX_waySum post (nI c, tw_X P, vs) (nI u) (nI v) := by
  have h24 := T.2.1
  unfold wpX_waySum
  dsimp only
  refine tx_isNode_y h24 hu (br_f tw_10 (tx_isNode_y h24 hv (br_f tw_10 (tx_fork T hu hv ?_))))
  refine tw_lpi (fun n i s => wX_waySum_32 post (nI u) (nI v) (nI (tw_F P D u v)) (nI c) (tw_X P) vs n s (nI i)) (fun n => tw_on P D n u v) (fun n s => s + vs n) 0 c (fun n => ?_) (fun n i s hi hf ht => ?_)
  · exact br_t (nI_le (Nat.le_refl c) (by omega)) hp
  · exact br_f (nI_ge hi (by omega)) (tx_on T hi hu hv (tw_br (fun z => nm_r (nI_1 i) (hf z)) (fun z => ⟨vp_in_nI (tw_c24 T hi) (by omega), nm_r (congrArg (fun y => s + y) (tw_at vs (tw_c24 T hi))) (nm_r (nI_1 i) (ht z))⟩)))
theorem tx_wayMost (T : tw_T P D c) {post : Int32 → Prop} {u v : Nat} (hu : u < c) (hv : v < c) (hp : post (tw_mx (fun n => tw_on P D n u v) vs (vs u) c)) :
    wpX_wayMost post (nI c, tw_X P, vs) (nI u) (nI v) := by
  have h24 := T.2.1
  unfold wpX_wayMost
  dsimp only
  refine tx_isNode_y h24 hu (br_f tw_10 (tx_isNode_y h24 hv (br_f tw_10 (tx_fork T hu hv ⟨vp_in_nI (tw_c24 T hu) (by omega), nm_r (tw_at vs (tw_c24 T hu)) ?_⟩))))
  refine tw_lpi (fun n i s => wX_wayMost_37 post (nI u) (nI v) (nI (tw_F P D u v)) (nI c) (tw_X P) vs n s (nI i)) (fun n => tw_on P D n u v) (tw_m vs) (vs u) c (fun n => ?_) (fun n i s hi hf ht => ?_)
  · exact br_t (nI_le (Nat.le_refl c) (by omega)) hp
  · have e := tw_at vs (tw_c24 T hi)
    by_cases q : vs i ≤ s
    · refine br_f (nI_ge hi (by omega)) ⟨vp_in_nI (tw_c24 T hi) (by omega), br_t (by rw [e]; exact q) (nm_r (nI_1 i) ?_)⟩
      cases z : tw_on P D i u v with
      | false => exact hf z
      | true =>
        have k := ht z
        rw [tw_m_f q] at k
        exact k
    · refine br_f (nI_ge hi (by omega)) ⟨vp_in_nI (tw_c24 T hi) (by omega), br_f (by rw [e]; exact q) (tx_on T hi hu hv (tw_br (fun z => nm_r (nI_1 i) (hf z)) (fun z => ⟨vp_in_nI (tw_c24 T hi) (by omega), nm_r e (nm_r (nI_1 i) ?_)⟩)))⟩
      have k := ht z
      rw [tw_m_t q] at k
      exact k
theorem tx_partSize (T : tw_T P D c) {post : Int32 → Prop} {v : Nat} (hv : v < c) (hp : post (tw_ct (fun n => tw_in P D n v) c)) :
    wpX_partSize post (nI c, tw_X P, vs) (nI v) := by
  have h24 := T.2.1
  unfold wpX_partSize
  dsimp only
  refine tx_isNode_y h24 hv (br_f tw_10 (?_))
  refine tw_lpi (fun n i s => wX_partSize_15 post (nI v) (nI c) (tw_X P) vs n s (nI i)) (fun n => tw_in P D n v) (fun _ s => s + 1) 0 c (fun n => ?_) (fun n i s hi hf ht => ?_)
  · exact br_t (nI_le (Nat.le_refl c) (by omega)) hp
  · exact br_f (nI_ge hi (by omega)) (tx_in T hi hv (tw_br (fun z => nm_r (nI_1 i) (hf z)) (fun z => nm_e (nm_r (nI_1 i) (ht z)))))
theorem tx_partSum (T : tw_T P D c) {post : Int32 → Prop} {v : Nat} (hv : v < c) (hp : post (tw_sm (fun n => tw_in P D n v) vs c)) :
    wpX_partSum post (nI c, tw_X P, vs) (nI v) := by
  have h24 := T.2.1
  unfold wpX_partSum
  dsimp only
  refine tx_isNode_y h24 hv (br_f tw_10 (?_))
  refine tw_lpi (fun n i s => wX_partSum_15 post (nI v) (nI c) (tw_X P) vs n s (nI i)) (fun n => tw_in P D n v) (fun n s => s + vs n) 0 c (fun n => ?_) (fun n i s hi hf ht => ?_)
  · exact br_t (nI_le (Nat.le_refl c) (by omega)) hp
  · exact br_f (nI_ge hi (by omega)) (tx_in T hi hv (tw_br (fun z => nm_r (nI_1 i) (hf z)) (fun z => ⟨vp_in_nI (tw_c24 T hi) (by omega), nm_r (congrArg (fun y => s + y) (tw_at vs (tw_c24 T hi))) (nm_r (nI_1 i) (ht z))⟩)))
theorem tx_partMost (T : tw_T P D c) {post : Int32 → Prop} {v : Nat} (hv : v < c) (hp : post (tw_mx (fun n => tw_in P D n v) vs (vs v) c)) :
    wpX_partMost post (nI c, tw_X P, vs) (nI v) := by
  have h24 := T.2.1
  unfold wpX_partMost
  dsimp only
  refine tx_isNode_y h24 hv (br_f tw_10 (⟨vp_in_nI (tw_c24 T hv) (by omega), nm_r (tw_at vs (tw_c24 T hv)) ?_⟩))
  refine tw_lpi (fun n i s => wX_partMost_20 post (nI v) (nI c) (tw_X P) vs n s (nI i)) (fun n => tw_in P D n v) (tw_m vs) (vs v) c (fun n => ?_) (fun n i s hi hf ht => ?_)
  · exact br_t (nI_le (Nat.le_refl c) (by omega)) hp
  · have e := tw_at vs (tw_c24 T hi)
    by_cases q : vs i ≤ s
    · refine br_f (nI_ge hi (by omega)) ⟨vp_in_nI (tw_c24 T hi) (by omega), br_t (by rw [e]; exact q) (nm_r (nI_1 i) ?_)⟩
      cases z : tw_in P D i v with
      | false => exact hf z
      | true =>
        have k := ht z
        rw [tw_m_f q] at k
        exact k
    · refine br_f (nI_ge hi (by omega)) ⟨vp_in_nI (tw_c24 T hi) (by omega), br_f (by rw [e]; exact q) (tx_in T hi hv (tw_br (fun z => nm_r (nI_1 i) (hf z)) (fun z => ⟨vp_in_nI (tw_c24 T hi) (by omega), nm_r e (nm_r (nI_1 i) ?_)⟩)))⟩
      have k := ht z
      rw [tw_m_t q] at k
      exact k
theorem tx_within (T : tw_T P D c) {post : Int32 → Prop} {v : Nat} {d : Int32} (hv : v < c) (hp : post (tw_ct (fun n => decide (¬ d < nI (tw_far P D v n))) c)) :
    wpX_within post (nI c, tw_X P, vs) (nI v) d := by
  have h24 := T.2.1
  unfold wpX_within
  dsimp only
  refine tx_isNode_y h24 hv (br_f tw_10 (?_))
  refine tw_lpi (fun n i s => wX_within_16 post (nI v) d (nI c) (tw_X P) vs n s (nI i)) (fun n => decide (¬ d < nI (tw_far P D v n))) (fun _ s => s + 1) 0 c (fun n => ?_) (fun n i s hi hf ht => ?_)
  · exact br_t (nI_le (Nat.le_refl c) (by omega)) hp
  · refine br_f (nI_ge hi (by omega)) (tx_far T hv hi (br_c (fun q => nm_r (nI_1 i) (hf ?_)) (fun q => nm_e (nm_r (nI_1 i) (ht ?_)))))
    · exact decide_eq_false (fun k => k q)
    · exact decide_eq_true q
theorem tx_addWay (T : tw_T P D c) {post : Int32 → SX → Prop} {u v : Nat} {x : Int32} (hu : u < c) (hv : v < c) (hl : ¬ x < -100) (hh : x ≤ 100)
    (hp : post (tw_ad (fun n => tw_on P D n u v) x vs c).1 (nI c, tw_X P, (tw_ad (fun n => tw_on P D n u v) x vs c).2)) :
    wpX_addWay post (nI c, tw_X P, vs) (nI u) (nI v) x := by
  have h24 := T.2.1
  unfold wpX_addWay
  dsimp only
  refine tx_isNode_y h24 hu (br_f tw_10 (tx_isNode_y h24 hv (br_f tw_10 (tx_btw_y hl hh (br_f tw_10 (tx_fork T hu hv ?_))))))
  refine tw_lpi (fun n i s => wX_addWay_44 post (nI u) (nI v) x (nI (tw_F P D u v)) (nI c) n s.1 (nI i) (tw_X P) s.2) (fun n => tw_on P D n u v) (tw_a x) (0, vs) c (fun n => ?_) (fun n i s hi hf ht => ?_)
  · exact br_t (nI_le (Nat.le_refl c) (by omega)) hp
  · have e : upd s.2 (nI i).toNatClampNeg (s.2 (nI i).toNatClampNeg + x) = upd s.2 i (s.2 i + x) := by rw [nI_clamp (by omega)]
    exact br_f (nI_ge hi (by omega)) (tx_on T hi hu hv (tw_br (fun z => nm_r (nI_1 i) (hf z)) (fun z => ⟨vp_in_nI (tw_c24 T hi) (by omega), vp_in_nI (tw_c24 T hi) (by omega), nm_r e (nm_e (nm_r (nI_1 i) (ht z)))⟩)))
theorem tx_addPart (T : tw_T P D c) {post : Int32 → SX → Prop} {v : Nat} {x : Int32} (hv : v < c) (hl : ¬ x < -100) (hh : x ≤ 100)
    (hp : post (tw_ad (fun n => tw_in P D n v) x vs c).1 (nI c, tw_X P, (tw_ad (fun n => tw_in P D n v) x vs c).2)) :
    wpX_addPart post (nI c, tw_X P, vs) (nI v) x := by
  have h24 := T.2.1
  unfold wpX_addPart
  dsimp only
  refine tx_isNode_y h24 hv (br_f tw_10 (tx_btw_y hl hh (br_f tw_10 ?_)))
  refine tw_lpi (fun n i s => wX_addPart_27 post (nI v) x (nI c) n s.1 (nI i) (tw_X P) s.2) (fun n => tw_in P D n v) (tw_a x) (0, vs) c (fun n => ?_) (fun n i s hi hf ht => ?_)
  · exact br_t (nI_le (Nat.le_refl c) (by omega)) hp
  · have e : upd s.2 (nI i).toNatClampNeg (s.2 (nI i).toNatClampNeg + x) = upd s.2 i (s.2 i + x) := by rw [nI_clamp (by omega)]
    exact br_f (nI_ge hi (by omega)) (tx_in T hi hv (tw_br (fun z => nm_r (nI_1 i) (hf z)) (fun z => ⟨vp_in_nI (tw_c24 T hi) (by omega), vp_in_nI (tw_c24 T hi) (by omega), nm_r e (nm_e (nm_r (nI_1 i) (ht z)))⟩)))
theorem tx_wi (T : tw_T P D c) {post : Int32 → Prop} {J : Int32 → Int32 → Prop} {u : Nat} {s0 : Int32} (hu : u < c) (hJ : J (tw_wo P D u s0) (nI (u + 1))) :
    ∃ n, wX_widest_14 post J (nI u) (nI c) (tw_X P) vs n s0 0 := by
  have h24 := T.2.1
  refine tw_lpa (fun n i s => wX_widest_14 post J (nI u) (nI c) (tw_X P) vs n s (nI i)) (tw_wi P D u) s0 u (fun n => ?_) (fun n i s hi h => ?_)
  · exact br_t (nI_le (Nat.le_refl u) (by omega)) (nm_r (nI_1 u) hJ)
  · refine br_f (nI_ge hi (by omega)) (tx_far T hu (Nat.lt_trans hi hu) (br_c (fun q => nm_r (nI_1 i) ?_) (fun q => nm_r (nI_1 i) ?_)))
    · rw [tw_wi_f q] at h
      exact h
    · rw [tw_wi_t q] at h
      exact h
theorem tx_widest (T : tw_T P D c) {post : Int32 → Prop} (hp : post (tw_wd P D c)) : wpX_widest post (nI c, tw_X P, vs) := by
  have h24 := T.2.1
  unfold wpX_widest
  dsimp only
  refine tw_lpa (fun n i s => wX_widest_4 post (nI c) (tw_X P) vs n s (nI i)) (tw_wo P D) 0 c (fun n => ?_) (fun n i s hi h => ?_)
  · exact br_t (nI_le (Nat.le_refl c) (by omega)) hp
  · exact br_f (nI_ge hi (by omega)) (tx_wi T hi h)
theorem tx_heart (T : tw_T P D c) {post : Int32 → Prop} (hp : post (nI (tw_ht P D c (c - 1)))) : wpX_heart post (nI c, tw_X P, vs) := by
  have h24 := T.2.1
  have h0 := T.1
  unfold wpX_heart
  dsimp only
  refine tx_sum (v := 0) T T.1 ?_
  refine ⟨c - 1 + 1, tw_lp (fun n m b => wX_heart_10 post (nI c) (tw_X P) vs n (nI b) (tw_S P D c b) (nI (m + 1))) (tw_hs P D c) 0 (c - 1) (fun n => ?_) (fun n m hm h => ?_) (c - 1) 0 (Nat.zero_add _)⟩
  · exact br_t (nI_le (by omega) (by omega)) hp
  · have hb : tw_fd (tw_hs P D c) 0 m < c := tw_ht_lt P D c h0 m (by omega)
    refine br_f (nI_ge (by omega) (by omega)) (tx_sum T (by omega) ?_)
    refine br_c (fun q => nm_r (nI_1 (m + 1)) ?_) (fun q => nm_r (nI_1 (m + 1)) ?_)
    · rw [tw_hs_f q] at h
      exact h
    · rw [tw_hs_t q] at h
      exact h
theorem tx_wayNode_y (T : tw_T P D c) {post : Int32 → Prop} {u v j : Nat} (hu : u < c) (hv : v < c) (hj : j ≤ tw_far P D u v) (hp : post (nI (tw_wn P D u v j))) :
    wpX_wayNode post (nI c, tw_X P, vs) (nI u) (nI v) (nI j) := by
  have h24 := T.2.1
  have l := tw_far_lt T hu hv
  have du := tw_D24 T hu
  unfold wpX_wayNode
  dsimp only
  refine tx_isNode_y h24 hu (br_f tw_10 (tx_isNode_y h24 hv (br_f tw_10 (tx_far T hu hv (tx_btw_y (nI_pos (by omega)) (nI_le hj (by omega)) (br_f tw_10 (tx_fork T hu hv (tx_far T hu (tw_F_lt T hu hv) ?_))))))))
  rw [tw_far_F T hu hv]
  have hp' : post (nI (if j ≤ D u - D (tw_F P D u v) then tw_it P j u else tw_it P (tw_far P D u v - j) v)) := hp
  refine pk_lt (D u - D (tw_F P D u v)) j (fun q => ?_) (fun q => ?_)
  · rw [if_neg (by omega)] at hp'
    exact tx_aboveS T hv (by omega) (by omega) hp'
  · rw [if_pos q] at hp'
    exact tx_above T hu (by omega) hp'
theorem tx_wayNode_n (T : tw_T P D c) {post : Int32 → Prop} {u v : Nat} {k : Int32} (hu : u < c) (hv : v < c) (hk : k < 0 ∨ ¬ k ≤ nI (tw_far P D u v)) (hp : post (-3000000)) :
    wpX_wayNode post (nI c, tw_X P, vs) (nI u) (nI v) k := by
  have h24 := T.2.1
  unfold wpX_wayNode
  dsimp only
  refine tx_isNode_y h24 hu (br_f tw_10 (tx_isNode_y h24 hv (br_f tw_10 (tx_far T hu hv ?_))))
  by_cases z : k < 0
  · exact tx_btw_l z (br_t rfl hp)
  · rcases hk with hk | hk
    · exact absurd hk z
    · exact tx_btw_h z hk (br_t rfl hp)
theorem tx_middle (T : tw_T P D c) {post : Int32 → Prop} {u v w : Nat} (hu : u < c) (hv : v < c) (hw : w < c) (hp : post (nI (tw_mid P D u v w))) :
    wpX_middle post (nI c, tw_X P, vs) (nI u) (nI v) (nI w) := by
  have h24 := T.2.1
  have f1 := tw_c24 T (tw_F_lt T hu hv)
  have f2 := tw_c24 T (tw_F_lt T hu hw)
  have f3 := tw_c24 T (tw_F_lt T hv hw)
  unfold wpX_middle
  dsimp only
  refine tx_isNode_y h24 hu (br_f tw_10 (tx_isNode_y h24 hv (br_f tw_10 (tx_isNode_y h24 hw (br_f tw_10 (tx_fork T hu hv (tx_fork T hu hw (tx_fork T hv hw ?_))))))))
  have hp' : post (nI (if tw_F P D u v = tw_F P D u w then tw_F P D v w else if tw_F P D u v = tw_F P D v w then tw_F P D u w else tw_F P D u v)) := hp
  refine pk_eq (tw_F P D u v) (tw_F P D u w) (fun e => ?_) (fun e => pk_eq (tw_F P D u v) (tw_F P D v w) (fun g => ?_) (fun g => ?_))
  · rw [if_pos e] at hp'
    exact hp'
  · rw [if_neg e, if_pos g] at hp'
    exact hp'
  · rw [if_neg e, if_neg g] at hp'
    exact hp'
end
