section
variable {P D : Nat → Nat} {c : Nat} {vs : Nat → Int32}
theorem ty_isNode_n {a : Nat → Int32} {x : Int32} {post : Int32 → Prop} (h : tw_bad c x) (hp : post 0) : wpY_isNode post (nI c, a, vs) x := by
  rcases h with h | h
  · exact br_t h hp
  · by_cases z : x < 0
    · exact br_t z hp
    · exact br_f z (br_t h hp)
theorem ty_isNode_y {a : Nat → Int32} {j : Nat} {post : Int32 → Prop} (hc : c ≤ 24) (h : j < c) (hp : post 1) : wpY_isNode post (nI c, a, vs) (nI j) :=
  br_f (nI_pos (by omega)) (br_f (nI_ge h (by omega)) hp)
theorem ty_in_l (T : tw_T P D c) {post : Int32 → Prop} {v : Nat} (hv : v < c) {b : Bool} (hp : post (tw_b b)) : ∀ d n, n < c → D n = d → tw_in P D n v = b →
    wY_isIn_2 post (nI v) (nI c) (tw_Y P) vs (d + 2) (nI n) := by
  have v24 := tw_c24 T hv
  intro d
  induction d with
  | zero =>
    intro n hn hd hb
    have e0 : n = 0 := tw_D0 T hn hd
    subst e0
    refine br_f (nI_pos (by omega)) (pk_eq 0 v (fun e => ?_) (fun e => ?_))
    · rw [← hb, ← e, tw_in_rf T hn] at hp
      exact hp
    · rw [← hb, tw_in_0 T (fun k => e k.symm)] at hp
      exact ⟨vp_in_nI (by omega) (by omega), nm_r (tw_Y_0 P) (br_t (by decide) hp)⟩
  | succ d ih =>
    intro n hn hd hb
    have h0 := tw_nz T hd
    have e1 := T.2.2.2.2.2 n hn h0
    have h24 := tw_c24 T hn
    refine br_f (nI_pos (by omega)) (pk_eq n v (fun e => ?_) (fun e => ?_))
    · rw [← hb, ← e, tw_in_rf T hn] at hp
      exact hp
    · rw [tw_in_st T hn e] at hb
      exact ⟨vp_in_nI h24 (by omega), nm_r (tw_Y_at P h24 h0) (ih (P n) (T.2.2.2.2.1 n) (by omega) hb)⟩
theorem ty_in (T : tw_T P D c) {post : Int32 → Prop} {n v : Nat} (hn : n < c) (hv : v < c) (hp : post (tw_b (tw_in P D n v))) :
    wpY_isIn post (nI c, tw_Y P, vs) (nI n) (nI v) :=
  ⟨D n + 2, ty_in_l T hv hp (D n) n hn rfl rfl⟩
theorem ty_steps_l (T : tw_T P D c) {post : Int32 → Prop} {t : Nat} (ht : t < 24) (hp : post (nI t)) : ∀ d n s, n < c → D n = d → d + s = t →
    wY_steps_4 post (nI c) (tw_Y P) vs (d + 1) (nI s) (nI n) := by
  intro d
  induction d with
  | zero =>
    intro n s hn hd e
    have e0 : n = 0 := tw_D0 T hn hd
    have e1 : s = t := by omega
    subst e0
    rw [e1]
    refine ⟨vp_in_nI (by omega) (by omega), ?_⟩
    rw [tw_Y_0]
    exact br_t (by decide) hp
  | succ d ih =>
    intro n s hn hd e
    have h0 := tw_nz T hd
    have e1 := T.2.2.2.2.2 n hn h0
    have h24 := tw_c24 T hn
    have p24 := tw_c24 T (T.2.2.2.2.1 n)
    refine ⟨vp_in_nI h24 (by omega), ?_⟩
    rw [tw_Y_at P h24 h0]
    refine br_f (nI_pos (by omega)) ⟨vp_in_nI h24 (by omega), ?_⟩
    exact nm_e (nm_r (nI_1 s) (ih (P n) (s + 1) (T.2.2.2.2.1 n) (by omega) (by omega)))
theorem ty_steps (T : tw_T P D c) {post : Int32 → Prop} {n : Nat} (hn : n < c) (hp : post (nI (D n))) :
    wpY_steps post (nI c, tw_Y P, vs) (nI n) :=
  ⟨D n + 1, ty_steps_l T (tw_D24 T hn) hp (D n) n 0 hn rfl rfl⟩
theorem ty_join_l (T : tw_T P D c) {post : Int32 → Prop} {v f : Nat} (hv : v < c) (hp : post (nI f)) : ∀ d u, u < c → D u = d → tw_fk P D v d u = f →
    wY_join_2 post (nI v) (nI c) (tw_Y P) vs (d + 1) (nI u) := by
  intro d
  induction d with
  | zero =>
    intro u hu hd e
    have e0 : u = 0 := tw_D0 T hu hd
    have e1 : u = f := e
    refine ty_in T hv hu ?_
    rw [e0, tw_in_top T hv]
    rw [← e1, e0] at hp
    exact br_f (by decide) hp
  | succ d ih =>
    intro u hu hd e
    have h0 := tw_nz T hd
    have e1 := T.2.2.2.2.2 u hu h0
    have h24 := tw_c24 T hu
    refine ty_in T hv hu (tw_br (fun z => ?_) (fun z => ?_))
    · have q : tw_fk P D v d (P u) = f := by rw [← e]; exact (if_neg (by rw [z]; exact Bool.false_ne_true)).symm
      exact ⟨vp_in_nI h24 (by omega), nm_r (tw_Y_at P h24 h0) (ih (P u) (T.2.2.2.2.1 u) (by omega) q)⟩
    · have q : u = f := by rw [← e]; exact (if_pos z).symm
      rw [q]
      exact hp
theorem ty_join (T : tw_T P D c) {post : Int32 → Prop} {u v : Nat} (hu : u < c) (hv : v < c) (hp : post (nI (tw_F P D u v))) :
    wpY_join post (nI c, tw_Y P, vs) (nI u) (nI v) :=
  ⟨D u + 1, ty_join_l T hv hp (D u) u hu rfl rfl⟩
theorem ty_far (T : tw_T P D c) {post : Int32 → Prop} {u v : Nat} (hu : u < c) (hv : v < c) (hp : post (nI (tw_far P D u v))) :
    wpY_far post (nI c, tw_Y P, vs) (nI u) (nI v) := by
  unfold wpY_far
  dsimp only
  refine ty_join T hu hv (ty_steps T hu (ty_steps T hv (ty_steps T (tw_F_lt T hu hv) ?_)))
  rw [tw_far_i T hu hv]
  exact hp
theorem ty_on (T : tw_T P D c) {post : Int32 → Prop} {n u v : Nat} (hn : n < c) (hu : u < c) (hv : v < c) (hp : post (tw_b (tw_on P D n u v))) :
    wpY_isOn post (nI c, tw_Y P, vs) (nI n) (nI u) (nI v) := by
  unfold wpY_isOn
  dsimp only
  refine ty_far T hu hn (ty_far T hn hv (ty_far T hu hv ?_))
  refine ek_if (tw_on_i T hn hu hv) (fun z => ?_) (fun z => ?_)
  · rw [z] at hp
    exact hp
  · rw [Bool.eq_false_iff.mpr z] at hp
    exact hp
theorem ty_sum (T : tw_T P D c) {post : Int32 → Prop} {v : Nat} (hv : v < c) (hp : post (tw_S P D c v)) :
    wpY_sumFrom post (nI c, tw_Y P, vs) (nI v) := by
  unfold wpY_sumFrom
  dsimp only
  have h24 := T.2.1
  refine tw_lpa (fun n i s => wY_sumFrom_4 post (nI v) (nI c) (tw_Y P) vs n s (nI i)) (fun w s => s + nI (tw_far P D v w)) 0 c (fun n => ?_) (fun n i s hi h => ?_)
  · exact br_t (nI_le (Nat.le_refl c) (by omega)) hp
  · exact br_f (nI_ge hi (by omega)) (ty_far T hv hi (nm_e (nm_r (nI_1 i) h)))
end
