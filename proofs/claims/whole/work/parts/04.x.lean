section
variable {P D : Nat → Nat} {c : Nat} {vs : Nat → Int32}
theorem tx_isNode_n {a : Nat → Int32} {x : Int32} {post : Int32 → Prop} (h : tw_bad c x) (hp : post 0) : wpX_isNode post (nI c, a, vs) x := by
  rcases h with h | h
  · exact br_t h hp
  · by_cases z : x < 0
    · exact br_t z hp
    · exact br_f z (br_t h hp)
theorem tx_isNode_y {a : Nat → Int32} {j : Nat} {post : Int32 → Prop} (hc : c ≤ 24) (h : j < c) (hp : post 1) : wpX_isNode post (nI c, a, vs) (nI j) :=
  br_f (nI_pos (by omega)) (br_f (nI_ge h (by omega)) hp)
theorem tx_above_l (T : tw_T P D c) {post : Int32 → Prop} {k : Nat} (hk : k < 100) : ∀ d i n, n < c → i + d = k → post (nI (tw_it P d n)) →
    wX_above_5 post (nI k) (nI c) (tw_X P) vs (d + 1) (nI n) (nI i) := by
  intro d
  induction d with
  | zero =>
    intro i n hn hi hp
    exact br_t (nI_le (by omega) (by omega)) hp
  | succ d ih =>
    intro i n hn hi hp
    exact br_f (nI_ge (by omega) (by omega)) ⟨vp_in_nI (tw_c24 T hn) (by omega), nm_r (tw_X_at P (tw_c24 T hn)) (nm_r (nI_1 i) (ih (i + 1) (P n) (T.2.2.2.2.1 n) (by omega) hp))⟩
theorem tx_above (T : tw_T P D c) {post : Int32 → Prop} {n k : Nat} (hn : n < c) (hk : k < 100) (hp : post (nI (tw_it P k n))) :
    wpX_above post (nI c, tw_X P, vs) (nI n) (nI k) :=
  ⟨k + 1, tx_above_l T hk k 0 n hn (Nat.zero_add k) hp⟩
theorem tx_aboveS (T : tw_T P D c) {post : Int32 → Prop} {n a b : Nat} (hn : n < c) (ha : a < 100) (hb : b < 100) (hp : post (nI (tw_it P (a - b) n))) :
    wpX_above post (nI c, tw_X P, vs) (nI n) (nI a - nI b) := by
  by_cases h : b ≤ a
  · rw [pk_sub h]
    exact tx_above T hn (by omega) hp
  · have e : a - b = 0 := by omega
    rw [e] at hp
    exact ⟨1, br_t (Int32.le_of_lt (pk_sneg (by omega) (by omega))) hp⟩
theorem tx_depth_l (T : tw_T P D c) {post : Int32 → Prop} {t : Nat} (ht : t < 24) (hp : post (nI t)) : ∀ d n s, n < c → D n = d → d + s = t →
    wX_depthOf_4 post (nI c) (tw_X P) vs (d + 1) (nI n) (nI s) := by
  intro d
  induction d with
  | zero =>
    intro n s hn hd e
    have e0 : n = 0 := tw_D0 T hn hd
    have e1 : s = t := by omega
    rw [e0, e1]
    exact br_t nI_0 hp
  | succ d ih =>
    intro n s hn hd e
    have h0 := tw_nz T hd
    have e1 := T.2.2.2.2.2 n hn h0
    have h24 := tw_c24 T hn
    exact br_f (nI_ne0 (by omega) (by omega)) (br_f (nI_ge (b := 24) (by omega) (by decide)) ⟨vp_in_nI h24 (by omega), nm_r (tw_X_at P h24) (nm_r (nI_1 s) (ih (P n) (s + 1) (T.2.2.2.2.1 n) (by omega) (by omega)))⟩)
theorem tx_depth (T : tw_T P D c) {post : Int32 → Prop} {n : Nat} (hn : n < c) (hp : post (nI (D n))) :
    wpX_depthOf post (nI c, tw_X P, vs) (nI n) :=
  ⟨D n + 1, tx_depth_l T (tw_D24 T hn) hp (D n) n 0 hn rfl rfl⟩
theorem tx_in (T : tw_T P D c) {post : Int32 → Prop} {n v : Nat} (hn : n < c) (hv : v < c) (hp : post (tw_b (tw_in P D n v))) :
    wpX_isInPart post (nI c, tw_X P, vs) (nI n) (nI v) := by
  have a := tw_D24 T hn
  have b := tw_D24 T hv
  unfold wpX_isInPart
  dsimp only
  refine tx_depth T hn (tx_depth T hv ?_)
  by_cases h : D v ≤ D n
  · refine nm_r (pk_sub h) (br_f (nI_pos (by omega)) (tx_above T hn (by omega) ?_))
    have q := tw_c24 T (tw_it_lt T (D n - D v) n hn)
    have w := tw_c24 T hv
    refine pk_eq (tw_it P (D n - D v) n) v (fun e => ?_) (fun e => ?_)
    · have z : tw_in P D n v = true := decide_eq_true ⟨h, e⟩
      rw [z] at hp
      exact hp
    · have z : tw_in P D n v = false := decide_eq_false (fun k => e k.2)
      rw [z] at hp
      exact hp
  · have z : tw_in P D n v = false := decide_eq_false (fun k => h k.1)
    rw [z] at hp
    exact nm_e (br_t (pk_sneg (by omega) (by omega)) hp)
theorem tx_fork_l (T : tw_T P D c) {post : Int32 → Prop} {f : Nat} (hp : post (nI f)) : ∀ d a b i, a < c → b < c → D a = d → D b = d → i + d < 24 → tw_lk P d a b = f →
    wX_forkOf_38 post (nI c) (tw_X P) vs (d + 1) (nI a) (nI b) (nI i) := by
  intro d
  induction d with
  | zero =>
    intro a b i ha hb h1 h2 h3 h4
    have ea := tw_D0 T ha h1
    have eb := tw_D0 T hb h2
    have ef : a = f := h4
    rw [← ef, ea] at hp
    rw [ea, eb]
    exact br_f (nI_ge (b := 24) (by omega) (by decide)) (br_t rfl hp)
  | succ d ih =>
    intro a b i ha hb h1 h2 h3 h4
    have d1 := T.2.2.2.2.2 a ha (tw_nz T h1)
    have d2 := T.2.2.2.2.2 b hb (tw_nz T h2)
    have a24 := tw_c24 T ha
    have b24 := tw_c24 T hb
    refine br_f (nI_ge (b := 24) (by omega) (by decide)) (pk_eq a b (fun e => ?_) (fun e => ?_))
    · have ef : a = f := by rw [← h4]; exact (if_pos e).symm
      rw [ef]
      exact hp
    · have h5 : tw_lk P d (P a) (P b) = f := by rw [← h4]; exact (if_neg e).symm
      exact ⟨vp_in_nI a24 (by omega), nm_r (tw_X_at P a24) ⟨vp_in_nI b24 (by omega), nm_r (tw_X_at P b24) (nm_r (nI_1 i) (ih (P a) (P b) (i + 1) (T.2.2.2.2.1 a) (T.2.2.2.2.1 b) (by omega) (by omega) (by omega) h5))⟩⟩
theorem tx_fork (T : tw_T P D c) {post : Int32 → Prop} {u v : Nat} (hu : u < c) (hv : v < c) (hp : post (nI (tw_F P D u v))) :
    wpX_forkOf post (nI c, tw_X P, vs) (nI u) (nI v) := by
  have a := tw_D24 T hu
  have b := tw_D24 T hv
  have ea := tw_D_it T (D u - D v) u hu (Nat.sub_le _ _)
  have eb := tw_D_it T (D v - D u) v hv (Nat.sub_le _ _)
  unfold wpX_forkOf
  dsimp only
  refine tx_depth T hu (tx_depth T hv (tx_aboveS T hu (by omega) (by omega) (tx_aboveS T hv (by omega) (by omega) ?_)))
  exact ⟨_, tx_fork_l T hp (D (tw_it P (D u - D v) u)) _ _ 0 (tw_it_lt T _ _ hu) (tw_it_lt T _ _ hv) rfl (by omega) (by omega) (tw_F_X T hu hv)⟩
theorem tx_far (T : tw_T P D c) {post : Int32 → Prop} {u v : Nat} (hu : u < c) (hv : v < c) (hp : post (nI (tw_far P D u v))) :
    wpX_distanceOf post (nI c, tw_X P, vs) (nI u) (nI v) := by
  unfold wpX_distanceOf
  dsimp only
  refine tx_fork T hu hv (tx_depth T hu (tx_depth T hv (tx_depth T (tw_F_lt T hu hv) ?_)))
  rw [tw_far_i T hu hv]
  exact hp
theorem tx_on (T : tw_T P D c) {post : Int32 → Prop} {n u v : Nat} (hn : n < c) (hu : u < c) (hv : v < c) (hp : post (tw_b (tw_on P D n u v))) :
    wpX_isOnWay post (nI c, tw_X P, vs) (nI n) (nI u) (nI v) (nI (tw_F P D u v)) := by
  unfold wpX_isOnWay
  dsimp only
  have k : tw_on P D n u v = (tw_in P D n (tw_F P D u v) && (tw_in P D u n || tw_in P D v n)) := rfl
  refine tx_in T hn (tw_F_lt T hu hv) (tw_br (fun z => ?_) (fun z => ?_))
  · rw [k, z] at hp
    exact hp
  · refine tx_in T hu hn (tw_br (fun z1 => ?_) (fun z1 => ?_))
    · refine tx_in T hv hn (tw_br (fun z2 => ?_) (fun z2 => ?_))
      · rw [k, z, z1, z2] at hp
        exact hp
      · rw [k, z, z1, z2] at hp
        exact hp
    · rw [k, z, z1] at hp
      exact hp
theorem tx_sum (T : tw_T P D c) {post : Int32 → Prop} {v : Nat} (hv : v < c) (hp : post (tw_S P D c v)) :
    wpX_distancesFrom post (nI c, tw_X P, vs) (nI v) := by
  unfold wpX_distancesFrom
  dsimp only
  have h24 := T.2.1
  refine tw_lpa (fun n i s => wX_distancesFrom_4 post (nI v) (nI c) (tw_X P) vs n s (nI i)) (fun w s => s + nI (tw_far P D v w)) 0 c (fun n => ?_) (fun n i s hi h => ?_)
  · exact br_t (nI_le (Nat.le_refl c) (by omega)) hp
  · exact br_f (nI_ge hi (by omega)) (tx_far T hv hi (nm_e (nm_r (nI_1 i) h)))
end
