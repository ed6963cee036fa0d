/-- the odd one of three forks -/
def tw_mid (P D : Nat → Nat) (u v w : Nat) : Nat :=
  if tw_F P D u v = tw_F P D u w then tw_F P D v w else if tw_F P D u v = tw_F P D v w then tw_F P D u w else tw_F P D u v
/-- the node k steps from u on the way to v -/
def tw_wn (P D : Nat → Nat) (u v k : Nat) : Nat :=
  if k ≤ D u - D (tw_F P D u v) then tw_it P k u else tw_it P (tw_far P D u v - k) v
/-- upd over naturals -/
def tw_up (f : Nat → Nat) (i x : Nat) : Nat → Nat := fun j => if j = i then x else f j
section
variable {P D : Nat → Nat} {c : Nat}
theorem tw_mid_x (T : tw_T P D c) {x u v w f g h : Nat} (hx : x < c) (hu : u < c) (hv : v < c) (hw : w < c)
    (hf : tw_isF P D u v f) (hg : tw_isF P D u w g) (hh : tw_isF P D v w h) :
    ((tw_A P f x ∧ (tw_A P x u ∨ tw_A P x v)) ∧ (tw_A P g x ∧ (tw_A P x u ∨ tw_A P x w)) ∧ (tw_A P h x ∧ (tw_A P x v ∨ tw_A P x w)))
      ↔ x = (if f = g then h else if f = h then g else f) := by
  obtain ⟨f1, f2, f3⟩ := hf
  obtain ⟨g1, g2, g3⟩ := hg
  obtain ⟨h1, h2, h3⟩ := hh
  have efg : D f = D g → f = g := tw_A_eq T hu f1 g1
  have efh : D f = D h → f = h := tw_A_eq T hv f2 h1
  have egh : D g = D h → g = h := tw_A_eq T hw g2 h2
  have c1 : D f ≤ D g → tw_A P f g := tw_A_ch T hu f1 g1
  have c2 : D g ≤ D f → tw_A P g f := tw_A_ch T hu g1 f1
  have c3 : D f ≤ D h → tw_A P f h := tw_A_ch T hv f2 h1
  have c4 : D h ≤ D f → tw_A P h f := tw_A_ch T hv h1 f2
  have c5 : D g ≤ D h → tw_A P g h := tw_A_ch T hw g2 h2
  have c6 : D h ≤ D g → tw_A P h g := tw_A_ch T hw h2 g2
  have t1 : D f ≤ D g → D f ≤ D h := fun q => h3 f f2 (tw_A_tr (c1 q) g2)
  have t2 : D g ≤ D f → D g ≤ D h := fun q => h3 g (tw_A_tr (c2 q) f2) g2
  have t3 : D h ≤ D f → D h ≤ D g := fun q => g3 h (tw_A_tr (c4 q) f1) h2
  have t4 : D f ≤ D h → D f ≤ D g := fun q => g3 f f1 (tw_A_tr (c3 q) h2)
  have t5 : D g ≤ D h → D g ≤ D f := fun q => f3 g g1 (tw_A_tr (c5 q) h1)
  have t6 : D h ≤ D g → D h ≤ D f := fun q => f3 h (tw_A_tr (c6 q) g1) h1
  constructor
  · intro hall
    obtain ⟨⟨af, of⟩, ⟨ag, og⟩, ⟨ah, oh⟩⟩ := hall
    have df := tw_A_D T hx af
    have dg := tw_A_D T hx ag
    have dh := tw_A_D T hx ah
    have kf : tw_A P x u → tw_A P x v → f = x := fun p q => tw_A_an T hx af (f3 x p q)
    have kg : tw_A P x u → tw_A P x w → g = x := fun p q => tw_A_an T hx ag (g3 x p q)
    have kh : tw_A P x v → tw_A P x w → h = x := fun p q => tw_A_an T hx ah (h3 x p q)
    have k : f = x ∨ g = x ∨ h = x := by
      cases of with
      | inl p =>
        cases oh with
        | inl q => exact Or.inl (kf p q)
        | inr q => exact Or.inr (Or.inl (kg p q))
      | inr p =>
        cases og with
        | inl q => exact Or.inl (kf q p)
        | inr q => exact Or.inr (Or.inr (kh p q))
    by_cases z1 : f = g
    · rw [if_pos z1]
      have y1 : D f = D g := by rw [z1]
      have y2 := t1 (by omega)
      cases k with
      | inl e => rw [← e]; exact efh (by rw [← e] at dh; omega)
      | inr k =>
        cases k with
        | inl e => rw [← e]; exact egh (by rw [← e] at dh; omega)
        | inr e => exact e.symm
    · rw [if_neg z1]
      by_cases z2 : f = h
      · rw [if_pos z2]
        have y1 : D f = D h := by rw [z2]
        have y2 := t4 (by omega)
        cases k with
        | inl e => rw [← e]; exact efg (by rw [← e] at dg; omega)
        | inr k =>
          cases k with
          | inl e => exact e.symm
          | inr e => rw [← e]; exact (egh (by rw [← e] at dg; omega)).symm
      · rw [if_neg z2]
        have n1 : D f ≠ D g := fun e => z1 (efg e)
        have n2 : D f ≠ D h := fun e => z2 (efh e)
        cases k with
        | inl e => exact e.symm
        | inr k =>
          cases k with
          | inl e =>
            rw [← e] at df dh
            have s : D f ≤ D g := df
            have s2 := t1 s
            have s3 : ¬ D h ≤ D g := by
              intro s4
              have s5 := t6 s4
              omega
            exact absurd dh s3
          | inr e =>
            rw [← e] at df dg
            have s2 := t4 df
            have s3 : ¬ D g ≤ D h := by
              intro s4
              have s5 := t5 s4
              omega
            exact absurd dg s3
  · intro e
    by_cases z1 : f = g
    · rw [if_pos z1] at e
      have y1 : D f = D g := by rw [z1]
      have y2 := t1 (by omega)
      rw [e]
      exact ⟨⟨c3 y2, Or.inr h1⟩, ⟨c5 (by omega), Or.inr h2⟩, ⟨tw_A_refl P h, Or.inl h1⟩⟩
    · rw [if_neg z1] at e
      by_cases z2 : f = h
      · rw [if_pos z2] at e
        have y1 : D f = D h := by rw [z2]
        have y2 := t4 (by omega)
        rw [e]
        exact ⟨⟨c1 y2, Or.inl g1⟩, ⟨tw_A_refl P g, Or.inl g1⟩, ⟨c6 (by omega), Or.inr g2⟩⟩
      · rw [if_neg z2] at e
        have n1 : D f ≠ D g := fun e => z1 (efg e)
        have n2 : D f ≠ D h := fun e => z2 (efh e)
        have y1 : ¬ D f ≤ D g := by
          intro s
          have s2 := t1 s
          by_cases s4 : D h ≤ D g
          · have s5 := t6 s4
            omega
          · have s5 := t5 (by omega)
            omega
        have y2 := t2 (by omega)
        have y3 : ¬ D f ≤ D h := by
          intro s
          have s2 := t4 s
          omega
        rw [e]
        exact ⟨⟨tw_A_refl P f, Or.inl f1⟩, ⟨c2 (by omega), Or.inl f1⟩, ⟨c4 (by omega), Or.inl f2⟩⟩
theorem tw_mid_on (T : tw_T P D c) {x u v w : Nat} (hx : x < c) (hu : u < c) (hv : v < c) (hw : w < c) :
    (tw_on P D x u v = true ∧ tw_on P D x u w = true ∧ tw_on P D x v w = true) ↔ x = tw_mid P D u v w := by
  rw [tw_on_iff T hx hu hv, tw_on_iff T hx hu hw, tw_on_iff T hx hv hw]
  exact tw_mid_x T hx hu hv hw (tw_F_is T hu hv) (tw_F_is T hu hw) (tw_F_is T hv hw)
theorem tw_mid_lt (T : tw_T P D c) {u v w : Nat} (hu : u < c) (hv : v < c) (hw : w < c) : tw_mid P D u v w < c := by
  unfold tw_mid
  by_cases z1 : tw_F P D u v = tw_F P D u w
  · rw [if_pos z1]; exact tw_F_lt T hv hw
  · rw [if_neg z1]
    by_cases z2 : tw_F P D u v = tw_F P D v w
    · rw [if_pos z2]; exact tw_F_lt T hu hw
    · rw [if_neg z2]; exact tw_F_lt T hu hv
/-- the distance from u of a node on the way: on u's side, on v's side -/
theorem tw_far_u (T : tw_T P D c) {n u : Nat} (hn : n < c) (hu : u < c) (h : tw_A P n u) : tw_far P D u n = D u - D n := by
  have e : tw_F P D u n = n := tw_F_eq T hu hn ⟨h, tw_A_refl P n, fun g _ k => tw_A_D T hn k⟩
  have m := tw_A_D T hu h
  unfold tw_far
  rw [e]
  omega
theorem tw_far_v (T : tw_T P D c) {n u v : Nat} (hn : n < c) (hu : u < c) (hv : v < c) (h : tw_A P n v)
    (hf : tw_A P (tw_F P D u v) n) : tw_far P D u n = D u + D n - 2 * D (tw_F P D u v) := by
  obtain ⟨f1, f2, f3⟩ := tw_F_is T hu hv
  have e : tw_F P D u n = tw_F P D u v := tw_F_eq T hu hn ⟨f1, hf, fun g k l => f3 g k (tw_A_tr l h)⟩
  unfold tw_far
  rw [e]
theorem tw_wn_lt (T : tw_T P D c) {u v : Nat} (hu : u < c) (hv : v < c) (k : Nat) : tw_wn P D u v k < c := by
  unfold tw_wn
  by_cases z : k ≤ D u - D (tw_F P D u v)
  · rw [if_pos z]; exact tw_it_lt T _ _ hu
  · rw [if_neg z]; exact tw_it_lt T _ _ hv
theorem tw_wn_x (T : tw_T P D c) {n u v k r l f : Nat} (hn : n < c) (hu : u < c) (hv : v < c) (hk : k ≤ l)
    (hf : tw_isF P D u v f) (ef : l = D u + D v - 2 * D f) (tu : tw_A P n u → r = D u - D n)
    (tv : tw_A P n v → tw_A P f n → r = D u + D n - 2 * D f) :
    ((tw_A P f n ∧ (tw_A P n u ∨ tw_A P n v)) ∧ r = k) ↔ n = (if k ≤ D u - D f then tw_it P k u else tw_it P (l - k) v) := by
  obtain ⟨f1, f2, f3⟩ := hf
  have m1 := tw_A_D T hu f1
  have m2 := tw_A_D T hv f2
  constructor
  · intro h
    obtain ⟨⟨af, ho⟩, er⟩ := h
    have m3 := tw_A_D T hn af
    by_cases z : k ≤ D u - D f
    · rw [if_pos z]
      have au : tw_A P n u := by
        cases ho with
        | inl h1 => exact h1
        | inr h1 =>
          have e1 := tv h1 af
          have e2 : f = n := tw_A_an T hn af (by omega)
          rw [← e2]
          exact f1
      have e1 := tu au
      have e2 := (tw_A_iff T hu n).mp au
      have e3 : D u - D n = k := by omega
      have e4 := e2.2
      rw [e3] at e4
      exact e4.symm
    · rw [if_neg z]
      have av : tw_A P n v := by
        cases ho with
        | inl h1 =>
          have e1 := tu h1
          exact absurd (show k ≤ D u - D f by omega) z
        | inr h1 => exact h1
      have e1 := tv av af
      have e2 := (tw_A_iff T hv n).mp av
      have e4 := e2.2
      have e5 := e2.1
      have e3 : D v - D n = l - k := by omega
      rw [e3] at e4
      exact e4.symm
  · intro e
    by_cases z : k ≤ D u - D f
    · rw [if_pos z] at e
      have au : tw_A P n u := ⟨k, e.symm⟩
      have e1 := tw_D_it T k u hu (by omega)
      rw [← e] at e1
      have e2 := tu au
      exact ⟨⟨tw_A_ch T hu f1 au (by omega), Or.inl au⟩, by omega⟩
    · rw [if_neg z] at e
      have av : tw_A P n v := ⟨l - k, e.symm⟩
      have e1 := tw_D_it T (l - k) v hv (by omega)
      rw [← e] at e1
      have af : tw_A P f n := tw_A_ch T hv f2 av (by omega)
      have e2 := tv av af
      exact ⟨⟨af, Or.inr av⟩, by omega⟩
theorem tw_wn_on (T : tw_T P D c) {n u v k : Nat} (hn : n < c) (hu : u < c) (hv : v < c) (hk : k ≤ tw_far P D u v) :
    (tw_on P D n u v = true ∧ tw_far P D u n = k) ↔ n = tw_wn P D u v k := by
  rw [tw_on_iff T hn hu hv]
  exact tw_wn_x T hn hu hv hk (tw_F_is T hu hv) rfl (tw_far_u T hn hu) (tw_far_v T hn hu hv)
theorem tw_on_le (T : tw_T P D c) {n u v : Nat} (hn : n < c) (hu : u < c) (hv : v < c) (h : tw_on P D n u v = true) :
    tw_far P D u n ≤ tw_far P D u v := by
  have e := (tw_on_far T hn hu hv).mpr h
  omega
/-- the way from a node up to a fork -/
theorem tw_far_F (T : tw_T P D c) {u v : Nat} (hu : u < c) (hv : v < c) :
    tw_far P D u (tw_F P D u v) = D u - D (tw_F P D u v) := tw_far_u T (tw_F_lt T hu hv) hu (tw_F_is T hu hv).1
theorem tw_far_lt (T : tw_T P D c) {u v : Nat} (hu : u < c) (hv : v < c) : tw_far P D u v < 48 := by
  have a := tw_D_lt T hu
  have b := tw_D_lt T hv
  have d := T.2.1
  unfold tw_far
  omega
theorem tw_T_grow (T : tw_T P D c) {p : Nat} (hp : p < c) (h24 : c < 24) : tw_T (tw_up P c p) (tw_up D c (D p + 1)) (c + 1) := by
  obtain ⟨t1, t2, t3, t4, t5, t6⟩ := T
  refine ⟨by omega, by omega, ?_, ?_, ?_, ?_⟩
  · show (if 0 = c then p else P 0) = 0
    rw [if_neg (by omega)]
    exact t3
  · show (if 0 = c then D p + 1 else D 0) = 0
    rw [if_neg (by omega)]
    exact t4
  · intro j
    show (if j = c then p else P j) < c + 1
    by_cases z : j = c
    · rw [if_pos z]; omega
    · rw [if_neg z]
      have q := t5 j
      omega
  · intro n hn h0
    show (if n = c then D p + 1 else D n) = (if (if n = c then p else P n) = c then D p + 1 else D (if n = c then p else P n)) + 1
    by_cases z : n = c
    · rw [if_pos z, if_pos z, if_neg (by omega)]
    · have q := t5 n
      rw [if_neg z, if_neg z, if_neg (by omega)]
      exact t6 n (by omega) h0
theorem tw_T_move (T : tw_T P D c) {v p : Nat} (hv : v < c) (hp : p < c) (h0 : v ≠ 0) (hi : ¬ tw_in P D p v = true) :
    tw_T (tw_up P v p) (fun j => if tw_in P D j v = true then D j - D v + D p + 1 else D j) c := by
  have T' := T
  obtain ⟨t1, t2, t3, t4, t5, t6⟩ := T
  refine ⟨t1, t2, ?_, ?_, ?_, ?_⟩
  · show (if 0 = v then p else P 0) = 0
    rw [if_neg (fun e => h0 e.symm)]
    exact t3
  · show (if tw_in P D 0 v = true then D 0 - D v + D p + 1 else D 0) = 0
    have z : ¬ tw_in P D 0 v = true := by
      intro q
      have q1 := tw_A_D T' t1 ((tw_in_t T' t1 v).mp q)
      exact h0 (tw_D0 T' hv (by omega))
    rw [if_neg z]
    exact t4
  · intro j
    show (if j = v then p else P j) < c
    by_cases z : j = v
    · rw [if_pos z]; exact hp
    · rw [if_neg z]; exact t5 j
  · intro n hn hn0
    show (if tw_in P D n v = true then D n - D v + D p + 1 else D n)
      = (if tw_in P D (if n = v then p else P n) v = true then D (if n = v then p else P n) - D v + D p + 1 else D (if n = v then p else P n)) + 1
    by_cases z : n = v
    · rw [if_pos z, if_neg hi, z, if_pos ((tw_in_t T' hv v).mpr (tw_A_refl P v))]
      omega
    · rw [if_neg z]
      have e := t6 n hn hn0
      by_cases y : tw_in P D n v = true
      · have a := tw_A_st ((tw_in_t T' hn v).mp y) (fun q => z q.symm)
        have b := tw_A_D T' (t5 n) a
        rw [if_pos y, if_pos ((tw_in_t T' (t5 n) v).mpr a)]
        omega
      · have a : ¬ tw_in P D (P n) v = true := fun q => y ((tw_in_t T' hn v).mpr (tw_A_up ((tw_in_t T' (t5 n) v).mp q)))
        rw [if_neg y, if_neg a]
        exact e
theorem tw_T_new : tw_T (fun _ => 0) (fun _ => 0) 1 :=
  ⟨Nat.zero_lt_one, by decide, rfl, rfl, fun _ => Nat.zero_lt_one, fun _ h k => absurd (Nat.lt_one_iff.mp h) k⟩
end
