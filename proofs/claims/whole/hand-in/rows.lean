section
/-- so many times to the parent -/
def tw_it (P : Nat → Nat) : Nat → Nat → Nat
  | 0, n => n
  | k + 1, n => tw_it P k (P n)
/-- a tree of c nodes: P the parents, the top its own, D the depths -/
def tw_T (P D : Nat → Nat) (c : Nat) : Prop :=
  0 < c ∧ c ≤ 24 ∧ P 0 = 0 ∧ D 0 = 0 ∧ (∀ j, P j < c) ∧ (∀ n, n < c → n ≠ 0 → D n = D (P n) + 1)
/-- v lies on the way from n to the top -/
def tw_A (P : Nat → Nat) (v n : Nat) : Prop := ∃ k, tw_it P k n = v
theorem tw_it_add (P : Nat → Nat) (b : Nat) : ∀ a n, tw_it P (a + b) n = tw_it P b (tw_it P a n) := by
  intro a
  induction a with
  | zero => intro n; rw [Nat.zero_add]; rfl
  | succ a ih =>
    intro n
    have e : a + 1 + b = (a + b) + 1 := by omega
    rw [e]
    exact ih (P n)
theorem tw_it_top {P : Nat → Nat} (h : P 0 = 0) : ∀ k, tw_it P k 0 = 0 := by
  intro k
  induction k with
  | zero => rfl
  | succ k ih => show tw_it P k (P 0) = 0; rw [h]; exact ih
theorem tw_it_s (P : Nat → Nat) (k n : Nat) : tw_it P (k + 1) n = P (tw_it P k n) := by
  rw [tw_it_add P 1 k n]
  rfl
theorem tw_A_refl (P : Nat → Nat) (n : Nat) : tw_A P n n := ⟨0, rfl⟩
theorem tw_A_tr {P : Nat → Nat} {a b n : Nat} (h : tw_A P a b) (g : tw_A P b n) : tw_A P a n := by
  obtain ⟨k, hk⟩ := h
  obtain ⟨l, hl⟩ := g
  exact ⟨l + k, by rw [tw_it_add, hl, hk]⟩
theorem tw_A_up {P : Nat → Nat} {v n : Nat} (h : tw_A P v (P n)) : tw_A P v n := by
  obtain ⟨k, hk⟩ := h
  exact ⟨k + 1, hk⟩
theorem tw_A_st {P : Nat → Nat} {v n : Nat} (h : tw_A P v n) (e : v ≠ n) : tw_A P v (P n) := by
  obtain ⟨k, hk⟩ := h
  cases k with
  | zero => exact absurd hk.symm e
  | succ k => exact ⟨k, hk⟩
/-- pigeons -/
theorem tw_pg : ∀ (c m : Nat) (f : Nat → Nat), (∀ i, i < m → f i < c) → (∀ i j, i < j → j < m → f i ≠ f j) → m ≤ c := by
  intro c
  induction c with
  | zero =>
    intro m f h _
    by_cases hm : m = 0
    · omega
    · exact absurd (h 0 (by omega)) (Nat.not_lt_zero _)
  | succ c ih =>
    intro m f h g
    by_cases hx : ∃ i, i < m ∧ f i = c
    · obtain ⟨i0, hi, e0⟩ := hx
      have h1 : ∀ i, i < m - 1 → (fun i => if i < i0 then f i else f (i + 1)) i < c := by
        intro i hlt
        show (if i < i0 then f i else f (i + 1)) < c
        by_cases z : i < i0
        · rw [if_pos z]
          have k1 := h i (by omega)
          have k2 := g i i0 z hi
          rw [e0] at k2
          omega
        · rw [if_neg z]
          have k1 := h (i + 1) (by omega)
          have k2 := g i0 (i + 1) (by omega) (by omega)
          rw [e0] at k2
          omega
      have h2 : ∀ i j, i < j → j < m - 1 → (fun i => if i < i0 then f i else f (i + 1)) i ≠ (fun i => if i < i0 then f i else f (i + 1)) j := by
        intro i j hij hj
        show (if i < i0 then f i else f (i + 1)) ≠ (if j < i0 then f j else f (j + 1))
        by_cases zi : i < i0
        · by_cases zj : j < i0
          · rw [if_pos zi, if_pos zj]; exact g i j hij (by omega)
          · rw [if_pos zi, if_neg zj]; exact g i (j + 1) (by omega) (by omega)
        · have zj : ¬ j < i0 := by omega
          rw [if_neg zi, if_neg zj]; exact g (i + 1) (j + 1) (by omega) (by omega)
      have q := ih (m - 1) (fun i => if i < i0 then f i else f (i + 1)) h1 h2
      omega
    · have h1 : ∀ i, i < m → f i < c := by
        intro i hi
        have k1 := h i hi
        have k2 : f i ≠ c := fun e => hx ⟨i, hi, e⟩
        omega
      have q := ih m f h1 g
      omega
section
variable {P D : Nat → Nat} {c : Nat}
theorem tw_it_lt (T : tw_T P D c) : ∀ k n, n < c → tw_it P k n < c := by
  intro k
  induction k with
  | zero => intro n h; exact h
  | succ k ih => intro n _; exact ih (P n) (T.2.2.2.2.1 n)
theorem tw_nz (T : tw_T P D c) {n k : Nat} (e : D n = k + 1) : n ≠ 0 := by
  intro e0
  rw [e0, T.2.2.2.1] at e
  omega
theorem tw_D_it (T : tw_T P D c) : ∀ k n, n < c → k ≤ D n → D (tw_it P k n) = D n - k := by
  intro k
  induction k with
  | zero => intro n _ _; rfl
  | succ k ih =>
    intro n hn hk
    have h0 : n ≠ 0 := by
      intro e
      rw [e, T.2.2.2.1] at hk
      omega
    have e := T.2.2.2.2.2 n hn h0
    have i := ih (P n) (T.2.2.2.2.1 n) (by omega)
    show D (tw_it P k (P n)) = D n - (k + 1)
    rw [i]
    omega
theorem tw_D0 (T : tw_T P D c) {n : Nat} (hn : n < c) (h : D n = 0) : n = 0 := by
  by_cases h0 : n = 0
  · exact h0
  · have e := T.2.2.2.2.2 n hn h0
    omega
theorem tw_it_D (T : tw_T P D c) {n : Nat} (hn : n < c) : tw_it P (D n) n = 0 := by
  refine tw_D0 T (tw_it_lt T _ _ hn) ?_
  rw [tw_D_it T _ _ hn (Nat.le_refl _)]
  omega
theorem tw_A_iff (T : tw_T P D c) {n : Nat} (hn : n < c) (v : Nat) :
    tw_A P v n ↔ (D v ≤ D n ∧ tw_it P (D n - D v) n = v) := by
  constructor
  · intro hx
    obtain ⟨k, hk⟩ := hx
    by_cases h : k ≤ D n
    · have e := tw_D_it T k n hn h
      rw [hk] at e
      have e2 : D n - D v = k := by omega
      refine ⟨by omega, ?_⟩
      rw [e2]
      exact hk
    · have e1 : k = D n + (k - D n) := by omega
      rw [e1, tw_it_add, tw_it_D T hn, tw_it_top T.2.2.1] at hk
      rw [← hk, T.2.2.2.1, Nat.sub_zero]
      exact ⟨Nat.zero_le _, tw_it_D T hn⟩
  · intro h
    exact ⟨_, h.2⟩
theorem tw_A_D (T : tw_T P D c) {v n : Nat} (hn : n < c) (h : tw_A P v n) : D v ≤ D n := ((tw_A_iff T hn v).mp h).1
theorem tw_A_lt (T : tw_T P D c) {v n : Nat} (hn : n < c) (h : tw_A P v n) : v < c := by
  obtain ⟨k, hk⟩ := h
  rw [← hk]
  exact tw_it_lt T k n hn
theorem tw_A_eq (T : tw_T P D c) {a b n : Nat} (hn : n < c) (ha : tw_A P a n) (hb : tw_A P b n) (e : D a = D b) : a = b := by
  have h1 := ((tw_A_iff T hn a).mp ha).2
  have h2 := ((tw_A_iff T hn b).mp hb).2
  rw [e] at h1
  exact h1.symm.trans h2
theorem tw_A_ch (T : tw_T P D c) {a b n : Nat} (hn : n < c) (ha : tw_A P a n) (hb : tw_A P b n) (e : D a ≤ D b) : tw_A P a b := by
  have h1 := (tw_A_iff T hn a).mp ha
  have h2 := (tw_A_iff T hn b).mp hb
  have h3 := h1.2
  have h4 := h2.1
  have e2 : D n - D a = (D n - D b) + (D b - D a) := by omega
  rw [e2, tw_it_add, h2.2] at h3
  exact ⟨D b - D a, h3⟩
theorem tw_A_top (T : tw_T P D c) {n : Nat} (hn : n < c) : tw_A P 0 n := ⟨D n, tw_it_D T hn⟩
theorem tw_A_an (T : tw_T P D c) {v n : Nat} (hn : n < c) (h : tw_A P v n) (e : D n ≤ D v) : v = n :=
  tw_A_eq T hn h (tw_A_refl P n) (Nat.le_antisymm (tw_A_D T hn h) e)
theorem tw_D_lt (T : tw_T P D c) {n : Nat} (hn : n < c) : D n < c := by
  have h1 : ∀ i, i < D n + 1 → (fun i => tw_it P i n) i < c := fun i _ => tw_it_lt T i n hn
  have h2 : ∀ i j, i < j → j < D n + 1 → (fun i => tw_it P i n) i ≠ (fun i => tw_it P i n) j := by
    intro i j hij hj e
    have a := tw_D_it T i n hn (by omega)
    have b := tw_D_it T j n hn (by omega)
    have e' : tw_it P i n = tw_it P j n := e
    rw [e'] at a
    omega
  have q := tw_pg c (D n + 1) (fun i => tw_it P i n) h1 h2
  omega
end
/-- n is in the part of v -/
def tw_in (P D : Nat → Nat) (n v : Nat) : Bool := decide (D v ≤ D n ∧ tw_it P (D n - D v) n = v)
def tw_fk (P D : Nat → Nat) (v : Nat) : Nat → Nat → Nat
  | 0, u => u
  | k + 1, u => if tw_in P D v u = true then u else tw_fk P D v k (P u)
/-- the fork of u and v -/
def tw_F (P D : Nat → Nat) (u v : Nat) : Nat := tw_fk P D v (D u) u
def tw_isF (P D : Nat → Nat) (u v f : Nat) : Prop := tw_A P f u ∧ tw_A P f v ∧ ∀ g, tw_A P g u → tw_A P g v → D g ≤ D f
/-- both up until they meet -/
def tw_lk (P : Nat → Nat) : Nat → Nat → Nat → Nat
  | 0, a, _ => a
  | k + 1, a, b => if a = b then a else tw_lk P k (P a) (P b)
def tw_far (P D : Nat → Nat) (u v : Nat) : Nat := D u + D v - 2 * D (tw_F P D u v)
/-- n is on the way from u to v -/
def tw_on (P D : Nat → Nat) (n u v : Nat) : Bool := tw_in P D n (tw_F P D u v) && (tw_in P D u n || tw_in P D v n)
section
variable {P D : Nat → Nat} {c : Nat}
theorem tw_in_t (T : tw_T P D c) {n : Nat} (hn : n < c) (v : Nat) : tw_in P D n v = true ↔ tw_A P v n := by
  unfold tw_in
  rw [decide_eq_true_iff]
  exact (tw_A_iff T hn v).symm
theorem tw_fk_is (T : tw_T P D c) {v : Nat} (hv : v < c) : ∀ k u, u < c → D u = k → tw_isF P D u v (tw_fk P D v k u) := by
  intro k
  induction k with
  | zero =>
    intro u hu e
    have e0 := tw_D0 T hu e
    have h : tw_A P u v := by rw [e0]; exact tw_A_top T hv
    exact ⟨tw_A_refl P u, h, fun g h _ => tw_A_D T hu h⟩
  | succ k ih =>
    intro u hu e
    show tw_isF P D u v (if tw_in P D v u = true then u else tw_fk P D v k (P u))
    by_cases z : tw_in P D v u = true
    · rw [if_pos z]
      exact ⟨tw_A_refl P u, (tw_in_t T hv u).mp z, fun g h _ => tw_A_D T hu h⟩
    · rw [if_neg z]
      have e1 := T.2.2.2.2.2 u hu (tw_nz T e)
      obtain ⟨a, b, q⟩ := ih (P u) (T.2.2.2.2.1 u) (by omega)
      refine ⟨tw_A_up a, b, fun g hg hw => q g (tw_A_st hg ?_) hw⟩
      intro e2
      rw [e2] at hw
      exact z ((tw_in_t T hv u).mpr hw)
theorem tw_F_is (T : tw_T P D c) {u v : Nat} (hu : u < c) (hv : v < c) : tw_isF P D u v (tw_F P D u v) := tw_fk_is T hv (D u) u hu rfl
theorem tw_isF_u (T : tw_T P D c) {u v f g : Nat} (hu : u < c) (h : tw_isF P D u v f) (k : tw_isF P D u v g) : f = g :=
  tw_A_eq T hu h.1 k.1 (Nat.le_antisymm (k.2.2 f h.1 h.2.1) (h.2.2 g k.1 k.2.1))
theorem tw_isF_s {u v f : Nat} (h : tw_isF P D u v f) : tw_isF P D v u f := ⟨h.2.1, h.1, fun g a b => h.2.2 g b a⟩
theorem tw_F_s (T : tw_T P D c) {u v : Nat} (hu : u < c) (hv : v < c) : tw_F P D u v = tw_F P D v u :=
  tw_isF_u T hu (tw_F_is T hu hv) (tw_isF_s (tw_F_is T hv hu))
theorem tw_F_eq (T : tw_T P D c) {u v f : Nat} (hu : u < c) (hv : v < c) (h : tw_isF P D u v f) : tw_F P D u v = f :=
  tw_isF_u T hu (tw_F_is T hu hv) h
theorem tw_F_lt (T : tw_T P D c) {u v : Nat} (hu : u < c) (hv : v < c) : tw_F P D u v < c := tw_A_lt T hu (tw_F_is T hu hv).1
theorem tw_F_Du (T : tw_T P D c) {u v : Nat} (hu : u < c) (hv : v < c) : D (tw_F P D u v) ≤ D u := tw_A_D T hu (tw_F_is T hu hv).1
theorem tw_F_Dv (T : tw_T P D c) {u v : Nat} (hu : u < c) (hv : v < c) : D (tw_F P D u v) ≤ D v := tw_A_D T hv (tw_F_is T hu hv).2.1
theorem tw_lk_is (T : tw_T P D c) : ∀ k a b, a < c → b < c → D a = k → D b = k → tw_isF P D a b (tw_lk P k a b) := by
  intro k
  induction k with
  | zero =>
    intro a b ha hb e1 e2
    have ea := tw_D0 T ha e1
    have eb := tw_D0 T hb e2
    have h : tw_A P a b := by rw [ea, eb]; exact tw_A_refl P 0
    exact ⟨tw_A_refl P a, h, fun g h _ => tw_A_D T ha h⟩
  | succ k ih =>
    intro a b ha hb e1 e2
    show tw_isF P D a b (if a = b then a else tw_lk P k (P a) (P b))
    by_cases z : a = b
    · rw [if_pos z, ← z]
      exact ⟨tw_A_refl P a, tw_A_refl P a, fun g h _ => tw_A_D T ha h⟩
    · rw [if_neg z]
      have d1 := T.2.2.2.2.2 a ha (tw_nz T e1)
      have d2 := T.2.2.2.2.2 b hb (tw_nz T e2)
      obtain ⟨x, y, q⟩ := ih (P a) (P b) (T.2.2.2.2.1 a) (T.2.2.2.2.1 b) (by omega) (by omega)
      refine ⟨tw_A_up x, tw_A_up y, fun g ga gb => q g (tw_A_st ga ?_) (tw_A_st gb ?_)⟩
      · intro e
        rw [e] at gb
        exact z (tw_A_an T hb gb (by omega))
      · intro e
        rw [e] at ga
        exact z (tw_A_an T ha ga (by omega)).symm
theorem tw_lv (T : tw_T P D c) {u v f : Nat} (hu : u < c) (hv : v < c)
    (h : tw_isF P D (tw_it P (D u - D v) u) (tw_it P (D v - D u) v) f) : tw_isF P D u v f := by
  have aA : tw_A P (tw_it P (D u - D v) u) u := ⟨_, rfl⟩
  have bA : tw_A P (tw_it P (D v - D u) v) v := ⟨_, rfl⟩
  have ea := tw_D_it T (D u - D v) u hu (Nat.sub_le _ _)
  have eb := tw_D_it T (D v - D u) v hv (Nat.sub_le _ _)
  refine ⟨tw_A_tr h.1 aA, tw_A_tr h.2.1 bA, fun g gu gv => ?_⟩
  have k1 := tw_A_D T hu gu
  have k2 := tw_A_D T hv gv
  exact h.2.2 g (tw_A_ch T hu gu aA (by omega)) (tw_A_ch T hv gv bA (by omega))
/-- X's fork -/
theorem tw_F_X (T : tw_T P D c) {u v : Nat} (hu : u < c) (hv : v < c) :
    tw_lk P (D (tw_it P (D u - D v) u)) (tw_it P (D u - D v) u) (tw_it P (D v - D u) v) = tw_F P D u v := by
  have ea := tw_D_it T (D u - D v) u hu (Nat.sub_le _ _)
  have eb := tw_D_it T (D v - D u) v hv (Nat.sub_le _ _)
  exact (tw_F_eq T hu hv (tw_lv T hu hv (tw_lk_is T _ _ _ (tw_it_lt T _ _ hu) (tw_it_lt T _ _ hv) rfl (by omega)))).symm
theorem tw_on_iff (T : tw_T P D c) {n u v : Nat} (hn : n < c) (hu : u < c) (hv : v < c) :
    tw_on P D n u v = true ↔ (tw_A P (tw_F P D u v) n ∧ (tw_A P n u ∨ tw_A P n v)) := by
  unfold tw_on
  rw [Bool.and_eq_true, Bool.or_eq_true, tw_in_t T hn, tw_in_t T hu, tw_in_t T hv]
theorem tw_on_x (T : tw_T P D c) {n u v f a b : Nat} (hn : n < c) (hu : u < c) (hv : v < c)
    (hf : tw_isF P D u v f) (ha : tw_isF P D u n a) (hb : tw_isF P D n v b) :
    (D u + D n - 2 * D a) + (D n + D v - 2 * D b) = D u + D v - 2 * D f ↔ (tw_A P f n ∧ (tw_A P n u ∨ tw_A P n v)) := by
  obtain ⟨f1, f2, f3⟩ := hf
  obtain ⟨a1, a2, a3⟩ := ha
  obtain ⟨b1, b2, b3⟩ := hb
  have m1 := tw_A_D T hu f1
  have m2 := tw_A_D T hv f2
  have m3 := tw_A_D T hu a1
  have m4 := tw_A_D T hn a2
  have m5 := tw_A_D T hn b1
  have m6 := tw_A_D T hv b2
  constructor
  · intro e
    by_cases q : D b ≤ D a
    · have ba : tw_A P b a := tw_A_ch T hn b1 a2 q
      have k := f3 b (tw_A_tr ba a1) b2
      have ean : a = n := tw_A_an T hn a2 (by omega)
      have ebf : b = f := tw_A_eq T hv b2 f2 (by omega)
      rw [ebf] at b1
      rw [ean] at a1
      exact ⟨b1, Or.inl a1⟩
    · have ab : tw_A P a b := tw_A_ch T hn a2 b1 (by omega)
      have k := f3 a a1 (tw_A_tr ab b2)
      have ebn : b = n := tw_A_an T hn b1 (by omega)
      have eaf : a = f := tw_A_eq T hu a1 f1 (by omega)
      rw [eaf] at a2
      rw [ebn] at b2
      exact ⟨a2, Or.inr b2⟩
  · intro h
    obtain ⟨hf, ho⟩ := h
    have m7 := tw_A_D T hn hf
    cases ho with
    | inl h1 =>
      have k1 := a3 n h1 (tw_A_refl P n)
      have k2 := b3 f hf f2
      have k3 := f3 b (tw_A_tr b1 h1) b2
      omega
    | inr h1 =>
      have k1 := b3 n (tw_A_refl P n) h1
      have k2 := a3 f f1 hf
      have k3 := f3 a a1 (tw_A_tr a2 h1)
      omega
/-- on the way, by distances -/
theorem tw_on_far (T : tw_T P D c) {n u v : Nat} (hn : n < c) (hu : u < c) (hv : v < c) :
    tw_far P D u n + tw_far P D n v = tw_far P D u v ↔ tw_on P D n u v = true :=
  (tw_on_x T hn hu hv (tw_F_is T hu hv) (tw_F_is T hu hn) (tw_F_is T hn hv)).trans (tw_on_iff T hn hu hv).symm
end
end
section
/-- the odd one of three forks -/
def tw_mid (P D : Nat → Nat) (u v w : Nat) : Nat :=
  if tw_F P D u v = tw_F P D u w then tw_F P D v w else if tw_F P D u v = tw_F P D v w then tw_F P D u w else tw_F P D u v
/-- the node k steps from u on the way to v -/
def tw_wn (P D : Nat → Nat) (u v k : Nat) : Nat :=
  if k ≤ D u - D (tw_F P D u v) then tw_it P k u else tw_it P (tw_far P D u v - k) v
/-- upd over naturals -/
def tw_up (f : Nat → Nat) (i x : Nat) : Nat → Nat := fun j => if j = i then x else f j
section
variable {P D : Nat → Nat} {c : Nat}
theorem tw_mid_x (T : tw_T P D c) {x u v w f g h : Nat} (hx : x < c) (hu : u < c) (hv : v < c) (hw : w < c)
    (hf : tw_isF P D u v f) (hg : tw_isF P D u w g) (hh : tw_isF P D v w h) :
    ((tw_A P f x ∧ (tw_A P x u ∨ tw_A P x v)) ∧ (tw_A P g x ∧ (tw_A P x u ∨ tw_A P x w)) ∧ (tw_A P h x ∧ (tw_A P x v ∨ tw_A P x w)))
      ↔ x = (if f = g then h else if f = h then g else f) := by
  obtain ⟨f1, f2, f3⟩ := hf
  obtain ⟨g1, g2, g3⟩ := hg
  obtain ⟨h1, h2, h3⟩ := hh
  have efg : D f = D g → f = g := tw_A_eq T hu f1 g1
  have efh : D f = D h → f = h := tw_A_eq T hv f2 h1
  have egh : D g = D h → g = h := tw_A_eq T hw g2 h2
  have c1 : D f ≤ D g → tw_A P f g := tw_A_ch T hu f1 g1
  have c2 : D g ≤ D f → tw_A P g f := tw_A_ch T hu g1 f1
  have c3 : D f ≤ D h → tw_A P f h := tw_A_ch T hv f2 h1
  have c4 : D h ≤ D f → tw_A P h f := tw_A_ch T hv h1 f2
  have c5 : D g ≤ D h → tw_A P g h := tw_A_ch T hw g2 h2
  have c6 : D h ≤ D g → tw_A P h g := tw_A_ch T hw h2 g2
  have t1 : D f ≤ D g → D f ≤ D h := fun q => h3 f f2 (tw_A_tr (c1 q) g2)
  have t2 : D g ≤ D f → D g ≤ D h := fun q => h3 g (tw_A_tr (c2 q) f2) g2
  have t3 : D h ≤ D f → D h ≤ D g := fun q => g3 h (tw_A_tr (c4 q) f1) h2
  have t4 : D f ≤ D h → D f ≤ D g := fun q => g3 f f1 (tw_A_tr (c3 q) h2)
  have t5 : D g ≤ D h → D g ≤ D f := fun q => f3 g g1 (tw_A_tr (c5 q) h1)
  have t6 : D h ≤ D g → D h ≤ D f := fun q => f3 h (tw_A_tr (c6 q) g1) h1
  constructor
  · intro hall
    obtain ⟨⟨af, of⟩, ⟨ag, og⟩, ⟨ah, oh⟩⟩ := hall
    have df := tw_A_D T hx af
    have dg := tw_A_D T hx ag
    have dh := tw_A_D T hx ah
    have kf : tw_A P x u → tw_A P x v → f = x := fun p q => tw_A_an T hx af (f3 x p q)
    have kg : tw_A P x u → tw_A P x w → g = x := fun p q => tw_A_an T hx ag (g3 x p q)
    have kh : tw_A P x v → tw_A P x w → h = x := fun p q => tw_A_an T hx ah (h3 x p q)
    have k : f = x ∨ g = x ∨ h = x := by
      cases of with
      | inl p =>
        cases oh with
        | inl q => exact Or.inl (kf p q)
        | inr q => exact Or.inr (Or.inl (kg p q))
      | inr p =>
        cases og with
        | inl q => exact Or.inl (kf q p)
        | inr q => exact Or.inr (Or.inr (kh p q))
    by_cases z1 : f = g
    · rw [if_pos z1]
      have y1 : D f = D g := by rw [z1]
      have y2 := t1 (by omega)
      cases k with
      | inl e => rw [← e]; exact efh (by rw [← e] at dh; omega)
      | inr k =>
        cases k with
        | inl e => rw [← e]; exact egh (by rw [← e] at dh; omega)
        | inr e => exact e.symm
    · rw [if_neg z1]
      by_cases z2 : f = h
      · rw [if_pos z2]
        have y1 : D f = D h := by rw [z2]
        have y2 := t4 (by omega)
        cases k with
        | inl e => rw [← e]; exact efg (by rw [← e] at dg; omega)
        | inr k =>
          cases k with
          | inl e => exact e.symm
          | inr e => rw [← e]; exact (egh (by rw [← e] at dg; omega)).symm
      · rw [if_neg z2]
        have n1 : D f ≠ D g := fun e => z1 (efg e)
        have n2 : D f ≠ D h := fun e => z2 (efh e)
        cases k with
        | inl e => exact e.symm
        | inr k =>
          cases k with
          | inl e =>
            rw [← e] at df dh
            have s : D f ≤ D g := df
            have s2 := t1 s
            have s3 : ¬ D h ≤ D g := by
              intro s4
              have s5 := t6 s4
              omega
            exact absurd dh s3
          | inr e =>
            rw [← e] at df dg
            have s2 := t4 df
            have s3 : ¬ D g ≤ D h := by
              intro s4
              have s5 := t5 s4
              omega
            exact absurd dg s3
  · intro e
    by_cases z1 : f = g
    · rw [if_pos z1] at e
      have y1 : D f = D g := by rw [z1]
      have y2 := t1 (by omega)
      rw [e]
      exact ⟨⟨c3 y2, Or.inr h1⟩, ⟨c5 (by omega), Or.inr h2⟩, ⟨tw_A_refl P h, Or.inl h1⟩⟩
    · rw [if_neg z1] at e
      by_cases z2 : f = h
      · rw [if_pos z2] at e
        have y1 : D f = D h := by rw [z2]
        have y2 := t4 (by omega)
        rw [e]
        exact ⟨⟨c1 y2, Or.inl g1⟩, ⟨tw_A_refl P g, Or.inl g1⟩, ⟨c6 (by omega), Or.inr g2⟩⟩
      · rw [if_neg z2] at e
        have n1 : D f ≠ D g := fun e => z1 (efg e)
        have n2 : D f ≠ D h := fun e => z2 (efh e)
        have y1 : ¬ D f ≤ D g := by
          intro s
          have s2 := t1 s
          by_cases s4 : D h ≤ D g
          · have s5 := t6 s4
            omega
          · have s5 := t5 (by omega)
            omega
        have y2 := t2 (by omega)
        have y3 : ¬ D f ≤ D h := by
          intro s
          have s2 := t4 s
          omega
        rw [e]
        exact ⟨⟨tw_A_refl P f, Or.inl f1⟩, ⟨c2 (by omega), Or.inl f1⟩, ⟨c4 (by omega), Or.inl f2⟩⟩
theorem tw_mid_on (T : tw_T P D c) {x u v w : Nat} (hx : x < c) (hu : u < c) (hv : v < c) (hw : w < c) :
    (tw_on P D x u v = true ∧ tw_on P D x u w = true ∧ tw_on P D x v w = true) ↔ x = tw_mid P D u v w := by
  rw [tw_on_iff T hx hu hv, tw_on_iff T hx hu hw, tw_on_iff T hx hv hw]
  exact tw_mid_x T hx hu hv hw (tw_F_is T hu hv) (tw_F_is T hu hw) (tw_F_is T hv hw)
theorem tw_mid_lt (T : tw_T P D c) {u v w : Nat} (hu : u < c) (hv : v < c) (hw : w < c) : tw_mid P D u v w < c := by
  unfold tw_mid
  by_cases z1 : tw_F P D u v = tw_F P D u w
  · rw [if_pos z1]; exact tw_F_lt T hv hw
  · rw [if_neg z1]
    by_cases z2 : tw_F P D u v = tw_F P D v w
    · rw [if_pos z2]; exact tw_F_lt T hu hw
    · rw [if_neg z2]; exact tw_F_lt T hu hv
/-- the distance from u of a node on the way: on u's side, on v's side -/
theorem tw_far_u (T : tw_T P D c) {n u : Nat} (hn : n < c) (hu : u < c) (h : tw_A P n u) : tw_far P D u n = D u - D n := by
  have e : tw_F P D u n = n := tw_F_eq T hu hn ⟨h, tw_A_refl P n, fun g _ k => tw_A_D T hn k⟩
  have m := tw_A_D T hu h
  unfold tw_far
  rw [e]
  omega
theorem tw_far_v (T : tw_T P D c) {n u v : Nat} (hn : n < c) (hu : u < c) (hv : v < c) (h : tw_A P n v)
    (hf : tw_A P (tw_F P D u v) n) : tw_far P D u n = D u + D n - 2 * D (tw_F P D u v) := by
  obtain ⟨f1, f2, f3⟩ := tw_F_is T hu hv
  have e : tw_F P D u n = tw_F P D u v := tw_F_eq T hu hn ⟨f1, hf, fun g k l => f3 g k (tw_A_tr l h)⟩
  unfold tw_far
  rw [e]
theorem tw_wn_lt (T : tw_T P D c) {u v : Nat} (hu : u < c) (hv : v < c) (k : Nat) : tw_wn P D u v k < c := by
  unfold tw_wn
  by_cases z : k ≤ D u - D (tw_F P D u v)
  · rw [if_pos z]; exact tw_it_lt T _ _ hu
  · rw [if_neg z]; exact tw_it_lt T _ _ hv
theorem tw_wn_x (T : tw_T P D c) {n u v k r l f : Nat} (hn : n < c) (hu : u < c) (hv : v < c) (hk : k ≤ l)
    (hf : tw_isF P D u v f) (ef : l = D u + D v - 2 * D f) (tu : tw_A P n u → r = D u - D n)
    (tv : tw_A P n v → tw_A P f n → r = D u + D n - 2 * D f) :
    ((tw_A P f n ∧ (tw_A P n u ∨ tw_A P n v)) ∧ r = k) ↔ n = (if k ≤ D u - D f then tw_it P k u else tw_it P (l - k) v) := by
  obtain ⟨f1, f2, f3⟩ := hf
  have m1 := tw_A_D T hu f1
  have m2 := tw_A_D T hv f2
  constructor
  · intro h
    obtain ⟨⟨af, ho⟩, er⟩ := h
    have m3 := tw_A_D T hn af
    by_cases z : k ≤ D u - D f
    · rw [if_pos z]
      have au : tw_A P n u := by
        cases ho with
        | inl h1 => exact h1
        | inr h1 =>
          have e1 := tv h1 af
          have e2 : f = n := tw_A_an T hn af (by omega)
          rw [← e2]
          exact f1
      have e1 := tu au
      have e2 := (tw_A_iff T hu n).mp au
      have e3 : D u - D n = k := by omega
      have e4 := e2.2
      rw [e3] at e4
      exact e4.symm
    · rw [if_neg z]
      have av : tw_A P n v := by
        cases ho with
        | inl h1 =>
          have e1 := tu h1
          exact absurd (show k ≤ D u - D f by omega) z
        | inr h1 => exact h1
      have e1 := tv av af
      have e2 := (tw_A_iff T hv n).mp av
      have e4 := e2.2
      have e5 := e2.1
      have e3 : D v - D n = l - k := by omega
      rw [e3] at e4
      exact e4.symm
  · intro e
    by_cases z : k ≤ D u - D f
    · rw [if_pos z] at e
      have au : tw_A P n u := ⟨k, e.symm⟩
      have e1 := tw_D_it T k u hu (by omega)
      rw [← e] at e1
      have e2 := tu au
      exact ⟨⟨tw_A_ch T hu f1 au (by omega), Or.inl au⟩, by omega⟩
    · rw [if_neg z] at e
      have av : tw_A P n v := ⟨l - k, e.symm⟩
      have e1 := tw_D_it T (l - k) v hv (by omega)
      rw [← e] at e1
      have af : tw_A P f n := tw_A_ch T hv f2 av (by omega)
      have e2 := tv av af
      exact ⟨⟨af, Or.inr av⟩, by omega⟩
theorem tw_wn_on (T : tw_T P D c) {n u v k : Nat} (hn : n < c) (hu : u < c) (hv : v < c) (hk : k ≤ tw_far P D u v) :
    (tw_on P D n u v = true ∧ tw_far P D u n = k) ↔ n = tw_wn P D u v k := by
  rw [tw_on_iff T hn hu hv]
  exact tw_wn_x T hn hu hv hk (tw_F_is T hu hv) rfl (tw_far_u T hn hu) (tw_far_v T hn hu hv)
theorem tw_on_le (T : tw_T P D c) {n u v : Nat} (hn : n < c) (hu : u < c) (hv : v < c) (h : tw_on P D n u v = true) :
    tw_far P D u n ≤ tw_far P D u v := by
  have e := (tw_on_far T hn hu hv).mpr h
  omega
/-- the way from a node up to a fork -/
theorem tw_far_F (T : tw_T P D c) {u v : Nat} (hu : u < c) (hv : v < c) :
    tw_far P D u (tw_F P D u v) = D u - D (tw_F P D u v) := tw_far_u T (tw_F_lt T hu hv) hu (tw_F_is T hu hv).1
theorem tw_far_lt (T : tw_T P D c) {u v : Nat} (hu : u < c) (hv : v < c) : tw_far P D u v < 48 := by
  have a := tw_D_lt T hu
  have b := tw_D_lt T hv
  have d := T.2.1
  unfold tw_far
  omega
theorem tw_T_grow (T : tw_T P D c) {p : Nat} (hp : p < c) (h24 : c < 24) : tw_T (tw_up P c p) (tw_up D c (D p + 1)) (c + 1) := by
  obtain ⟨t1, t2, t3, t4, t5, t6⟩ := T
  refine ⟨by omega, by omega, ?_, ?_, ?_, ?_⟩
  · show (if 0 = c then p else P 0) = 0
    rw [if_neg (by omega)]
    exact t3
  · show (if 0 = c then D p + 1 else D 0) = 0
    rw [if_neg (by omega)]
    exact t4
  · intro j
    show (if j = c then p else P j) < c + 1
    by_cases z : j = c
    · rw [if_pos z]; omega
    · rw [if_neg z]
      have q := t5 j
      omega
  · intro n hn h0
    show (if n = c then D p + 1 else D n) = (if (if n = c then p else P n) = c then D p + 1 else D (if n = c then p else P n)) + 1
    by_cases z : n = c
    · rw [if_pos z, if_pos z, if_neg (by omega)]
    · have q := t5 n
      rw [if_neg z, if_neg z, if_neg (by omega)]
      exact t6 n (by omega) h0
theorem tw_T_move (T : tw_T P D c) {v p : Nat} (hv : v < c) (hp : p < c) (h0 : v ≠ 0) (hi : ¬ tw_in P D p v = true) :
    tw_T (tw_up P v p) (fun j => if tw_in P D j v = true then D j - D v + D p + 1 else D j) c := by
  have T' := T
  obtain ⟨t1, t2, t3, t4, t5, t6⟩ := T
  refine ⟨t1, t2, ?_, ?_, ?_, ?_⟩
  · show (if 0 = v then p else P 0) = 0
    rw [if_neg (fun e => h0 e.symm)]
    exact t3
  · show (if tw_in P D 0 v = true then D 0 - D v + D p + 1 else D 0) = 0
    have z : ¬ tw_in P D 0 v = true := by
      intro q
      have q1 := tw_A_D T' t1 ((tw_in_t T' t1 v).mp q)
      exact h0 (tw_D0 T' hv (by omega))
    rw [if_neg z]
    exact t4
  · intro j
    show (if j = v then p else P j) < c
    by_cases z : j = v
    · rw [if_pos z]; exact hp
    · rw [if_neg z]; exact t5 j
  · intro n hn hn0
    show (if tw_in P D n v = true then D n - D v + D p + 1 else D n)
      = (if tw_in P D (if n = v then p else P n) v = true then D (if n = v then p else P n) - D v + D p + 1 else D (if n = v then p else P n)) + 1
    by_cases z : n = v
    · rw [if_pos z, if_neg hi, z, if_pos ((tw_in_t T' hv v).mpr (tw_A_refl P v))]
      omega
    · rw [if_neg z]
      have e := t6 n hn hn0
      by_cases y : tw_in P D n v = true
      · have a := tw_A_st ((tw_in_t T' hn v).mp y) (fun q => z q.symm)
        have b := tw_A_D T' (t5 n) a
        rw [if_pos y, if_pos ((tw_in_t T' (t5 n) v).mpr a)]
        omega
      · have a : ¬ tw_in P D (P n) v = true := fun q => y ((tw_in_t T' hn v).mpr (tw_A_up ((tw_in_t T' (t5 n) v).mp q)))
        rw [if_neg y, if_neg a]
        exact e
theorem tw_T_new : tw_T (fun _ => 0) (fun _ => 0) 1 :=
  ⟨Nat.zero_lt_one, by decide, rfl, rfl, fun _ => Nat.zero_lt_one, fun _ h k => absurd (Nat.lt_one_iff.mp h) k⟩
end
end
section
theorem pk_us {f : Nat → Int32} {k : Nat} {x : Int32} : upd f k x k = x := if_pos rfl
theorem pk_un {f : Nat → Int32} {k j : Nat} {x : Int32} (h : j ≠ k) : upd f k x j = f j := if_neg h
theorem pk_sub {a b : Nat} (h : b ≤ a) : nI a - nI b = nI (a - b) := by
  obtain ⟨c, rfl⟩ : ∃ c, a = c + b := ⟨a - b, by omega⟩
  rw [← nI_add, Int32.add_sub_cancel, Nat.add_sub_cancel]
theorem pk_mul (a b : Nat) : nI a * nI b = nI (a * b) := (Int32.ofNat_mul a b).symm
theorem pk_sub_toInt {a b : Nat} (ha : a < 2 ^ 30) (hb : b < 2 ^ 30) : (nI a - nI b).toInt = (a : Int) - b := by
  rw [Int32.toInt_sub, nI_toInt (by omega), nI_toInt (by omega)]
  exact Int.bmod_eq_of_le (by omega) (by omega)
theorem pk_sneg {a b : Nat} (hb : b < 2 ^ 30) (h : a < b) : nI a - nI b < 0 := by
  rw [Int32.lt_iff_toInt_lt, pk_sub_toInt (by omega) hb, show (0 : Int32).toInt = 0 from by decide]
  omega
theorem pk_ix (x : Int32) {n : Nat} (hn : n < 2 ^ 31) : x < 0 ∨ nI n ≤ x ∨ ∃ j : Nat, j < n ∧ x = nI j := by
  by_cases h : x < 0
  · exact Or.inl h
  · obtain ⟨j, hj, rfl⟩ := nI_of h
    by_cases h2 : j < n
    · exact Or.inr (Or.inr ⟨j, h2, rfl⟩)
    · exact Or.inr (Or.inl (nI_le (by omega) hj))
theorem pk_le {x y : Int32} {A B : Prop} (a b : Nat) (f : a ≤ b → A) (g : b < a → B) (hx : x = nI a := by rfl) (hy : y = nI b := by rfl) (ha : a < 2 ^ 31 := by omega) (hb : b < 2 ^ 31 := by omega) : (x ≤ y → A) ∧ (¬ x ≤ y → B) := by
  subst hx hy
  rw [nI_leI ha hb]
  exact ⟨f, fun z => g (by omega)⟩
theorem pk_lt {x y : Int32} {A B : Prop} (a b : Nat) (f : a < b → A) (g : b ≤ a → B) (hx : x = nI a := by rfl) (hy : y = nI b := by rfl) (ha : a < 2 ^ 31 := by omega) (hb : b < 2 ^ 31 := by omega) : (x < y → A) ∧ (¬ x < y → B) := by
  subst hx hy
  rw [nI_ltI ha hb]
  exact ⟨f, fun z => g (by omega)⟩
theorem pk_eq {x y : Int32} {A B : Prop} (a b : Nat) (f : a = b → A) (g : a ≠ b → B) (hx : x = nI a := by rfl) (hy : y = nI b := by rfl) (ha : a < 2 ^ 31 := by omega) (hb : b < 2 ^ 31 := by omega) : (x = y → A) ∧ (¬ x = y → B) := by
  subst hx hy
  rw [nI_eq ha hb]
  exact ⟨f, g⟩
theorem pk_in {x : Int32} (n N : Nat) (h : n < N) (hx : x = nI n := by rfl) (hN : N < 2 ^ 31 := by omega) : vp_in x N := by
  subst hx
  exact vp_in_nI h hN
theorem pk_cl {x : Int32} (n : Nat) (hx : x = nI n := by rfl) (h : n < 2 ^ 31 := by omega) : x.toNatClampNeg = n := by
  subst hx
  exact nI_clamp h
/-- a truth as an answer -/
def tw_b : Bool → Int32
  | true => 1
  | false => 0
theorem tw_br {b : Bool} {A B : Prop} (f : b = false → A) (g : b = true → B) : (tw_b b = 0 → A) ∧ (¬ tw_b b = 0 → B) := by
  cases b with
  | false => exact ⟨fun _ => f rfl, fun z => absurd rfl z⟩
  | true => exact ⟨fun z => absurd z (by decide), fun _ => g rfl⟩
/-- no node's number -/
def tw_bad (c : Nat) (x : Int32) : Prop := x < 0 ∨ nI c ≤ x
theorem tw_nd {c : Nat} (hc : c ≤ 24) (x : Int32) : tw_bad c x ∨ ∃ j : Nat, j < c ∧ x = nI j := by
  rcases pk_ix x (n := c) (by omega) with h | h | h
  · exact Or.inl (Or.inl h)
  · exact Or.inl (Or.inr h)
  · exact Or.inr h
/-- the parents as X keeps them, as Y keeps them -/
def tw_X (P : Nat → Nat) : Nat → Int32 := fun j => nI (P j)
def tw_Y (P : Nat → Nat) : Nat → Int32 := fun j => if j = 0 then -1 else nI (P j)
theorem tw_X_at (P : Nat → Nat) {n : Nat} (h : n < 24) : tw_X P (nI n).toNatClampNeg = nI (P n) := by
  rw [nI_clamp (by omega)]
  rfl
theorem tw_Y_at (P : Nat → Nat) {n : Nat} (h : n < 24) (h0 : n ≠ 0) : tw_Y P (nI n).toNatClampNeg = nI (P n) := by
  rw [nI_clamp (by omega)]
  exact if_neg h0
theorem tw_Y_0 (P : Nat → Nat) : tw_Y P (nI 0).toNatClampNeg = -1 := by
  rw [nI_clamp (by omega)]
  exact if_pos rfl
theorem tw_X_up (P : Nat → Nat) (i p : Nat) : upd (tw_X P) i (nI p) = tw_X (tw_up P i p) := by
  funext j
  show (if j = i then nI p else nI (P j)) = nI (if j = i then p else P j)
  by_cases e : j = i
  · rw [if_pos e, if_pos e]
  · rw [if_neg e, if_neg e]
theorem tw_Y_up (P : Nat → Nat) {i : Nat} (p : Nat) (hi : i ≠ 0) : upd (tw_Y P) i (nI p) = tw_Y (tw_up P i p) := by
  funext j
  show (if j = i then nI p else (if j = 0 then -1 else nI (P j))) = (if j = 0 then -1 else nI (if j = i then p else P j))
  by_cases e : j = i
  · rw [if_pos e, if_pos e, if_neg (by omega)]
  · rw [if_neg e, if_neg e]
theorem tw_u0 {f : Nat → Int32} {i : Nat} (h : f i = 0) : upd f i 0 = f := by
  funext j
  show (if j = i then 0 else f j) = f j
  by_cases e : j = i
  · rw [if_pos e, e, h]
  · rw [if_neg e]
section
variable {P D : Nat → Nat} {c : Nat}
theorem tw_in_rf (T : tw_T P D c) {n : Nat} (hn : n < c) : tw_in P D n n = true := (tw_in_t T hn n).mpr (tw_A_refl P n)
theorem tw_in_st (T : tw_T P D c) {n v : Nat} (hn : n < c) (h : n ≠ v) : tw_in P D n v = tw_in P D (P n) v := by
  apply Bool.eq_iff_iff.mpr
  rw [tw_in_t T hn, tw_in_t T (T.2.2.2.2.1 n)]
  exact ⟨fun k => tw_A_st k (fun e => h e.symm), tw_A_up⟩
theorem tw_in_0 (T : tw_T P D c) {v : Nat} (h : v ≠ 0) : tw_in P D 0 v = false := by
  apply Bool.eq_false_iff.mpr
  intro z
  obtain ⟨k, hk⟩ := (tw_in_t T T.1 v).mp z
  rw [tw_it_top T.2.2.1] at hk
  exact h hk.symm
theorem tw_in_top (T : tw_T P D c) {n : Nat} (hn : n < c) : tw_in P D n 0 = true := (tw_in_t T hn 0).mpr (tw_A_top T hn)
theorem tw_c24 (T : tw_T P D c) {n : Nat} (hn : n < c) : n < 24 := Nat.lt_of_lt_of_le hn T.2.1
theorem tw_D24 (T : tw_T P D c) {n : Nat} (hn : n < c) : D n < 24 := Nat.lt_of_lt_of_le (tw_D_lt T hn) T.2.1
/-- the sum of two depths less twice the fork's -/
theorem tw_far_i (T : tw_T P D c) {u v : Nat} (hu : u < c) (hv : v < c) :
    nI (D u) + nI (D v) - 2 * nI (D (tw_F P D u v)) = nI (tw_far P D u v) := by
  have a := tw_F_Du T hu hv
  have b := tw_F_Dv T hu hv
  have e : (2 : Int32) * nI (D (tw_F P D u v)) = nI (2 * D (tw_F P D u v)) := pk_mul 2 _
  rw [e, nI_add, pk_sub (by omega)]
  rfl
theorem tw_on_i (T : tw_T P D c) {n u v : Nat} (hn : n < c) (hu : u < c) (hv : v < c) :
    nI (tw_far P D u n) + nI (tw_far P D n v) = nI (tw_far P D u v) ↔ tw_on P D n u v = true := by
  have a := tw_far_lt T hu hn
  have b := tw_far_lt T hn hv
  have d := tw_far_lt T hu hv
  rw [nI_add, nI_eq (by omega) (by omega)]
  exact tw_on_far T hn hu hv
end
/-- a loop's states, one after the other -/
def tw_fd {σ : Type} (g : Nat → σ → σ) (s : σ) : Nat → σ
  | 0 => s
  | n + 1 => g n (tw_fd g s n)
theorem tw_fd_I {σ : Type} (g : Nat → σ → σ) (s : σ) (c : Nat) (I : σ → Prop) (h0 : I s) (hs : ∀ n t, n < c → I t → I (g n t)) :
    ∀ n, n ≤ c → I (tw_fd g s n) := by
  intro n
  induction n with
  | zero => intro _; exact h0
  | succ n ih => intro h; exact hs n _ (by omega) (ih (by omega))
theorem tw_lp {σ : Type} (W : Nat → Nat → σ → Prop) (g : Nat → σ → σ) (s0 : σ) (c : Nat)
    (hx : ∀ n, W (n + 1) c (tw_fd g s0 c))
    (hs : ∀ n i, i < c → W n (i + 1) (g i (tw_fd g s0 i)) → W (n + 1) i (tw_fd g s0 i)) :
    ∀ d i, i + d = c → W (d + 1) i (tw_fd g s0 i) := by
  intro d
  induction d with
  | zero =>
    intro i h
    have e : i = c := by omega
    rw [e]
    exact hx 0
  | succ d ih =>
    intro i h
    exact hs _ i (by omega) (ih (i + 1) (by omega))
/-- the step 'if B then A' -/
def tw_if {σ : Type} (B : Nat → Bool) (A : Nat → σ → σ) (i : Nat) (s : σ) : σ := if B i = true then A i s else s
theorem tw_if_t {σ : Type} {B : Nat → Bool} {A : Nat → σ → σ} {i : Nat} {s : σ} (h : B i = true) : tw_if B A i s = A i s := if_pos h
theorem tw_if_f {σ : Type} {B : Nat → Bool} {A : Nat → σ → σ} {i : Nat} {s : σ} (h : B i = false) : tw_if B A i s = s :=
  if_neg (by rw [h]; exact Bool.false_ne_true)
theorem tw_lpi {σ : Type} (W : Nat → Nat → σ → Prop) (B : Nat → Bool) (A : Nat → σ → σ) (s0 : σ) (c : Nat)
    (hx : ∀ n, W (n + 1) c (tw_fd (tw_if B A) s0 c))
    (hs : ∀ n i s, i < c → (B i = false → W n (i + 1) s) → (B i = true → W n (i + 1) (A i s)) → W (n + 1) i s) :
    ∃ n, W n 0 s0 :=
  ⟨c + 1, tw_lp W (tw_if B A) s0 c hx (fun n i hi h => hs n i _ hi (fun e => by rw [tw_if_f e] at h; exact h) (fun e => by rw [tw_if_t e] at h; exact h)) c 0 (Nat.zero_add c)⟩
theorem tw_lpa {σ : Type} (W : Nat → Nat → σ → Prop) (A : Nat → σ → σ) (s0 : σ) (c : Nat)
    (hx : ∀ n, W (n + 1) c (tw_fd A s0 c))
    (hs : ∀ n i s, i < c → W n (i + 1) (A i s) → W (n + 1) i s) :
    ∃ n, W n 0 s0 :=
  ⟨c + 1, tw_lp W A s0 c hx (fun n i hi h => hs n i _ hi h) c 0 (Nat.zero_add c)⟩
/-- a scan that stops at t alone -/
theorem tw_sc (W : Nat → Nat → Prop) (c t : Nat) (ht : t < c)
    (hy : ∀ n, W (n + 1) t) (hs : ∀ n i, i < c → i ≠ t → W n (i + 1) → W (n + 1) i) : ∃ n, W n 0 := by
  have h : ∀ d i, i + d = t → W (d + 1) i := by
    intro d
    induction d with
    | zero =>
      intro i e
      have e' : i = t := by omega
      rw [e']
      exact hy 0
    | succ d ih =>
      intro i e
      exact hs _ i (by omega) (by omega) (ih (i + 1) (by omega))
  exact ⟨t + 1, h t 0 (Nat.zero_add t)⟩
/-- a scan that never stops -/
theorem tw_sn (W : Nat → Nat → Prop) (c : Nat)
    (hx : ∀ n, W (n + 1) c) (hs : ∀ n i, i < c → W n (i + 1) → W (n + 1) i) : ∃ n, W n 0 := by
  have h : ∀ d i, i + d = c → W (d + 1) i := by
    intro d
    induction d with
    | zero =>
      intro i e
      have e' : i = c := by omega
      rw [e']
      exact hx 0
    | succ d ih =>
      intro i e
      exact hs _ i (by omega) (ih (i + 1) (by omega))
  exact ⟨c + 1, h c 0 (Nat.zero_add c)⟩
/-- the sum of the distances from v -/
def tw_S (P D : Nat → Nat) (c v : Nat) : Int32 := tw_fd (fun w s => s + nI (tw_far P D v w)) 0 c
/-- how many; the sum of their values; the greatest value; something added to each -/
def tw_ct (B : Nat → Bool) (c : Nat) : Int32 := tw_fd (tw_if B (fun _ s => s + 1)) 0 c
def tw_sm (B : Nat → Bool) (vs : Nat → Int32) (c : Nat) : Int32 := tw_fd (tw_if B (fun n s => s + vs n)) 0 c
def tw_m (vs : Nat → Int32) (n : Nat) (s : Int32) : Int32 := if s < vs n then vs n else s
theorem tw_m_t {vs : Nat → Int32} {n : Nat} {s : Int32} (h : ¬ vs n ≤ s) : tw_m vs n s = vs n := if_pos (Int32.not_le.mp h)
theorem tw_m_f {vs : Nat → Int32} {n : Nat} {s : Int32} (h : vs n ≤ s) : tw_m vs n s = s := if_neg (Int32.not_lt.mpr h)
def tw_mx (B : Nat → Bool) (vs : Nat → Int32) (s0 : Int32) (c : Nat) : Int32 := tw_fd (tw_if B (tw_m vs)) s0 c
def tw_a (x : Int32) (n : Nat) (s : Int32 × (Nat → Int32)) : Int32 × (Nat → Int32) := (s.1 + 1, upd s.2 n (s.2 n + x))
def tw_ad (B : Nat → Bool) (x : Int32) (vs : Nat → Int32) (c : Nat) : Int32 × (Nat → Int32) := tw_fd (tw_if B (tw_a x)) (0, vs) c
theorem tw_ad_z (B : Nat → Bool) (x : Int32) {vs : Nat → Int32} {c : Nat} (h : ∀ j, c ≤ j → vs j = 0) : ∀ j, c ≤ j → (tw_ad B x vs c).2 j = 0 := by
  refine tw_fd_I (tw_if B (tw_a x)) (0, vs) c (fun s => ∀ j, c ≤ j → s.2 j = 0) h ?_ c (Nat.le_refl c)
  intro n t hn ht j hj
  by_cases e : B n = true
  · rw [tw_if_t e]
    show upd t.2 n (t.2 n + x) j = 0
    rw [pk_un (by omega)]
    exact ht j hj
  · rw [tw_if_f (Bool.eq_false_iff.mpr e)]
    exact ht j hj
/-- the greatest distance; the first node of the least sum -/
def tw_wi (P D : Nat → Nat) (u v : Nat) (s : Int32) : Int32 := if s < nI (tw_far P D u v) then nI (tw_far P D u v) else s
theorem tw_wi_t {P D : Nat → Nat} {u v : Nat} {s : Int32} (h : ¬ nI (tw_far P D u v) ≤ s) : tw_wi P D u v s = nI (tw_far P D u v) := if_pos (Int32.not_le.mp h)
theorem tw_wi_f {P D : Nat → Nat} {u v : Nat} {s : Int32} (h : nI (tw_far P D u v) ≤ s) : tw_wi P D u v s = s := if_neg (Int32.not_lt.mpr h)
def tw_wo (P D : Nat → Nat) (u : Nat) (s : Int32) : Int32 := tw_fd (tw_wi P D u) s u
def tw_wd (P D : Nat → Nat) (c : Nat) : Int32 := tw_fd (tw_wo P D) 0 c
def tw_hs (P D : Nat → Nat) (c m b : Nat) : Nat := if tw_S P D c (m + 1) < tw_S P D c b then m + 1 else b
theorem tw_hs_t {P D : Nat → Nat} {c m b : Nat} (h : ¬ tw_S P D c b ≤ tw_S P D c (m + 1)) : tw_hs P D c m b = m + 1 := if_pos (Int32.not_le.mp h)
theorem tw_hs_f {P D : Nat → Nat} {c m b : Nat} (h : tw_S P D c b ≤ tw_S P D c (m + 1)) : tw_hs P D c m b = b := if_neg (Int32.not_lt.mpr h)
def tw_ht (P D : Nat → Nat) (c m : Nat) : Nat := tw_fd (tw_hs P D c) 0 m
theorem tw_ht_lt (P D : Nat → Nat) (c : Nat) (hc : 0 < c) : ∀ m, m + 1 ≤ c → tw_ht P D c m < c := by
  intro m
  induction m with
  | zero => intro _; exact hc
  | succ m ih =>
    intro h
    have i := ih (by omega)
    show (if tw_S P D c (m + 1) < tw_S P D c (tw_ht P D c m) then m + 1 else tw_ht P D c m) < c
    by_cases z : tw_S P D c (m + 1) < tw_S P D c (tw_ht P D c m)
    · rw [if_pos z]; omega
    · rw [if_neg z]; exact i
theorem tw_10 : ¬ (1 : Int32) = 0 := by decide
theorem tw_at (vs : Nat → Int32) {n : Nat} (h : n < 24) : vs (nI n).toNatClampNeg = vs n := by rw [nI_clamp (by omega)]
theorem ek_if {c d A B : Prop} (e : c ↔ d) (f : d → A) (g : ¬ d → B) : (c → A) ∧ (¬ c → B) :=
  ⟨fun z => f (e.mp z), fun z => g (fun y => z (e.mpr y))⟩
end
section
section
variable {P D : Nat → Nat} {c : Nat} {vs : Nat → Int32}
theorem tx_isNode_n {a : Nat → Int32} {x : Int32} {post : Int32 → Prop} (h : tw_bad c x) (hp : post 0) : wpX_isNode post (nI c, a, vs) x := by
  rcases h with h | h
  · exact br_t h hp
  · by_cases z : x < 0
    · exact br_t z hp
    · exact br_f z (br_t h hp)
theorem tx_isNode_y {a : Nat → Int32} {j : Nat} {post : Int32 → Prop} (hc : c ≤ 24) (h : j < c) (hp : post 1) : wpX_isNode post (nI c, a, vs) (nI j) :=
  br_f (nI_pos (by omega)) (br_f (nI_ge h (by omega)) hp)
theorem tx_above_l (T : tw_T P D c) {post : Int32 → Prop} {k : Nat} (hk : k < 100) : ∀ d i n, n < c → i + d = k → post (nI (tw_it P d n)) →
    wX_above_5 post (nI k) (nI c) (tw_X P) vs (d + 1) (nI n) (nI i) := by
  intro d
  induction d with
  | zero =>
    intro i n hn hi hp
    exact br_t (nI_le (by omega) (by omega)) hp
  | succ d ih =>
    intro i n hn hi hp
    exact br_f (nI_ge (by omega) (by omega)) ⟨vp_in_nI (tw_c24 T hn) (by omega), nm_r (tw_X_at P (tw_c24 T hn)) (nm_r (nI_1 i) (ih (i + 1) (P n) (T.2.2.2.2.1 n) (by omega) hp))⟩
theorem tx_above (T : tw_T P D c) {post : Int32 → Prop} {n k : Nat} (hn : n < c) (hk : k < 100) (hp : post (nI (tw_it P k n))) :
    wpX_above post (nI c, tw_X P, vs) (nI n) (nI k) :=
  ⟨k + 1, tx_above_l T hk k 0 n hn (Nat.zero_add k) hp⟩
theorem tx_aboveS (T : tw_T P D c) {post : Int32 → Prop} {n a b : Nat} (hn : n < c) (ha : a < 100) (hb : b < 100) (hp : post (nI (tw_it P (a - b) n))) :
    wpX_above post (nI c, tw_X P, vs) (nI n) (nI a - nI b) := by
  by_cases h : b ≤ a
  · rw [pk_sub h]
    exact tx_above T hn (by omega) hp
  · have e : a - b = 0 := by omega
    rw [e] at hp
    exact ⟨1, br_t (Int32.le_of_lt (pk_sneg (by omega) (by omega))) hp⟩
theorem tx_depth_l (T : tw_T P D c) {post : Int32 → Prop} {t : Nat} (ht : t < 24) (hp : post (nI t)) : ∀ d n s, n < c → D n = d → d + s = t →
    wX_depthOf_4 post (nI c) (tw_X P) vs (d + 1) (nI n) (nI s) := by
  intro d
  induction d with
  | zero =>
    intro n s hn hd e
    have e0 : n = 0 := tw_D0 T hn hd
    have e1 : s = t := by omega
    rw [e0, e1]
    exact br_t nI_0 hp
  | succ d ih =>
    intro n s hn hd e
    have h0 := tw_nz T hd
    have e1 := T.2.2.2.2.2 n hn h0
    have h24 := tw_c24 T hn
    exact br_f (nI_ne0 (by omega) (by omega)) (br_f (nI_ge (b := 24) (by omega) (by decide)) ⟨vp_in_nI h24 (by omega), nm_r (tw_X_at P h24) (nm_r (nI_1 s) (ih (P n) (s + 1) (T.2.2.2.2.1 n) (by omega) (by omega)))⟩)
theorem tx_depth (T : tw_T P D c) {post : Int32 → Prop} {n : Nat} (hn : n < c) (hp : post (nI (D n))) :
    wpX_depthOf post (nI c, tw_X P, vs) (nI n) :=
  ⟨D n + 1, tx_depth_l T (tw_D24 T hn) hp (D n) n 0 hn rfl rfl⟩
theorem tx_in (T : tw_T P D c) {post : Int32 → Prop} {n v : Nat} (hn : n < c) (hv : v < c) (hp : post (tw_b (tw_in P D n v))) :
    wpX_isInPart post (nI c, tw_X P, vs) (nI n) (nI v) := by
  have a := tw_D24 T hn
  have b := tw_D24 T hv
  unfold wpX_isInPart
  dsimp only
  refine tx_depth T hn (tx_depth T hv ?_)
  by_cases h : D v ≤ D n
  · refine nm_r (pk_sub h) (br_f (nI_pos (by omega)) (tx_above T hn (by omega) ?_))
    have q := tw_c24 T (tw_it_lt T (D n - D v) n hn)
    have w := tw_c24 T hv
    refine pk_eq (tw_it P (D n - D v) n) v (fun e => ?_) (fun e => ?_)
    · have z : tw_in P D n v = true := decide_eq_true ⟨h, e⟩
      rw [z] at hp
      exact hp
    · have z : tw_in P D n v = false := decide_eq_false (fun k => e k.2)
      rw [z] at hp
      exact hp
  · have z : tw_in P D n v = false := decide_eq_false (fun k => h k.1)
    rw [z] at hp
    exact nm_e (br_t (pk_sneg (by omega) (by omega)) hp)
theorem tx_fork_l (T : tw_T P D c) {post : Int32 → Prop} {f : Nat} (hp : post (nI f)) : ∀ d a b i, a < c → b < c → D a = d → D b = d → i + d < 24 → tw_lk P d a b = f →
    wX_forkOf_38 post (nI c) (tw_X P) vs (d + 1) (nI a) (nI b) (nI i) := by
  intro d
  induction d with
  | zero =>
    intro a b i ha hb h1 h2 h3 h4
    have ea := tw_D0 T ha h1
    have eb := tw_D0 T hb h2
    have ef : a = f := h4
    rw [← ef, ea] at hp
    rw [ea, eb]
    exact br_f (nI_ge (b := 24) (by omega) (by decide)) (br_t rfl hp)
  | succ d ih =>
    intro a b i ha hb h1 h2 h3 h4
    have d1 := T.2.2.2.2.2 a ha (tw_nz T h1)
    have d2 := T.2.2.2.2.2 b hb (tw_nz T h2)
    have a24 := tw_c24 T ha
    have b24 := tw_c24 T hb
    refine br_f (nI_ge (b := 24) (by omega) (by decide)) (pk_eq a b (fun e => ?_) (fun e => ?_))
    · have ef : a = f := by rw [← h4]; exact (if_pos e).symm
      rw [ef]
      exact hp
    · have h5 : tw_lk P d (P a) (P b) = f := by rw [← h4]; exact (if_neg e).symm
      exact ⟨vp_in_nI a24 (by omega), nm_r (tw_X_at P a24) ⟨vp_in_nI b24 (by omega), nm_r (tw_X_at P b24) (nm_r (nI_1 i) (ih (P a) (P b) (i + 1) (T.2.2.2.2.1 a) (T.2.2.2.2.1 b) (by omega) (by omega) (by omega) h5))⟩⟩
theorem tx_fork (T : tw_T P D c) {post : Int32 → Prop} {u v : Nat} (hu : u < c) (hv : v < c) (hp : post (nI (tw_F P D u v))) :
    wpX_forkOf post (nI c, tw_X P, vs) (nI u) (nI v) := by
  have a := tw_D24 T hu
  have b := tw_D24 T hv
  have ea := tw_D_it T (D u - D v) u hu (Nat.sub_le _ _)
  have eb := tw_D_it T (D v - D u) v hv (Nat.sub_le _ _)
  unfold wpX_forkOf
  dsimp only
  refine tx_depth T hu (tx_depth T hv (tx_aboveS T hu (by omega) (by omega) (tx_aboveS T hv (by omega) (by omega) ?_)))
  exact ⟨_, tx_fork_l T hp (D (tw_it P (D u - D v) u)) _ _ 0 (tw_it_lt T _ _ hu) (tw_it_lt T _ _ hv) rfl (by omega) (by omega) (tw_F_X T hu hv)⟩
theorem tx_far (T : tw_T P D c) {post : Int32 → Prop} {u v : Nat} (hu : u < c) (hv : v < c) (hp : post (nI (tw_far P D u v))) :
    wpX_distanceOf post (nI c, tw_X P, vs) (nI u) (nI v) := by
  unfold wpX_distanceOf
  dsimp only
  refine tx_fork T hu hv (tx_depth T hu (tx_depth T hv (tx_depth T (tw_F_lt T hu hv) ?_)))
  rw [tw_far_i T hu hv]
  exact hp
theorem tx_on (T : tw_T P D c) {post : Int32 → Prop} {n u v : Nat} (hn : n < c) (hu : u < c) (hv : v < c) (hp : post (tw_b (tw_on P D n u v))) :
    wpX_isOnWay post (nI c, tw_X P, vs) (nI n) (nI u) (nI v) (nI (tw_F P D u v)) := by
  unfold wpX_isOnWay
  dsimp only
  have k : tw_on P D n u v = (tw_in P D n (tw_F P D u v) && (tw_in P D u n || tw_in P D v n)) := rfl
  refine tx_in T hn (tw_F_lt T hu hv) (tw_br (fun z => ?_) (fun z => ?_))
  · rw [k, z] at hp
    exact hp
  · refine tx_in T hu hn (tw_br (fun z1 => ?_) (fun z1 => ?_))
    · refine tx_in T hv hn (tw_br (fun z2 => ?_) (fun z2 => ?_))
      · rw [k, z, z1, z2] at hp
        exact hp
      · rw [k, z, z1, z2] at hp
        exact hp
    · rw [k, z, z1] at hp
      exact hp
theorem tx_sum (T : tw_T P D c) {post : Int32 → Prop} {v : Nat} (hv : v < c) (hp : post (tw_S P D c v)) :
    wpX_distancesFrom post (nI c, tw_X P, vs) (nI v) := by
  unfold wpX_distancesFrom
  dsimp only
  have h24 := T.2.1
  refine tw_lpa (fun n i s => wX_distancesFrom_4 post (nI v) (nI c) (tw_X P) vs n s (nI i)) (fun w s => s + nI (tw_far P D v w)) 0 c (fun n => ?_) (fun n i s hi h => ?_)
  · exact br_t (nI_le (Nat.le_refl c) (by omega)) hp
  · exact br_f (nI_ge hi (by omega)) (tx_far T hv hi (nm_e (nm_r (nI_1 i) h)))
end
end
section
section
variable {P D : Nat → Nat} {c : Nat} {vs : Nat → Int32}
theorem ty_isNode_n {a : Nat → Int32} {x : Int32} {post : Int32 → Prop} (h : tw_bad c x) (hp : post 0) : wpY_isNode post (nI c, a, vs) x := by
  rcases h with h | h
  · exact br_t h hp
  · by_cases z : x < 0
    · exact br_t z hp
    · exact br_f z (br_t h hp)
theorem ty_isNode_y {a : Nat → Int32} {j : Nat} {post : Int32 → Prop} (hc : c ≤ 24) (h : j < c) (hp : post 1) : wpY_isNode post (nI c, a, vs) (nI j) :=
  br_f (nI_pos (by omega)) (br_f (nI_ge h (by omega)) hp)
theorem ty_in_l (T : tw_T P D c) {post : Int32 → Prop} {v : Nat} (hv : v < c) {b : Bool} (hp : post (tw_b b)) : ∀ d n, n < c → D n = d → tw_in P D n v = b →
    wY_isIn_2 post (nI v) (nI c) (tw_Y P) vs (d + 2) (nI n) := by
  have v24 := tw_c24 T hv
  intro d
  induction d with
  | zero =>
    intro n hn hd hb
    have e0 : n = 0 := tw_D0 T hn hd
    subst e0
    refine br_f (nI_pos (by omega)) (pk_eq 0 v (fun e => ?_) (fun e => ?_))
    · rw [← hb, ← e, tw_in_rf T hn] at hp
      exact hp
    · rw [← hb, tw_in_0 T (fun k => e k.symm)] at hp
      exact ⟨vp_in_nI (by omega) (by omega), nm_r (tw_Y_0 P) (br_t (by decide) hp)⟩
  | succ d ih =>
    intro n hn hd hb
    have h0 := tw_nz T hd
    have e1 := T.2.2.2.2.2 n hn h0
    have h24 := tw_c24 T hn
    refine br_f (nI_pos (by omega)) (pk_eq n v (fun e => ?_) (fun e => ?_))
    · rw [← hb, ← e, tw_in_rf T hn] at hp
      exact hp
    · rw [tw_in_st T hn e] at hb
      exact ⟨vp_in_nI h24 (by omega), nm_r (tw_Y_at P h24 h0) (ih (P n) (T.2.2.2.2.1 n) (by omega) hb)⟩
theorem ty_in (T : tw_T P D c) {post : Int32 → Prop} {n v : Nat} (hn : n < c) (hv : v < c) (hp : post (tw_b (tw_in P D n v))) :
    wpY_isIn post (nI c, tw_Y P, vs) (nI n) (nI v) :=
  ⟨D n + 2, ty_in_l T hv hp (D n) n hn rfl rfl⟩
theorem ty_steps_l (T : tw_T P D c) {post : Int32 → Prop} {t : Nat} (ht : t < 24) (hp : post (nI t)) : ∀ d n s, n < c → D n = d → d + s = t →
    wY_steps_4 post (nI c) (tw_Y P) vs (d + 1) (nI s) (nI n) := by
  intro d
  induction d with
  | zero =>
    intro n s hn hd e
    have e0 : n = 0 := tw_D0 T hn hd
    have e1 : s = t := by omega
    subst e0
    rw [e1]
    refine ⟨vp_in_nI (by omega) (by omega), ?_⟩
    rw [tw_Y_0]
    exact br_t (by decide) hp
  | succ d ih =>
    intro n s hn hd e
    have h0 := tw_nz T hd
    have e1 := T.2.2.2.2.2 n hn h0
    have h24 := tw_c24 T hn
    have p24 := tw_c24 T (T.2.2.2.2.1 n)
    refine ⟨vp_in_nI h24 (by omega), ?_⟩
    rw [tw_Y_at P h24 h0]
    refine br_f (nI_pos (by omega)) ⟨vp_in_nI h24 (by omega), ?_⟩
    exact nm_e (nm_r (nI_1 s) (ih (P n) (s + 1) (T.2.2.2.2.1 n) (by omega) (by omega)))
theorem ty_steps (T : tw_T P D c) {post : Int32 → Prop} {n : Nat} (hn : n < c) (hp : post (nI (D n))) :
    wpY_steps post (nI c, tw_Y P, vs) (nI n) :=
  ⟨D n + 1, ty_steps_l T (tw_D24 T hn) hp (D n) n 0 hn rfl rfl⟩
theorem ty_join_l (T : tw_T P D c) {post : Int32 → Prop} {v f : Nat} (hv : v < c) (hp : post (nI f)) : ∀ d u, u < c → D u = d → tw_fk P D v d u = f →
    wY_join_2 post (nI v) (nI c) (tw_Y P) vs (d + 1) (nI u) := by
  intro d
  induction d with
  | zero =>
    intro u hu hd e
    have e0 : u = 0 := tw_D0 T hu hd
    have e1 : u = f := e
    refine ty_in T hv hu ?_
    rw [e0, tw_in_top T hv]
    rw [← e1, e0] at hp
    exact br_f (by decide) hp
  | succ d ih =>
    intro u hu hd e
    have h0 := tw_nz T hd
    have e1 := T.2.2.2.2.2 u hu h0
    have h24 := tw_c24 T hu
    refine ty_in T hv hu (tw_br (fun z => ?_) (fun z => ?_))
    · have q : tw_fk P D v d (P u) = f := by rw [← e]; exact (if_neg (by rw [z]; exact Bool.false_ne_true)).symm
      exact ⟨vp_in_nI h24 (by omega), nm_r (tw_Y_at P h24 h0) (ih (P u) (T.2.2.2.2.1 u) (by omega) q)⟩
    · have q : u = f := by rw [← e]; exact (if_pos z).symm
      rw [q]
      exact hp
theorem ty_join (T : tw_T P D c) {post : Int32 → Prop} {u v : Nat} (hu : u < c) (hv : v < c) (hp : post (nI (tw_F P D u v))) :
    wpY_join post (nI c, tw_Y P, vs) (nI u) (nI v) :=
  ⟨D u + 1, ty_join_l T hv hp (D u) u hu rfl rfl⟩
theorem ty_far (T : tw_T P D c) {post : Int32 → Prop} {u v : Nat} (hu : u < c) (hv : v < c) (hp : post (nI (tw_far P D u v))) :
    wpY_far post (nI c, tw_Y P, vs) (nI u) (nI v) := by
  unfold wpY_far
  dsimp only
  refine ty_join T hu hv (ty_steps T hu (ty_steps T hv (ty_steps T (tw_F_lt T hu hv) ?_)))
  rw [tw_far_i T hu hv]
  exact hp
theorem ty_on (T : tw_T P D c) {post : Int32 → Prop} {n u v : Nat} (hn : n < c) (hu : u < c) (hv : v < c) (hp : post (tw_b (tw_on P D n u v))) :
    wpY_isOn post (nI c, tw_Y P, vs) (nI n) (nI u) (nI v) := by
  unfold wpY_isOn
  dsimp only
  refine ty_far T hu hn (ty_far T hn hv (ty_far T hu hv ?_))
  refine ek_if (tw_on_i T hn hu hv) (fun z => ?_) (fun z => ?_)
  · rw [z] at hp
    exact hp
  · rw [Bool.eq_false_iff.mpr z] at hp
    exact hp
theorem ty_sum (T : tw_T P D c) {post : Int32 → Prop} {v : Nat} (hv : v < c) (hp : post (tw_S P D c v)) :
    wpY_sumFrom post (nI c, tw_Y P, vs) (nI v) := by
  unfold wpY_sumFrom
  dsimp only
  have h24 := T.2.1
  refine tw_lpa (fun n i s => wY_sumFrom_4 post (nI v) (nI c) (tw_Y P) vs n s (nI i)) (fun w s => s + nI (tw_far P D v w)) 0 c (fun n => ?_) (fun n i s hi h => ?_)
  · exact br_t (nI_le (Nat.le_refl c) (by omega)) hp
  · exact br_f (nI_ge hi (by omega)) (ty_far T hv hi (nm_e (nm_r (nI_1 i) h)))
end
end
section
section
variable {P D : Nat → Nat} {c : Nat} {vs : Nat → Int32}
theorem tx_btw_y {x l h : Int32} {post : Int32 → Prop} (a : ¬ x < l) (b : x ≤ h) (hp : post 1) : wpX_isBetween post x l h := br_f a (br_f (Int32.not_lt.mpr b) hp)
theorem tx_btw_l {x l h : Int32} {post : Int32 → Prop} (a : x < l) (hp : post 0) : wpX_isBetween post x l h := br_t a hp
theorem tx_btw_h {x l h : Int32} {post : Int32 → Prop} (a : ¬ x < l) (b : ¬ x ≤ h) (hp : post 0) : wpX_isBetween post x l h := br_f a (br_t (Int32.not_le.mp b) hp)
theorem tx_in_f (T : tw_T P D c) {post : Int32 → Prop} {n v : Nat} (hn : n < c) (hv : v < c) (z : tw_in P D n v = false) (hp : post 0) :
    wpX_isInPart post (nI c, tw_X P, vs) (nI n) (nI v) := tx_in T hn hv (by rw [z]; exact hp)
theorem tx_in_t (T : tw_T P D c) {post : Int32 → Prop} {n v : Nat} (hn : n < c) (hv : v < c) (z : tw_in P D n v = true) (hp : post 1) :
    wpX_isInPart post (nI c, tw_X P, vs) (nI n) (nI v) := tx_in T hn hv (by rw [z]; exact hp)
theorem tx_waySum (T : tw_T P D c) {post : Int32 → Prop} {u v : Nat} (hu : u < c) (hv : v < c) (hp : post (tw_sm (fun n => tw_on P D n u v) vs c)) :
    wpX_waySum post (nI c, tw_X P, vs) (nI u) (nI v) := by
  have h24 := T.2.1
  unfold wpX_waySum
  dsimp only
  refine tx_isNode_y h24 hu (br_f tw_10 (tx_isNode_y h24 hv (br_f tw_10 (tx_fork T hu hv ?_))))
  refine tw_lpi (fun n i s => wX_waySum_32 post (nI u) (nI v) (nI (tw_F P D u v)) (nI c) (tw_X P) vs n s (nI i)) (fun n => tw_on P D n u v) (fun n s => s + vs n) 0 c (fun n => ?_) (fun n i s hi hf ht => ?_)
  · exact br_t (nI_le (Nat.le_refl c) (by omega)) hp
  · exact br_f (nI_ge hi (by omega)) (tx_on T hi hu hv (tw_br (fun z => nm_r (nI_1 i) (hf z)) (fun z => ⟨vp_in_nI (tw_c24 T hi) (by omega), nm_r (congrArg (fun y => s + y) (tw_at vs (tw_c24 T hi))) (nm_r (nI_1 i) (ht z))⟩)))
theorem tx_wayMost (T : tw_T P D c) {post : Int32 → Prop} {u v : Nat} (hu : u < c) (hv : v < c) (hp : post (tw_mx (fun n => tw_on P D n u v) vs (vs u) c)) :
    wpX_wayMost post (nI c, tw_X P, vs) (nI u) (nI v) := by
  have h24 := T.2.1
  unfold wpX_wayMost
  dsimp only
  refine tx_isNode_y h24 hu (br_f tw_10 (tx_isNode_y h24 hv (br_f tw_10 (tx_fork T hu hv ⟨vp_in_nI (tw_c24 T hu) (by omega), nm_r (tw_at vs (tw_c24 T hu)) ?_⟩))))
  refine tw_lpi (fun n i s => wX_wayMost_37 post (nI u) (nI v) (nI (tw_F P D u v)) (nI c) (tw_X P) vs n s (nI i)) (fun n => tw_on P D n u v) (tw_m vs) (vs u) c (fun n => ?_) (fun n i s hi hf ht => ?_)
  · exact br_t (nI_le (Nat.le_refl c) (by omega)) hp
  · have e := tw_at vs (tw_c24 T hi)
    by_cases q : vs i ≤ s
    · refine br_f (nI_ge hi (by omega)) ⟨vp_in_nI (tw_c24 T hi) (by omega), br_t (by rw [e]; exact q) (nm_r (nI_1 i) ?_)⟩
      cases z : tw_on P D i u v with
      | false => exact hf z
      | true =>
        have k := ht z
        rw [tw_m_f q] at k
        exact k
    · refine br_f (nI_ge hi (by omega)) ⟨vp_in_nI (tw_c24 T hi) (by omega), br_f (by rw [e]; exact q) (tx_on T hi hu hv (tw_br (fun z => nm_r (nI_1 i) (hf z)) (fun z => ⟨vp_in_nI (tw_c24 T hi) (by omega), nm_r e (nm_r (nI_1 i) ?_)⟩)))⟩
      have k := ht z
      rw [tw_m_t q] at k
      exact k
theorem tx_partSize (T : tw_T P D c) {post : Int32 → Prop} {v : Nat} (hv : v < c) (hp : post (tw_ct (fun n => tw_in P D n v) c)) :
    wpX_partSize post (nI c, tw_X P, vs) (nI v) := by
  have h24 := T.2.1
  unfold wpX_partSize
  dsimp only
  refine tx_isNode_y h24 hv (br_f tw_10 (?_))
  refine tw_lpi (fun n i s => wX_partSize_15 post (nI v) (nI c) (tw_X P) vs n s (nI i)) (fun n => tw_in P D n v) (fun _ s => s + 1) 0 c (fun n => ?_) (fun n i s hi hf ht => ?_)
  · exact br_t (nI_le (Nat.le_refl c) (by omega)) hp
  · exact br_f (nI_ge hi (by omega)) (tx_in T hi hv (tw_br (fun z => nm_r (nI_1 i) (hf z)) (fun z => nm_e (nm_r (nI_1 i) (ht z)))))
theorem tx_partSum (T : tw_T P D c) {post : Int32 → Prop} {v : Nat} (hv : v < c) (hp : post (tw_sm (fun n => tw_in P D n v) vs c)) :
    wpX_partSum post (nI c, tw_X P, vs) (nI v) := by
  have h24 := T.2.1
  unfold wpX_partSum
  dsimp only
  refine tx_isNode_y h24 hv (br_f tw_10 (?_))
  refine tw_lpi (fun n i s => wX_partSum_15 post (nI v) (nI c) (tw_X P) vs n s (nI i)) (fun n => tw_in P D n v) (fun n s => s + vs n) 0 c (fun n => ?_) (fun n i s hi hf ht => ?_)
  · exact br_t (nI_le (Nat.le_refl c) (by omega)) hp
  · exact br_f (nI_ge hi (by omega)) (tx_in T hi hv (tw_br (fun z => nm_r (nI_1 i) (hf z)) (fun z => ⟨vp_in_nI (tw_c24 T hi) (by omega), nm_r (congrArg (fun y => s + y) (tw_at vs (tw_c24 T hi))) (nm_r (nI_1 i) (ht z))⟩)))
theorem tx_partMost (T : tw_T P D c) {post : Int32 → Prop} {v : Nat} (hv : v < c) (hp : post (tw_mx (fun n => tw_in P D n v) vs (vs v) c)) :
    wpX_partMost post (nI c, tw_X P, vs) (nI v) := by
  have h24 := T.2.1
  unfold wpX_partMost
  dsimp only
  refine tx_isNode_y h24 hv (br_f tw_10 (⟨vp_in_nI (tw_c24 T hv) (by omega), nm_r (tw_at vs (tw_c24 T hv)) ?_⟩))
  refine tw_lpi (fun n i s => wX_partMost_20 post (nI v) (nI c) (tw_X P) vs n s (nI i)) (fun n => tw_in P D n v) (tw_m vs) (vs v) c (fun n => ?_) (fun n i s hi hf ht => ?_)
  · exact br_t (nI_le (Nat.le_refl c) (by omega)) hp
  · have e := tw_at vs (tw_c24 T hi)
    by_cases q : vs i ≤ s
    · refine br_f (nI_ge hi (by omega)) ⟨vp_in_nI (tw_c24 T hi) (by omega), br_t (by rw [e]; exact q) (nm_r (nI_1 i) ?_)⟩
      cases z : tw_in P D i v with
      | false => exact hf z
      | true =>
        have k := ht z
        rw [tw_m_f q] at k
        exact k
    · refine br_f (nI_ge hi (by omega)) ⟨vp_in_nI (tw_c24 T hi) (by omega), br_f (by rw [e]; exact q) (tx_in T hi hv (tw_br (fun z => nm_r (nI_1 i) (hf z)) (fun z => ⟨vp_in_nI (tw_c24 T hi) (by omega), nm_r e (nm_r (nI_1 i) ?_)⟩)))⟩
      have k := ht z
      rw [tw_m_t q] at k
      exact k
theorem tx_within (T : tw_T P D c) {post : Int32 → Prop} {v : Nat} {d : Int32} (hv : v < c) (hp : post (tw_ct (fun n => decide (¬ d < nI (tw_far P D v n))) c)) :
    wpX_within post (nI c, tw_X P, vs) (nI v) d := by
  have h24 := T.2.1
  unfold wpX_within
  dsimp only
  refine tx_isNode_y h24 hv (br_f tw_10 (?_))
  refine tw_lpi (fun n i s => wX_within_16 post (nI v) d (nI c) (tw_X P) vs n s (nI i)) (fun n => decide (¬ d < nI (tw_far P D v n))) (fun _ s => s + 1) 0 c (fun n => ?_) (fun n i s hi hf ht => ?_)
  · exact br_t (nI_le (Nat.le_refl c) (by omega)) hp
  · refine br_f (nI_ge hi (by omega)) (tx_far T hv hi (br_c (fun q => nm_r (nI_1 i) (hf ?_)) (fun q => nm_e (nm_r (nI_1 i) (ht ?_)))))
    · exact decide_eq_false (fun k => k q)
    · exact decide_eq_true q
theorem tx_addWay (T : tw_T P D c) {post : Int32 → SX → Prop} {u v : Nat} {x : Int32} (hu : u < c) (hv : v < c) (hl : ¬ x < -100) (hh : x ≤ 100)
    (hp : post (tw_ad (fun n => tw_on P D n u v) x vs c).1 (nI c, tw_X P, (tw_ad (fun n => tw_on P D n u v) x vs c).2)) :
    wpX_addWay post (nI c, tw_X P, vs) (nI u) (nI v) x := by
  have h24 := T.2.1
  unfold wpX_addWay
  dsimp only
  refine tx_isNode_y h24 hu (br_f tw_10 (tx_isNode_y h24 hv (br_f tw_10 (tx_btw_y hl hh (br_f tw_10 (tx_fork T hu hv ?_))))))
  refine tw_lpi (fun n i s => wX_addWay_44 post (nI u) (nI v) x (nI (tw_F P D u v)) (nI c) n s.1 (nI i) (tw_X P) s.2) (fun n => tw_on P D n u v) (tw_a x) (0, vs) c (fun n => ?_) (fun n i s hi hf ht => ?_)
  · exact br_t (nI_le (Nat.le_refl c) (by omega)) hp
  · have e : upd s.2 (nI i).toNatClampNeg (s.2 (nI i).toNatClampNeg + x) = upd s.2 i (s.2 i + x) := by rw [nI_clamp (by omega)]
    exact br_f (nI_ge hi (by omega)) (tx_on T hi hu hv (tw_br (fun z => nm_r (nI_1 i) (hf z)) (fun z => ⟨vp_in_nI (tw_c24 T hi) (by omega), vp_in_nI (tw_c24 T hi) (by omega), nm_r e (nm_e (nm_r (nI_1 i) (ht z)))⟩)))
theorem tx_addPart (T : tw_T P D c) {post : Int32 → SX → Prop} {v : Nat} {x : Int32} (hv : v < c) (hl : ¬ x < -100) (hh : x ≤ 100)
    (hp : post (tw_ad (fun n => tw_in P D n v) x vs c).1 (nI c, tw_X P, (tw_ad (fun n => tw_in P D n v) x vs c).2)) :
    wpX_addPart post (nI c, tw_X P, vs) (nI v) x := by
  have h24 := T.2.1
  unfold wpX_addPart
  dsimp only
  refine tx_isNode_y h24 hv (br_f tw_10 (tx_btw_y hl hh (br_f tw_10 ?_)))
  refine tw_lpi (fun n i s => wX_addPart_27 post (nI v) x (nI c) n s.1 (nI i) (tw_X P) s.2) (fun n => tw_in P D n v) (tw_a x) (0, vs) c (fun n => ?_) (fun n i s hi hf ht => ?_)
  · exact br_t (nI_le (Nat.le_refl c) (by omega)) hp
  · have e : upd s.2 (nI i).toNatClampNeg (s.2 (nI i).toNatClampNeg + x) = upd s.2 i (s.2 i + x) := by rw [nI_clamp (by omega)]
    exact br_f (nI_ge hi (by omega)) (tx_in T hi hv (tw_br (fun z => nm_r (nI_1 i) (hf z)) (fun z => ⟨vp_in_nI (tw_c24 T hi) (by omega), vp_in_nI (tw_c24 T hi) (by omega), nm_r e (nm_e (nm_r (nI_1 i) (ht z)))⟩)))
theorem tx_wi (T : tw_T P D c) {post : Int32 → Prop} {J : Int32 → Int32 → Prop} {u : Nat} {s0 : Int32} (hu : u < c) (hJ : J (tw_wo P D u s0) (nI (u + 1))) :
    ∃ n, wX_widest_14 post J (nI u) (nI c) (tw_X P) vs n s0 0 := by
  have h24 := T.2.1
  refine tw_lpa (fun n i s => wX_widest_14 post J (nI u) (nI c) (tw_X P) vs n s (nI i)) (tw_wi P D u) s0 u (fun n => ?_) (fun n i s hi h => ?_)
  · exact br_t (nI_le (Nat.le_refl u) (by omega)) (nm_r (nI_1 u) hJ)
  · refine br_f (nI_ge hi (by omega)) (tx_far T hu (Nat.lt_trans hi hu) (br_c (fun q => nm_r (nI_1 i) ?_) (fun q => nm_r (nI_1 i) ?_)))
    · rw [tw_wi_f q] at h
      exact h
    · rw [tw_wi_t q] at h
      exact h
theorem tx_widest (T : tw_T P D c) {post : Int32 → Prop} (hp : post (tw_wd P D c)) : wpX_widest post (nI c, tw_X P, vs) := by
  have h24 := T.2.1
  unfold wpX_widest
  dsimp only
  refine tw_lpa (fun n i s => wX_widest_4 post (nI c) (tw_X P) vs n s (nI i)) (tw_wo P D) 0 c (fun n => ?_) (fun n i s hi h => ?_)
  · exact br_t (nI_le (Nat.le_refl c) (by omega)) hp
  · exact br_f (nI_ge hi (by omega)) (tx_wi T hi h)
theorem tx_heart (T : tw_T P D c) {post : Int32 → Prop} (hp : post (nI (tw_ht P D c (c - 1)))) : wpX_heart post (nI c, tw_X P, vs) := by
  have h24 := T.2.1
  have h0 := T.1
  unfold wpX_heart
  dsimp only
  refine tx_sum (v := 0) T T.1 ?_
  refine ⟨c - 1 + 1, tw_lp (fun n m b => wX_heart_10 post (nI c) (tw_X P) vs n (nI b) (tw_S P D c b) (nI (m + 1))) (tw_hs P D c) 0 (c - 1) (fun n => ?_) (fun n m hm h => ?_) (c - 1) 0 (Nat.zero_add _)⟩
  · exact br_t (nI_le (by omega) (by omega)) hp
  · have hb : tw_fd (tw_hs P D c) 0 m < c := tw_ht_lt P D c h0 m (by omega)
    refine br_f (nI_ge (by omega) (by omega)) (tx_sum T (by omega) ?_)
    refine br_c (fun q => nm_r (nI_1 (m + 1)) ?_) (fun q => nm_r (nI_1 (m + 1)) ?_)
    · rw [tw_hs_f q] at h
      exact h
    · rw [tw_hs_t q] at h
      exact h
theorem tx_wayNode_y (T : tw_T P D c) {post : Int32 → Prop} {u v j : Nat} (hu : u < c) (hv : v < c) (hj : j ≤ tw_far P D u v) (hp : post (nI (tw_wn P D u v j))) :
    wpX_wayNode post (nI c, tw_X P, vs) (nI u) (nI v) (nI j) := by
  have h24 := T.2.1
  have l := tw_far_lt T hu hv
  have du := tw_D24 T hu
  unfold wpX_wayNode
  dsimp only
  refine tx_isNode_y h24 hu (br_f tw_10 (tx_isNode_y h24 hv (br_f tw_10 (tx_far T hu hv (tx_btw_y (nI_pos (by omega)) (nI_le hj (by omega)) (br_f tw_10 (tx_fork T hu hv (tx_far T hu (tw_F_lt T hu hv) ?_))))))))
  rw [tw_far_F T hu hv]
  have hp' : post (nI (if j ≤ D u - D (tw_F P D u v) then tw_it P j u else tw_it P (tw_far P D u v - j) v)) := hp
  refine pk_lt (D u - D (tw_F P D u v)) j (fun q => ?_) (fun q => ?_)
  · rw [if_neg (by omega)] at hp'
    exact tx_aboveS T hv (by omega) (by omega) hp'
  · rw [if_pos q] at hp'
    exact tx_above T hu (by omega) hp'
theorem tx_wayNode_n (T : tw_T P D c) {post : Int32 → Prop} {u v : Nat} {k : Int32} (hu : u < c) (hv : v < c) (hk : k < 0 ∨ ¬ k ≤ nI (tw_far P D u v)) (hp : post (-3000000)) :
    wpX_wayNode post (nI c, tw_X P, vs) (nI u) (nI v) k := by
  have h24 := T.2.1
  unfold wpX_wayNode
  dsimp only
  refine tx_isNode_y h24 hu (br_f tw_10 (tx_isNode_y h24 hv (br_f tw_10 (tx_far T hu hv ?_))))
  by_cases z : k < 0
  · exact tx_btw_l z (br_t rfl hp)
  · rcases hk with hk | hk
    · exact absurd hk z
    · exact tx_btw_h z hk (br_t rfl hp)
theorem tx_middle (T : tw_T P D c) {post : Int32 → Prop} {u v w : Nat} (hu : u < c) (hv : v < c) (hw : w < c) (hp : post (nI (tw_mid P D u v w))) :
    wpX_middle post (nI c, tw_X P, vs) (nI u) (nI v) (nI w) := by
  have h24 := T.2.1
  have f1 := tw_c24 T (tw_F_lt T hu hv)
  have f2 := tw_c24 T (tw_F_lt T hu hw)
  have f3 := tw_c24 T (tw_F_lt T hv hw)
  unfold wpX_middle
  dsimp only
  refine tx_isNode_y h24 hu (br_f tw_10 (tx_isNode_y h24 hv (br_f tw_10 (tx_isNode_y h24 hw (br_f tw_10 (tx_fork T hu hv (tx_fork T hu hw (tx_fork T hv hw ?_))))))))
  have hp' : post (nI (if tw_F P D u v = tw_F P D u w then tw_F P D v w else if tw_F P D u v = tw_F P D v w then tw_F P D u w else tw_F P D u v)) := hp
  refine pk_eq (tw_F P D u v) (tw_F P D u w) (fun e => ?_) (fun e => pk_eq (tw_F P D u v) (tw_F P D v w) (fun g => ?_) (fun g => ?_))
  · rw [if_pos e] at hp'
    exact hp'
  · rw [if_neg e, if_pos g] at hp'
    exact hp'
  · rw [if_neg e, if_neg g] at hp'
    exact hp'
end
end
section
section
variable {P D : Nat → Nat} {c : Nat} {vs : Nat → Int32}
theorem ty_are_n {a : Nat → Int32} {x y : Int32} {post : Int32 → Prop} (hc : c ≤ 24) (h : tw_bad c x ∨ tw_bad c y) (hp : post 0) : wpY_areNodes post (nI c, a, vs) x y := by
  unfold wpY_areNodes
  dsimp only
  rcases tw_nd hc x with h1 | ⟨j, hj, e⟩
  · exact ty_isNode_n h1 (br_t rfl hp)
  · rcases h with h1 | h2
    · exact ty_isNode_n h1 (br_t rfl hp)
    · rw [e]
      exact ty_isNode_y hc hj (br_f tw_10 (ty_isNode_n h2 (br_t rfl hp)))
theorem ty_are_y {a : Nat → Int32} {i j : Nat} {post : Int32 → Prop} (hc : c ≤ 24) (hi : i < c) (hj : j < c) (hp : post 1) : wpY_areNodes post (nI c, a, vs) (nI i) (nI j) := by
  unfold wpY_areNodes
  dsimp only
  exact ty_isNode_y hc hi (br_f tw_10 (ty_isNode_y hc hj (br_f tw_10 hp)))
theorem ty_in_f (T : tw_T P D c) {post : Int32 → Prop} {n v : Nat} (hn : n < c) (hv : v < c) (z : tw_in P D n v = false) (hp : post 0) :
    wpY_isIn post (nI c, tw_Y P, vs) (nI n) (nI v) := ty_in T hn hv (by rw [z]; exact hp)
theorem ty_in_t (T : tw_T P D c) {post : Int32 → Prop} {n v : Nat} (hn : n < c) (hv : v < c) (z : tw_in P D n v = true) (hp : post 1) :
    wpY_isIn post (nI c, tw_Y P, vs) (nI n) (nI v) := ty_in T hn hv (by rw [z]; exact hp)
theorem ty_waySum (T : tw_T P D c) {post : Int32 → Prop} {u v : Nat} (hu : u < c) (hv : v < c) (hp : post (tw_sm (fun n => tw_on P D n u v) vs c)) :
    wpY_waySum post (nI c, tw_Y P, vs) (nI u) (nI v) := by
  have h24 := T.2.1
  unfold wpY_waySum
  dsimp only
  refine ty_are_y h24 hu hv (br_f tw_10 (?_))
  refine tw_lpi (fun n i s => wY_waySum_17 post (nI u) (nI v) (nI c) (tw_Y P) vs n s (nI i)) (fun n => tw_on P D n u v) (fun n s => s + vs n) 0 c (fun n => ?_) (fun n i s hi hf ht => ?_)
  · exact br_t (nI_le (Nat.le_refl c) (by omega)) hp
  · exact br_f (nI_ge hi (by omega)) (ty_on T hi hu hv (tw_br (fun z => nm_r (nI_1 i) (hf z)) (fun z => ⟨vp_in_nI (tw_c24 T hi) (by omega), nm_r (congrArg (fun y => s + y) (tw_at vs (tw_c24 T hi))) (nm_r (nI_1 i) (ht z))⟩)))
theorem ty_wayMost (T : tw_T P D c) {post : Int32 → Prop} {u v : Nat} (hu : u < c) (hv : v < c) (hp : post (tw_mx (fun n => tw_on P D n u v) vs (vs u) c)) :
    wpY_wayMost post (nI c, tw_Y P, vs) (nI u) (nI v) := by
  have h24 := T.2.1
  unfold wpY_wayMost
  dsimp only
  refine ty_are_y h24 hu hv (br_f tw_10 (⟨vp_in_nI (tw_c24 T hu) (by omega), nm_r (tw_at vs (tw_c24 T hu)) ?_⟩))
  refine tw_lpi (fun n i s => wY_wayMost_22 post (nI u) (nI v) (nI c) (tw_Y P) vs n s (nI i)) (fun n => tw_on P D n u v) (tw_m vs) (vs u) c (fun n => ?_) (fun n i s hi hf ht => ?_)
  · exact br_t (nI_le (Nat.le_refl c) (by omega)) hp
  · have e := tw_at vs (tw_c24 T hi)
    refine br_f (nI_ge hi (by omega)) (ty_on T hi hu hv (tw_br (fun z => nm_r (nI_1 i) (hf z)) (fun z => ⟨vp_in_nI (tw_c24 T hi) (by omega), ?_⟩)))
    have k := ht z
    by_cases q : vs i ≤ s
    · rw [tw_m_f q] at k
      exact br_t (by rw [e]; exact q) (nm_r (nI_1 i) k)
    · rw [tw_m_t q] at k
      exact br_f (by rw [e]; exact q) ⟨vp_in_nI (tw_c24 T hi) (by omega), nm_r e (nm_r (nI_1 i) k)⟩
theorem ty_partSize (T : tw_T P D c) {post : Int32 → Prop} {v : Nat} (hv : v < c) (hp : post (tw_ct (fun n => tw_in P D n v) c)) :
    wpY_partSize post (nI c, tw_Y P, vs) (nI v) := by
  have h24 := T.2.1
  unfold wpY_partSize
  dsimp only
  refine ty_isNode_y h24 hv (br_f tw_10 (?_))
  refine tw_lpi (fun n i s => wY_partSize_15 post (nI v) (nI c) (tw_Y P) vs n s (nI i)) (fun n => tw_in P D n v) (fun _ s => s + 1) 0 c (fun n => ?_) (fun n i s hi hf ht => ?_)
  · exact br_t (nI_le (Nat.le_refl c) (by omega)) hp
  · exact br_f (nI_ge hi (by omega)) (ty_in T hi hv (tw_br (fun z => nm_r (nI_1 i) (hf z)) (fun z => nm_e (nm_r (nI_1 i) (ht z)))))
theorem ty_partSum (T : tw_T P D c) {post : Int32 → Prop} {v : Nat} (hv : v < c) (hp : post (tw_sm (fun n => tw_in P D n v) vs c)) :
    wpY_partSum post (nI c, tw_Y P, vs) (nI v) := by
  have h24 := T.2.1
  unfold wpY_partSum
  dsimp only
  refine ty_isNode_y h24 hv (br_f tw_10 (?_))
  refine tw_lpi (fun n i s => wY_partSum_15 post (nI v) (nI c) (tw_Y P) vs n s (nI i)) (fun n => tw_in P D n v) (fun n s => s + vs n) 0 c (fun n => ?_) (fun n i s hi hf ht => ?_)
  · exact br_t (nI_le (Nat.le_refl c) (by omega)) hp
  · exact br_f (nI_ge hi (by omega)) (ty_in T hi hv (tw_br (fun z => nm_r (nI_1 i) (hf z)) (fun z => ⟨vp_in_nI (tw_c24 T hi) (by omega), nm_r (congrArg (fun y => s + y) (tw_at vs (tw_c24 T hi))) (nm_r (nI_1 i) (ht z))⟩)))
theorem ty_partMost (T : tw_T P D c) {post : Int32 → Prop} {v : Nat} (hv : v < c) (hp : post (tw_mx (fun n => tw_in P D n v) vs (vs v) c)) :
    wpY_partMost post (nI c, tw_Y P, vs) (nI v) := by
  have h24 := T.2.1
  unfold wpY_partMost
  dsimp only
  refine ty_isNode_y h24 hv (br_f tw_10 (⟨vp_in_nI (tw_c24 T hv) (by omega), nm_r (tw_at vs (tw_c24 T hv)) ?_⟩))
  refine tw_lpi (fun n i s => wY_partMost_20 post (nI v) (nI c) (tw_Y P) vs n s (nI i)) (fun n => tw_in P D n v) (tw_m vs) (vs v) c (fun n => ?_) (fun n i s hi hf ht => ?_)
  · exact br_t (nI_le (Nat.le_refl c) (by omega)) hp
  · have e := tw_at vs (tw_c24 T hi)
    refine br_f (nI_ge hi (by omega)) (ty_in T hi hv (tw_br (fun z => nm_r (nI_1 i) (hf z)) (fun z => ⟨vp_in_nI (tw_c24 T hi) (by omega), ?_⟩)))
    have k := ht z
    by_cases q : vs i ≤ s
    · rw [tw_m_f q] at k
      exact br_t (by rw [e]; exact q) (nm_r (nI_1 i) k)
    · rw [tw_m_t q] at k
      exact br_f (by rw [e]; exact q) ⟨vp_in_nI (tw_c24 T hi) (by omega), nm_r e (nm_r (nI_1 i) k)⟩
theorem ty_within (T : tw_T P D c) {post : Int32 → Prop} {v : Nat} {d : Int32} (hv : v < c) (hp : post (tw_ct (fun n => decide (¬ d < nI (tw_far P D v n))) c)) :
    wpY_within post (nI c, tw_Y P, vs) (nI v) d := by
  have h24 := T.2.1
  unfold wpY_within
  dsimp only
  refine ty_isNode_y h24 hv (br_f tw_10 (?_))
  refine tw_lpi (fun n i s => wY_within_16 post (nI v) d (nI c) (tw_Y P) vs n s (nI i)) (fun n => decide (¬ d < nI (tw_far P D v n))) (fun _ s => s + 1) 0 c (fun n => ?_) (fun n i s hi hf ht => ?_)
  · exact br_t (nI_le (Nat.le_refl c) (by omega)) hp
  · refine br_f (nI_ge hi (by omega)) (ty_far T hv hi (br_c (fun q => nm_r (nI_1 i) (hf ?_)) (fun q => nm_e (nm_r (nI_1 i) (ht ?_)))))
    · exact decide_eq_false (fun k => k q)
    · exact decide_eq_true q
theorem ty_addWay (T : tw_T P D c) {post : Int32 → SY → Prop} {u v : Nat} {x : Int32} (hu : u < c) (hv : v < c) (hl : ¬ x < -100) (hh : x ≤ 100)
    (hp : post (tw_ad (fun n => tw_on P D n u v) x vs c).1 (nI c, tw_Y P, (tw_ad (fun n => tw_on P D n u v) x vs c).2)) :
    wpY_addWay post (nI c, tw_Y P, vs) (nI u) (nI v) x := by
  have h24 := T.2.1
  unfold wpY_addWay
  dsimp only
  refine ty_isNode_y h24 hu (br_f tw_10 (ty_isNode_y h24 hv (br_f tw_10 (br_f hl (br_t hh ?_)))))
  refine tw_lpi (fun n i s => wY_addWay_37 post (nI u) (nI v) x (nI c) n s.1 (nI i) (tw_Y P) s.2) (fun n => tw_on P D n u v) (tw_a x) (0, vs) c (fun n => ?_) (fun n i s hi hf ht => ?_)
  · exact br_t (nI_le (Nat.le_refl c) (by omega)) hp
  · have e : upd s.2 (nI i).toNatClampNeg (s.2 (nI i).toNatClampNeg + x) = upd s.2 i (s.2 i + x) := by rw [nI_clamp (by omega)]
    exact br_f (nI_ge hi (by omega)) (ty_on T hi hu hv (tw_br (fun z => nm_r (nI_1 i) (hf z)) (fun z => ⟨vp_in_nI (tw_c24 T hi) (by omega), vp_in_nI (tw_c24 T hi) (by omega), nm_r e (nm_e (nm_r (nI_1 i) (ht z)))⟩)))
theorem ty_addPart (T : tw_T P D c) {post : Int32 → SY → Prop} {v : Nat} {x : Int32} (hv : v < c) (hl : ¬ x < -100) (hh : x ≤ 100)
    (hp : post (tw_ad (fun n => tw_in P D n v) x vs c).1 (nI c, tw_Y P, (tw_ad (fun n => tw_in P D n v) x vs c).2)) :
    wpY_addPart post (nI c, tw_Y P, vs) (nI v) x := by
  have h24 := T.2.1
  unfold wpY_addPart
  dsimp only
  refine ty_isNode_y h24 hv (br_f tw_10 (br_f hl (br_t hh ?_)))
  refine tw_lpi (fun n i s => wY_addPart_28 post (nI v) x (nI c) n s.1 (nI i) (tw_Y P) s.2) (fun n => tw_in P D n v) (tw_a x) (0, vs) c (fun n => ?_) (fun n i s hi hf ht => ?_)
  · exact br_t (nI_le (Nat.le_refl c) (by omega)) hp
  · have e : upd s.2 (nI i).toNatClampNeg (s.2 (nI i).toNatClampNeg + x) = upd s.2 i (s.2 i + x) := by rw [nI_clamp (by omega)]
    exact br_f (nI_ge hi (by omega)) (ty_in T hi hv (tw_br (fun z => nm_r (nI_1 i) (hf z)) (fun z => ⟨vp_in_nI (tw_c24 T hi) (by omega), vp_in_nI (tw_c24 T hi) (by omega), nm_r e (nm_e (nm_r (nI_1 i) (ht z)))⟩)))
theorem ty_wi (T : tw_T P D c) {post : Int32 → Prop} {J : Int32 → Int32 → Prop} {u : Nat} {s0 : Int32} (hu : u < c) (hJ : J (tw_wo P D u s0) (nI (u + 1))) :
    ∃ n, wY_widest_14 post J (nI u) (nI c) (tw_Y P) vs n s0 0 := by
  have h24 := T.2.1
  refine tw_lpa (fun n i s => wY_widest_14 post J (nI u) (nI c) (tw_Y P) vs n s (nI i)) (tw_wi P D u) s0 u (fun n => ?_) (fun n i s hi h => ?_)
  · exact br_t (nI_le (Nat.le_refl u) (by omega)) (nm_r (nI_1 u) hJ)
  · refine br_f (nI_ge hi (by omega)) (ty_far T hu (Nat.lt_trans hi hu) (br_c (fun q => nm_r (nI_1 i) ?_) (fun q => nm_r (nI_1 i) ?_)))
    · rw [tw_wi_f q] at h
      exact h
    · rw [tw_wi_t q] at h
      exact h
theorem ty_widest (T : tw_T P D c) {post : Int32 → Prop} (hp : post (tw_wd P D c)) : wpY_widest post (nI c, tw_Y P, vs) := by
  have h24 := T.2.1
  unfold wpY_widest
  dsimp only
  refine tw_lpa (fun n i s => wY_widest_4 post (nI c) (tw_Y P) vs n s (nI i)) (tw_wo P D) 0 c (fun n => ?_) (fun n i s hi h => ?_)
  · exact br_t (nI_le (Nat.le_refl c) (by omega)) hp
  · exact br_f (nI_ge hi (by omega)) (ty_wi T hi h)
theorem ty_heart (T : tw_T P D c) {post : Int32 → Prop} (hp : post (nI (tw_ht P D c (c - 1)))) : wpY_heart post (nI c, tw_Y P, vs) := by
  have h24 := T.2.1
  have h0 := T.1
  unfold wpY_heart
  dsimp only
  refine ⟨c - 1 + 1, tw_lp (fun n m b => wY_heart_4 post (nI c) (tw_Y P) vs n (nI b) (nI (m + 1))) (tw_hs P D c) 0 (c - 1) (fun n => ?_) (fun n m hm h => ?_) (c - 1) 0 (Nat.zero_add _)⟩
  · exact br_t (nI_le (by omega) (by omega)) hp
  · have hb : tw_fd (tw_hs P D c) 0 m < c := tw_ht_lt P D c h0 m (by omega)
    refine br_f (nI_ge (by omega) (by omega)) (ty_sum T (by omega) (ty_sum T hb ?_))
    refine br_c (fun q => nm_r (nI_1 (m + 1)) ?_) (fun q => nm_r (nI_1 (m + 1)) ?_)
    · rw [tw_hs_f q] at h
      exact h
    · rw [tw_hs_t q] at h
      exact h
theorem ty_wayNode_y (T : tw_T P D c) {post : Int32 → Prop} {u v j : Nat} (hu : u < c) (hv : v < c) (hj : j ≤ tw_far P D u v) (hp : post (nI (tw_wn P D u v j))) :
    wpY_wayNode post (nI c, tw_Y P, vs) (nI u) (nI v) (nI j) := by
  have h24 := T.2.1
  have l := tw_far_lt T hu hv
  have ht := tw_wn_lt T hu hv j
  unfold wpY_wayNode
  dsimp only
  refine ty_are_y h24 hu hv (br_f tw_10 ?_)
  refine tw_sc (fun n i => wY_wayNode_15 post (nI u) (nI v) (nI j) (nI c) (tw_Y P) vs n (nI i)) c (tw_wn P D u v j) ht (fun n => ?_) (fun n i hi hne h => ?_)
  · have q := (tw_wn_on T ht hu hv hj).mpr rfl
    refine br_f (nI_ge ht (by omega)) (ty_on T ht hu hv (tw_br (fun z => ?_) (fun z => ty_far T hu ht (br_t ?_ hp))))
    · rw [q.1] at z
      exact absurd z (by decide)
    · rw [q.2]
  · have l2 := tw_far_lt T hu hi
    refine br_f (nI_ge hi (by omega)) (ty_on T hi hu hv (tw_br (fun z => nm_r (nI_1 i) h) (fun z => ty_far T hu hi (pk_eq (tw_far P D u i) j (fun e => ?_) (fun e => nm_r (nI_1 i) h)))))
    exact absurd ((tw_wn_on T hi hu hv hj).mp ⟨z, e⟩) hne
theorem ty_wayNode_n (T : tw_T P D c) {post : Int32 → Prop} {u v : Nat} {k : Int32} (hu : u < c) (hv : v < c) (hk : k < 0 ∨ ¬ k ≤ nI (tw_far P D u v)) (hp : post (-3000000)) :
    wpY_wayNode post (nI c, tw_Y P, vs) (nI u) (nI v) k := by
  have h24 := T.2.1
  have l := tw_far_lt T hu hv
  unfold wpY_wayNode
  dsimp only
  refine ty_are_y h24 hu hv (br_f tw_10 ?_)
  refine tw_sn (fun n i => wY_wayNode_15 post (nI u) (nI v) k (nI c) (tw_Y P) vs n (nI i)) c (fun n => ?_) (fun n i hi h => ?_)
  · exact br_t (nI_le (Nat.le_refl c) (by omega)) hp
  · have l2 := tw_far_lt T hu hi
    refine br_f (nI_ge hi (by omega)) (ty_on T hi hu hv (tw_br (fun z => nm_r (nI_1 i) h) (fun z => ty_far T hu hi (br_f (fun e => ?_) (nm_r (nI_1 i) h)))))
    have l3 := tw_on_le T hi hu hv z
    rw [← e] at hk
    rcases hk with hk | hk
    · exact nI_pos (by omega) hk
    · exact hk (nI_le l3 (by omega))
theorem ty_middle (T : tw_T P D c) {post : Int32 → Prop} {u v w : Nat} (hu : u < c) (hv : v < c) (hw : w < c) (hp : post (nI (tw_mid P D u v w))) :
    wpY_middle post (nI c, tw_Y P, vs) (nI u) (nI v) (nI w) := by
  have h24 := T.2.1
  have ht := tw_mid_lt T hu hv hw
  unfold wpY_middle
  dsimp only
  refine ty_are_y h24 hu hv (br_f tw_10 (ty_isNode_y h24 hw (br_f tw_10 ?_)))
  refine tw_sc (fun n i => wY_middle_23 post (nI u) (nI v) (nI w) (nI c) (tw_Y P) vs n (nI i)) c (tw_mid P D u v w) ht (fun n => ?_) (fun n i hi hne h => ?_)
  · have q := (tw_mid_on T ht hu hv hw).mpr rfl
    refine br_f (nI_ge ht (by omega)) (ty_on T ht hu hv (tw_br (fun z => ?_) (fun _ => ty_on T ht hu hw (tw_br (fun z => ?_) (fun _ => ty_on T ht hv hw (tw_br (fun z => ?_) (fun _ => hp)))))))
    · rw [q.1] at z
      exact absurd z (by decide)
    · rw [q.2.1] at z
      exact absurd z (by decide)
    · rw [q.2.2] at z
      exact absurd z (by decide)
  · refine br_f (nI_ge hi (by omega)) (ty_on T hi hu hv (tw_br (fun _ => nm_r (nI_1 i) h) (fun z1 => ty_on T hi hu hw (tw_br (fun _ => nm_r (nI_1 i) h) (fun z2 => ty_on T hi hv hw (tw_br (fun _ => nm_r (nI_1 i) h) (fun z3 => ?_)))))))
    exact absurd ((tw_mid_on T hi hu hv hw).mp ⟨z1, z2, z3⟩) hne
end
end
section
/-- one tree, one row of values, two ways to keep the top's parent -/
def i_Rel (_ : Nat) (u : SX) (v : SY) : Prop :=
  ∃ (P D : Nat → Nat) (c : Nat) (vs : Nat → Int32), tw_T P D c ∧ (∀ j, c ≤ j → vs j = 0) ∧ u = (nI c, tw_X P, vs) ∧ v = (nI c, tw_Y P, vs)
theorem i_up {k : Nat} {u : SX} {v : SY} (h : i_Rel k u v) : i_Rel (k + 4) u v := h
theorem i_vc0 : wpX_init (fun u => wpY_init (fun v => i_Rel 0 u v)) := by
  have e1 : (fun _ => 0 : Nat → Int32) = tw_X (fun _ => 0) := by
    funext j
    exact nI_0.symm
  have e2 : upd (fun _ => 0) 0 (-1) = tw_Y (fun _ => 0) := by
    funext j
    show (if j = 0 then (-1 : Int32) else 0) = (if j = 0 then -1 else nI 0)
    rw [nI_0]
  have e3 : (1 : Int32) = nI 1 := by decide
  unfold wpX_init wpY_init
  refine nm_r e2 ⟨fun _ => 0, fun _ => 0, 1, fun _ => 0, tw_T_new, fun _ _ => rfl, ?_, ?_⟩
  · rw [← e1, ← e3]
  · rw [← e3]
theorem i_vc_nodes {k : Nat} {u : SX} {v : SY} (I : i_Rel k u v) (hk : k + 4 ≤ 2048) : wpX_nodes (fun r => wpY_nodes (fun r' => r' = r ∧ i_Rel (k + 4) u v) v) u := by
  obtain ⟨P, D, c, vs, T, Z, rfl, rfl⟩ := I
  have h24 := T.2.1
  have R : i_Rel (k + 4) (nI c, tw_X P, vs) (nI c, tw_Y P, vs) := ⟨P, D, c, vs, T, Z, rfl, rfl⟩
  exact ⟨rfl, R⟩
theorem i_vc_widest {k : Nat} {u : SX} {v : SY} (I : i_Rel k u v) (hk : k + 4 ≤ 2048) : wpX_widest (fun r => wpY_widest (fun r' => r' = r ∧ i_Rel (k + 4) u v) v) u := by
  obtain ⟨P, D, c, vs, T, Z, rfl, rfl⟩ := I
  have h24 := T.2.1
  have R : i_Rel (k + 4) (nI c, tw_X P, vs) (nI c, tw_Y P, vs) := ⟨P, D, c, vs, T, Z, rfl, rfl⟩
  exact tx_widest T (ty_widest T ⟨rfl, R⟩)
theorem i_vc_heart {k : Nat} {u : SX} {v : SY} (I : i_Rel k u v) (hk : k + 4 ≤ 2048) : wpX_heart (fun r => wpY_heart (fun r' => r' = r ∧ i_Rel (k + 4) u v) v) u := by
  obtain ⟨P, D, c, vs, T, Z, rfl, rfl⟩ := I
  have h24 := T.2.1
  have R : i_Rel (k + 4) (nI c, tw_X P, vs) (nI c, tw_Y P, vs) := ⟨P, D, c, vs, T, Z, rfl, rfl⟩
  exact tx_heart T (ty_heart T ⟨rfl, R⟩)
theorem i_vc_partSize {k : Nat} {u : SX} {v : SY} (I : i_Rel k u v) (hk : k + 4 ≤ 2048) (v1 : Int32) : wpX_partSize (fun r => wpY_partSize (fun r' => r' = r ∧ i_Rel (k + 4) u v) v v1) u v1 := by
  obtain ⟨P, D, c, vs, T, Z, rfl, rfl⟩ := I
  have h24 := T.2.1
  have R : i_Rel (k + 4) (nI c, tw_X P, vs) (nI c, tw_Y P, vs) := ⟨P, D, c, vs, T, Z, rfl, rfl⟩
  rcases tw_nd h24 v1 with h1 | ⟨a, ha, rfl⟩
  · unfold wpX_partSize wpY_partSize
    dsimp only
    exact tx_isNode_n h1 (br_t rfl (ty_isNode_n h1 (br_t rfl ⟨rfl, R⟩)))
  · exact tx_partSize T ha (ty_partSize T ha ⟨rfl, R⟩)
theorem i_vc_partSum {k : Nat} {u : SX} {v : SY} (I : i_Rel k u v) (hk : k + 4 ≤ 2048) (v1 : Int32) : wpX_partSum (fun r => wpY_partSum (fun r' => r' = r ∧ i_Rel (k + 4) u v) v v1) u v1 := by
  obtain ⟨P, D, c, vs, T, Z, rfl, rfl⟩ := I
  have h24 := T.2.1
  have R : i_Rel (k + 4) (nI c, tw_X P, vs) (nI c, tw_Y P, vs) := ⟨P, D, c, vs, T, Z, rfl, rfl⟩
  rcases tw_nd h24 v1 with h1 | ⟨a, ha, rfl⟩
  · unfold wpX_partSum wpY_partSum
    dsimp only
    exact tx_isNode_n h1 (br_t rfl (ty_isNode_n h1 (br_t rfl ⟨rfl, R⟩)))
  · exact tx_partSum T ha (ty_partSum T ha ⟨rfl, R⟩)
theorem i_vc_partMost {k : Nat} {u : SX} {v : SY} (I : i_Rel k u v) (hk : k + 4 ≤ 2048) (v1 : Int32) : wpX_partMost (fun r => wpY_partMost (fun r' => r' = r ∧ i_Rel (k + 4) u v) v v1) u v1 := by
  obtain ⟨P, D, c, vs, T, Z, rfl, rfl⟩ := I
  have h24 := T.2.1
  have R : i_Rel (k + 4) (nI c, tw_X P, vs) (nI c, tw_Y P, vs) := ⟨P, D, c, vs, T, Z, rfl, rfl⟩
  rcases tw_nd h24 v1 with h1 | ⟨a, ha, rfl⟩
  · unfold wpX_partMost wpY_partMost
    dsimp only
    exact tx_isNode_n h1 (br_t rfl (ty_isNode_n h1 (br_t rfl ⟨rfl, R⟩)))
  · exact tx_partMost T ha (ty_partMost T ha ⟨rfl, R⟩)
theorem i_vc_within {k : Nat} {u : SX} {v : SY} (I : i_Rel k u v) (hk : k + 4 ≤ 2048) (v1 : Int32) (v2 : Int32) : wpX_within (fun r => wpY_within (fun r' => r' = r ∧ i_Rel (k + 4) u v) v v1 v2) u v1 v2 := by
  obtain ⟨P, D, c, vs, T, Z, rfl, rfl⟩ := I
  have h24 := T.2.1
  have R : i_Rel (k + 4) (nI c, tw_X P, vs) (nI c, tw_Y P, vs) := ⟨P, D, c, vs, T, Z, rfl, rfl⟩
  rcases tw_nd h24 v1 with h1 | ⟨a, ha, rfl⟩
  · unfold wpX_within wpY_within
    dsimp only
    exact tx_isNode_n h1 (br_t rfl (ty_isNode_n h1 (br_t rfl ⟨rfl, R⟩)))
  · exact tx_within T ha (ty_within T ha ⟨rfl, R⟩)
theorem i_vc_depth {k : Nat} {u : SX} {v : SY} (I : i_Rel k u v) (hk : k + 4 ≤ 2048) (v1 : Int32) : wpX_depth (fun r => wpY_depth (fun r' => r' = r ∧ i_Rel (k + 4) u v) v v1) u v1 := by
  obtain ⟨P, D, c, vs, T, Z, rfl, rfl⟩ := I
  have h24 := T.2.1
  have R : i_Rel (k + 4) (nI c, tw_X P, vs) (nI c, tw_Y P, vs) := ⟨P, D, c, vs, T, Z, rfl, rfl⟩
  rcases tw_nd h24 v1 with h1 | ⟨a, ha, rfl⟩
  · unfold wpX_depth wpY_depth
    dsimp only
    exact tx_isNode_n h1 (br_t rfl (ty_isNode_n h1 (br_t rfl ⟨rfl, R⟩)))
  · unfold wpX_depth wpY_depth
    dsimp only
    exact tx_isNode_y h24 ha (br_f tw_10 (tx_depth T ha (ty_isNode_y h24 ha (br_f tw_10 (ty_steps T ha ⟨rfl, R⟩)))))
theorem i_vc_farSum {k : Nat} {u : SX} {v : SY} (I : i_Rel k u v) (hk : k + 4 ≤ 2048) (v1 : Int32) : wpX_farSum (fun r => wpY_farSum (fun r' => r' = r ∧ i_Rel (k + 4) u v) v v1) u v1 := by
  obtain ⟨P, D, c, vs, T, Z, rfl, rfl⟩ := I
  have h24 := T.2.1
  have R : i_Rel (k + 4) (nI c, tw_X P, vs) (nI c, tw_Y P, vs) := ⟨P, D, c, vs, T, Z, rfl, rfl⟩
  rcases tw_nd h24 v1 with h1 | ⟨a, ha, rfl⟩
  · unfold wpX_farSum wpY_farSum
    dsimp only
    exact tx_isNode_n h1 (br_t rfl (ty_isNode_n h1 (br_t rfl ⟨rfl, R⟩)))
  · unfold wpX_farSum wpY_farSum
    dsimp only
    exact tx_isNode_y h24 ha (br_f tw_10 (tx_sum T ha (ty_isNode_y h24 ha (br_f tw_10 (ty_sum T ha ⟨rfl, R⟩)))))
theorem i_vc_value {k : Nat} {u : SX} {v : SY} (I : i_Rel k u v) (hk : k + 4 ≤ 2048) (v1 : Int32) : wpX_value (fun r => wpY_value (fun r' => r' = r ∧ i_Rel (k + 4) u v) v v1) u v1 := by
  obtain ⟨P, D, c, vs, T, Z, rfl, rfl⟩ := I
  have h24 := T.2.1
  have R : i_Rel (k + 4) (nI c, tw_X P, vs) (nI c, tw_Y P, vs) := ⟨P, D, c, vs, T, Z, rfl, rfl⟩
  rcases tw_nd h24 v1 with h1 | ⟨a, ha, rfl⟩
  · unfold wpX_value wpY_value
    dsimp only
    exact tx_isNode_n h1 (br_t rfl (ty_isNode_n h1 (br_t rfl ⟨rfl, R⟩)))
  · have vp := vp_in_nI (N := 24) (tw_c24 T ha) (by omega)
    unfold wpX_value wpY_value
    dsimp only
    exact tx_isNode_y h24 ha (br_f tw_10 ⟨vp, ty_isNode_y h24 ha (br_f tw_10 ⟨vp, rfl, R⟩)⟩)
theorem i_vc_parent {k : Nat} {u : SX} {v : SY} (I : i_Rel k u v) (hk : k + 4 ≤ 2048) (v1 : Int32) : wpX_parent (fun r => wpY_parent (fun r' => r' = r ∧ i_Rel (k + 4) u v) v v1) u v1 := by
  obtain ⟨P, D, c, vs, T, Z, rfl, rfl⟩ := I
  have h24 := T.2.1
  have R : i_Rel (k + 4) (nI c, tw_X P, vs) (nI c, tw_Y P, vs) := ⟨P, D, c, vs, T, Z, rfl, rfl⟩
  rcases tw_nd h24 v1 with h1 | ⟨a, ha, rfl⟩
  · unfold wpX_parent wpY_parent
    dsimp only
    exact tx_isNode_n h1 (br_t rfl (ty_isNode_n h1 (br_t rfl ⟨rfl, R⟩)))
  · have a24 := tw_c24 T ha
    have vp := vp_in_nI (N := 24) a24 (by omega)
    unfold wpX_parent wpY_parent
    dsimp only
    by_cases h0 : a = 0
    · have e : nI a = 0 := by rw [h0]; exact nI_0
      exact tx_isNode_y h24 ha (br_f tw_10 (br_t e (ty_isNode_y h24 ha (br_f tw_10 (br_t e ⟨rfl, R⟩)))))
    · have e : ¬ nI a = 0 := nI_ne0 (by omega) (by omega)
      exact tx_isNode_y h24 ha (br_f tw_10 (br_f e ⟨vp, ty_isNode_y h24 ha (br_f tw_10 (br_f e ⟨vp, (tw_Y_at P a24 h0).trans (tw_X_at P a24).symm, R⟩))⟩))
theorem i_vc_waySum {k : Nat} {u : SX} {v : SY} (I : i_Rel k u v) (hk : k + 4 ≤ 2048) (v1 : Int32) (v2 : Int32) : wpX_waySum (fun r => wpY_waySum (fun r' => r' = r ∧ i_Rel (k + 4) u v) v v1 v2) u v1 v2 := by
  obtain ⟨P, D, c, vs, T, Z, rfl, rfl⟩ := I
  have h24 := T.2.1
  have R : i_Rel (k + 4) (nI c, tw_X P, vs) (nI c, tw_Y P, vs) := ⟨P, D, c, vs, T, Z, rfl, rfl⟩
  rcases tw_nd h24 v1 with h1 | ⟨a, ha, rfl⟩
  · unfold wpX_waySum wpY_waySum
    dsimp only
    exact tx_isNode_n h1 (br_t rfl (ty_are_n h24 (Or.inl h1) (br_t rfl ⟨rfl, R⟩)))
  · rcases tw_nd h24 v2 with h2 | ⟨b, hb, rfl⟩
    · unfold wpX_waySum wpY_waySum
      dsimp only
      exact tx_isNode_y h24 ha (br_f tw_10 (tx_isNode_n h2 (br_t rfl (ty_are_n h24 (Or.inr h2) (br_t rfl ⟨rfl, R⟩)))))
    · exact tx_waySum T ha hb (ty_waySum T ha hb ⟨rfl, R⟩)
theorem i_vc_wayMost {k : Nat} {u : SX} {v : SY} (I : i_Rel k u v) (hk : k + 4 ≤ 2048) (v1 : Int32) (v2 : Int32) : wpX_wayMost (fun r => wpY_wayMost (fun r' => r' = r ∧ i_Rel (k + 4) u v) v v1 v2) u v1 v2 := by
  obtain ⟨P, D, c, vs, T, Z, rfl, rfl⟩ := I
  have h24 := T.2.1
  have R : i_Rel (k + 4) (nI c, tw_X P, vs) (nI c, tw_Y P, vs) := ⟨P, D, c, vs, T, Z, rfl, rfl⟩
  rcases tw_nd h24 v1 with h1 | ⟨a, ha, rfl⟩
  · unfold wpX_wayMost wpY_wayMost
    dsimp only
    exact tx_isNode_n h1 (br_t rfl (ty_are_n h24 (Or.inl h1) (br_t rfl ⟨rfl, R⟩)))
  · rcases tw_nd h24 v2 with h2 | ⟨b, hb, rfl⟩
    · unfold wpX_wayMost wpY_wayMost
      dsimp only
      exact tx_isNode_y h24 ha (br_f tw_10 (tx_isNode_n h2 (br_t rfl (ty_are_n h24 (Or.inr h2) (br_t rfl ⟨rfl, R⟩)))))
    · exact tx_wayMost T ha hb (ty_wayMost T ha hb ⟨rfl, R⟩)
theorem i_vc_fork {k : Nat} {u : SX} {v : SY} (I : i_Rel k u v) (hk : k + 4 ≤ 2048) (v1 : Int32) (v2 : Int32) : wpX_fork (fun r => wpY_fork (fun r' => r' = r ∧ i_Rel (k + 4) u v) v v1 v2) u v1 v2 := by
  obtain ⟨P, D, c, vs, T, Z, rfl, rfl⟩ := I
  have h24 := T.2.1
  have R : i_Rel (k + 4) (nI c, tw_X P, vs) (nI c, tw_Y P, vs) := ⟨P, D, c, vs, T, Z, rfl, rfl⟩
  rcases tw_nd h24 v1 with h1 | ⟨a, ha, rfl⟩
  · unfold wpX_fork wpY_fork
    dsimp only
    exact tx_isNode_n h1 (br_t rfl (ty_are_n h24 (Or.inl h1) (br_t rfl ⟨rfl, R⟩)))
  · rcases tw_nd h24 v2 with h2 | ⟨b, hb, rfl⟩
    · unfold wpX_fork wpY_fork
      dsimp only
      exact tx_isNode_y h24 ha (br_f tw_10 (tx_isNode_n h2 (br_t rfl (ty_are_n h24 (Or.inr h2) (br_t rfl ⟨rfl, R⟩)))))
    · unfold wpX_fork wpY_fork
      dsimp only
      exact tx_isNode_y h24 ha (br_f tw_10 (tx_isNode_y h24 hb (br_f tw_10 (tx_fork T ha hb (ty_are_y h24 ha hb (br_f tw_10 (ty_join T ha hb ⟨rfl, R⟩)))))))
theorem i_vc_distance {k : Nat} {u : SX} {v : SY} (I : i_Rel k u v) (hk : k + 4 ≤ 2048) (v1 : Int32) (v2 : Int32) : wpX_distance (fun r => wpY_distance (fun r' => r' = r ∧ i_Rel (k + 4) u v) v v1 v2) u v1 v2 := by
  obtain ⟨P, D, c, vs, T, Z, rfl, rfl⟩ := I
  have h24 := T.2.1
  have R : i_Rel (k + 4) (nI c, tw_X P, vs) (nI c, tw_Y P, vs) := ⟨P, D, c, vs, T, Z, rfl, rfl⟩
  rcases tw_nd h24 v1 with h1 | ⟨a, ha, rfl⟩
  · unfold wpX_distance wpY_distance
    dsimp only
    exact tx_isNode_n h1 (br_t rfl (ty_are_n h24 (Or.inl h1) (br_t rfl ⟨rfl, R⟩)))
  · rcases tw_nd h24 v2 with h2 | ⟨b, hb, rfl⟩
    · unfold wpX_distance wpY_distance
      dsimp only
      exact tx_isNode_y h24 ha (br_f tw_10 (tx_isNode_n h2 (br_t rfl (ty_are_n h24 (Or.inr h2) (br_t rfl ⟨rfl, R⟩)))))
    · unfold wpX_distance wpY_distance
      dsimp only
      exact tx_isNode_y h24 ha (br_f tw_10 (tx_isNode_y h24 hb (br_f tw_10 (tx_far T ha hb (ty_are_y h24 ha hb (br_f tw_10 (ty_far T ha hb ⟨rfl, R⟩)))))))
theorem i_vc_wayNode {k : Nat} {u : SX} {v : SY} (I : i_Rel k u v) (hk : k + 4 ≤ 2048) (v1 : Int32) (v2 : Int32) (v3 : Int32) : wpX_wayNode (fun r => wpY_wayNode (fun r' => r' = r ∧ i_Rel (k + 4) u v) v v1 v2 v3) u v1 v2 v3 := by
  obtain ⟨P, D, c, vs, T, Z, rfl, rfl⟩ := I
  have h24 := T.2.1
  have R : i_Rel (k + 4) (nI c, tw_X P, vs) (nI c, tw_Y P, vs) := ⟨P, D, c, vs, T, Z, rfl, rfl⟩
  rcases tw_nd h24 v1 with h1 | ⟨a, ha, rfl⟩
  · unfold wpX_wayNode wpY_wayNode
    dsimp only
    exact tx_isNode_n h1 (br_t rfl (ty_are_n h24 (Or.inl h1) (br_t rfl ⟨rfl, R⟩)))
  · rcases tw_nd h24 v2 with h2 | ⟨b, hb, rfl⟩
    · unfold wpX_wayNode wpY_wayNode
      dsimp only
      exact tx_isNode_y h24 ha (br_f tw_10 (tx_isNode_n h2 (br_t rfl (ty_are_n h24 (Or.inr h2) (br_t rfl ⟨rfl, R⟩)))))
    · have l := tw_far_lt T ha hb
      by_cases z : v3 < 0
      · exact tx_wayNode_n T ha hb (Or.inl z) (ty_wayNode_n T ha hb (Or.inl z) ⟨rfl, R⟩)
      · by_cases y : v3 ≤ nI (tw_far P D a b)
        · obtain ⟨j, hj, rfl⟩ := nI_of z
          have q : j ≤ tw_far P D a b := (nI_leI hj (by omega)).mp y
          exact tx_wayNode_y T ha hb q (ty_wayNode_y T ha hb q ⟨rfl, R⟩)
        · exact tx_wayNode_n T ha hb (Or.inr y) (ty_wayNode_n T ha hb (Or.inr y) ⟨rfl, R⟩)
theorem i_vc_middle {k : Nat} {u : SX} {v : SY} (I : i_Rel k u v) (hk : k + 4 ≤ 2048) (v1 : Int32) (v2 : Int32) (v3 : Int32) : wpX_middle (fun r => wpY_middle (fun r' => r' = r ∧ i_Rel (k + 4) u v) v v1 v2 v3) u v1 v2 v3 := by
  obtain ⟨P, D, c, vs, T, Z, rfl, rfl⟩ := I
  have h24 := T.2.1
  have R : i_Rel (k + 4) (nI c, tw_X P, vs) (nI c, tw_Y P, vs) := ⟨P, D, c, vs, T, Z, rfl, rfl⟩
  rcases tw_nd h24 v1 with h1 | ⟨a, ha, rfl⟩
  · unfold wpX_middle wpY_middle
    dsimp only
    exact tx_isNode_n h1 (br_t rfl (ty_are_n h24 (Or.inl h1) (br_t rfl ⟨rfl, R⟩)))
  · rcases tw_nd h24 v2 with h2 | ⟨b, hb, rfl⟩
    · unfold wpX_middle wpY_middle
      dsimp only
      exact tx_isNode_y h24 ha (br_f tw_10 (tx_isNode_n h2 (br_t rfl (ty_are_n h24 (Or.inr h2) (br_t rfl ⟨rfl, R⟩)))))
    · rcases tw_nd h24 v3 with h3 | ⟨d, hd, rfl⟩
      · unfold wpX_middle wpY_middle
        dsimp only
        exact tx_isNode_y h24 ha (br_f tw_10 (tx_isNode_y h24 hb (br_f tw_10 (tx_isNode_n h3 (br_t rfl (ty_are_y h24 ha hb (br_f tw_10 (ty_isNode_n h3 (br_t rfl ⟨rfl, R⟩)))))))))
      · exact tx_middle T ha hb hd (ty_middle T ha hb hd ⟨rfl, R⟩)
theorem i_vc_grow {k : Nat} {u : SX} {v : SY} (I : i_Rel k u v) (hk : k + 4 ≤ 2048) (v1 : Int32) : wpX_grow (fun r u' => wpY_grow (fun r' v' => r' = r ∧ i_Rel (k + 4) u' v') v v1) u v1 := by
  obtain ⟨P, D, c, vs, T, Z, rfl, rfl⟩ := I
  have h24 := T.2.1
  have R : i_Rel (k + 4) (nI c, tw_X P, vs) (nI c, tw_Y P, vs) := ⟨P, D, c, vs, T, Z, rfl, rfl⟩
  rcases tw_nd h24 v1 with h1 | ⟨a, ha, rfl⟩
  · unfold wpX_grow wpY_grow
    dsimp only
    exact tx_isNode_n h1 (br_t rfl (ty_isNode_n h1 (br_t rfl ⟨rfl, R⟩)))
  · unfold wpX_grow wpY_grow
    dsimp only
    by_cases h : c < 24
    · have vp := vp_in_nI (N := 24) h (by omega)
      have c0 := T.1
      have e1 : upd (tw_X P) (nI c).toNatClampNeg (nI a) = tw_X (tw_up P c a) := by
        rw [nI_clamp (by omega)]
        exact tw_X_up P c a
      have e2 : upd (tw_Y P) (nI c).toNatClampNeg (nI a) = tw_Y (tw_up P c a) := by
        rw [nI_clamp (by omega)]
        exact tw_Y_up P a (by omega)
      have e3 : upd vs (nI c).toNatClampNeg 0 = vs := by
        rw [nI_clamp (by omega)]
        exact tw_u0 (Z c (Nat.le_refl c))
      have e4 : ¬ nI c = 24 := by
        intro e
        have q := (nI_eq (a := c) (b := 24) (by omega) (by omega)).mp e
        omega
      refine tx_isNode_y h24 ha (br_f tw_10 (br_t (nI_lt (b := 24) h (by decide)) ⟨vp, nm_r e1 (nm_r (nI_1 c) ?_)⟩))
      refine ty_isNode_y h24 ha (br_f tw_10 (br_f e4 ⟨vp, nm_r e2 ⟨vp, nm_r e3 (nm_r (nI_1 c) ?_)⟩⟩))
      exact ⟨nI_pred c, tw_up P c a, tw_up D c (D a + 1), c + 1, vs, tw_T_grow T ha h, fun j hj => Z j (by omega), rfl, rfl⟩
    · have e : c = 24 := by omega
      have e4 : nI c = 24 := by rw [e]; rfl
      have e5 : ¬ nI c < 24 := nI_nlt (b := 24) (by omega) (by omega)
      exact tx_isNode_y h24 ha (br_f tw_10 (br_f e5 (ty_isNode_y h24 ha (br_f tw_10 (br_t e4 ⟨rfl, R⟩)))))
theorem i_vc_move {k : Nat} {u : SX} {v : SY} (I : i_Rel k u v) (hk : k + 4 ≤ 2048) (v1 : Int32) (v2 : Int32) : wpX_move (fun r u' => wpY_move (fun r' v' => r' = r ∧ i_Rel (k + 4) u' v') v v1 v2) u v1 v2 := by
  obtain ⟨P, D, c, vs, T, Z, rfl, rfl⟩ := I
  have h24 := T.2.1
  have R : i_Rel (k + 4) (nI c, tw_X P, vs) (nI c, tw_Y P, vs) := ⟨P, D, c, vs, T, Z, rfl, rfl⟩
  rcases tw_nd h24 v1 with h1 | ⟨a, ha, rfl⟩
  · unfold wpX_move wpY_move
    dsimp only
    exact tx_isNode_n h1 (br_t rfl (ty_isNode_n h1 (br_t rfl ⟨rfl, R⟩)))
  · rcases tw_nd h24 v2 with h2 | ⟨b, hb, rfl⟩
    · unfold wpX_move wpY_move
      dsimp only
      exact tx_isNode_y h24 ha (br_f tw_10 (tx_isNode_n h2 (br_t rfl (ty_isNode_y h24 ha (br_f tw_10 (ty_isNode_n h2 (br_t rfl ⟨rfl, R⟩)))))))
    · unfold wpX_move wpY_move
      dsimp only
      have a24 := tw_c24 T ha
      have vp := vp_in_nI (N := 24) a24 (by omega)
      by_cases h0 : a = 0
      · have e : nI a = 0 := by rw [h0]; exact nI_0
        exact tx_isNode_y h24 ha (br_f tw_10 (tx_isNode_y h24 hb (br_f tw_10 (br_t e (ty_isNode_y h24 ha (br_f tw_10 (ty_isNode_y h24 hb (br_f tw_10 (br_t e ⟨rfl, R⟩)))))))))
      · have e : ¬ nI a = 0 := nI_ne0 (by omega) (by omega)
        refine tx_isNode_y h24 ha (br_f tw_10 (tx_isNode_y h24 hb (br_f tw_10 (br_f e ?_))))
        cases z : tw_in P D b a with
        | true =>
          exact tx_in_t T hb ha z (br_f tw_10 (ty_isNode_y h24 ha (br_f tw_10 (ty_isNode_y h24 hb (br_f tw_10 (br_f e (ty_in_t T hb ha z (br_f tw_10 ⟨rfl, R⟩))))))))
        | false =>
          have e1 : upd (tw_X P) (nI a).toNatClampNeg (nI b) = tw_X (tw_up P a b) := by
            rw [nI_clamp (by omega)]
            exact tw_X_up P a b
          have e2 : upd (tw_Y P) (nI a).toNatClampNeg (nI b) = tw_Y (tw_up P a b) := by
            rw [nI_clamp (by omega)]
            exact tw_Y_up P b h0
          have T' := tw_T_move T ha hb h0 (by rw [z]; exact Bool.false_ne_true)
          refine tx_in_f T hb ha z (br_t rfl ⟨vp, nm_r (tw_X_at P a24) ⟨vp, nm_r e1 ?_⟩⟩)
          refine ty_isNode_y h24 ha (br_f tw_10 (ty_isNode_y h24 hb (br_f tw_10 (br_f e (ty_in_f T hb ha z (br_t rfl ⟨vp, nm_r (tw_Y_at P a24 h0) ⟨vp, nm_r e2 ?_⟩⟩))))))
          exact ⟨rfl, _, _, c, vs, T', Z, rfl, rfl⟩
theorem i_vc_put {k : Nat} {u : SX} {v : SY} (I : i_Rel k u v) (hk : k + 4 ≤ 2048) (v1 : Int32) (v2 : Int32) : wpX_put (fun r u' => wpY_put (fun r' v' => r' = r ∧ i_Rel (k + 4) u' v') v v1 v2) u v1 v2 := by
  obtain ⟨P, D, c, vs, T, Z, rfl, rfl⟩ := I
  have h24 := T.2.1
  have R : i_Rel (k + 4) (nI c, tw_X P, vs) (nI c, tw_Y P, vs) := ⟨P, D, c, vs, T, Z, rfl, rfl⟩
  rcases tw_nd h24 v1 with h1 | ⟨a, ha, rfl⟩
  · unfold wpX_put wpY_put
    dsimp only
    exact tx_isNode_n h1 (br_t rfl (ty_isNode_n h1 (br_t rfl ⟨rfl, R⟩)))
  · unfold wpX_put wpY_put
    dsimp only
    have a24 := tw_c24 T ha
    have vp := vp_in_nI (N := 24) a24 (by omega)
    by_cases l : v2 < -1000
    · exact tx_isNode_y h24 ha (br_f tw_10 (tx_btw_l l (br_t rfl (ty_isNode_y h24 ha (br_f tw_10 (br_t l ⟨rfl, R⟩))))))
    · by_cases g : v2 ≤ 1000
      · have e : upd vs (nI a).toNatClampNeg v2 = upd vs a v2 := by rw [nI_clamp (by omega)]
        refine tx_isNode_y h24 ha (br_f tw_10 (tx_btw_y l g (br_f tw_10 ⟨vp, nm_r (tw_at vs a24) ⟨vp, nm_r e ?_⟩⟩)))
        refine ty_isNode_y h24 ha (br_f tw_10 (br_f l (br_t g ⟨vp, nm_r (tw_at vs a24) ⟨vp, nm_r e ?_⟩⟩)))
        refine ⟨rfl, P, D, c, upd vs a v2, T, fun j hj => ?_, rfl, rfl⟩
        rw [pk_un (by omega)]
        exact Z j hj
      · exact tx_isNode_y h24 ha (br_f tw_10 (tx_btw_h l g (br_t rfl (ty_isNode_y h24 ha (br_f tw_10 (br_f l (br_f g ⟨rfl, R⟩)))))))
theorem i_vc_addPart {k : Nat} {u : SX} {v : SY} (I : i_Rel k u v) (hk : k + 4 ≤ 2048) (v1 : Int32) (v2 : Int32) : wpX_addPart (fun r u' => wpY_addPart (fun r' v' => r' = r ∧ i_Rel (k + 4) u' v') v v1 v2) u v1 v2 := by
  obtain ⟨P, D, c, vs, T, Z, rfl, rfl⟩ := I
  have h24 := T.2.1
  have R : i_Rel (k + 4) (nI c, tw_X P, vs) (nI c, tw_Y P, vs) := ⟨P, D, c, vs, T, Z, rfl, rfl⟩
  rcases tw_nd h24 v1 with h1 | ⟨a, ha, rfl⟩
  · unfold wpX_addPart wpY_addPart
    dsimp only
    exact tx_isNode_n h1 (br_t rfl (ty_isNode_n h1 (br_t rfl ⟨rfl, R⟩)))
  · by_cases l : v2 < -100
    · unfold wpX_addPart wpY_addPart
      dsimp only
      exact tx_isNode_y h24 ha (br_f tw_10 (tx_btw_l l (br_t rfl (ty_isNode_y h24 ha (br_f tw_10 (br_t l ⟨rfl, R⟩))))))
    · by_cases g : v2 ≤ 100
      · exact tx_addPart T ha l g (ty_addPart T ha l g ⟨rfl, P, D, c, _, T, tw_ad_z _ v2 Z, rfl, rfl⟩)
      · unfold wpX_addPart wpY_addPart
        dsimp only
        exact tx_isNode_y h24 ha (br_f tw_10 (tx_btw_h l g (br_t rfl (ty_isNode_y h24 ha (br_f tw_10 (br_f l (br_f g ⟨rfl, R⟩)))))))
theorem i_vc_addWay {k : Nat} {u : SX} {v : SY} (I : i_Rel k u v) (hk : k + 4 ≤ 2048) (v1 : Int32) (v2 : Int32) (v3 : Int32) : wpX_addWay (fun r u' => wpY_addWay (fun r' v' => r' = r ∧ i_Rel (k + 4) u' v') v v1 v2 v3) u v1 v2 v3 := by
  obtain ⟨P, D, c, vs, T, Z, rfl, rfl⟩ := I
  have h24 := T.2.1
  have R : i_Rel (k + 4) (nI c, tw_X P, vs) (nI c, tw_Y P, vs) := ⟨P, D, c, vs, T, Z, rfl, rfl⟩
  rcases tw_nd h24 v1 with h1 | ⟨a, ha, rfl⟩
  · unfold wpX_addWay wpY_addWay
    dsimp only
    exact tx_isNode_n h1 (br_t rfl (ty_isNode_n h1 (br_t rfl ⟨rfl, R⟩)))
  · rcases tw_nd h24 v2 with h2 | ⟨b, hb, rfl⟩
    · unfold wpX_addWay wpY_addWay
      dsimp only
      exact tx_isNode_y h24 ha (br_f tw_10 (tx_isNode_n h2 (br_t rfl (ty_isNode_y h24 ha (br_f tw_10 (ty_isNode_n h2 (br_t rfl ⟨rfl, R⟩)))))))
    · by_cases l : v3 < -100
      · unfold wpX_addWay wpY_addWay
        dsimp only
        exact tx_isNode_y h24 ha (br_f tw_10 (tx_isNode_y h24 hb (br_f tw_10 (tx_btw_l l (br_t rfl (ty_isNode_y h24 ha (br_f tw_10 (ty_isNode_y h24 hb (br_f tw_10 (br_t l ⟨rfl, R⟩))))))))))
      · by_cases g : v3 ≤ 100
        · exact tx_addWay T ha hb l g (ty_addWay T ha hb l g ⟨rfl, P, D, c, _, T, tw_ad_z _ v3 Z, rfl, rfl⟩)
        · unfold wpX_addWay wpY_addWay
          dsimp only
          exact tx_isNode_y h24 ha (br_f tw_10 (tx_isNode_y h24 hb (br_f tw_10 (tx_btw_h l g (br_t rfl (ty_isNode_y h24 ha (br_f tw_10 (ty_isNode_y h24 hb (br_f tw_10 (br_f l (br_f g ⟨rfl, R⟩)))))))))))
end
