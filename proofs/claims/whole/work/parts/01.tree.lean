/-- so many times to the parent -/
def tw_it (P : Nat → Nat) : Nat → Nat → Nat
  | 0, n => n
  | k + 1, n => tw_it P k (P n)
/-- a tree of c nodes: P the parents, the top its own, D the depths -/
def tw_T (P D : Nat → Nat) (c : Nat) : Prop :=
  0 < c ∧ c ≤ 24 ∧ P 0 = 0 ∧ D 0 = 0 ∧ (∀ j, P j < c) ∧ (∀ n, n < c → n ≠ 0 → D n = D (P n) + 1)
/-- v lies on the way from n to the top -/
def tw_A (P : Nat → Nat) (v n : Nat) : Prop := ∃ k, tw_it P k n = v
theorem tw_it_add (P : Nat → Nat) (b : Nat) : ∀ a n, tw_it P (a + b) n = tw_it P b (tw_it P a n) := by
  intro a
  induction a with
  | zero => intro n; rw [Nat.zero_add]; rfl
  | succ a ih =>
    intro n
    have e : a + 1 + b = (a + b) + 1 := by omega
    rw [e]
    exact ih (P n)
theorem tw_it_top {P : Nat → Nat} (h : P 0 = 0) : ∀ k, tw_it P k 0 = 0 := by
  intro k
  induction k with
  | zero => rfl
  | succ k ih => show tw_it P k (P 0) = 0; rw [h]; exact ih
theorem tw_it_s (P : Nat → Nat) (k n : Nat) : tw_it P (k + 1) n = P (tw_it P k n) := by
  rw [tw_it_add P 1 k n]
  rfl
theorem tw_A_refl (P : Nat → Nat) (n : Nat) : tw_A P n n := ⟨0, rfl⟩
theorem tw_A_tr {P : Nat → Nat} {a b n : Nat} (h : tw_A P a b) (g : tw_A P b n) : tw_A P a n := by
  obtain ⟨k, hk⟩ := h
  obtain ⟨l, hl⟩ := g
  exact ⟨l + k, by rw [tw_it_add, hl, hk]⟩
theorem tw_A_up {P : Nat → Nat} {v n : Nat} (h : tw_A P v (P n)) : tw_A P v n := by
  obtain ⟨k, hk⟩ := h
  exact ⟨k + 1, hk⟩
theorem tw_A_st {P : Nat → Nat} {v n : Nat} (h : tw_A P v n) (e : v ≠ n) : tw_A P v (P n) := by
  obtain ⟨k, hk⟩ := h
  cases k with
  | zero => exact absurd hk.symm e
  | succ k => exact ⟨k, hk⟩
/-- pigeons -/
theorem tw_pg : ∀ (c m : Nat) (f : Nat → Nat), (∀ i, i < m → f i < c) → (∀ i j, i < j → j < m → f i ≠ f j) → m ≤ c := by
  intro c
  induction c with
  | zero =>
    intro m f h _
    by_cases hm : m = 0
    · omega
    · exact absurd (h 0 (by omega)) (Nat.not_lt_zero _)
  | succ c ih =>
    intro m f h g
    by_cases hx : ∃ i, i < m ∧ f i = c
    · obtain ⟨i0, hi, e0⟩ := hx
      have h1 : ∀ i, i < m - 1 → (fun i => if i < i0 then f i else f (i + 1)) i < c := by
        intro i hlt
        show (if i < i0 then f i else f (i + 1)) < c
        by_cases z : i < i0
        · rw [if_pos z]
          have k1 := h i (by omega)
          have k2 := g i i0 z hi
          rw [e0] at k2
          omega
        · rw [if_neg z]
          have k1 := h (i + 1) (by omega)
          have k2 := g i0 (i + 1) (by omega) (by omega)
          rw [e0] at k2
          omega
      have h2 : ∀ i j, i < j → j < m - 1 → (fun i => if i < i0 then f i else f (i + 1)) i ≠ (fun i => if i < i0 then f i else f (i + 1)) j := by
        intro i j hij hj
        show (if i < i0 then f i else f (i + 1)) ≠ (if j < i0 then f j else f (j + 1))
        by_cases zi : i < i0
        · by_cases zj : j < i0
          · rw [if_pos zi, if_pos zj]; exact g i j hij (by omega)
          · rw [if_pos zi, if_neg zj]; exact g i (j + 1) (by omega) (by omega)
        · have zj : ¬ j < i0 := by omega
          rw [if_neg zi, if_neg zj]; exact g (i + 1) (j + 1) (by omega) (by omega)
      have q := ih (m - 1) (fun i => if i < i0 then f i else f (i + 1)) h1 h2
      omega
    · have h1 : ∀ i, i < m → f i < c := by
        intro i hi
        have k1 := h i hi
        have k2 : f i ≠ c := fun e => hx ⟨i, hi, e⟩
        omega
      have q := ih m f h1 g
      omega
section
variable {P D : Nat → Nat} {c : Nat}
theorem tw_it_lt (T : tw_T P D c) : ∀ k n, n < c → tw_it P k n < c := by
  intro k
  induction k with
  | zero => intro n h; exact h
  | succ k ih => intro n _; exact ih (P n) (T.2.2.2.2.1 n)
theorem tw_nz (T : tw_T P D c) {n k : Nat} (e : D n = k + 1) : n ≠ 0 := by
  intro e0
  rw [e0, T.2.2.2.1] at e
  omega
theorem tw_D_it (T : tw_T P D c) : ∀ k n, n < c → k ≤ D n → D (tw_it P k n) = D n - k := by
  intro k
  induction k with
  | zero => intro n _ _; rfl
  | succ k ih =>
    intro n hn hk
    have h0 : n ≠ 0 := by
      intro e
      rw [e, T.2.2.2.1] at hk
      omega
    have e := T.2.2.2.2.2 n hn h0
    have i := ih (P n) (T.2.2.2.2.1 n) (by omega)
    show D (tw_it P k (P n)) = D n - (k + 1)
    rw [i]
    omega
theorem tw_D0 (T : tw_T P D c) {n : Nat} (hn : n < c) (h : D n = 0) : n = 0 := by
  by_cases h0 : n = 0
  · exact h0
  · have e := T.2.2.2.2.2 n hn h0
    omega
theorem tw_it_D (T : tw_T P D c) {n : Nat} (hn : n < c) : tw_it P (D n) n = 0 := by
  refine tw_D0 T (tw_it_lt T _ _ hn) ?_
  rw [tw_D_it T _ _ hn (Nat.le_refl _)]
  omega
theorem tw_A_iff (T : tw_T P D c) {n : Nat} (hn : n < c) (v : Nat) :
    tw_A P v n ↔ (D v ≤ D n ∧ tw_it P (D n - D v) n = v) := by
  constructor
  · intro hx
    obtain ⟨k, hk⟩ := hx
    by_cases h : k ≤ D n
    · have e := tw_D_it T k n hn h
      rw [hk] at e
      have e2 : D n - D v = k := by omega
      refine ⟨by omega, ?_⟩
      rw [e2]
      exact hk
    · have e1 : k = D n + (k - D n) := by omega
      rw [e1, tw_it_add, tw_it_D T hn, tw_it_top T.2.2.1] at hk
      rw [← hk, T.2.2.2.1, Nat.sub_zero]
      exact ⟨Nat.zero_le _, tw_it_D T hn⟩
  · intro h
    exact ⟨_, h.2⟩
theorem tw_A_D (T : tw_T P D c) {v n : Nat} (hn : n < c) (h : tw_A P v n) : D v ≤ D n := ((tw_A_iff T hn v).mp h).1
theorem tw_A_lt (T : tw_T P D c) {v n : Nat} (hn : n < c) (h : tw_A P v n) : v < c := by
  obtain ⟨k, hk⟩ := h
  rw [← hk]
  exact tw_it_lt T k n hn
theorem tw_A_eq (T : tw_T P D c) {a b n : Nat} (hn : n < c) (ha : tw_A P a n) (hb : tw_A P b n) (e : D a = D b) : a = b := by
  have h1 := ((tw_A_iff T hn a).mp ha).2
  have h2 := ((tw_A_iff T hn b).mp hb).2
  rw [e] at h1
  exact h1.symm.trans h2
theorem tw_A_ch (T : tw_T P D c) {a b n : Nat} (hn : n < c) (ha : tw_A P a n) (hb : tw_A P b n) (e : D a ≤ D b) : tw_A P a b := by
  have h1 := (tw_A_iff T hn a).mp ha
  have h2 := (tw_A_iff T hn b).mp hb
  have h3 := h1.2
  have h4 := h2.1
  have e2 : D n - D a = (D n - D b) + (D b - D a) := by omega
  rw [e2, tw_it_add, h2.2] at h3
  exact ⟨D b - D a, h3⟩
theorem tw_A_top (T : tw_T P D c) {n : Nat} (hn : n < c) : tw_A P 0 n := ⟨D n, tw_it_D T hn⟩
theorem tw_A_an (T : tw_T P D c) {v n : Nat} (hn : n < c) (h : tw_A P v n) (e : D n ≤ D v) : v = n :=
  tw_A_eq T hn h (tw_A_refl P n) (Nat.le_antisymm (tw_A_D T hn h) e)
theorem tw_D_lt (T : tw_T P D c) {n : Nat} (hn : n < c) : D n < c := by
  have h1 : ∀ i, i < D n + 1 → (fun i => tw_it P i n) i < c := fun i _ => tw_it_lt T i n hn
  have h2 : ∀ i j, i < j → j < D n + 1 → (fun i => tw_it P i n) i ≠ (fun i => tw_it P i n) j := by
    intro i j hij hj e
    have a := tw_D_it T i n hn (by omega)
    have b := tw_D_it T j n hn (by omega)
    have e' : tw_it P i n = tw_it P j n := e
    rw [e'] at a
    omega
  have q := tw_pg c (D n + 1) (fun i => tw_it P i n) h1 h2
  omega
end
/-- n is in the part of v -/
def tw_in (P D : Nat → Nat) (n v : Nat) : Bool := decide (D v ≤ D n ∧ tw_it P (D n - D v) n = v)
def tw_fk (P D : Nat → Nat) (v : Nat) : Nat → Nat → Nat
  | 0, u => u
  | k + 1, u => if tw_in P D v u = true then u else tw_fk P D v k (P u)
/-- the fork of u and v -/
def tw_F (P D : Nat → Nat) (u v : Nat) : Nat := tw_fk P D v (D u) u
def tw_isF (P D : Nat → Nat) (u v f : Nat) : Prop := tw_A P f u ∧ tw_A P f v ∧ ∀ g, tw_A P g u → tw_A P g v → D g ≤ D f
/-- both up until they meet -/
def tw_lk (P : Nat → Nat) : Nat → Nat → Nat → Nat
  | 0, a, _ => a
  | k + 1, a, b => if a = b then a else tw_lk P k (P a) (P b)
def tw_far (P D : Nat → Nat) (u v : Nat) : Nat := D u + D v - 2 * D (tw_F P D u v)
/-- n is on the way from u to v -/
def tw_on (P D : Nat → Nat) (n u v : Nat) : Bool := tw_in P D n (tw_F P D u v) && (tw_in P D u n || tw_in P D v n)
section
variable {P D : Nat → Nat} {c : Nat}
theorem tw_in_t (T : tw_T P D c) {n : Nat} (hn : n < c) (v : Nat) : tw_in P D n v = true ↔ tw_A P v n := by
  unfold tw_in
  rw [decide_eq_true_iff]
  exact (tw_A_iff T hn v).symm
theorem tw_fk_is (T : tw_T P D c) {v : Nat} (hv : v < c) : ∀ k u, u < c → D u = k → tw_isF P D u v (tw_fk P D v k u) := by
  intro k
  induction k with
  | zero =>
    intro u hu e
    have e0 := tw_D0 T hu e
    have h : tw_A P u v := by rw [e0]; exact tw_A_top T hv
    exact ⟨tw_A_refl P u, h, fun g h _ => tw_A_D T hu h⟩
  | succ k ih =>
    intro u hu e
    show tw_isF P D u v (if tw_in P D v u = true then u else tw_fk P D v k (P u))
    by_cases z : tw_in P D v u = true
    · rw [if_pos z]
      exact ⟨tw_A_refl P u, (tw_in_t T hv u).mp z, fun g h _ => tw_A_D T hu h⟩
    · rw [if_neg z]
      have e1 := T.2.2.2.2.2 u hu (tw_nz T e)
      obtain ⟨a, b, q⟩ := ih (P u) (T.2.2.2.2.1 u) (by omega)
      refine ⟨tw_A_up a, b, fun g hg hw => q g (tw_A_st hg ?_) hw⟩
      intro e2
      rw [e2] at hw
      exact z ((tw_in_t T hv u).mpr hw)
theorem tw_F_is (T : tw_T P D c) {u v : Nat} (hu : u < c) (hv : v < c) : tw_isF P D u v (tw_F P D u v) := tw_fk_is T hv (D u) u hu rfl
theorem tw_isF_u (T : tw_T P D c) {u v f g : Nat} (hu : u < c) (h : tw_isF P D u v f) (k : tw_isF P D u v g) : f = g :=
  tw_A_eq T hu h.1 k.1 (Nat.le_antisymm (k.2.2 f h.1 h.2.1) (h.2.2 g k.1 k.2.1))
theorem tw_isF_s {u v f : Nat} (h : tw_isF P D u v f) : tw_isF P D v u f := ⟨h.2.1, h.1, fun g a b => h.2.2 g b a⟩
theorem tw_F_s (T : tw_T P D c) {u v : Nat} (hu : u < c) (hv : v < c) : tw_F P D u v = tw_F P D v u :=
  tw_isF_u T hu (tw_F_is T hu hv) (tw_isF_s (tw_F_is T hv hu))
theorem tw_F_eq (T : tw_T P D c) {u v f : Nat} (hu : u < c) (hv : v < c) (h : tw_isF P D u v f) : tw_F P D u v = f :=
  tw_isF_u T hu (tw_F_is T hu hv) h
theorem tw_F_lt (T : tw_T P D c) {u v : Nat} (hu : u < c) (hv : v < c) : tw_F P D u v < c := tw_A_lt T hu (tw_F_is T hu hv).1
theorem tw_F_Du (T : tw_T P D c) {u v : Nat} (hu : u < c) (hv : v < c) : D (tw_F P D u v) ≤ D u := tw_A_D T hu (tw_F_is T hu hv).1
theorem tw_F_Dv (T : tw_T P D c) {u v : Nat} (hu : u < c) (hv : v < c) : D (tw_F P D u v) ≤ D v := tw_A_D T hv (tw_F_is T hu hv).2.1
theorem tw_lk_is (T : tw_T P D c) : ∀ k a b, a < c → b < c → D a = k → D b = k → tw_isF P D a b (tw_lk P k a b) := by
  intro k
  induction k with
  | zero =>
    intro a b ha hb e1 e2
    have ea := tw_D0 T ha e1
    have eb := tw_D0 T hb e2
    have h : tw_A P a b := by rw [ea, eb]; exact tw_A_refl P 0
    exact ⟨tw_A_refl P a, h, fun g h _ => tw_A_D T ha h⟩
  | succ k ih =>
    intro a b ha hb e1 e2
    show tw_isF P D a b (if a = b then a else tw_lk P k (P a) (P b))
    by_cases z : a = b
    · rw [if_pos z, ← z]
      exact ⟨tw_A_refl P a, tw_A_refl P a, fun g h _ => tw_A_D T ha h⟩
    · rw [if_neg z]
      have d1 := T.2.2.2.2.2 a ha (tw_nz T e1)
      have d2 := T.2.2.2.2.2 b hb (tw_nz T e2)
      obtain ⟨x, y, q⟩ := ih (P a) (P b) (T.2.2.2.2.1 a) (T.2.2.2.2.1 b) (by omega) (by omega)
      refine ⟨tw_A_up x, tw_A_up y, fun g ga gb => q g (tw_A_st ga ?_) (tw_A_st gb ?_)⟩
      · intro e
        rw [e] at gb
        exact z (tw_A_an T hb gb (by omega))
      · intro e
        rw [e] at ga
        exact z (tw_A_an T ha ga (by omega)).symm
theorem tw_lv (T : tw_T P D c) {u v f : Nat} (hu : u < c) (hv : v < c)
    (h : tw_isF P D (tw_it P (D u - D v) u) (tw_it P (D v - D u) v) f) : tw_isF P D u v f := by
  have aA : tw_A P (tw_it P (D u - D v) u) u := ⟨_, rfl⟩
  have bA : tw_A P (tw_it P (D v - D u) v) v := ⟨_, rfl⟩
  have ea := tw_D_it T (D u - D v) u hu (Nat.sub_le _ _)
  have eb := tw_D_it T (D v - D u) v hv (Nat.sub_le _ _)
  refine ⟨tw_A_tr h.1 aA, tw_A_tr h.2.1 bA, fun g gu gv => ?_⟩
  have k1 := tw_A_D T hu gu
  have k2 := tw_A_D T hv gv
  exact h.2.2 g (tw_A_ch T hu gu aA (by omega)) (tw_A_ch T hv gv bA (by omega))
/-- X's fork -/
theorem tw_F_X (T : tw_T P D c) {u v : Nat} (hu : u < c) (hv : v < c) :
    tw_lk P (D (tw_it P (D u - D v) u)) (tw_it P (D u - D v) u) (tw_it P (D v - D u) v) = tw_F P D u v := by
  have ea := tw_D_it T (D u - D v) u hu (Nat.sub_le _ _)
  have eb := tw_D_it T (D v - D u) v hv (Nat.sub_le _ _)
  exact (tw_F_eq T hu hv (tw_lv T hu hv (tw_lk_is T _ _ _ (tw_it_lt T _ _ hu) (tw_it_lt T _ _ hv) rfl (by omega)))).symm
theorem tw_on_iff (T : tw_T P D c) {n u v : Nat} (hn : n < c) (hu : u < c) (hv : v < c) :
    tw_on P D n u v = true ↔ (tw_A P (tw_F P D u v) n ∧ (tw_A P n u ∨ tw_A P n v)) := by
  unfold tw_on
  rw [Bool.and_eq_true, Bool.or_eq_true, tw_in_t T hn, tw_in_t T hu, tw_in_t T hv]
theorem tw_on_x (T : tw_T P D c) {n u v f a b : Nat} (hn : n < c) (hu : u < c) (hv : v < c)
    (hf : tw_isF P D u v f) (ha : tw_isF P D u n a) (hb : tw_isF P D n v b) :
    (D u + D n - 2 * D a) + (D n + D v - 2 * D b) = D u + D v - 2 * D f ↔ (tw_A P f n ∧ (tw_A P n u ∨ tw_A P n v)) := by
  obtain ⟨f1, f2, f3⟩ := hf
  obtain ⟨a1, a2, a3⟩ := ha
  obtain ⟨b1, b2, b3⟩ := hb
  have m1 := tw_A_D T hu f1
  have m2 := tw_A_D T hv f2
  have m3 := tw_A_D T hu a1
  have m4 := tw_A_D T hn a2
  have m5 := tw_A_D T hn b1
  have m6 := tw_A_D T hv b2
  constructor
  · intro e
    by_cases q : D b ≤ D a
    · have ba : tw_A P b a := tw_A_ch T hn b1 a2 q
      have k := f3 b (tw_A_tr ba a1) b2
      have ean : a = n := tw_A_an T hn a2 (by omega)
      have ebf : b = f := tw_A_eq T hv b2 f2 (by omega)
      rw [ebf] at b1
      rw [ean] at a1
      exact ⟨b1, Or.inl a1⟩
    · have ab : tw_A P a b := tw_A_ch T hn a2 b1 (by omega)
      have k := f3 a a1 (tw_A_tr ab b2)
      have ebn : b = n := tw_A_an T hn b1 (by omega)
      have eaf : a = f := tw_A_eq T hu a1 f1 (by omega)
      rw [eaf] at a2
      rw [ebn] at b2
      exact ⟨a2, Or.inr b2⟩
  · intro h
    obtain ⟨hf, ho⟩ := h
    have m7 := tw_A_D T hn hf
    cases ho with
    | inl h1 =>
      have k1 := a3 n h1 (tw_A_refl P n)
      have k2 := b3 f hf f2
      have k3 := f3 b (tw_A_tr b1 h1) b2
      omega
    | inr h1 =>
      have k1 := b3 n (tw_A_refl P n) h1
      have k2 := a3 f f1 hf
      have k3 := f3 a a1 (tw_A_tr a2 h1)
      omega
/-- on the way, by distances -/
theorem tw_on_far (T : tw_T P D c) {n u v : Nat} (hn : n < c) (hu : u < c) (hv : v < c) :
    tw_far P D u n + tw_far P D n v = tw_far P D u v ↔ tw_on P D n u v = true :=
  (tw_on_x T hn hu hv (tw_F_is T hu hv) (tw_F_is T hu hn) (tw_F_is T hn hv)).trans (tw_on_iff T hn hu hv).symm
end
