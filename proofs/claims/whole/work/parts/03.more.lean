theorem pk_us {f : Nat → Int32} {k : Nat} {x : Int32} : upd f k x k = x := if_pos rfl
theorem pk_un {f : Nat → Int32} {k j : Nat} {x : Int32} (h : j ≠ k) : upd f k x j = f j := if_neg h
theorem pk_sub {a b : Nat} (h : b ≤ a) : nI a - nI b = nI (a - b) := by
  obtain ⟨c, rfl⟩ : ∃ c, a = c + b := ⟨a - b, by omega⟩
  rw [← nI_add, Int32.add_sub_cancel, Nat.add_sub_cancel]
theorem pk_mul (a b : Nat) : nI a * nI b = nI (a * b) := (Int32.ofNat_mul a b).symm
theorem pk_sub_toInt {a b : Nat} (ha : a < 2 ^ 30) (hb : b < 2 ^ 30) : (nI a - nI b).toInt = (a : Int) - b := by
  rw [Int32.toInt_sub, nI_toInt (by omega), nI_toInt (by omega)]
  exact Int.bmod_eq_of_le (by omega) (by omega)
theorem pk_sneg {a b : Nat} (hb : b < 2 ^ 30) (h : a < b) : nI a - nI b < 0 := by
  rw [Int32.lt_iff_toInt_lt, pk_sub_toInt (by omega) hb, show (0 : Int32).toInt = 0 from by decide]
  omega
theorem pk_ix (x : Int32) {n : Nat} (hn : n < 2 ^ 31) : x < 0 ∨ nI n ≤ x ∨ ∃ j : Nat, j < n ∧ x = nI j := by
  by_cases h : x < 0
  · exact Or.inl h
  · obtain ⟨j, hj, rfl⟩ := nI_of h
    by_cases h2 : j < n
    · exact Or.inr (Or.inr ⟨j, h2, rfl⟩)
    · exact Or.inr (Or.inl (nI_le (by omega) hj))
theorem pk_le {x y : Int32} {A B : Prop} (a b : Nat) (f : a ≤ b → A) (g : b < a → B) (hx : x = nI a := by rfl) (hy : y = nI b := by rfl) (ha : a < 2 ^ 31 := by omega) (hb : b < 2 ^ 31 := by omega) : (x ≤ y → A) ∧ (¬ x ≤ y → B) := by
  subst hx hy
  rw [nI_leI ha hb]
  exact ⟨f, fun z => g (by omega)⟩
theorem pk_lt {x y : Int32} {A B : Prop} (a b : Nat) (f : a < b → A) (g : b ≤ a → B) (hx : x = nI a := by rfl) (hy : y = nI b := by rfl) (ha : a < 2 ^ 31 := by omega) (hb : b < 2 ^ 31 := by omega) : (x < y → A) ∧ (¬ x < y → B) := by
  subst hx hy
  rw [nI_ltI ha hb]
  exact ⟨f, fun z => g (by omega)⟩
theorem pk_eq {x y : Int32} {A B : Prop} (a b : Nat) (f : a = b → A) (g : a ≠ b → B) (hx : x = nI a := by rfl) (hy : y = nI b := by rfl) (ha : a < 2 ^ 31 := by omega) (hb : b < 2 ^ 31 := by omega) : (x = y → A) ∧ (¬ x = y → B) := by
  subst hx hy
  rw [nI_eq ha hb]
  exact ⟨f, g⟩
theorem pk_in {x : Int32} (n N : Nat) (h : n < N) (hx : x = nI n := by rfl) (hN : N < 2 ^ 31 := by omega) : vp_in x N := by
  subst hx
  exact vp_in_nI h hN
theorem pk_cl {x : Int32} (n : Nat) (hx : x = nI n := by rfl) (h : n < 2 ^ 31 := by omega) : x.toNatClampNeg = n := by
  subst hx
  exact nI_clamp h
/-- a truth as an answer -/
def tw_b : Bool → Int32
  | true => 1
  | false => 0
theorem tw_br {b : Bool} {A B : Prop} (f : b = false → A) (g : b = true → B) : (tw_b b = 0 → A) ∧ (¬ tw_b b = 0 → B) := by
  cases b with
  | false => exact ⟨fun _ => f rfl, fun z => absurd rfl z⟩
  | true => exact ⟨fun z => absurd z (by decide), fun _ => g rfl⟩
/-- no node's number -/
def tw_bad (c : Nat) (x : Int32) : Prop := x < 0 ∨ nI c ≤ x
theorem tw_nd {c : Nat} (hc : c ≤ 24) (x : Int32) : tw_bad c x ∨ ∃ j : Nat, j < c ∧ x = nI j := by
  rcases pk_ix x (n := c) (by omega) with h | h | h
  · exact Or.inl (Or.inl h)
  · exact Or.inl (Or.inr h)
  · exact Or.inr h
/-- the parents as X keeps them, as Y keeps them -/
def tw_X (P : Nat → Nat) : Nat → Int32 := fun j => nI (P j)
def tw_Y (P : Nat → Nat) : Nat → Int32 := fun j => if j = 0 then -1 else nI (P j)
theorem tw_X_at (P : Nat → Nat) {n : Nat} (h : n < 24) : tw_X P (nI n).toNatClampNeg = nI (P n) := by
  rw [nI_clamp (by omega)]
  rfl
theorem tw_Y_at (P : Nat → Nat) {n : Nat} (h : n < 24) (h0 : n ≠ 0) : tw_Y P (nI n).toNatClampNeg = nI (P n) := by
  rw [nI_clamp (by omega)]
  exact if_neg h0
theorem tw_Y_0 (P : Nat → Nat) : tw_Y P (nI 0).toNatClampNeg = -1 := by
  rw [nI_clamp (by omega)]
  exact if_pos rfl
theorem tw_X_up (P : Nat → Nat) (i p : Nat) : upd (tw_X P) i (nI p) = tw_X (tw_up P i p) := by
  funext j
  show (if j = i then nI p else nI (P j)) = nI (if j = i then p else P j)
  by_cases e : j = i
  · rw [if_pos e, if_pos e]
  · rw [if_neg e, if_neg e]
theorem tw_Y_up (P : Nat → Nat) {i : Nat} (p : Nat) (hi : i ≠ 0) : upd (tw_Y P) i (nI p) = tw_Y (tw_up P i p) := by
  funext j
  show (if j = i then nI p else (if j = 0 then -1 else nI (P j))) = (if j = 0 then -1 else nI (if j = i then p else P j))
  by_cases e : j = i
  · rw [if_pos e, if_pos e, if_neg (by omega)]
  · rw [if_neg e, if_neg e]
theorem tw_u0 {f : Nat → Int32} {i : Nat} (h : f i = 0) : upd f i 0 = f := by
  funext j
  show (if j = i then 0 else f j) = f j
  by_cases e : j = i
  · rw [if_pos e, e, h]
  · rw [if_neg e]
section
variable {P D : Nat → Nat} {c : Nat}
theorem tw_in_rf (T : tw_T P D c) {n : Nat} (hn : n < c) : tw_in P D n n = true := (tw_in_t T hn n).mpr (tw_A_refl P n)
theorem tw_in_st (T : tw_T P D c) {n v : Nat} (hn : n < c) (h : n ≠ v) : tw_in P D n v = tw_in P D (P n) v := by
  apply Bool.eq_iff_iff.mpr
  rw [tw_in_t T hn, tw_in_t T (T.2.2.2.2.1 n)]
  exact ⟨fun k => tw_A_st k (fun e => h e.symm), tw_A_up⟩
theorem tw_in_0 (T : tw_T P D c) {v : Nat} (h : v ≠ 0) : tw_in P D 0 v = false := by
  apply Bool.eq_false_iff.mpr
  intro z
  obtain ⟨k, hk⟩ := (tw_in_t T T.1 v).mp z
  rw [tw_it_top T.2.2.1] at hk
  exact h hk.symm
theorem tw_in_top (T : tw_T P D c) {n : Nat} (hn : n < c) : tw_in P D n 0 = true := (tw_in_t T hn 0).mpr (tw_A_top T hn)
theorem tw_c24 (T : tw_T P D c) {n : Nat} (hn : n < c) : n < 24 := Nat.lt_of_lt_of_le hn T.2.1
theorem tw_D24 (T : tw_T P D c) {n : Nat} (hn : n < c) : D n < 24 := Nat.lt_of_lt_of_le (tw_D_lt T hn) T.2.1
/-- the sum of two depths less twice the fork's -/
theorem tw_far_i (T : tw_T P D c) {u v : Nat} (hu : u < c) (hv : v < c) :
    nI (D u) + nI (D v) - 2 * nI (D (tw_F P D u v)) = nI (tw_far P D u v) := by
  have a := tw_F_Du T hu hv
  have b := tw_F_Dv T hu hv
  have e : (2 : Int32) * nI (D (tw_F P D u v)) = nI (2 * D (tw_F P D u v)) := pk_mul 2 _
  rw [e, nI_add, pk_sub (by omega)]
  rfl
theorem tw_on_i (T : tw_T P D c) {n u v : Nat} (hn : n < c) (hu : u < c) (hv : v < c) :
    nI (tw_far P D u n) + nI (tw_far P D n v) = nI (tw_far P D u v) ↔ tw_on P D n u v = true := by
  have a := tw_far_lt T hu hn
  have b := tw_far_lt T hn hv
  have d := tw_far_lt T hu hv
  rw [nI_add, nI_eq (by omega) (by omega)]
  exact tw_on_far T hn hu hv
end
/-- a loop's states, one after the other -/
def tw_fd {σ : Type} (g : Nat → σ → σ) (s : σ) : Nat → σ
  | 0 => s
  | n + 1 => g n (tw_fd g s n)
theorem tw_fd_I {σ : Type} (g : Nat → σ → σ) (s : σ) (c : Nat) (I : σ → Prop) (h0 : I s) (hs : ∀ n t, n < c → I t → I (g n t)) :
    ∀ n, n ≤ c → I (tw_fd g s n) := by
  intro n
  induction n with
  | zero => intro _; exact h0
  | succ n ih => intro h; exact hs n _ (by omega) (ih (by omega))
theorem tw_lp {σ : Type} (W : Nat → Nat → σ → Prop) (g : Nat → σ → σ) (s0 : σ) (c : Nat)
    (hx : ∀ n, W (n + 1) c (tw_fd g s0 c))
    (hs : ∀ n i, i < c → W n (i + 1) (g i (tw_fd g s0 i)) → W (n + 1) i (tw_fd g s0 i)) :
    ∀ d i, i + d = c → W (d + 1) i (tw_fd g s0 i) := by
  intro d
  induction d with
  | zero =>
    intro i h
    have e : i = c := by omega
    rw [e]
    exact hx 0
  | succ d ih =>
    intro i h
    exact hs _ i (by omega) (ih (i + 1) (by omega))
/-- the step 'if B then A' -/
def tw_if {σ : Type} (B : Nat → Bool) (A : Nat → σ → σ) (i : Nat) (s : σ) : σ := if B i = true then A i s else s
theorem tw_if_t {σ : Type} {B : Nat → Bool} {A : Nat → σ → σ} {i : Nat} {s : σ} (h : B i = true) : tw_if B A i s = A i s := if_pos h
theorem tw_if_f {σ : Type} {B : Nat → Bool} {A : Nat → σ → σ} {i : Nat} {s : σ} (h : B i = false) : tw_if B A i s = s :=
  if_neg (by rw [h]; exact Bool.false_ne_true)
theorem tw_lpi {σ : Type} (W : Nat → Nat → σ → Prop) (B : Nat → Bool) (A : Nat → σ → σ) (s0 : σ) (c : Nat)
    (hx : ∀ n, W (n + 1) c (tw_fd (tw_if B A) s0 c))
    (hs : ∀ n i s, i < c → (B i = false → W n (i + 1) s) → (B i = true → W n (i + 1) (A i s)) → W (n + 1) i s) :
    ∃ n, W n 0 s0 :=
  ⟨c + 1, tw_lp W (tw_if B A) s0 c hx (fun n i hi h => hs n i _ hi (fun e => by rw [tw_if_f e] at h; exact h) (fun e => by rw [tw_if_t e] at h; exact h)) c 0 (Nat.zero_add c)⟩
theorem tw_lpa {σ : Type} (W : Nat → Nat → σ → Prop) (A : Nat → σ → σ) (s0 : σ) (c : Nat)
    (hx : ∀ n, W (n + 1) c (tw_fd A s0 c))
    (hs : ∀ n i s, i < c → W n (i + 1) (A i s) → W (n + 1) i s) :
    ∃ n, W n 0 s0 :=
  ⟨c + 1, tw_lp W A s0 c hx (fun n i hi h => hs n i _ hi h) c 0 (Nat.zero_add c)⟩
/-- a scan that stops at t alone -/
theorem tw_sc (W : Nat → Nat → Prop) (c t : Nat) (ht : t < c)
    (hy : ∀ n, W (n + 1) t) (hs : ∀ n i, i < c → i ≠ t → W n (i + 1) → W (n + 1) i) : ∃ n, W n 0 := by
  have h : ∀ d i, i + d = t → W (d + 1) i := by
    intro d
    induction d with
    | zero =>
      intro i e
      have e' : i = t := by omega
      rw [e']
      exact hy 0
    | succ d ih =>
      intro i e
      exact hs _ i (by omega) (by omega) (ih (i + 1) (by omega))
  exact ⟨t + 1, h t 0 (Nat.zero_add t)⟩
/-- a scan that never stops -/
theorem tw_sn (W : Nat → Nat → Prop) (c : Nat)
    (hx : ∀ n, W (n + 1) c) (hs : ∀ n i, i < c → W n (i + 1) → W (n + 1) i) : ∃ n, W n 0 := by
  have h : ∀ d i, i + d = c → W (d + 1) i := by
    intro d
    induction d with
    | zero =>
      intro i e
      have e' : i = c := by omega
      rw [e']
      exact hx 0
    | succ d ih =>
      intro i e
      exact hs _ i (by omega) (ih (i + 1) (by omega))
  exact ⟨c + 1, h c 0 (Nat.zero_add c)⟩
/-- the sum of the distances from v -/
def tw_S (P D : Nat → Nat) (c v : Nat) : Int32 := tw_fd (fun w s => s + nI (tw_far P D v w)) 0 c
/-- how many; the sum of their values; the greatest value; something added to each -/
def tw_ct (B : Nat → Bool) (c : Nat) : Int32 := tw_fd (tw_if B (fun _ s => s + 1)) 0 c
def tw_sm (B : Nat → Bool) (vs : Nat → Int32) (c : Nat) : Int32 := tw_fd (tw_if B (fun n s => s + vs n)) 0 c
def tw_m (vs : Nat → Int32) (n : Nat) (s : Int32) : Int32 := if s < vs n then vs n else s
theorem tw_m_t {vs : Nat → Int32} {n : Nat} {s : Int32} (h : ¬ vs n ≤ s) : tw_m vs n s = vs n := if_pos (Int32.not_le.mp h)
theorem tw_m_f {vs : Nat → Int32} {n : Nat} {s : Int32} (h : vs n ≤ s) : tw_m vs n s = s := if_neg (Int32.not_lt.mpr h)
def tw_mx (B : Nat → Bool) (vs : Nat → Int32) (s0 : Int32) (c : Nat) : Int32 := tw_fd (tw_if B (tw_m vs)) s0 c
def tw_a (x : Int32) (n : Nat) (s : Int32 × (Nat → Int32)) : Int32 × (Nat → Int32) := (s.1 + 1, upd s.2 n (s.2 n + x))
def tw_ad (B : Nat → Bool) (x : Int32) (vs : Nat → Int32) (c : Nat) : Int32 × (Nat → Int32) := tw_fd (tw_if B (tw_a x)) (0, vs) c
theorem tw_ad_z (B : Nat → Bool) (x : Int32) {vs : Nat → Int32} {c : Nat} (h : ∀ j, c ≤ j → vs j = 0) : ∀ j, c ≤ j → (tw_ad B x vs c).2 j = 0 := by
  refine tw_fd_I (tw_if B (tw_a x)) (0, vs) c (fun s => ∀ j, c ≤ j → s.2 j = 0) h ?_ c (Nat.le_refl c)
  intro n t hn ht j hj
  by_cases e : B n = true
  · rw [tw_if_t e]
    show upd t.2 n (t.2 n + x) j = 0
    rw [pk_un (by omega)]
    exact ht j hj
  · rw [tw_if_f (Bool.eq_false_iff.mpr e)]
    exact ht j hj
/-- the greatest distance; the first node of the least sum -/
def tw_wi (P D : Nat → Nat) (u v : Nat) (s : Int32) : Int32 := if s < nI (tw_far P D u v) then nI (tw_far P D u v) else s
theorem tw_wi_t {P D : Nat → Nat} {u v : Nat} {s : Int32} (h : ¬ nI (tw_far P D u v) ≤ s) : tw_wi P D u v s = nI (tw_far P D u v) := if_pos (Int32.not_le.mp h)
theorem tw_wi_f {P D : Nat → Nat} {u v : Nat} {s : Int32} (h : nI (tw_far P D u v) ≤ s) : tw_wi P D u v s = s := if_neg (Int32.not_lt.mpr h)
def tw_wo (P D : Nat → Nat) (u : Nat) (s : Int32) : Int32 := tw_fd (tw_wi P D u) s u
def tw_wd (P D : Nat → Nat) (c : Nat) : Int32 := tw_fd (tw_wo P D) 0 c
def tw_hs (P D : Nat → Nat) (c m b : Nat) : Nat := if tw_S P D c (m + 1) < tw_S P D c b then m + 1 else b
theorem tw_hs_t {P D : Nat → Nat} {c m b : Nat} (h : ¬ tw_S P D c b ≤ tw_S P D c (m + 1)) : tw_hs P D c m b = m + 1 := if_pos (Int32.not_le.mp h)
theorem tw_hs_f {P D : Nat → Nat} {c m b : Nat} (h : tw_S P D c b ≤ tw_S P D c (m + 1)) : tw_hs P D c m b = b := if_neg (Int32.not_lt.mpr h)
def tw_ht (P D : Nat → Nat) (c m : Nat) : Nat := tw_fd (tw_hs P D c) 0 m
theorem tw_ht_lt (P D : Nat → Nat) (c : Nat) (hc : 0 < c) : ∀ m, m + 1 ≤ c → tw_ht P D c m < c := by
  intro m
  induction m with
  | zero => intro _; exact hc
  | succ m ih =>
    intro h
    have i := ih (by omega)
    show (if tw_S P D c (m + 1) < tw_S P D c (tw_ht P D c m) then m + 1 else tw_ht P D c m) < c
    by_cases z : tw_S P D c (m + 1) < tw_S P D c (tw_ht P D c m)
    · rw [if_pos z]; omega
    · rw [if_neg z]; exact i
theorem tw_10 : ¬ (1 : Int32) = 0 := by decide
theorem tw_at (vs : Nat → Int32) {n : Nat} (h : n < 24) : vs (nI n).toNatClampNeg = vs n := by rw [nI_clamp (by omega)]
theorem ek_if {c d A B : Prop} (e : c ↔ d) (f : d → A) (g : ¬ d → B) : (c → A) ∧ (¬ c → B) :=
  ⟨fun z => f (e.mp z), fun z => g (fun y => z (e.mpr y))⟩
