theorem pk_us {f : Nat → Int32} {k : Nat} {x : Int32} : upd f k x k = x := if_pos rfl
theorem pk_un {f : Nat → Int32} {k j : Nat} {x : Int32} (h : j ≠ k) : upd f k x j = f j := if_neg h
theorem pk_sub {a b : Nat} (h : b ≤ a) : nI a - nI b = nI (a - b) := by
  obtain ⟨c, rfl⟩ : ∃ c, a = c + b := ⟨a - b, by omega⟩
  rw [← nI_add, Int32.add_sub_cancel, Nat.add_sub_cancel]
theorem pk_mul (a b : Nat) : nI a * nI b = nI (a * b) := (Int32.ofNat_mul a b).symm
theorem pk_div {a d : Nat} (ha : a < 2 ^ 31) (h0 : 0 < d) (hd : d < 2 ^ 31) : nI a / nI d = nI (a / d) := by
  apply Int32.toInt_inj.mp
  rw [lg_idiv_nonneg (by rw [nI_toInt ha]; omega) (by rw [nI_toInt hd]; omega), nI_toInt ha, nI_toInt hd, nI_toInt (Nat.lt_of_le_of_lt (Nat.div_le_self a d) ha)]
  first | rfl | exact (Int.natCast_ediv _ _).symm
theorem pk_rem {a d : Nat} (ha : a < 2 ^ 31) (h0 : 0 < d) (hd : d < 2 ^ 31) : nI a - nI a / nI d * nI d = nI (a % d) := by
  rw [pk_div ha h0 hd, pk_mul, pk_sub (Nat.div_mul_le_self a d)]
  exact congrArg nI (by have := Nat.div_add_mod' a d; omega)
theorem pk_ix (x : Int32) {n : Nat} (hn : n < 2 ^ 31) : x < 0 ∨ nI n ≤ x ∨ ∃ j : Nat, j < n ∧ x = nI j := by
  by_cases h : x < 0
  · exact Or.inl h
  · obtain ⟨j, hj, rfl⟩ := nI_of h
    by_cases h2 : j < n
    · exact Or.inr (Or.inr ⟨j, h2, rfl⟩)
    · exact Or.inr (Or.inl (nI_le (by omega) hj))
theorem pk_le {x y : Int32} {A B : Prop} (a b : Nat) (f : a ≤ b → A) (g : b < a → B) (hx : x = nI a := by rfl) (hy : y = nI b := by rfl) (ha : a < 2 ^ 31 := by omega) (hb : b < 2 ^ 31 := by omega) : (x ≤ y → A) ∧ (¬ x ≤ y → B) := by
  subst hx hy
  rw [nI_leI ha hb]
  exact ⟨f, fun z => g (by omega)⟩
theorem pk_lt {x y : Int32} {A B : Prop} (a b : Nat) (f : a < b → A) (g : b ≤ a → B) (hx : x = nI a := by rfl) (hy : y = nI b := by rfl) (ha : a < 2 ^ 31 := by omega) (hb : b < 2 ^ 31 := by omega) : (x < y → A) ∧ (¬ x < y → B) := by
  subst hx hy
  rw [nI_ltI ha hb]
  exact ⟨f, fun z => g (by omega)⟩
theorem pk_eq {x y : Int32} {A B : Prop} (a b : Nat) (f : a = b → A) (g : a ≠ b → B) (hx : x = nI a := by rfl) (hy : y = nI b := by rfl) (ha : a < 2 ^ 31 := by omega) (hb : b < 2 ^ 31 := by omega) : (x = y → A) ∧ (¬ x = y → B) := by
  subst hx hy
  rw [nI_eq ha hb]
  exact ⟨f, g⟩
theorem pk_in {x : Int32} (n N : Nat) (h : n < N) (hx : x = nI n := by rfl) (hN : N < 2 ^ 31 := by omega) : vp_in x N := by
  subst hx
  exact vp_in_nI h hN
theorem pk_cl {x : Int32} (n : Nat) (hx : x = nI n := by rfl) (h : n < 2 ^ 31 := by omega) : x.toNatClampNeg = n := by
  subst hx
  exact nI_clamp h
/-- a truth value as the machine keeps it -/
def fd_b (b : Bool) : Int32 := if b then 1 else 0
theorem fd_bn (b : Bool) : narrow .boolean (.int (fd_b b)) = .int (fd_b b) := by cases b <;> rfl
theorem fd_v0 : vp_nar .boolean 0 = 0 := rfl
theorem fd_v1 : vp_nar .boolean 1 = 1 := rfl
theorem fd_br {b : Bool} {A B : Prop} (f : b = false → A) (g : b = true → B) : (fd_b b = 0 → A) ∧ (¬ fd_b b = 0 → B) := by
  cases b
  · exact ⟨fun _ => f rfl, fun h => absurd rfl h⟩
  · exact ⟨fun h => absurd h (by decide), fun _ => g rfl⟩
theorem fd_ix (d f : Nat) : nI d * 6 + nI f = nI (6 * d + f) := by
  rw [show (6 : Int32) = nI 6 from rfl, pk_mul, nI_add, Nat.mul_comm]
theorem fd_iy (d f : Nat) : 6 * nI d + nI f = nI (6 * d + f) := by
  rw [show (6 : Int32) = nI 6 from rfl, pk_mul, nI_add]
/-- how many x below N are q -/
def fd_c (q : Nat → Bool) : Nat → Nat
  | 0 => 0
  | x + 1 => fd_c q x + (if q x then 1 else 0)
theorem fd_c_congr {q r : Nat → Bool} : ∀ N, (∀ x, x < N → q x = r x) → fd_c q N = fd_c r N := by
  intro N
  induction N with
  | zero => intro _; rfl
  | succ N ih =>
    intro h
    show fd_c q N + _ = fd_c r N + _
    rw [ih (fun x hx => h x (by omega)), h N (by omega)]
theorem fd_c_le (q : Nat → Bool) : ∀ N, fd_c q N ≤ N := by
  intro N
  induction N with
  | zero => exact Nat.le_refl 0
  | succ N ih =>
    show fd_c q N + _ ≤ N + 1
    split <;> omega
/-- the first x from x on, of k numbers, that is q -/
def fd_fi (q : Nat → Bool) : Nat → Nat → Nat
  | 0, x => x
  | k + 1, x => if q x then x else fd_fi q k (x + 1)
theorem fd_fi_spec (q : Nat → Bool) : ∀ k x, (fd_fi q k x = x + k ∧ ∀ y, x ≤ y → y < x + k → q y = false) ∨ (x ≤ fd_fi q k x ∧ fd_fi q k x < x + k ∧ q (fd_fi q k x) = true) := by
  intro k
  induction k with
  | zero => intro x; exact Or.inl ⟨rfl, fun y h1 h2 => by omega⟩
  | succ k ih =>
    intro x
    by_cases hq : q x = true
    · have e : fd_fi q (k + 1) x = x := by show (if q x then x else _) = x; rw [if_pos hq]
      rw [e]
      exact Or.inr ⟨by omega, by omega, hq⟩
    · have e : fd_fi q (k + 1) x = fd_fi q k (x + 1) := by show (if q x then x else _) = _; rw [if_neg hq]
      rw [e]
      rcases ih (x + 1) with ⟨h1, h2⟩ | ⟨h1, h2, h3⟩
      · refine Or.inl ⟨by omega, fun y hy1 hy2 => ?_⟩
        by_cases hy : y = x
        · rw [hy]; simpa using hq
        · exact h2 y (by omega) (by omega)
      · exact Or.inr ⟨by omega, by omega, h3⟩
def fd_al (q : Nat → Bool) : Nat → Bool
  | 0 => true
  | x + 1 => fd_al q x && q x
theorem fd_al_iff (q : Nat → Bool) : ∀ N, fd_al q N = true ↔ ∀ x, x < N → q x = true := by
  intro N
  induction N with
  | zero => exact ⟨fun _ x h => by omega, fun _ => rfl⟩
  | succ N ih =>
    show (fd_al q N && q N) = true ↔ _
    rw [Bool.and_eq_true, ih]
    constructor
    · intro ⟨h1, h2⟩ x hx
      by_cases e : x = N
      · rw [e]; exact h2
      · exact h1 x (by omega)
    · intro h
      exact ⟨fun x hx => h x (by omega), h N (by omega)⟩
theorem fd_fold {σ : Type} (W : Nat → σ → Nat → Prop) (F : Nat → σ) (N : Nat) (hx : ∀ n, W (n + 1) (F N) N) (hs : ∀ n x, x < N → W n (F (x + 1)) (x + 1) → W (n + 1) (F x) x) : ∃ n, W n (F 0) 0 := by
  have H : ∀ k x, x + k = N → W (k + 1) (F x) x := by
    intro k
    induction k with
    | zero => intro x h; have e : x = N := by omega
              subst e; exact hx 0
    | succ k ih => intro x h; exact hs _ x (by omega) (ih (x + 1) (by omega))
  exact ⟨N + 1, H N 0 (by omega)⟩
theorem fd_cnt (W : Nat → Int32 → Int32 → Prop) (q : Nat → Bool) (N : Nat) (post : Int32 → Prop) (hx : ∀ n c, post c → W (n + 1) c (nI N)) (hs : ∀ n c x, x < N → (q x = false → W n c (nI x + 1)) → (q x = true → W n (c + 1) (nI x + 1)) → W (n + 1) c (nI x)) (hp : post (nI (fd_c q N))) : ∃ n, W n 0 0 := by
  refine fd_fold (fun n c x => W n c (nI x)) (fun x => nI (fd_c q x)) N (fun n => hx n _ hp) ?_
  intro n x hxN h
  have h' : W n (nI (fd_c q x + (if q x then 1 else 0))) (nI (x + 1)) := h
  refine hs n _ x hxN (fun hq => ?_) (fun hq => ?_)
  · rw [hq] at h'
    rw [nI_1]
    exact h'
  · rw [hq] at h'
    rw [nI_1, nI_1]
    exact h'
theorem fd_find (W : Nat → Int32 → Prop) (q : Nat → Bool) (N : Nat) (P : Nat → Prop) (hx : ∀ n, P N → W (n + 3) (nI N)) (hs : ∀ n x, x < N → (q x = false → W (n + 1) (nI x + 1)) → (q x = true → P x) → W (n + 2) (nI x)) (hp : P (fd_fi q N 0)) : ∃ n, W n 0 := by
  have H : ∀ k x, x + k = N → P (fd_fi q k x) → W (k + 3) (nI x) := by
    intro k
    induction k with
    | zero => intro x h hr; have e : x = N := by omega
              subst e; exact hx 0 hr
    | succ k ih =>
      intro x h hr
      have hp' : P (if q x then x else fd_fi q k (x + 1)) := hr
      refine hs _ x (by omega) (fun hq => ?_) (fun hq => ?_)
      · rw [hq] at hp'
        rw [nI_1]
        exact ih (x + 1) (by omega) hp'
      · rw [if_pos hq] at hp'
        exact hp'
  exact ⟨N + 3, H N 0 (by omega) hp⟩
