section
theorem pk_us {f : Nat → Int32} {k : Nat} {x : Int32} : upd f k x k = x := if_pos rfl
theorem pk_un {f : Nat → Int32} {k j : Nat} {x : Int32} (h : j ≠ k) : upd f k x j = f j := if_neg h
theorem pk_sub {a b : Nat} (h : b ≤ a) : nI a - nI b = nI (a - b) := by
  obtain ⟨c, rfl⟩ : ∃ c, a = c + b := ⟨a - b, by omega⟩
  rw [← nI_add, Int32.add_sub_cancel, Nat.add_sub_cancel]
theorem pk_mul (a b : Nat) : nI a * nI b = nI (a * b) := (Int32.ofNat_mul a b).symm
theorem pk_div {a d : Nat} (ha : a < 2 ^ 31) (h0 : 0 < d) (hd : d < 2 ^ 31) : nI a / nI d = nI (a / d) := by
  apply Int32.toInt_inj.mp
  rw [lg_idiv_nonneg (by rw [nI_toInt ha]; omega) (by rw [nI_toInt hd]; omega), nI_toInt ha, nI_toInt hd, nI_toInt (Nat.lt_of_le_of_lt (Nat.div_le_self a d) ha)]
  first | rfl | exact (Int.natCast_ediv _ _).symm
theorem pk_rem {a d : Nat} (ha : a < 2 ^ 31) (h0 : 0 < d) (hd : d < 2 ^ 31) : nI a - nI a / nI d * nI d = nI (a % d) := by
  rw [pk_div ha h0 hd, pk_mul, pk_sub (Nat.div_mul_le_self a d)]
  exact congrArg nI (by have := Nat.div_add_mod' a d; omega)
theorem pk_ix (x : Int32) {n : Nat} (hn : n < 2 ^ 31) : x < 0 ∨ nI n ≤ x ∨ ∃ j : Nat, j < n ∧ x = nI j := by
  by_cases h : x < 0
  · exact Or.inl h
  · obtain ⟨j, hj, rfl⟩ := nI_of h
    by_cases h2 : j < n
    · exact Or.inr (Or.inr ⟨j, h2, rfl⟩)
    · exact Or.inr (Or.inl (nI_le (by omega) hj))
theorem pk_le {x y : Int32} {A B : Prop} (a b : Nat) (f : a ≤ b → A) (g : b < a → B) (hx : x = nI a := by rfl) (hy : y = nI b := by rfl) (ha : a < 2 ^ 31 := by omega) (hb : b < 2 ^ 31 := by omega) : (x ≤ y → A) ∧ (¬ x ≤ y → B) := by
  subst hx hy
  rw [nI_leI ha hb]
  exact ⟨f, fun z => g (by omega)⟩
theorem pk_lt {x y : Int32} {A B : Prop} (a b : Nat) (f : a < b → A) (g : b ≤ a → B) (hx : x = nI a := by rfl) (hy : y = nI b := by rfl) (ha : a < 2 ^ 31 := by omega) (hb : b < 2 ^ 31 := by omega) : (x < y → A) ∧ (¬ x < y → B) := by
  subst hx hy
  rw [nI_ltI ha hb]
  exact ⟨f, fun z => g (by omega)⟩
theorem pk_eq {x y : Int32} {A B : Prop} (a b : Nat) (f : a = b → A) (g : a ≠ b → B) (hx : x = nI a := by rfl) (hy : y = nI b := by rfl) (ha : a < 2 ^ 31 := by omega) (hb : b < 2 ^ 31 := by omega) : (x = y → A) ∧ (¬ x = y → B) := by
  subst hx hy
  rw [nI_eq ha hb]
  exact ⟨f, g⟩
theorem pk_in {x : Int32} (n N : Nat) (h : n < N) (hx : x = nI n := by rfl) (hN : N < 2 ^ 31 := by omega) : vp_in x N := by
  subst hx
  exact vp_in_nI h hN
theorem pk_cl {x : Int32} (n : Nat) (hx : x = nI n := by rfl) (h : n < 2 ^ 31 := by omega) : x.toNatClampNeg = n := by
  subst hx
  exact nI_clamp h
/-- a truth value as the machine keeps it -/
def fd_b (b : Bool) : Int32 := if b then 1 else 0
theorem fd_bn (b : Bool) : narrow .boolean (.int (fd_b b)) = .int (fd_b b) := by cases b <;> rfl
theorem fd_v0 : vp_nar .boolean 0 = 0 := rfl
theorem fd_v1 : vp_nar .boolean 1 = 1 := rfl
theorem fd_br {b : Bool} {A B : Prop} (f : b = false → A) (g : b = true → B) : (fd_b b = 0 → A) ∧ (¬ fd_b b = 0 → B) := by
  cases b
  · exact ⟨fun _ => f rfl, fun h => absurd rfl h⟩
  · exact ⟨fun h => absurd h (by decide), fun _ => g rfl⟩
theorem fd_ix (d f : Nat) : nI d * 6 + nI f = nI (6 * d + f) := by
  rw [show (6 : Int32) = nI 6 from rfl, pk_mul, nI_add, Nat.mul_comm]
theorem fd_iy (d f : Nat) : 6 * nI d + nI f = nI (6 * d + f) := by
  rw [show (6 : Int32) = nI 6 from rfl, pk_mul, nI_add]
/-- how many x below N are q -/
def fd_c (q : Nat → Bool) : Nat → Nat
  | 0 => 0
  | x + 1 => fd_c q x + (if q x then 1 else 0)
theorem fd_c_congr {q r : Nat → Bool} : ∀ N, (∀ x, x < N → q x = r x) → fd_c q N = fd_c r N := by
  intro N
  induction N with
  | zero => intro _; rfl
  | succ N ih =>
    intro h
    show fd_c q N + _ = fd_c r N + _
    rw [ih (fun x hx => h x (by omega)), h N (by omega)]
theorem fd_c_le (q : Nat → Bool) : ∀ N, fd_c q N ≤ N := by
  intro N
  induction N with
  | zero => exact Nat.le_refl 0
  | succ N ih =>
    show fd_c q N + _ ≤ N + 1
    split <;> omega
/-- the first x from x on, of k numbers, that is q -/
def fd_fi (q : Nat → Bool) : Nat → Nat → Nat
  | 0, x => x
  | k + 1, x => if q x then x else fd_fi q k (x + 1)
theorem fd_fi_spec (q : Nat → Bool) : ∀ k x, (fd_fi q k x = x + k ∧ ∀ y, x ≤ y → y < x + k → q y = false) ∨ (x ≤ fd_fi q k x ∧ fd_fi q k x < x + k ∧ q (fd_fi q k x) = true) := by
  intro k
  induction k with
  | zero => intro x; exact Or.inl ⟨rfl, fun y h1 h2 => by omega⟩
  | succ k ih =>
    intro x
    by_cases hq : q x = true
    · have e : fd_fi q (k + 1) x = x := by show (if q x then x else _) = x; rw [if_pos hq]
      rw [e]
      exact Or.inr ⟨by omega, by omega, hq⟩
    · have e : fd_fi q (k + 1) x = fd_fi q k (x + 1) := by show (if q x then x else _) = _; rw [if_neg hq]
      rw [e]
      rcases ih (x + 1) with ⟨h1, h2⟩ | ⟨h1, h2, h3⟩
      · refine Or.inl ⟨by omega, fun y hy1 hy2 => ?_⟩
        by_cases hy : y = x
        · rw [hy]; simpa using hq
        · exact h2 y (by omega) (by omega)
      · exact Or.inr ⟨by omega, by omega, h3⟩
def fd_al (q : Nat → Bool) : Nat → Bool
  | 0 => true
  | x + 1 => fd_al q x && q x
theorem fd_al_iff (q : Nat → Bool) : ∀ N, fd_al q N = true ↔ ∀ x, x < N → q x = true := by
  intro N
  induction N with
  | zero => exact ⟨fun _ x h => by omega, fun _ => rfl⟩
  | succ N ih =>
    show (fd_al q N && q N) = true ↔ _
    rw [Bool.and_eq_true, ih]
    constructor
    · intro ⟨h1, h2⟩ x hx
      by_cases e : x = N
      · rw [e]; exact h2
      · exact h1 x (by omega)
    · intro h
      exact ⟨fun x hx => h x (by omega), h N (by omega)⟩
theorem fd_fold {σ : Type} (W : Nat → σ → Nat → Prop) (F : Nat → σ) (N : Nat) (hx : ∀ n, W (n + 1) (F N) N) (hs : ∀ n x, x < N → W n (F (x + 1)) (x + 1) → W (n + 1) (F x) x) : ∃ n, W n (F 0) 0 := by
  have H : ∀ k x, x + k = N → W (k + 1) (F x) x := by
    intro k
    induction k with
    | zero => intro x h; have e : x = N := by omega
              subst e; exact hx 0
    | succ k ih => intro x h; exact hs _ x (by omega) (ih (x + 1) (by omega))
  exact ⟨N + 1, H N 0 (by omega)⟩
theorem fd_cnt (W : Nat → Int32 → Int32 → Prop) (q : Nat → Bool) (N : Nat) (post : Int32 → Prop) (hx : ∀ n c, post c → W (n + 1) c (nI N)) (hs : ∀ n c x, x < N → (q x = false → W n c (nI x + 1)) → (q x = true → W n (c + 1) (nI x + 1)) → W (n + 1) c (nI x)) (hp : post (nI (fd_c q N))) : ∃ n, W n 0 0 := by
  refine fd_fold (fun n c x => W n c (nI x)) (fun x => nI (fd_c q x)) N (fun n => hx n _ hp) ?_
  intro n x hxN h
  have h' : W n (nI (fd_c q x + (if q x then 1 else 0))) (nI (x + 1)) := h
  refine hs n _ x hxN (fun hq => ?_) (fun hq => ?_)
  · rw [hq] at h'
    rw [nI_1]
    exact h'
  · rw [hq] at h'
    rw [nI_1, nI_1]
    exact h'
theorem fd_find (W : Nat → Int32 → Prop) (q : Nat → Bool) (N : Nat) (P : Nat → Prop) (hx : ∀ n, P N → W (n + 1) (nI N)) (hs : ∀ n x, x < N → (q x = false → W (n + 1) (nI x + 1)) → (q x = true → P x) → W (n + 2) (nI x)) (hp : P (fd_fi q N 0)) : ∃ n, W n 0 := by
  have H : ∀ k x, x + k = N → P (fd_fi q k x) → W (k + 2) (nI x) := by
    intro k
    induction k with
    | zero => intro x h hr; have e : x = N := by omega
              subst e; exact hx 1 hr
    | succ k ih =>
      intro x h hr
      have hp' : P (if q x then x else fd_fi q k (x + 1)) := hr
      refine hs _ x (by omega) (fun hq => ?_) (fun hq => ?_)
      · rw [hq] at hp'
        rw [nI_1]
        exact ih (x + 1) (by omega) hp'
      · rw [if_pos hq] at hp'
        exact hp'
  exact ⟨N + 2, H N 0 (by omega) hp⟩
end
section
/-- does document d pass the filter of field f -/
def fd_ps (w fl ff fs : Nat → Int32) (d f : Nat) : Bool :=
  if fl f = 0 then true
  else if f < 3 then decide (((ff f >>> (w (6 * d + f) &&& 31)) &&& 1) = 1)
  else if 3 < f then (if w (6 * d + f) < ff f then false else if fs f < w (6 * d + f) then false else true)
  else if fs f = 0 then decide (¬ (w (6 * d + f) &&& ff f) = 0)
  else if fs f = 1 then decide ((w (6 * d + f) &&& ff f) = ff f)
  else decide ((w (6 * d + f) &&& ff f) = 0)
section
variable {p w fl ff fs hi mk : Nat → Int32} {md : Int32} {post : Int32 → Prop}
theorem fd_Xps {d f : Nat} (hd : d < 48) (hf : f < 6) (hp : post (fd_b (fd_ps w fl ff fs d f))) : wpX_passes post (p, w, fl, ff, fs) (nI d) (nI f) := by
  have c1 : (nI f).toNatClampNeg = f := nI_clamp (by omega)
  have c2 : (nI (6 * d + f)).toNatClampNeg = 6 * d + f := nI_clamp (by omega)
  have i1 : vp_in (nI f) 6 := vp_in_nI hf (by omega)
  have i2 : vp_in (nI (6 * d + f)) 288 := vp_in_nI (by omega) (by omega)
  unfold wpX_passes
  dsimp only
  rw [fd_ix, c1, c2]
  unfold fd_ps at hp
  refine ⟨i1, br_c (fun h0 => ?_) (fun h0 => ⟨i2, nm_e ⟨i1, nm_e ⟨i1, nm_e (pk_le 3 f (fun h3 => pk_le f 3 (fun h4 => nm_e ?_) (fun h4 => ?_)) (fun h3 => ?_))⟩⟩⟩)⟩
  · rw [if_pos h0] at hp; exact hp
  · rw [if_neg h0, if_neg (by omega), if_neg (by omega)] at hp
    refine br_c (fun h5 => ?_) (fun h5 => br_c (fun h6 => ?_) (fun h6 => ?_))
    · rw [if_pos h5] at hp
      exact br_c (fun h7 => by rw [decide_eq_false (fun z => z h7)] at hp; exact hp) (fun h7 => by rw [decide_eq_true h7] at hp; exact hp)
    · rw [if_neg h5, if_pos h6] at hp
      exact br_c (fun h7 => by rw [decide_eq_true h7] at hp; exact hp) (fun h7 => by rw [decide_eq_false h7] at hp; exact hp)
    · rw [if_neg h5, if_neg h6] at hp
      exact br_c (fun h7 => by rw [decide_eq_true h7] at hp; exact hp) (fun h7 => by rw [decide_eq_false h7] at hp; exact hp)
  · rw [if_neg h0, if_neg (by omega), if_pos h4] at hp
    refine br_c (fun h5 => ?_) (fun h5 => br_c (fun h6 => ?_) (fun h6 => ?_))
    · rw [if_pos h5] at hp; exact hp
    · rw [if_neg h5, if_pos h6] at hp; exact hp
    · rw [if_neg h5, if_neg h6] at hp; exact hp
  · rw [if_neg h0, if_pos h3] at hp
    exact br_c (fun h7 => by rw [decide_eq_true h7] at hp; exact hp) (fun h7 => by rw [decide_eq_false h7] at hp; exact hp)
theorem fd_Yps {d f : Nat} (e3 : fs 3 = md) (e4 : fs 4 = hi 4) (e5 : fs 5 = hi 5) (hd : d < 48) (hf : f < 6) (hp : post (fd_b (fd_ps w fl ff fs d f))) : wpY_passesField post (md, p, w, fl, ff, hi, mk) (nI d) (nI f) := by
  have c1 : (nI f).toNatClampNeg = f := nI_clamp (by omega)
  have c2 : (nI (6 * d + f)).toNatClampNeg = 6 * d + f := nI_clamp (by omega)
  have i1 : vp_in (nI f) 6 := vp_in_nI hf (by omega)
  have i2 : vp_in (nI (6 * d + f)) 288 := vp_in_nI (by omega) (by omega)
  unfold wpY_passesField
  dsimp only
  rw [fd_iy, c1, c2]
  unfold fd_ps at hp
  refine ⟨i2, nm_e ⟨i1, br_c (fun h0 => ?_) (fun h0 => pk_le f 3 (fun h4 => pk_le 3 f (fun h3 => nm_e ?_) (fun h3 => ⟨i1, ?_⟩)) (fun h4 => ⟨i1, ?_⟩))⟩⟩
  · rw [if_pos h0] at hp; exact hp
  · obtain rfl : f = 3 := by omega
    rw [if_neg h0, if_neg (by omega), if_neg (by omega), e3] at hp
    refine br_c (fun h5 => ?_) (fun h5 => br_c (fun h6 => ?_) (fun h6 => ?_))
    · rw [if_pos h5] at hp
      exact br_c (fun h7 => by rw [decide_eq_false (fun z => z h7)] at hp; exact hp) (fun h7 => by rw [decide_eq_true h7] at hp; exact hp)
    · rw [if_neg h5, if_pos h6] at hp
      exact br_c (fun h7 => by rw [decide_eq_true h7] at hp; exact hp) (fun h7 => by rw [decide_eq_false h7] at hp; exact hp)
    · rw [if_neg h5, if_neg h6] at hp
      exact br_c (fun h7 => by rw [decide_eq_true h7] at hp; exact hp) (fun h7 => by rw [decide_eq_false h7] at hp; exact hp)
  · rw [if_neg h0, if_pos h3] at hp
    exact br_c (fun h7 => by rw [decide_eq_true h7] at hp; exact hp) (fun h7 => by rw [decide_eq_false h7] at hp; exact hp)
  · have e : fs f = hi f := by
      have : f = 4 ∨ f = 5 := by omega
      rcases this with rfl | rfl
      · exact e4
      · exact e5
    rw [if_neg h0, if_neg (by omega), if_pos h4, e] at hp
    refine br_c (fun h5 => ?_) (fun h5 => ⟨i1, br_c (fun h6 => ?_) (fun h6 => ?_)⟩)
    · rw [if_pos h5] at hp; exact hp
    · rw [if_neg h5, if_pos h6] at hp; exact hp
    · rw [if_neg h5, if_neg h6] at hp; exact hp
/-- may document d, beside field s, be at field f -/
def fd_q (w fl ff fs : Nat → Int32) (d : Nat) (s : Int32) (f : Nat) : Bool := if nI f = s then true else fd_ps w fl ff fs d f
/-- does document d match, beside field s -/
def fd_M (p w fl ff fs : Nat → Int32) (d : Nat) (s : Int32) : Bool := if p d = 0 then false else fd_al (fd_q w fl ff fs d s) 6
theorem fd_Xm {d : Nat} {s : Int32} (hd : d < 48) (hp : post (fd_b (fd_M p w fl ff fs d s))) : wpX_matchesBeside post (p, w, fl, ff, fs) (nI d) s := by
  have c1 : (nI d).toNatClampNeg = d := nI_clamp (by omega)
  unfold wpX_matchesBeside
  dsimp only
  rw [c1]
  unfold fd_M at hp
  refine ⟨vp_in_nI hd (by omega), br_c (fun h0 => ?_) (fun h0 => ?_)⟩
  · rw [if_pos h0] at hp; exact hp
  · rw [if_neg h0] at hp
    have hal : fd_al (fd_q w fl ff fs d s) 6 = decide (fd_fi (fun f => !fd_q w fl ff fs d s f) 6 0 = 6) := by
      have hs := fd_fi_spec (fun f => !fd_q w fl ff fs d s f) 6 0
      have ha := fd_al_iff (fd_q w fl ff fs d s) 6
      rw [Bool.eq_iff_iff, ha, decide_eq_true_iff]
      rcases hs with ⟨h1, h2⟩ | ⟨h1, h2, h3⟩
      · refine ⟨fun _ => by omega, fun _ x hx => ?_⟩
        have := h2 x (by omega) (by omega)
        simpa using this
      · refine ⟨fun h => ?_, fun h => by omega⟩
        have := h _ (by omega : fd_fi (fun f => !fd_q w fl ff fs d s f) 6 0 < 6)
        rw [this] at h3
        exact absurd h3 (by decide)
    rw [hal] at hp
    refine fd_find (fun n x => wX_matchesBeside_13 post (nI d) s p w fl ff fs n x) (fun f => !fd_q w fl ff fs d s f) 6 (fun r => post (fd_b (decide (r = 6)))) (fun n h => br_t (nI_le (a := 6) (b := 6) (by omega) (by omega)) h) ?_ hp
    intro n x hx H0 H1
    refine br_f (nI_ge (a := x) (b := 6) hx (by omega)) (br_c (fun hs => ?_) (fun hs => ?_))
    · have : fd_q w fl ff fs d s x = true := by unfold fd_q; rw [if_pos hs]
      exact nm_e (H0 (by rw [this]; rfl))
    · have e : fd_q w fl ff fs d s x = fd_ps w fl ff fs d x := by unfold fd_q; rw [if_neg hs]
      rw [e] at H0 H1
      refine fd_Xps hd hx (fd_br (fun hb => ?_) (fun hb => ?_))
      · have := H1 (by rw [hb]; rfl)
        rw [decide_eq_false (by omega)] at this
        exact this
      · exact nm_e (H0 (by rw [hb]; rfl))
theorem fd_Ym {d : Nat} {s : Int32} (hb01 : ∀ i, p i = 0 ∨ p i = 1) (e3 : fs 3 = md) (e4 : fs 4 = hi 4) (e5 : fs 5 = hi 5) (hd : d < 48) (hp : post (fd_b (fd_M p w fl ff fs d s))) : wpY_matches post (md, p, w, fl, ff, hi, mk) (nI d) s := by
  have c1 : (nI d).toNatClampNeg = d := nI_clamp (by omega)
  unfold wpY_matches
  dsimp only
  rw [c1]
  refine ⟨vp_in_nI hd (by omega), nm_e ?_⟩
  have e0 : p d = fd_b (decide (¬ p d = 0) && fd_al (fd_q w fl ff fs d s) 0) := by
    rcases hb01 d with h | h <;> rw [h] <;> rfl
  have e6 : fd_M p w fl ff fs d s = (decide (¬ p d = 0) && fd_al (fd_q w fl ff fs d s) 6) := by
    unfold fd_M
    by_cases h : p d = 0
    · rw [if_pos h, decide_eq_false (fun z => z h)]; rfl
    · rw [if_neg h, decide_eq_true h]; rfl
  rw [e6] at hp
  rw [e0]
  refine fd_fold (fun n (c : Int32) x => wY_matches_10 post (nI d) s md p w fl ff hi mk n c (nI x)) (fun x => fd_b (decide (¬ p d = 0) && fd_al (fd_q w fl ff fs d s) x)) 6 (fun n => br_t (nI_le (a := 6) (b := 6) (by omega) (by omega)) ⟨fd_bn _, hp⟩) ?_
  intro n x hx H
  have H' : wY_matches_10 post (nI d) s md p w fl ff hi mk n (fd_b (decide (¬ p d = 0) && (fd_al (fd_q w fl ff fs d s) x && fd_q w fl ff fs d s x))) (nI x + 1) := by
    rw [nI_1]; exact H
  rw [← Bool.and_assoc] at H'
  refine br_f (nI_ge (a := x) (b := 6) hx (by omega)) (fd_br (fun hb => ?_) (fun hb => br_c (fun hs => ?_) (fun hs => ?_)))
  · rw [hb] at H'
    exact nm_e H'
  · have : fd_q w fl ff fs d s x = true := by unfold fd_q; rw [if_pos hs]
    rw [hb, this] at H'
    exact nm_e H'
  · have e : fd_q w fl ff fs d s x = fd_ps w fl ff fs d x := by unfold fd_q; rw [if_neg hs]
    rw [hb, e] at H'
    refine fd_Yps e3 e4 e5 hd hx (fd_br (fun hq => ?_) (fun hq => ?_))
    · rw [hq] at H'
      exact nm_e H'
    · rw [hq] at H'
      exact nm_e H'
end
end
section
/-- what the two states hold beside their equal arrays -/
def fd_R (p w fs hi : Nat → Int32) (md : Int32) : Prop :=
  (∀ i, p i = 0 ∨ p i = 1) ∧ fs 3 = md ∧ fs 4 = hi 4 ∧ fs 5 = hi 5 ∧ (∀ i, i % 6 < 3 → ∃ j : Nat, j < 10 ∧ w i = nI j) ∧ (∀ i, 4 ≤ i % 6 → ¬ w i = -2002)
def i_Rel (_ : Nat) (u : SX) (v : SY) : Prop := ∃ p w fl ff fs hi mk : Nat → Int32, ∃ md : Int32, u = (p, w, fl, ff, fs) ∧ v = (md, p, w, fl, ff, hi, mk) ∧ fd_R p w fs hi md
theorem i_up {k : Nat} {u : SX} {v : SY} (h : i_Rel k u v) : i_Rel (k + 4) u v := h
theorem fd_z : ¬ (0 : Int32) = -2002 := by decide
theorem fd_no {A : Prop} (h : false = true) : A := nomatch h
theorem i_vc0 : wpX_init (fun u => wpY_init (fun v => i_Rel 0 u v)) :=
  ⟨fun _ => 0, fun _ => 0, fun _ => 0, fun _ => 0, fun _ => 0, fun _ => 0, fun _ => 0, 0, rfl, rfl, fun _ => Or.inl rfl, rfl, rfl, rfl, fun _ _ => ⟨0, by omega, rfl⟩, fun _ _ => fd_z⟩
section
variable {p w fl ff fs hi mk : Nat → Int32} {md : Int32} {post : Int32 → Prop}
theorem fd_rel (k : Nat) (R : fd_R p w fs hi md) : i_Rel k (p, w, fl, ff, fs) (md, p, w, fl, ff, hi, mk) :=
  ⟨p, w, fl, ff, fs, hi, mk, md, rfl, rfl, R⟩
theorem fd_YM {d : Nat} {s : Int32} (R : fd_R p w fs hi md) (hd : d < 48) (hp : post (fd_b (fd_M p w fl ff fs d s))) : wpY_matches post (md, p, w, fl, ff, hi, mk) (nI d) s :=
  fd_Ym R.1 R.2.1 R.2.2.1 R.2.2.2.1 hd hp
theorem fd_XM {d : Nat} (hd : d < 48) (hp : post (fd_b (fd_M p w fl ff fs d (-1)))) : wpX_matches post (p, w, fl, ff, fs) (nI d) := by
  unfold wpX_matches
  exact fd_Xm hd ⟨fd_bn _, hp⟩
theorem fd_g48 {x : Nat} (h : x < 48) : ¬ (48 : Int32) ≤ nI x := nI_ge (a := x) (b := 48) h (by omega)
theorem fd_l48 : (48 : Int32) ≤ nI 48 := nI_le (a := 48) (b := 48) (by omega) (by omega)
theorem fd_cl {x : Nat} (h : x < 2 ^ 31) : (nI x).toNatClampNeg = x := nI_clamp h
/-- documents -/
theorem fd_Xdocs (hp : post (nI (fd_c (fun d => decide (¬ p d = 0)) 48))) : wpX_documents post (p, w, fl, ff, fs) := by
  unfold wpX_documents
  refine fd_cnt (fun n c x => wX_documents_4 post p w fl ff fs n c x) (fun d => decide (¬ p d = 0)) 48 post (fun n c h => br_t fd_l48 h) ?_ hp
  intro n c x hx H0 H1
  have e := fd_cl (x := x) (by omega)
  refine br_f (fd_g48 hx) ⟨vp_in_nI hx (by omega), br_c (fun h0 => ?_) (fun h0 => ?_)⟩
  · rw [e] at h0
    exact nm_e (H0 (decide_eq_false (fun z => z h0)))
  · rw [e] at h0
    exact nm_e (nm_e (H1 (decide_eq_true h0)))
theorem fd_Ydocs (hp : post (nI (fd_c (fun d => decide (¬ p d = 0)) 48))) : wpY_documents post (md, p, w, fl, ff, hi, mk) := by
  unfold wpY_documents
  refine fd_cnt (fun n c x => wY_documents_4 post md p w fl ff hi mk n c x) (fun d => decide (¬ p d = 0)) 48 post (fun n c h => br_t fd_l48 h) ?_ hp
  intro n c x hx H0 H1
  have e := fd_cl (x := x) (by omega)
  refine br_f (fd_g48 hx) ⟨vp_in_nI hx (by omega), br_c (fun h0 => ?_) (fun h0 => ?_)⟩
  · rw [e] at h0
    exact nm_e (H0 (decide_eq_false (fun z => z h0)))
  · rw [e] at h0
    exact nm_e (nm_e (H1 (decide_eq_true h0)))
/-- matching -/
theorem fd_Xmat (hp : post (nI (fd_c (fun d => fd_M p w fl ff fs d (-1)) 48))) : wpX_matching post (p, w, fl, ff, fs) := by
  unfold wpX_matching
  refine fd_cnt (fun n c x => wX_matching_4 post p w fl ff fs n c x) (fun d => fd_M p w fl ff fs d (-1)) 48 post (fun n c h => br_t fd_l48 h) ?_ hp
  intro n c x hx H0 H1
  exact br_f (fd_g48 hx) (fd_XM hx (fd_br (fun hb => nm_e (H0 hb)) (fun hb => nm_e (nm_e (H1 hb)))))
theorem fd_Ymat (R : fd_R p w fs hi md) (hp : post (nI (fd_c (fun d => fd_M p w fl ff fs d (-1)) 48))) : wpY_matching post (md, p, w, fl, ff, hi, mk) := by
  unfold wpY_matching
  refine fd_cnt (fun n c x => wY_matching_4 post md p w fl ff hi mk n c x) (fun d => fd_M p w fl ff fs d (-1)) 48 post (fun n c h => br_t fd_l48 h) ?_ hp
  intro n c x hx H0 H1
  exact br_f (fd_g48 hx) (fd_YM R hx (fd_br (fun hb => nm_e (H0 hb)) (fun hb => nm_e (nm_e (H1 hb)))))
/-- the tests of arguments -/
theorem fd_doc (x : Int32) : ∃ b : Bool, (b = true → ∃ d : Nat, d < 48 ∧ x = nI d) ∧ (∀ post : Int32 → Prop, post (fd_b b) → wpX_isDocument post (p, w, fl, ff, fs) x) ∧ (∀ post : Int32 → Prop, post (fd_b b) → wpY_isDocument post (md, p, w, fl, ff, hi, mk) x) := by
  by_cases h : x < 0
  · exact ⟨false, fd_no, fun _ hp => br_t h hp, fun _ hp => br_t h hp⟩
  · obtain ⟨j, hj, rfl⟩ := nI_of h
    by_cases h48 : j < 48
    · have e := fd_cl (x := j) (by omega)
      have i : vp_in (nI j) 48 := vp_in_nI h48 (by omega)
      have a1 : ¬ (47 : Int32) < nI j := nI_nlt (a := 47) (b := j) (by omega) (by omega)
      by_cases hz : p j = 0
      · have hz' : p (nI j).toNatClampNeg = 0 := by rw [e]; exact hz
        exact ⟨false, fd_no, fun _ hp => br_f h (br_f (fd_g48 h48) ⟨i, br_t hz' hp⟩), fun _ hp => br_f h (br_f a1 ⟨i, br_t hz' hp⟩)⟩
      · have hz' : ¬ p (nI j).toNatClampNeg = 0 := by rw [e]; exact hz
        exact ⟨true, fun _ => ⟨j, h48, rfl⟩, fun _ hp => br_f h (br_f (fd_g48 h48) ⟨i, br_f hz' hp⟩), fun _ hp => br_f h (br_f a1 ⟨i, br_f hz' hp⟩)⟩
    · have a1 : (48 : Int32) ≤ nI j := nI_le (a := 48) (b := j) (by omega) hj
      have a2 : (47 : Int32) < nI j := nI_lt (a := 47) (b := j) (by omega) hj
      exact ⟨false, fd_no, fun _ hp => br_f h (br_t a1 hp), fun _ hp => br_f h (br_t a2 hp)⟩
theorem fd_num (x : Int32) : ∃ b : Bool, (b = true → ∃ f : Nat, (f = 4 ∨ f = 5) ∧ x = nI f) ∧ (∀ post : Int32 → Prop, post (fd_b b) → wpX_isNumberField post x) ∧ (∀ post : Int32 → Prop, post (fd_b b) → wpY_isNumberField post (md, p, w, fl, ff, hi, mk) x) := by
  by_cases h : x < 0
  · have a1 : x ≤ 3 := Int32.le_of_lt (Int32.lt_trans h (by decide))
    have a2 : ¬ x = 4 := fun e => absurd h (by rw [e]; decide)
    have a3 : ¬ x = 5 := fun e => absurd h (by rw [e]; decide)
    exact ⟨false, fd_no, fun _ hp => br_t a1 hp, fun _ hp => br_f a2 (br_f a3 hp)⟩
  · obtain ⟨j, hj, rfl⟩ := nI_of h
    by_cases h4 : j = 4
    · subst h4
      exact ⟨true, fun _ => ⟨4, Or.inl rfl, rfl⟩, fun _ hp => br_f (by decide) (br_f (by decide) hp), fun _ hp => br_t rfl hp⟩
    · by_cases h5 : j = 5
      · subst h5
        exact ⟨true, fun _ => ⟨5, Or.inr rfl, rfl⟩, fun _ hp => br_f (by decide) (br_f (by decide) hp), fun _ hp => br_f (by decide) (br_t rfl hp)⟩
      · exact ⟨false, fd_no, fun _ hp => pk_le j 3 (fun _ => hp) (fun _ => pk_le 6 j (fun _ => hp) (fun _ => absurd h4 (by omega))), fun _ hp => pk_eq j 4 (fun z => absurd z h4) (fun _ => pk_eq j 5 (fun z => absurd z h5) (fun _ => hp))⟩
theorem fd_grp (x : Int32) : ∃ b : Bool, (b = true → ∃ f : Nat, f < 4 ∧ x = nI f) ∧ (∀ post : Int32 → Prop, post (fd_b b) → wpX_isGroupField post x) ∧ (∀ post : Int32 → Prop, post (fd_b b) → wpY_isGroupField post (md, p, w, fl, ff, hi, mk) x) := by
  by_cases h : x < 0
  · exact ⟨false, fd_no, fun _ hp => br_t h hp, fun _ hp => br_t h hp⟩
  · obtain ⟨j, hj, rfl⟩ := nI_of h
    by_cases h4 : j < 4
    · have a1 : ¬ (3 : Int32) < nI j := nI_nlt (a := 3) (b := j) (by omega) (by omega)
      exact ⟨true, fun _ => ⟨j, h4, rfl⟩, fun _ hp => br_f h (br_f a1 hp), fun _ hp => br_f h (br_f a1 hp)⟩
    · have a1 : (3 : Int32) < nI j := nI_lt (a := 3) (b := j) (by omega) hj
      exact ⟨false, fd_no, fun _ hp => br_f h (br_t a1 hp), fun _ hp => br_f h (br_t a1 hp)⟩
/-- how many terms field f has -/
def fd_T (f : Nat) : Nat := if f = 3 then 8 else 10
theorem fd_Xto {f : Nat} (hf : f < 6) (hp : post (nI (fd_T f))) : wpX_termsOf post (nI f) := by
  unfold fd_T at hp
  exact pk_eq f 3 (fun h => by rw [if_pos h] at hp; exact hp) (fun h => by rw [if_neg h] at hp; exact hp)
theorem fd_Tle (f : Nat) : 0 < fd_T f ∧ fd_T f ≤ 10 := by
  unfold fd_T; split <;> omega
theorem fd_Xit {f t : Nat} (hf : f < 6) (ht : t < 2 ^ 31) (hp : post (fd_b (decide (t < fd_T f)))) : wpX_isTermOf post (nI f) (nI t) := by
  have hT := fd_Tle f
  refine br_f (nI_pos ht) (fd_Xto hf (pk_le (fd_T f) t (fun h => ?_) (fun h => ?_)))
  · rw [decide_eq_false (by omega)] at hp; exact hp
  · rw [decide_eq_true h] at hp; exact hp
theorem fd_Yit {f t : Nat} (hf : f < 6) (ht : t < 2 ^ 31) (hp : post (fd_b (decide (t < fd_T f)))) : wpY_isTerm post (md, p, w, fl, ff, hi, mk) (nI f) (nI t) := by
  unfold fd_T at hp
  refine br_f (nI_pos ht) (pk_eq f 3 (fun h => ?_) (fun h => ?_))
  · rw [if_pos h] at hp
    refine pk_lt 7 t (fun h => ?_) (fun h => ?_)
    · rw [decide_eq_false (by omega)] at hp; exact hp
    · rw [decide_eq_true (by omega)] at hp; exact hp
  · rw [if_neg h] at hp
    refine pk_lt 9 t (fun h => ?_) (fun h => ?_)
    · rw [decide_eq_false (by omega)] at hp; exact hp
    · rw [decide_eq_true (by omega)] at hp; exact hp
theorem fd_trm {f : Nat} (hf : f < 6) (x : Int32) : ∃ b : Bool, (b = true → ∃ t : Nat, t < fd_T f ∧ x = nI t) ∧ (∀ post : Int32 → Prop, post (fd_b b) → wpX_isTermOf post (nI f) x) ∧ (∀ post : Int32 → Prop, post (fd_b b) → wpY_isTerm post (md, p, w, fl, ff, hi, mk) (nI f) x) := by
  by_cases h : x < 0
  · exact ⟨false, fd_no, fun _ hp => br_t h hp, fun _ hp => br_t h hp⟩
  · obtain ⟨j, hj, rfl⟩ := nI_of h
    exact ⟨decide (j < fd_T f), fun z => ⟨j, of_decide_eq_true z, rfl⟩, fun _ hp => fd_Xit hf hj hp, fun _ hp => fd_Yit hf hj hp⟩
/-- has document d the term t in field f -/
def fd_hs (w : Nat → Int32) (f : Nat) (t : Int32) (d : Nat) : Bool :=
  if f = 3 then decide (((w (6 * d + f) >>> (t &&& 31)) &&& 1) = 1) else decide (w (6 * d + f) = t)
theorem fd_Xhs {d f : Nat} {t : Int32} (hd : d < 48) (hf : f < 6) (hp : post (fd_b (fd_hs w f t d))) : wpX_has post (p, w, fl, ff, fs) (nI d) (nI f) t := by
  unfold wpX_has
  dsimp only
  rw [fd_ix, fd_cl (x := 6 * d + f) (by omega)]
  unfold fd_hs at hp
  refine ⟨vp_in_nI (by omega) (by omega), nm_e (pk_eq f 3 (fun h => ?_) (fun h => ?_))⟩
  · rw [if_pos h] at hp
    exact br_c (fun h7 => by rw [decide_eq_true h7] at hp; exact hp) (fun h7 => by rw [decide_eq_false h7] at hp; exact hp)
  · rw [if_neg h] at hp
    exact br_c (fun h7 => by rw [decide_eq_true h7] at hp; exact hp) (fun h7 => by rw [decide_eq_false h7] at hp; exact hp)
theorem fd_Yhs {d f : Nat} {t : Int32} (hd : d < 48) (hf : f < 6) (hp : post (fd_b (fd_hs w f t d))) : wpY_has post (md, p, w, fl, ff, hi, mk) (nI d) (nI f) t := by
  unfold wpY_has
  dsimp only
  rw [fd_iy, fd_cl (x := 6 * d + f) (by omega)]
  unfold fd_hs at hp
  refine ⟨vp_in_nI (by omega) (by omega), nm_e (pk_eq f 3 (fun h => ?_) (fun h => ?_))⟩
  · rw [if_pos h] at hp
    exact br_c (fun h7 => by rw [decide_eq_true h7] at hp; exact hp) (fun h7 => by rw [decide_eq_false h7] at hp; exact hp)
  · rw [if_neg h] at hp
    exact br_c (fun h7 => by rw [decide_eq_true h7] at hp; exact hp) (fun h7 => by rw [decide_eq_false h7] at hp; exact hp)
/-- the facet's count -/
def fd_q2 (p w fl ff fs : Nat → Int32) (f : Nat) (t s : Int32) (d : Nat) : Bool := fd_hs w f t d && fd_M p w fl ff fs d s
theorem fd_q2a {f d : Nat} {t s : Int32} (h : fd_hs w f t d = false) : fd_q2 p w fl ff fs f t s d = false := by unfold fd_q2; rw [h]; rfl
theorem fd_q2b {f d : Nat} {t s : Int32} (h : fd_M p w fl ff fs d s = false) : fd_q2 p w fl ff fs f t s d = false := by unfold fd_q2; rw [h, Bool.and_false]
theorem fd_q2c {f d : Nat} {t s : Int32} (h : fd_hs w f t d = true) (h2 : fd_M p w fl ff fs d s = true) : fd_q2 p w fl ff fs f t s d = true := by unfold fd_q2; rw [h, h2]; rfl
def fd_C (p w fl ff fs : Nat → Int32) (f : Nat) (t : Nat) : Int32 := nI (fd_c (fd_q2 p w fl ff fs f (nI t) (nI f)) 48)
theorem fd_Xcb {f t : Nat} (hf : f < 6) (hp : post (fd_C p w fl ff fs f t)) : wpX_countBeside post (p, w, fl, ff, fs) (nI f) (nI t) := by
  unfold wpX_countBeside
  refine fd_cnt (fun n c x => wX_countBeside_5 post (nI f) (nI t) p w fl ff fs n c x) (fd_q2 p w fl ff fs f (nI t) (nI f)) 48 post (fun n c h => br_t fd_l48 h) ?_ hp
  intro n c x hx H0 H1
  exact br_f (fd_g48 hx) (fd_Xhs hx hf (fd_br (fun hb => nm_e (H0 (fd_q2a hb))) (fun hb => fd_Xm hx (fd_br (fun hc => nm_e (H0 (fd_q2b hc))) (fun hc => nm_e (nm_e (H1 (fd_q2c hb hc))))))))
theorem fd_Ycb {f t : Nat} (R : fd_R p w fs hi md) (hf : f < 6) (hp : post (fd_C p w fl ff fs f t)) : wpY_facetOf post (md, p, w, fl, ff, hi, mk) (nI f) (nI t) := by
  unfold wpY_facetOf
  refine fd_cnt (fun n c x => wY_facetOf_5 post (nI f) (nI t) md p w fl ff hi mk n c x) (fd_q2 p w fl ff fs f (nI t) (nI f)) 48 post (fun n c h => br_t fd_l48 h) ?_ hp
  intro n c x hx H0 H1
  exact br_f (fd_g48 hx) (fd_YM R hx (fd_br (fun hc => nm_e (H0 (fd_q2b hc))) (fun hc => fd_Yhs hx hf (fd_br (fun hb => nm_e (H0 (fd_q2a hb))) (fun hb => nm_e (nm_e (H1 (fd_q2c hb hc))))))))
end
end
