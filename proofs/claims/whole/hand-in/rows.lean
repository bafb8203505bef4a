section
theorem pk_us {f : Nat → Int32} {k : Nat} {x : Int32} : upd f k x k = x := if_pos rfl
theorem pk_un {f : Nat → Int32} {k j : Nat} {x : Int32} (h : j ≠ k) : upd f k x j = f j := if_neg h
theorem pk_sub {a b : Nat} (h : b ≤ a) : nI a - nI b = nI (a - b) := by
  obtain ⟨c, rfl⟩ : ∃ c, a = c + b := ⟨a - b, by omega⟩
  rw [← nI_add, Int32.add_sub_cancel, Nat.add_sub_cancel]
theorem pk_mul (a b : Nat) : nI a * nI b = nI (a * b) := (Int32.ofNat_mul a b).symm
theorem pk_div {a d : Nat} (ha : a < 2 ^ 31) (h0 : 0 < d) (hd : d < 2 ^ 31) : nI a / nI d = nI (a / d) := by
  apply Int32.toInt_inj.mp
  rw [lg_idiv_nonneg (by rw [nI_toInt ha]; omega) (by rw [nI_toInt hd]; omega), nI_toInt ha, nI_toInt hd, nI_toInt (Nat.lt_of_le_of_lt (Nat.div_le_self a d) ha)]
  first | rfl | exact (Int.natCast_ediv _ _).symm
theorem pk_rem {a d : Nat} (ha : a < 2 ^ 31) (h0 : 0 < d) (hd : d < 2 ^ 31) : nI a - nI a / nI d * nI d = nI (a % d) := by
  rw [pk_div ha h0 hd, pk_mul, pk_sub (Nat.div_mul_le_self a d)]
  exact congrArg nI (by have := Nat.div_add_mod' a d; omega)
theorem pk_ix (x : Int32) {n : Nat} (hn : n < 2 ^ 31) : x < 0 ∨ nI n ≤ x ∨ ∃ j : Nat, j < n ∧ x = nI j := by
  by_cases h : x < 0
  · exact Or.inl h
  · obtain ⟨j, hj, rfl⟩ := nI_of h
    by_cases h2 : j < n
    · exact Or.inr (Or.inr ⟨j, h2, rfl⟩)
    · exact Or.inr (Or.inl (nI_le (by omega) hj))
theorem pk_le {x y : Int32} {A B : Prop} (a b : Nat) (f : a ≤ b → A) (g : b < a → B) (hx : x = nI a := by rfl) (hy : y = nI b := by rfl) (ha : a < 2 ^ 31 := by omega) (hb : b < 2 ^ 31 := by omega) : (x ≤ y → A) ∧ (¬ x ≤ y → B) := by
  subst hx hy
  rw [nI_leI ha hb]
  exact ⟨f, fun z => g (by omega)⟩
theorem pk_lt {x y : Int32} {A B : Prop} (a b : Nat) (f : a < b → A) (g : b ≤ a → B) (hx : x = nI a := by rfl) (hy : y = nI b := by rfl) (ha : a < 2 ^ 31 := by omega) (hb : b < 2 ^ 31 := by omega) : (x < y → A) ∧ (¬ x < y → B) := by
  subst hx hy
  rw [nI_ltI ha hb]
  exact ⟨f, fun z => g (by omega)⟩
theorem pk_eq {x y : Int32} {A B : Prop} (a b : Nat) (f : a = b → A) (g : a ≠ b → B) (hx : x = nI a := by rfl) (hy : y = nI b := by rfl) (ha : a < 2 ^ 31 := by omega) (hb : b < 2 ^ 31 := by omega) : (x = y → A) ∧ (¬ x = y → B) := by
  subst hx hy
  rw [nI_eq ha hb]
  exact ⟨f, g⟩
theorem pk_in {x : Int32} (n N : Nat) (h : n < N) (hx : x = nI n := by rfl) (hN : N < 2 ^ 31 := by omega) : vp_in x N := by
  subst hx
  exact vp_in_nI h hN
theorem pk_cl {x : Int32} (n : Nat) (hx : x = nI n := by rfl) (h : n < 2 ^ 31 := by omega) : x.toNatClampNeg = n := by
  subst hx
  exact nI_clamp h
/-- a truth value as the machine keeps it -/
def fd_b (b : Bool) : Int32 := if b then 1 else 0
theorem fd_bn (b : Bool) : narrow .boolean (.int (fd_b b)) = .int (fd_b b) := by cases b <;> rfl
theorem fd_v0 : vp_nar .boolean 0 = 0 := rfl
theorem fd_v1 : vp_nar .boolean 1 = 1 := rfl
theorem fd_br {b : Bool} {A B : Prop} (f : b = false → A) (g : b = true → B) : (fd_b b = 0 → A) ∧ (¬ fd_b b = 0 → B) := by
  cases b
  · exact ⟨fun _ => f rfl, fun h => absurd rfl h⟩
  · exact ⟨fun h => absurd h (by decide), fun _ => g rfl⟩
theorem fd_ix (d f : Nat) : nI d * 6 + nI f = nI (6 * d + f) := by
  rw [show (6 : Int32) = nI 6 from rfl, pk_mul, nI_add, Nat.mul_comm]
theorem fd_iy (d f : Nat) : 6 * nI d + nI f = nI (6 * d + f) := by
  rw [show (6 : Int32) = nI 6 from rfl, pk_mul, nI_add]
/-- how many x below N are q -/
def fd_c (q : Nat → Bool) : Nat → Nat
  | 0 => 0
  | x + 1 => fd_c q x + (if q x then 1 else 0)
theorem fd_c_congr {q r : Nat → Bool} : ∀ N, (∀ x, x < N → q x = r x) → fd_c q N = fd_c r N := by
  intro N
  induction N with
  | zero => intro _; rfl
  | succ N ih =>
    intro h
    show fd_c q N + _ = fd_c r N + _
    rw [ih (fun x hx => h x (by omega)), h N (by omega)]
theorem fd_c_le (q : Nat → Bool) : ∀ N, fd_c q N ≤ N := by
  intro N
  induction N with
  | zero => exact Nat.le_refl 0
  | succ N ih =>
    show fd_c q N + _ ≤ N + 1
    split <;> omega
/-- the first x from x on, of k numbers, that is q -/
def fd_fi (q : Nat → Bool) : Nat → Nat → Nat
  | 0, x => x
  | k + 1, x => if q x then x else fd_fi q k (x + 1)
theorem fd_fi_spec (q : Nat → Bool) : ∀ k x, (fd_fi q k x = x + k ∧ ∀ y, x ≤ y → y < x + k → q y = false) ∨ (x ≤ fd_fi q k x ∧ fd_fi q k x < x + k ∧ q (fd_fi q k x) = true) := by
  intro k
  induction k with
  | zero => intro x; exact Or.inl ⟨rfl, fun y h1 h2 => by omega⟩
  | succ k ih =>
    intro x
    by_cases hq : q x = true
    · have e : fd_fi q (k + 1) x = x := by show (if q x then x else _) = x; rw [if_pos hq]
      rw [e]
      exact Or.inr ⟨by omega, by omega, hq⟩
    · have e : fd_fi q (k + 1) x = fd_fi q k (x + 1) := by show (if q x then x else _) = _; rw [if_neg hq]
      rw [e]
      rcases ih (x + 1) with ⟨h1, h2⟩ | ⟨h1, h2, h3⟩
      · refine Or.inl ⟨by omega, fun y hy1 hy2 => ?_⟩
        by_cases hy : y = x
        · rw [hy]; simpa using hq
        · exact h2 y (by omega) (by omega)
      · exact Or.inr ⟨by omega, by omega, h3⟩
def fd_al (q : Nat → Bool) : Nat → Bool
  | 0 => true
  | x + 1 => fd_al q x && q x
theorem fd_al_iff (q : Nat → Bool) : ∀ N, fd_al q N = true ↔ ∀ x, x < N → q x = true := by
  intro N
  induction N with
  | zero => exact ⟨fun _ x h => by omega, fun _ => rfl⟩
  | succ N ih =>
    show (fd_al q N && q N) = true ↔ _
    rw [Bool.and_eq_true, ih]
    constructor
    · intro ⟨h1, h2⟩ x hx
      by_cases e : x = N
      · rw [e]; exact h2
      · exact h1 x (by omega)
    · intro h
      exact ⟨fun x hx => h x (by omega), h N (by omega)⟩
theorem fd_fold {σ : Type} (W : Nat → σ → Nat → Prop) (F : Nat → σ) (N : Nat) (hx : ∀ n, W (n + 1) (F N) N) (hs : ∀ n x, x < N → W n (F (x + 1)) (x + 1) → W (n + 1) (F x) x) : ∃ n, W n (F 0) 0 := by
  have H : ∀ k x, x + k = N → W (k + 1) (F x) x := by
    intro k
    induction k with
    | zero => intro x h; have e : x = N := by omega
              subst e; exact hx 0
    | succ k ih => intro x h; exact hs _ x (by omega) (ih (x + 1) (by omega))
  exact ⟨N + 1, H N 0 (by omega)⟩
theorem fd_cnt (W : Nat → Int32 → Int32 → Prop) (q : Nat → Bool) (N : Nat) (post : Int32 → Prop) (hx : ∀ n c, post c → W (n + 1) c (nI N)) (hs : ∀ n c x, x < N → (q x = false → W n c (nI x + 1)) → (q x = true → W n (c + 1) (nI x + 1)) → W (n + 1) c (nI x)) (hp : post (nI (fd_c q N))) : ∃ n, W n 0 0 := by
  refine fd_fold (fun n c x => W n c (nI x)) (fun x => nI (fd_c q x)) N (fun n => hx n _ hp) ?_
  intro n x hxN h
  have h' : W n (nI (fd_c q x + (if q x then 1 else 0))) (nI (x + 1)) := h
  refine hs n _ x hxN (fun hq => ?_) (fun hq => ?_)
  · rw [hq] at h'
    rw [nI_1]
    exact h'
  · rw [hq] at h'
    rw [nI_1, nI_1]
    exact h'
theorem fd_find (W : Nat → Int32 → Prop) (q : Nat → Bool) (N : Nat) (P : Nat → Prop) (hx : ∀ n, P N → W (n + 3) (nI N)) (hs : ∀ n x, x < N → (q x = false → W (n + 1) (nI x + 1)) → (q x = true → P x) → W (n + 2) (nI x)) (hp : P (fd_fi q N 0)) : ∃ n, W n 0 := by
  have H : ∀ k x, x + k = N → P (fd_fi q k x) → W (k + 3) (nI x) := by
    intro k
    induction k with
    | zero => intro x h hr; have e : x = N := by omega
              subst e; exact hx 0 hr
    | succ k ih =>
      intro x h hr
      have hp' : P (if q x then x else fd_fi q k (x + 1)) := hr
      refine hs _ x (by omega) (fun hq => ?_) (fun hq => ?_)
      · rw [hq] at hp'
        rw [nI_1]
        exact ih (x + 1) (by omega) hp'
      · rw [if_pos hq] at hp'
        exact hp'
  exact ⟨N + 3, H N 0 (by omega) hp⟩
end
section
/-- does document d pass the filter of field f -/
def fd_ps (w fl ff fs : Nat → Int32) (d f : Nat) : Bool :=
  if fl f = 0 then true
  else if f < 3 then decide (((ff f >>> (w (6 * d + f) &&& 31)) &&& 1) = 1)
  else if 3 < f then (if w (6 * d + f) < ff f then false else if fs f < w (6 * d + f) then false else true)
  else if fs f = 0 then decide (¬ (w (6 * d + f) &&& ff f) = 0)
  else if fs f = 1 then decide ((w (6 * d + f) &&& ff f) = ff f)
  else decide ((w (6 * d + f) &&& ff f) = 0)
section
variable {p w fl ff fs hi mk : Nat → Int32} {md : Int32} {post : Int32 → Prop}
theorem fd_Xps {d f : Nat} (hd : d < 48) (hf : f < 6) (hp : post (fd_b (fd_ps w fl ff fs d f))) : wpX_passes post (p, w, fl, ff, fs) (nI d) (nI f) := by
  have c1 : (nI f).toNatClampNeg = f := nI_clamp (by omega)
  have c2 : (nI (6 * d + f)).toNatClampNeg = 6 * d + f := nI_clamp (by omega)
  have i1 : vp_in (nI f) 6 := vp_in_nI hf (by omega)
  have i2 : vp_in (nI (6 * d + f)) 288 := vp_in_nI (by omega) (by omega)
  unfold wpX_passes
  dsimp only
  rw [fd_ix, c1, c2]
  unfold fd_ps at hp
  refine ⟨i1, br_c (fun h0 => ?_) (fun h0 => ⟨i2, nm_e ⟨i1, nm_e ⟨i1, nm_e (pk_le 3 f (fun h3 => pk_le f 3 (fun h4 => nm_e ?_) (fun h4 => ?_)) (fun h3 => ?_))⟩⟩⟩)⟩
  · rw [if_pos h0] at hp; exact hp
  · rw [if_neg h0, if_neg (by omega), if_neg (by omega)] at hp
    refine br_c (fun h5 => ?_) (fun h5 => br_c (fun h6 => ?_) (fun h6 => ?_))
    · rw [if_pos h5] at hp
      exact br_c (fun h7 => by rw [decide_eq_false (fun z => z h7)] at hp; exact hp) (fun h7 => by rw [decide_eq_true h7] at hp; exact hp)
    · rw [if_neg h5, if_pos h6] at hp
      exact br_c (fun h7 => by rw [decide_eq_true h7] at hp; exact hp) (fun h7 => by rw [decide_eq_false h7] at hp; exact hp)
    · rw [if_neg h5, if_neg h6] at hp
      exact br_c (fun h7 => by rw [decide_eq_true h7] at hp; exact hp) (fun h7 => by rw [decide_eq_false h7] at hp; exact hp)
  · rw [if_neg h0, if_neg (by omega), if_pos h4] at hp
    refine br_c (fun h5 => ?_) (fun h5 => br_c (fun h6 => ?_) (fun h6 => ?_))
    · rw [if_pos h5] at hp; exact hp
    · rw [if_neg h5, if_pos h6] at hp; exact hp
    · rw [if_neg h5, if_neg h6] at hp; exact hp
  · rw [if_neg h0, if_pos h3] at hp
    exact br_c (fun h7 => by rw [decide_eq_true h7] at hp; exact hp) (fun h7 => by rw [decide_eq_false h7] at hp; exact hp)
theorem fd_Yps {d f : Nat} (e3 : fs 3 = md) (e4 : fs 4 = hi 4) (e5 : fs 5 = hi 5) (hd : d < 48) (hf : f < 6) (hp : post (fd_b (fd_ps w fl ff fs d f))) : wpY_passesField post (md, p, w, fl, ff, hi, mk) (nI d) (nI f) := by
  have c1 : (nI f).toNatClampNeg = f := nI_clamp (by omega)
  have c2 : (nI (6 * d + f)).toNatClampNeg = 6 * d + f := nI_clamp (by omega)
  have i1 : vp_in (nI f) 6 := vp_in_nI hf (by omega)
  have i2 : vp_in (nI (6 * d + f)) 288 := vp_in_nI (by omega) (by omega)
  unfold wpY_passesField
  dsimp only
  rw [fd_iy, c1, c2]
  unfold fd_ps at hp
  refine ⟨i2, nm_e ⟨i1, br_c (fun h0 => ?_) (fun h0 => pk_le f 3 (fun h4 => pk_le 3 f (fun h3 => nm_e ?_) (fun h3 => ⟨i1, ?_⟩)) (fun h4 => ⟨i1, ?_⟩))⟩⟩
  · rw [if_pos h0] at hp; exact hp
  · obtain rfl : f = 3 := by omega
    rw [if_neg h0, if_neg (by omega), if_neg (by omega), e3] at hp
    refine br_c (fun h5 => ?_) (fun h5 => br_c (fun h6 => ?_) (fun h6 => ?_))
    · rw [if_pos h5] at hp
      exact br_c (fun h7 => by rw [decide_eq_false (fun z => z h7)] at hp; exact hp) (fun h7 => by rw [decide_eq_true h7] at hp; exact hp)
    · rw [if_neg h5, if_pos h6] at hp
      exact br_c (fun h7 => by rw [decide_eq_true h7] at hp; exact hp) (fun h7 => by rw [decide_eq_false h7] at hp; exact hp)
    · rw [if_neg h5, if_neg h6] at hp
      exact br_c (fun h7 => by rw [decide_eq_true h7] at hp; exact hp) (fun h7 => by rw [decide_eq_false h7] at hp; exact hp)
  · rw [if_neg h0, if_pos h3] at hp
    exact br_c (fun h7 => by rw [decide_eq_true h7] at hp; exact hp) (fun h7 => by rw [decide_eq_false h7] at hp; exact hp)
  · have e : fs f = hi f := by
      have : f = 4 ∨ f = 5 := by omega
      rcases this with rfl | rfl
      · exact e4
      · exact e5
    rw [if_neg h0, if_neg (by omega), if_pos h4, e] at hp
    refine br_c (fun h5 => ?_) (fun h5 => ⟨i1, br_c (fun h6 => ?_) (fun h6 => ?_)⟩)
    · rw [if_pos h5] at hp; exact hp
    · rw [if_neg h5, if_pos h6] at hp; exact hp
    · rw [if_neg h5, if_neg h6] at hp; exact hp
/-- may document d, beside field s, be at field f -/
def fd_q (w fl ff fs : Nat → Int32) (d : Nat) (s : Int32) (f : Nat) : Bool := if nI f = s then true else fd_ps w fl ff fs d f
/-- does document d match, beside field s -/
def fd_M (p w fl ff fs : Nat → Int32) (d : Nat) (s : Int32) : Bool := if p d = 0 then false else fd_al (fd_q w fl ff fs d s) 6
theorem fd_Xm {d : Nat} {s : Int32} (hd : d < 48) (hp : post (fd_b (fd_M p w fl ff fs d s))) : wpX_matchesBeside post (p, w, fl, ff, fs) (nI d) s := by
  have c1 : (nI d).toNatClampNeg = d := nI_clamp (by omega)
  unfold wpX_matchesBeside
  dsimp only
  rw [c1]
  unfold fd_M at hp
  refine ⟨vp_in_nI hd (by omega), br_c (fun h0 => ?_) (fun h0 => ?_)⟩
  · rw [if_pos h0] at hp; exact hp
  · rw [if_neg h0] at hp
    have hal : fd_al (fd_q w fl ff fs d s) 6 = decide (fd_fi (fun f => !fd_q w fl ff fs d s f) 6 0 = 6) := by
      have hs := fd_fi_spec (fun f => !fd_q w fl ff fs d s f) 6 0
      have ha := fd_al_iff (fd_q w fl ff fs d s) 6
      rw [Bool.eq_iff_iff, ha, decide_eq_true_iff]
      rcases hs with ⟨h1, h2⟩ | ⟨h1, h2, h3⟩
      · refine ⟨fun _ => by omega, fun _ x hx => ?_⟩
        have := h2 x (by omega) (by omega)
        simpa using this
      · refine ⟨fun h => ?_, fun h => by omega⟩
        have := h _ (by omega : fd_fi (fun f => !fd_q w fl ff fs d s f) 6 0 < 6)
        rw [this] at h3
        exact absurd h3 (by decide)
    rw [hal] at hp
    refine fd_find (fun n x => wX_matchesBeside_13 post (nI d) s p w fl ff fs n x) (fun f => !fd_q w fl ff fs d s f) 6 (fun r => post (fd_b (decide (r = 6)))) (fun n h => br_t (nI_le (a := 6) (b := 6) (by omega) (by omega)) h) ?_ hp
    intro n x hx H0 H1
    refine br_f (nI_ge (a := x) (b := 6) hx (by omega)) (br_c (fun hs => ?_) (fun hs => ?_))
    · have : fd_q w fl ff fs d s x = true := by unfold fd_q; rw [if_pos hs]
      exact nm_e (H0 (by rw [this]; rfl))
    · have e : fd_q w fl ff fs d s x = fd_ps w fl ff fs d x := by unfold fd_q; rw [if_neg hs]
      rw [e] at H0 H1
      refine fd_Xps hd hx (fd_br (fun hb => ?_) (fun hb => ?_))
      · have := H1 (by rw [hb]; rfl)
        rw [decide_eq_false (by omega)] at this
        exact this
      · exact nm_e (H0 (by rw [hb]; rfl))
theorem fd_Ym {d : Nat} {s : Int32} (hb01 : ∀ i, p i = 0 ∨ p i = 1) (e3 : fs 3 = md) (e4 : fs 4 = hi 4) (e5 : fs 5 = hi 5) (hd : d < 48) (hp : post (fd_b (fd_M p w fl ff fs d s))) : wpY_matches post (md, p, w, fl, ff, hi, mk) (nI d) s := by
  have c1 : (nI d).toNatClampNeg = d := nI_clamp (by omega)
  unfold wpY_matches
  dsimp only
  rw [c1]
  refine ⟨vp_in_nI hd (by omega), nm_e ?_⟩
  have e0 : p d = fd_b (decide (¬ p d = 0) && fd_al (fd_q w fl ff fs d s) 0) := by
    rcases hb01 d with h | h <;> rw [h] <;> rfl
  have e6 : fd_M p w fl ff fs d s = (decide (¬ p d = 0) && fd_al (fd_q w fl ff fs d s) 6) := by
    unfold fd_M
    by_cases h : p d = 0
    · rw [if_pos h, decide_eq_false (fun z => z h)]; rfl
    · rw [if_neg h, decide_eq_true h]; rfl
  rw [e6] at hp
  rw [e0]
  refine fd_fold (fun n (c : Int32) x => wY_matches_10 post (nI d) s md p w fl ff hi mk n c (nI x)) (fun x => fd_b (decide (¬ p d = 0) && fd_al (fd_q w fl ff fs d s) x)) 6 (fun n => br_t (nI_le (a := 6) (b := 6) (by omega) (by omega)) ⟨fd_bn _, hp⟩) ?_
  intro n x hx H
  have H' : wY_matches_10 post (nI d) s md p w fl ff hi mk n (fd_b (decide (¬ p d = 0) && (fd_al (fd_q w fl ff fs d s) x && fd_q w fl ff fs d s x))) (nI x + 1) := by
    rw [nI_1]; exact H
  rw [← Bool.and_assoc] at H'
  refine br_f (nI_ge (a := x) (b := 6) hx (by omega)) (fd_br (fun hb => ?_) (fun hb => br_c (fun hs => ?_) (fun hs => ?_)))
  · rw [hb] at H'
    exact nm_e H'
  · have : fd_q w fl ff fs d s x = true := by unfold fd_q; rw [if_pos hs]
    rw [hb, this] at H'
    exact nm_e H'
  · have e : fd_q w fl ff fs d s x = fd_ps w fl ff fs d x := by unfold fd_q; rw [if_neg hs]
    rw [hb, e] at H'
    refine fd_Yps e3 e4 e5 hd hx (fd_br (fun hq => ?_) (fun hq => ?_))
    · rw [hq] at H'
      exact nm_e H'
    · rw [hq] at H'
      exact nm_e H'
end
end
section
/-- what the two states hold beside their equal arrays -/
def fd_R (p w fs hi : Nat → Int32) (md : Int32) : Prop :=
  (∀ i, p i = 0 ∨ p i = 1) ∧ fs 3 = md ∧ fs 4 = hi 4 ∧ fs 5 = hi 5 ∧ (∀ i, i % 6 < 3 → ∃ j : Nat, j < 10 ∧ w i = nI j) ∧ (∀ i, 4 ≤ i % 6 → ¬ w i = -2002)
def i_Rel (_ : Nat) (u : SX) (v : SY) : Prop := ∃ p w fl ff fs hi mk : Nat → Int32, ∃ md : Int32, u = (p, w, fl, ff, fs) ∧ v = (md, p, w, fl, ff, hi, mk) ∧ fd_R p w fs hi md
theorem i_up {k : Nat} {u : SX} {v : SY} (h : i_Rel k u v) : i_Rel (k + 4) u v := h
theorem fd_z : ¬ (0 : Int32) = -2002 := by decide
theorem fd_no {A : Prop} (h : false = true) : A := nomatch h
theorem i_vc0 : wpX_init (fun u => wpY_init (fun v => i_Rel 0 u v)) :=
  ⟨fun _ => 0, fun _ => 0, fun _ => 0, fun _ => 0, fun _ => 0, fun _ => 0, fun _ => 0, 0, rfl, rfl, fun _ => Or.inl rfl, rfl, rfl, rfl, fun _ _ => ⟨0, by omega, rfl⟩, fun _ _ => fd_z⟩
section
variable {p w fl ff fs hi mk : Nat → Int32} {md : Int32} {post : Int32 → Prop}
theorem fd_rel (k : Nat) (R : fd_R p w fs hi md) : i_Rel k (p, w, fl, ff, fs) (md, p, w, fl, ff, hi, mk) :=
  ⟨p, w, fl, ff, fs, hi, mk, md, rfl, rfl, R⟩
theorem fd_YM {d : Nat} {s : Int32} (R : fd_R p w fs hi md) (hd : d < 48) (hp : post (fd_b (fd_M p w fl ff fs d s))) : wpY_matches post (md, p, w, fl, ff, hi, mk) (nI d) s :=
  fd_Ym R.1 R.2.1 R.2.2.1 R.2.2.2.1 hd hp
theorem fd_XM {d : Nat} (hd : d < 48) (hp : post (fd_b (fd_M p w fl ff fs d (-1)))) : wpX_matches post (p, w, fl, ff, fs) (nI d) := by
  unfold wpX_matches
  exact fd_Xm hd ⟨fd_bn _, hp⟩
theorem fd_g48 {x : Nat} (h : x < 48) : ¬ (48 : Int32) ≤ nI x := nI_ge (a := x) (b := 48) h (by omega)
theorem fd_l48 : (48 : Int32) ≤ nI 48 := nI_le (a := 48) (b := 48) (by omega) (by omega)
theorem fd_cl {x : Nat} (h : x < 2 ^ 31) : (nI x).toNatClampNeg = x := nI_clamp h
/-- documents -/
theorem fd_Xdocs (hp : post (nI (fd_c (fun d => decide (¬ p d = 0)) 48))) : wpX_documents post (p, w, fl, ff, fs) := by
  unfold wpX_documents
  refine fd_cnt (fun n c x => wX_documents_4 post p w fl ff fs n c x) (fun d => decide (¬ p d = 0)) 48 post (fun n c h => br_t fd_l48 h) ?_ hp
  intro n c x hx H0 H1
  have e := fd_cl (x := x) (by omega)
  refine br_f (fd_g48 hx) ⟨vp_in_nI hx (by omega), br_c (fun h0 => ?_) (fun h0 => ?_)⟩
  · rw [e] at h0
    exact nm_e (H0 (decide_eq_false (fun z => z h0)))
  · rw [e] at h0
    exact nm_e (nm_e (H1 (decide_eq_true h0)))
theorem fd_Ydocs (hp : post (nI (fd_c (fun d => decide (¬ p d = 0)) 48))) : wpY_documents post (md, p, w, fl, ff, hi, mk) := by
  unfold wpY_documents
  refine fd_cnt (fun n c x => wY_documents_4 post md p w fl ff hi mk n c x) (fun d => decide (¬ p d = 0)) 48 post (fun n c h => br_t fd_l48 h) ?_ hp
  intro n c x hx H0 H1
  have e := fd_cl (x := x) (by omega)
  refine br_f (fd_g48 hx) ⟨vp_in_nI hx (by omega), br_c (fun h0 => ?_) (fun h0 => ?_)⟩
  · rw [e] at h0
    exact nm_e (H0 (decide_eq_false (fun z => z h0)))
  · rw [e] at h0
    exact nm_e (nm_e (H1 (decide_eq_true h0)))
/-- matching -/
theorem fd_Xmat (hp : post (nI (fd_c (fun d => fd_M p w fl ff fs d (-1)) 48))) : wpX_matching post (p, w, fl, ff, fs) := by
  unfold wpX_matching
  refine fd_cnt (fun n c x => wX_matching_4 post p w fl ff fs n c x) (fun d => fd_M p w fl ff fs d (-1)) 48 post (fun n c h => br_t fd_l48 h) ?_ hp
  intro n c x hx H0 H1
  exact br_f (fd_g48 hx) (fd_XM hx (fd_br (fun hb => nm_e (H0 hb)) (fun hb => nm_e (nm_e (H1 hb)))))
theorem fd_Ymat (R : fd_R p w fs hi md) (hp : post (nI (fd_c (fun d => fd_M p w fl ff fs d (-1)) 48))) : wpY_matching post (md, p, w, fl, ff, hi, mk) := by
  unfold wpY_matching
  refine fd_cnt (fun n c x => wY_matching_4 post md p w fl ff hi mk n c x) (fun d => fd_M p w fl ff fs d (-1)) 48 post (fun n c h => br_t fd_l48 h) ?_ hp
  intro n c x hx H0 H1
  exact br_f (fd_g48 hx) (fd_YM R hx (fd_br (fun hb => nm_e (H0 hb)) (fun hb => nm_e (nm_e (H1 hb)))))
/-- the tests of arguments -/
theorem fd_doc (x : Int32) : ∃ b : Bool, (b = true → ∃ d : Nat, d < 48 ∧ x = nI d) ∧ (∀ ⦃post : Int32 → Prop⦄, post (fd_b b) → wpX_isDocument post (p, w, fl, ff, fs) x) ∧ (∀ ⦃post : Int32 → Prop⦄, post (fd_b b) → wpY_isDocument post (md, p, w, fl, ff, hi, mk) x) := by
  by_cases h : x < 0
  · exact ⟨false, fd_no, fun _ hp => br_t h hp, fun _ hp => br_t h hp⟩
  · obtain ⟨j, hj, rfl⟩ := nI_of h
    by_cases h48 : j < 48
    · have e := fd_cl (x := j) (by omega)
      have i : vp_in (nI j) 48 := vp_in_nI h48 (by omega)
      have a1 : ¬ (47 : Int32) < nI j := nI_nlt (a := 47) (b := j) (by omega) (by omega)
      by_cases hz : p j = 0
      · have hz' : p (nI j).toNatClampNeg = 0 := by rw [e]; exact hz
        exact ⟨false, fd_no, fun _ hp => br_f h (br_f (fd_g48 h48) ⟨i, br_t hz' hp⟩), fun _ hp => br_f h (br_f a1 ⟨i, br_t hz' hp⟩)⟩
      · have hz' : ¬ p (nI j).toNatClampNeg = 0 := by rw [e]; exact hz
        exact ⟨true, fun _ => ⟨j, h48, rfl⟩, fun _ hp => br_f h (br_f (fd_g48 h48) ⟨i, br_f hz' hp⟩), fun _ hp => br_f h (br_f a1 ⟨i, br_f hz' hp⟩)⟩
    · have a1 : (48 : Int32) ≤ nI j := nI_le (a := 48) (b := j) (by omega) hj
      have a2 : (47 : Int32) < nI j := nI_lt (a := 47) (b := j) (by omega) hj
      exact ⟨false, fd_no, fun _ hp => br_f h (br_t a1 hp), fun _ hp => br_f h (br_t a2 hp)⟩
theorem fd_num (x : Int32) : ∃ b : Bool, (b = true → ∃ f : Nat, (f = 4 ∨ f = 5) ∧ x = nI f) ∧ (∀ ⦃post : Int32 → Prop⦄, post (fd_b b) → wpX_isNumberField post x) ∧ (∀ ⦃post : Int32 → Prop⦄, post (fd_b b) → wpY_isNumberField post (md, p, w, fl, ff, hi, mk) x) := by
  by_cases h : x < 0
  · have a1 : x ≤ 3 := Int32.le_of_lt (Int32.lt_trans h (by decide))
    have a2 : ¬ x = 4 := fun e => absurd h (by rw [e]; decide)
    have a3 : ¬ x = 5 := fun e => absurd h (by rw [e]; decide)
    exact ⟨false, fd_no, fun _ hp => br_t a1 hp, fun _ hp => br_f a2 (br_f a3 hp)⟩
  · obtain ⟨j, hj, rfl⟩ := nI_of h
    by_cases h4 : j = 4
    · subst h4
      exact ⟨true, fun _ => ⟨4, Or.inl rfl, rfl⟩, fun _ hp => br_f (by decide) (br_f (by decide) hp), fun _ hp => br_t rfl hp⟩
    · by_cases h5 : j = 5
      · subst h5
        exact ⟨true, fun _ => ⟨5, Or.inr rfl, rfl⟩, fun _ hp => br_f (by decide) (br_f (by decide) hp), fun _ hp => br_f (by decide) (br_t rfl hp)⟩
      · exact ⟨false, fd_no, fun _ hp => pk_le j 3 (fun _ => hp) (fun _ => pk_le 6 j (fun _ => hp) (fun _ => absurd h4 (by omega))), fun _ hp => pk_eq j 4 (fun z => absurd z h4) (fun _ => pk_eq j 5 (fun z => absurd z h5) (fun _ => hp))⟩
theorem fd_grp (x : Int32) : ∃ b : Bool, (b = true → ∃ f : Nat, f < 4 ∧ x = nI f) ∧ (∀ ⦃post : Int32 → Prop⦄, post (fd_b b) → wpX_isGroupField post x) ∧ (∀ ⦃post : Int32 → Prop⦄, post (fd_b b) → wpY_isGroupField post (md, p, w, fl, ff, hi, mk) x) := by
  by_cases h : x < 0
  · exact ⟨false, fd_no, fun _ hp => br_t h hp, fun _ hp => br_t h hp⟩
  · obtain ⟨j, hj, rfl⟩ := nI_of h
    by_cases h4 : j < 4
    · have a1 : ¬ (3 : Int32) < nI j := nI_nlt (a := 3) (b := j) (by omega) (by omega)
      exact ⟨true, fun _ => ⟨j, h4, rfl⟩, fun _ hp => br_f h (br_f a1 hp), fun _ hp => br_f h (br_f a1 hp)⟩
    · have a1 : (3 : Int32) < nI j := nI_lt (a := 3) (b := j) (by omega) hj
      exact ⟨false, fd_no, fun _ hp => br_f h (br_t a1 hp), fun _ hp => br_f h (br_t a1 hp)⟩
/-- how many terms field f has -/
def fd_T (f : Nat) : Nat := if f = 3 then 8 else 10
theorem fd_Xto {f : Nat} (hf : f < 6) (hp : post (nI (fd_T f))) : wpX_termsOf post (nI f) := by
  unfold fd_T at hp
  exact pk_eq f 3 (fun h => by rw [if_pos h] at hp; exact hp) (fun h => by rw [if_neg h] at hp; exact hp)
theorem fd_Tle (f : Nat) : 0 < fd_T f ∧ fd_T f ≤ 10 := by
  unfold fd_T; split <;> omega
theorem fd_Xit {f t : Nat} (hf : f < 6) (ht : t < 2 ^ 31) (hp : post (fd_b (decide (t < fd_T f)))) : wpX_isTermOf post (nI f) (nI t) := by
  have hT := fd_Tle f
  refine br_f (nI_pos ht) (fd_Xto hf (pk_le (fd_T f) t (fun h => ?_) (fun h => ?_)))
  · rw [decide_eq_false (by omega)] at hp; exact hp
  · rw [decide_eq_true h] at hp; exact hp
theorem fd_Yit {f t : Nat} (hf : f < 6) (ht : t < 2 ^ 31) (hp : post (fd_b (decide (t < fd_T f)))) : wpY_isTerm post (md, p, w, fl, ff, hi, mk) (nI f) (nI t) := by
  unfold fd_T at hp
  refine br_f (nI_pos ht) (pk_eq f 3 (fun h => ?_) (fun h => ?_))
  · rw [if_pos h] at hp
    refine pk_lt 7 t (fun h => ?_) (fun h => ?_)
    · rw [decide_eq_false (by omega)] at hp; exact hp
    · rw [decide_eq_true (by omega)] at hp; exact hp
  · rw [if_neg h] at hp
    refine pk_lt 9 t (fun h => ?_) (fun h => ?_)
    · rw [decide_eq_false (by omega)] at hp; exact hp
    · rw [decide_eq_true (by omega)] at hp; exact hp
theorem fd_trm {f : Nat} (hf : f < 6) (x : Int32) : ∃ b : Bool, (b = true → ∃ t : Nat, t < fd_T f ∧ x = nI t) ∧ (∀ ⦃post : Int32 → Prop⦄, post (fd_b b) → wpX_isTermOf post (nI f) x) ∧ (∀ ⦃post : Int32 → Prop⦄, post (fd_b b) → wpY_isTerm post (md, p, w, fl, ff, hi, mk) (nI f) x) := by
  by_cases h : x < 0
  · exact ⟨false, fd_no, fun _ hp => br_t h hp, fun _ hp => br_t h hp⟩
  · obtain ⟨j, hj, rfl⟩ := nI_of h
    exact ⟨decide (j < fd_T f), fun z => ⟨j, of_decide_eq_true z, rfl⟩, fun _ hp => fd_Xit hf hj hp, fun _ hp => fd_Yit hf hj hp⟩
/-- has document d the term t in field f -/
def fd_hs (w : Nat → Int32) (f : Nat) (t : Int32) (d : Nat) : Bool :=
  if f = 3 then decide (((w (6 * d + f) >>> (t &&& 31)) &&& 1) = 1) else decide (w (6 * d + f) = t)
theorem fd_Xhs {d f : Nat} {t : Int32} (hd : d < 48) (hf : f < 6) (hp : post (fd_b (fd_hs w f t d))) : wpX_has post (p, w, fl, ff, fs) (nI d) (nI f) t := by
  unfold wpX_has
  dsimp only
  rw [fd_ix, fd_cl (x := 6 * d + f) (by omega)]
  unfold fd_hs at hp
  refine ⟨vp_in_nI (by omega) (by omega), nm_e (pk_eq f 3 (fun h => ?_) (fun h => ?_))⟩
  · rw [if_pos h] at hp
    exact br_c (fun h7 => by rw [decide_eq_true h7] at hp; exact hp) (fun h7 => by rw [decide_eq_false h7] at hp; exact hp)
  · rw [if_neg h] at hp
    exact br_c (fun h7 => by rw [decide_eq_true h7] at hp; exact hp) (fun h7 => by rw [decide_eq_false h7] at hp; exact hp)
theorem fd_Yhs {d f : Nat} {t : Int32} (hd : d < 48) (hf : f < 6) (hp : post (fd_b (fd_hs w f t d))) : wpY_has post (md, p, w, fl, ff, hi, mk) (nI d) (nI f) t := by
  unfold wpY_has
  dsimp only
  rw [fd_iy, fd_cl (x := 6 * d + f) (by omega)]
  unfold fd_hs at hp
  refine ⟨vp_in_nI (by omega) (by omega), nm_e (pk_eq f 3 (fun h => ?_) (fun h => ?_))⟩
  · rw [if_pos h] at hp
    exact br_c (fun h7 => by rw [decide_eq_true h7] at hp; exact hp) (fun h7 => by rw [decide_eq_false h7] at hp; exact hp)
  · rw [if_neg h] at hp
    exact br_c (fun h7 => by rw [decide_eq_true h7] at hp; exact hp) (fun h7 => by rw [decide_eq_false h7] at hp; exact hp)
/-- the facet's count -/
def fd_q2 (p w fl ff fs : Nat → Int32) (f : Nat) (t s : Int32) (d : Nat) : Bool := fd_hs w f t d && fd_M p w fl ff fs d s
theorem fd_q2a {f d : Nat} {t s : Int32} (h : fd_hs w f t d = false) : fd_q2 p w fl ff fs f t s d = false := by unfold fd_q2; rw [h]; rfl
theorem fd_q2b {f d : Nat} {t s : Int32} (h : fd_M p w fl ff fs d s = false) : fd_q2 p w fl ff fs f t s d = false := by unfold fd_q2; rw [h, Bool.and_false]
theorem fd_q2c {f d : Nat} {t s : Int32} (h : fd_hs w f t d = true) (h2 : fd_M p w fl ff fs d s = true) : fd_q2 p w fl ff fs f t s d = true := by unfold fd_q2; rw [h, h2]; rfl
def fd_C (p w fl ff fs : Nat → Int32) (f : Nat) (t : Nat) : Int32 := nI (fd_c (fd_q2 p w fl ff fs f (nI t) (nI f)) 48)
theorem fd_Xcb {f t : Nat} (hf : f < 6) (hp : post (fd_C p w fl ff fs f t)) : wpX_countBeside post (p, w, fl, ff, fs) (nI f) (nI t) := by
  unfold wpX_countBeside
  refine fd_cnt (fun n c x => wX_countBeside_5 post (nI f) (nI t) p w fl ff fs n c x) (fd_q2 p w fl ff fs f (nI t) (nI f)) 48 post (fun n c h => br_t fd_l48 h) ?_ hp
  intro n c x hx H0 H1
  exact br_f (fd_g48 hx) (fd_Xhs hx hf (fd_br (fun hb => nm_e (H0 (fd_q2a hb))) (fun hb => fd_Xm hx (fd_br (fun hc => nm_e (H0 (fd_q2b hc))) (fun hc => nm_e (nm_e (H1 (fd_q2c hb hc))))))))
theorem fd_Ycb {f t : Nat} (R : fd_R p w fs hi md) (hf : f < 6) (hp : post (fd_C p w fl ff fs f t)) : wpY_facetOf post (md, p, w, fl, ff, hi, mk) (nI f) (nI t) := by
  unfold wpY_facetOf
  refine fd_cnt (fun n c x => wY_facetOf_5 post (nI f) (nI t) md p w fl ff hi mk n c x) (fd_q2 p w fl ff fs f (nI t) (nI f)) 48 post (fun n c h => br_t fd_l48 h) ?_ hp
  intro n c x hx H0 H1
  exact br_f (fd_g48 hx) (fd_YM R hx (fd_br (fun hc => nm_e (H0 (fd_q2b hc))) (fun hc => fd_Yhs hx hf (fd_br (fun hb => nm_e (H0 (fd_q2a hb))) (fun hb => nm_e (nm_e (H1 (fd_q2c hb hc))))))))
end
end
section
section
variable {p w fl ff fs hi mk : Nat → Int32} {md : Int32} {post : Int32 → Prop}
/-- between -/
def fd_q3 (p w fl ff fs : Nat → Int32) (f : Nat) (a b : Int32) (d : Nat) : Bool :=
  if w (6 * d + f) < a then false else if b < w (6 * d + f) then false else fd_M p w fl ff fs d (nI f)
theorem fd_Xbt {f : Nat} {a b : Int32} (hf : f < 6) (hp : post (nI (fd_c (fd_q3 p w fl ff fs f a b) 48))) : ∃ n, wX_between_16 post (nI f) a b p w fl ff fs n 0 0 := by
  refine fd_cnt (fun n c x => wX_between_16 post (nI f) a b p w fl ff fs n c x) (fd_q3 p w fl ff fs f a b) 48 post (fun n c h => br_t fd_l48 h) ?_ hp
  intro n c x hx H0 H1
  unfold fd_q3 at H0 H1
  refine br_f (fd_g48 hx) ?_
  rw [fd_ix, fd_cl (x := 6 * x + f) (by omega)]
  refine ⟨vp_in_nI (by omega) (by omega), nm_e (br_c (fun h1 => ?_) (fun h1 => br_c (fun h2 => ?_) (fun h2 => ?_)))⟩
  · exact nm_e (H0 (by rw [if_pos h1]))
  · exact nm_e (H0 (by rw [if_neg h1, if_pos h2]))
  · rw [if_neg h1, if_neg h2] at H0 H1
    exact fd_Xm hx (fd_br (fun hb => nm_e (H0 hb)) (fun hb => nm_e (nm_e (H1 hb))))
theorem fd_Ybt {f : Nat} {a b : Int32} (R : fd_R p w fs hi md) (hf : f < 6) (hp : post (nI (fd_c (fd_q3 p w fl ff fs f a b) 48))) : ∃ n, wY_between_17 post (nI f) a b md p w fl ff hi mk n 0 0 := by
  refine fd_cnt (fun n c x => wY_between_17 post (nI f) a b md p w fl ff hi mk n c x) (fd_q3 p w fl ff fs f a b) 48 post (fun n c h => br_t fd_l48 h) ?_ hp
  intro n c x hx H0 H1
  unfold fd_q3 at H0 H1
  refine br_f (fd_g48 hx) ?_
  rw [fd_iy, fd_cl (x := 6 * x + f) (by omega)]
  refine ⟨vp_in_nI (by omega) (by omega), nm_e (fd_YM R hx (fd_br (fun hb => ?_) (fun hb => br_c (fun h1 => ?_) (fun h1 => br_c (fun h2 => ?_) (fun h2 => ?_)))))⟩
  · refine nm_e (H0 ?_)
    rw [hb]
    split
    · rfl
    · split <;> rfl
  · exact nm_e (H0 (by rw [if_pos h1]))
  · exact nm_e (H0 (by rw [if_neg h1, if_pos h2]))
  · exact nm_e (nm_e (H1 (by rw [if_neg h1, if_neg h2]; exact hb)))
/-- box -/
def fd_q4 (p w fl ff fs : Nat → Int32) (f : Nat) (a b : Int64) (d : Nat) : Bool :=
  if (w (6 * d + f)).toInt64 < a then false else if b ≤ (w (6 * d + f)).toInt64 then false else fd_M p w fl ff fs d (-1)
theorem fd_Xbx {f : Nat} {a b : Int64} (hf : f < 6) (hp : post (nI (fd_c (fd_q4 p w fl ff fs f a b) 48))) : ∃ n, wX_box_45 post (nI f) a b p w fl ff fs n 0 0 := by
  refine fd_cnt (fun n c x => wX_box_45 post (nI f) a b p w fl ff fs n c x) (fd_q4 p w fl ff fs f a b) 48 post (fun n c h => br_t fd_l48 h) ?_ hp
  intro n c x hx H0 H1
  unfold fd_q4 at H0 H1
  refine br_f (fd_g48 hx) ?_
  rw [fd_ix, fd_cl (x := 6 * x + f) (by omega)]
  refine ⟨vp_in_nI (by omega) (by omega), nm_e (br_c (fun h1 => ?_) (fun h1 => br_c (fun h2 => ?_) (fun h2 => ?_)))⟩
  · exact nm_e (H0 (by rw [if_pos h1]))
  · exact nm_e (H0 (by rw [if_neg h1, if_pos h2]))
  · rw [if_neg h1, if_neg h2] at H0 H1
    exact fd_XM hx (fd_br (fun hb => nm_e (H0 hb)) (fun hb => nm_e (nm_e (H1 hb))))
theorem fd_Ybx {f : Nat} {x2 x3 : Int32} (R : fd_R p w fs hi md) (hf : f < 6) (hp : post (nI (fd_c (fd_q4 p w fl ff fs f (x3.toInt64 * x2.toInt64) ((x3.toInt64 + 1) * x2.toInt64)) 48))) : ∃ n, wY_box_32 post (nI f) x2 x3 md p w fl ff hi mk n 0 0 := by
  refine fd_cnt (fun n c x => wY_box_32 post (nI f) x2 x3 md p w fl ff hi mk n c x) (fd_q4 p w fl ff fs f (x3.toInt64 * x2.toInt64) ((x3.toInt64 + 1) * x2.toInt64)) 48 post (fun n c h => br_t fd_l48 h) ?_ hp
  intro n c x hx H0 H1
  unfold fd_q4 at H0 H1
  refine br_f (fd_g48 hx) ?_
  rw [fd_iy, fd_cl (x := 6 * x + f) (by omega)]
  refine ⟨vp_in_nI (by omega) (by omega), nm_e (br_c (fun h1 => ?_) (fun h1 => br_c (fun h2 => ?_) (fun h2 => ?_)))⟩
  · rw [if_pos h1] at H0
    exact fd_YM R hx (fd_br (fun _ => nm_e (H0 rfl)) (fun _ => br_t rfl (nm_e (H0 rfl))))
  · rw [if_neg h1, if_pos h2] at H0
    exact fd_YM R hx (fd_br (fun _ => nm_e (H0 rfl)) (fun _ => br_t rfl (nm_e (H0 rfl))))
  · rw [if_neg h1, if_neg h2] at H0 H1
    exact fd_YM R hx (fd_br (fun hb => nm_e (H0 hb)) (fun hb => br_f (by decide) (nm_e (nm_e (H1 hb)))))
/-- sum -/
def fd_S (p w fl ff fs : Nat → Int32) (g : Nat) (t : Int32) (f : Nat) : Nat → Int32
  | 0 => 0
  | x + 1 => if fd_q2 p w fl ff fs g t (-1) x then fd_S p w fl ff fs g t f x + w (6 * x + f) else fd_S p w fl ff fs g t f x
theorem fd_Xsm {g f : Nat} {t : Int32} (hg : g < 6) (hf : f < 6) (hp : post (fd_S p w fl ff fs g t f 48)) : ∃ n, wX_sum_34 post (nI g) t (nI f) p w fl ff fs n 0 0 := by
  refine fd_fold (fun n (c : Int32) x => wX_sum_34 post (nI g) t (nI f) p w fl ff fs n c (nI x)) (fd_S p w fl ff fs g t f) 48 (fun n => br_t fd_l48 hp) ?_
  intro n x hx H
  have H' : wX_sum_34 post (nI g) t (nI f) p w fl ff fs n (if fd_q2 p w fl ff fs g t (-1) x then fd_S p w fl ff fs g t f x + w (6 * x + f) else fd_S p w fl ff fs g t f x) (nI x + 1) := by
    rw [nI_1]; exact H
  refine br_f (fd_g48 hx) (fd_Xhs hx hg (fd_br (fun hb => ?_) (fun hb => fd_XM hx (fd_br (fun hc => ?_) (fun hc => ?_)))))
  · rw [fd_q2a hb] at H'; exact nm_e H'
  · rw [fd_q2b hc] at H'; exact nm_e H'
  · rw [fd_q2c hb hc] at H'
    rw [fd_ix, fd_cl (x := 6 * x + f) (by omega)]
    exact ⟨vp_in_nI (by omega) (by omega), nm_e (nm_e H')⟩
theorem fd_Ysm {g f : Nat} {t : Int32} (R : fd_R p w fs hi md) (hg : g < 6) (hf : f < 6) (hp : post (fd_S p w fl ff fs g t f 48)) : ∃ n, wY_sum_37 post (nI g) t (nI f) md p w fl ff hi mk n 0 0 := by
  refine fd_fold (fun n (c : Int32) x => wY_sum_37 post (nI g) t (nI f) md p w fl ff hi mk n c (nI x)) (fd_S p w fl ff fs g t f) 48 (fun n => br_t fd_l48 hp) ?_
  intro n x hx H
  have H' : wY_sum_37 post (nI g) t (nI f) md p w fl ff hi mk n (if fd_q2 p w fl ff fs g t (-1) x then fd_S p w fl ff fs g t f x + w (6 * x + f) else fd_S p w fl ff fs g t f x) (nI x + 1) := by
    rw [nI_1]; exact H
  refine br_f (fd_g48 hx) (fd_YM R hx (fd_br (fun hc => ?_) (fun hc => fd_Yhs hx hg (fd_br (fun hb => ?_) (fun hb => ?_)))))
  · rw [fd_q2b hc] at H'; exact nm_e H'
  · rw [fd_q2a hb] at H'; exact nm_e H'
  · rw [fd_q2c hb hc] at H'
    rw [fd_iy, fd_cl (x := 6 * x + f) (by omega)]
    exact ⟨vp_in_nI (by omega) (by omega), nm_e (nm_e H')⟩
/-- extreme: the best so far, -2002 where there is none -/
def fd_bt (o : Int32) (b v : Int32) : Bool := if b = -2002 then true else if o = 0 then decide (¬ b ≤ v) else decide (¬ v ≤ b)
def fd_E (p w fl ff fs : Nat → Int32) (g : Nat) (t : Int32) (o : Int32) (f : Nat) : Nat → Int32
  | 0 => -2002
  | x + 1 => if fd_q2 p w fl ff fs g t (-1) x then (if fd_bt o (fd_E p w fl ff fs g t o f x) (w (6 * x + f)) then w (6 * x + f) else fd_E p w fl ff fs g t o f x) else fd_E p w fl ff fs g t o f x
theorem fd_Xex {g f : Nat} {t o : Int32} (hw : ∀ i, 4 ≤ i % 6 → ¬ w i = -2002) (hg : g < 6) (hf : f = 4 ∨ f = 5) (hp : post (fd_E p w fl ff fs g t o f 48)) : ∃ n, wX_extreme_81 post (nI f) (nI g) t o p w fl ff fs n 0 (-2002) 0 := by
  refine fd_fold (fun n (c : Int32 × Int32) x => wX_extreme_81 post (nI f) (nI g) t o p w fl ff fs n c.1 c.2 (nI x)) (fun x => (fd_b (decide (¬ fd_E p w fl ff fs g t o f x = -2002)), fd_E p w fl ff fs g t o f x)) 48 (fun n => br_t fd_l48 hp) ?_
  intro n x hx H
  have H' : wX_extreme_81 post (nI f) (nI g) t o p w fl ff fs n (fd_b (decide (¬ fd_E p w fl ff fs g t o f (x + 1) = -2002))) (fd_E p w fl ff fs g t o f (x + 1)) (nI x + 1) := by
    rw [nI_1]; exact H
  have e : fd_E p w fl ff fs g t o f (x + 1) = if fd_q2 p w fl ff fs g t (-1) x then (if fd_bt o (fd_E p w fl ff fs g t o f x) (w (6 * x + f)) then w (6 * x + f) else fd_E p w fl ff fs g t o f x) else fd_E p w fl ff fs g t o f x := rfl
  rw [e] at H'
  have hv : ¬ w (6 * x + f) = -2002 := hw _ (by omega)
  generalize fd_E p w fl ff fs g t o f x = b at H' ⊢
  refine br_f (fd_g48 hx) (fd_Xhs hx hg (fd_br (fun hb => ?_) (fun hb => fd_XM hx (fd_br (fun hc => ?_) (fun hc => ?_)))))
  · rw [fd_q2a hb] at H'; exact nm_e H'
  · rw [fd_q2b hc] at H'; exact nm_e H'
  · rw [fd_q2c hb hc, if_pos rfl] at H'
    rw [fd_ix, fd_cl (x := 6 * x + f) (by omega)]
    refine ⟨vp_in_nI (by omega) (by omega), nm_e ?_⟩
    generalize w (6 * x + f) = v at H' hv ⊢
    have K : ∀ z : Bool, (¬ b = -2002 → fd_bt o b v = z) → wX_extreme_155 post (wX_extreme_81 post (nI f) (nI g) t o p w fl ff fs n) (nI f) (nI g) t o (fd_b (decide (¬ b = -2002))) b (nI x) v (fd_b z) p w fl ff fs := by
      intro z hz
      refine fd_br (fun hn => ?_) (fun hn => ?_)
      · have hn' : b = -2002 := by simpa using hn
        have hbt : fd_bt o b v = true := by unfold fd_bt; rw [if_pos hn']
        rw [hbt, if_pos rfl, decide_eq_true hv] at H'
        exact nm_e H'
      · have hn' : ¬ b = -2002 := by simpa using hn
        rw [hz hn'] at H'
        refine fd_br (fun h => ?_) (fun h => ?_)
        · rw [h] at H'
          rw [hn]
          rw [if_neg (by decide), hn] at H'
          exact nm_e H'
        · rw [h, if_pos rfl, decide_eq_true hv] at H'
          exact nm_e H'
    refine br_c (fun ho => br_c (fun hl => ?_) (fun hl => ?_)) (fun ho => br_c (fun hl => ?_) (fun hl => ?_))
    · exact K false (fun hn => by unfold fd_bt; rw [if_neg hn, if_pos ho, decide_eq_false (fun z => z hl)])
    · exact K true (fun hn => by unfold fd_bt; rw [if_neg hn, if_pos ho, decide_eq_true hl])
    · exact K false (fun hn => by unfold fd_bt; rw [if_neg hn, if_neg ho, decide_eq_false (fun z => z hl)])
    · exact K true (fun hn => by unfold fd_bt; rw [if_neg hn, if_neg ho, decide_eq_true hl])
theorem fd_Yex {g f : Nat} {t o : Int32} (R : fd_R p w fs hi md) (hg : g < 6) (hf : f = 4 ∨ f = 5) (hp : post (fd_E p w fl ff fs g t o f 48)) : ∃ n, wY_extreme_72 post (nI f) (nI g) t o md p w fl ff hi mk n (-2002) 0 := by
  refine fd_fold (fun n (c : Int32) x => wY_extreme_72 post (nI f) (nI g) t o md p w fl ff hi mk n c (nI x)) (fd_E p w fl ff fs g t o f) 48 (fun n => br_t fd_l48 hp) ?_
  intro n x hx H
  have H' : wY_extreme_72 post (nI f) (nI g) t o md p w fl ff hi mk n (fd_E p w fl ff fs g t o f (x + 1)) (nI x + 1) := by
    rw [nI_1]; exact H
  have e : fd_E p w fl ff fs g t o f (x + 1) = if fd_q2 p w fl ff fs g t (-1) x then (if fd_bt o (fd_E p w fl ff fs g t o f x) (w (6 * x + f)) then w (6 * x + f) else fd_E p w fl ff fs g t o f x) else fd_E p w fl ff fs g t o f x := rfl
  rw [e] at H'
  generalize fd_E p w fl ff fs g t o f x = b at H' ⊢
  refine br_f (fd_g48 hx) ?_
  rw [fd_iy, fd_cl (x := 6 * x + f) (by omega)]
  refine ⟨vp_in_nI (by omega) (by omega), nm_e ?_⟩
  generalize w (6 * x + f) = v at H' ⊢
  have K : ∀ z : Bool, fd_bt o b v = z → wY_extreme_128 post (wY_extreme_72 post (nI f) (nI g) t o md p w fl ff hi mk n) (nI f) (nI g) t o b (nI x) v (fd_b z) md p w fl ff hi mk := by
    intro z hz
    rw [hz] at H'
    refine fd_YM R hx (fd_br (fun hc => ?_) (fun hc => fd_Yhs hx hg (fd_br (fun hb => ?_) (fun hb => fd_br (fun h => ?_) (fun h => ?_)))))
    · rw [fd_q2b hc] at H'; exact nm_e H'
    · rw [fd_q2a hb] at H'; exact nm_e H'
    · rw [fd_q2c hb hc, h] at H'; exact nm_e H'
    · rw [fd_q2c hb hc, h] at H'; exact nm_e H'
  refine br_c (fun h0 => ?_) (fun h0 => br_c (fun ho => br_c (fun hl => ?_) (fun hl => ?_)) (fun ho => br_c (fun hl => ?_) (fun hl => ?_)))
  · exact K true (by unfold fd_bt; rw [if_pos h0])
  · exact K false (by unfold fd_bt; rw [if_neg h0, if_pos ho, decide_eq_false (fun z => z hl)])
  · exact K true (by unfold fd_bt; rw [if_neg h0, if_pos ho, decide_eq_true hl])
  · exact K false (by unfold fd_bt; rw [if_neg h0, if_neg ho, decide_eq_false (fun z => z hl)])
  · exact K true (by unfold fd_bt; rw [if_neg h0, if_neg ho, decide_eq_true hl])
end
end
section
section
variable {p w fl ff fs hi mk : Nat → Int32} {md : Int32} {post : Int32 → Prop}
/-- topTerm: is term o ahead of term t, where C counts -/
def fd_ah (C : Nat → Int32) (t o : Nat) : Bool := if C t < C o then true else if C o = C t then decide (o < t) else false
def fd_A (C : Nat → Int32) (T t : Nat) : Int32 := nI (fd_c (fd_ah C t) T)
theorem fd_Xta {f t : Nat} (hf : f < 6) (ht : t < 10) (hp : post (fd_A (fd_C p w fl ff fs f) (fd_T f) t)) : wpX_termsAhead post (p, w, fl, ff, fs) (nI f) (nI t) := by
  have hT := fd_Tle f
  refine fd_Xcb hf (fd_Xto hf ?_)
  refine fd_cnt (fun n c x => wX_termsAhead_19 post (nI f) (nI t) (fd_C p w fl ff fs f t) (nI (fd_T f)) p w fl ff fs n c x) (fd_ah (fd_C p w fl ff fs f) t) (fd_T f) post (fun n c h => br_t (nI_le (Nat.le_refl _) (by omega)) h) ?_ hp
  intro n c x hx H0 H1
  unfold fd_ah at H0 H1
  refine br_f (nI_ge hx (by omega)) (fd_Xcb hf (br_c (fun h1 => ?_) (fun h1 => br_c (fun h2 => pk_le t x (fun h3 => ?_) (fun h3 => ?_)) (fun h2 => ?_))))
  · exact nm_e (nm_e (H1 (by rw [if_pos h1])))
  · exact nm_e (H0 (by rw [if_neg h1, if_pos h2, decide_eq_false (by omega)]))
  · exact nm_e (nm_e (H1 (by rw [if_neg h1, if_pos h2, decide_eq_true (by omega)])))
  · exact nm_e (H0 (by rw [if_neg h1, if_neg h2]))
def fd_tq (C : Nat → Int32) (T : Nat) (k : Int32) (t : Nat) : Bool := if C t ≤ 0 then false else decide (fd_A C T t = k)
theorem fd_Xtt {f : Nat} {k : Int32} (hf : f < 6) (hp : post (if fd_fi (fd_tq (fd_C p w fl ff fs f) (fd_T f) k) (fd_T f) 0 = fd_T f then -6 else nI (fd_fi (fd_tq (fd_C p w fl ff fs f) (fd_T f) k) (fd_T f) 0))) : ∃ n, wX_topTerm_18 post (nI f) k (nI (fd_T f)) p w fl ff fs n 0 := by
  have hT := fd_Tle f
  refine fd_find (fun n x => wX_topTerm_18 post (nI f) k (nI (fd_T f)) p w fl ff fs n x) (fd_tq (fd_C p w fl ff fs f) (fd_T f) k) (fd_T f) (fun r => post (if r = fd_T f then -6 else nI r)) (fun n h => br_t (nI_le (Nat.le_refl _) (by omega)) (by rw [if_pos rfl] at h; exact h)) ?_ hp
  intro n x hx H0 H1
  unfold fd_tq at H0 H1
  refine br_f (nI_ge hx (by omega)) (fd_Xcb hf (br_c (fun h1 => ?_) (fun h1 => fd_Xta hf (by omega) (br_c (fun h2 => ?_) (fun h2 => ?_)))))
  · exact nm_e (H0 (by rw [if_pos h1]))
  · have := H1 (by rw [if_neg h1, decide_eq_true h2])
    rw [if_neg (by omega)] at this
    exact this
  · exact nm_e (H0 (by rw [if_neg h1, decide_eq_false h2]))
theorem fd_c_ext {q r : Nat → Bool} {T : Nat} (h1 : ∀ x, x < T → q x = r x) (h2 : ∀ x, T ≤ x → r x = false) : ∀ k, fd_c r (T + k) = fd_c q T := by
  intro k
  induction k with
  | zero => exact (fd_c_congr T h1).symm
  | succ k ih =>
    show fd_c r (T + k) + (if r (T + k) then 1 else 0) = _
    rw [h2 (T + k) (by omega), ih]
    rfl
theorem fd_Yta {J : Int32 → Prop} {f t : Nat} {k : Int32} (R : fd_R p w fs hi md) (hf : f < 6) (ht : t < 10) (h0 : ¬ fd_C p w fl ff fs f t ≤ 0) (hy : fd_A (fd_C p w fl ff fs f) (fd_T f) t = k → post (nI t)) (hn : ¬ fd_A (fd_C p w fl ff fs f) (fd_T f) t = k → J (nI t + 1)) : ∃ n, wY_topTerm_46 post J (nI f) k (nI t) (fd_C p w fl ff fs f t) md p w fl ff hi mk n 0 0 := by
  have hT := fd_Tle f
  have e : fd_A (fd_C p w fl ff fs f) (fd_T f) t = nI (fd_c (fun o => if o < fd_T f then fd_ah (fd_C p w fl ff fs f) t o else false) 10) := by
    have := fd_c_ext (q := fd_ah (fd_C p w fl ff fs f) t) (r := fun o => if o < fd_T f then fd_ah (fd_C p w fl ff fs f) t o else false) (T := fd_T f) (fun x hx => by rw [if_pos hx]) (fun x hx => by rw [if_neg (by omega)]) (10 - fd_T f)
    rw [show fd_T f + (10 - fd_T f) = 10 from by omega] at this
    unfold fd_A
    rw [this]
  rw [e] at hy hn
  refine fd_cnt (fun n c x => wY_topTerm_46 post J (nI f) k (nI t) (fd_C p w fl ff fs f t) md p w fl ff hi mk n c x) _ 10 (fun c => wY_topTerm_118 post J (nI f) k (nI t) (fd_C p w fl ff fs f t) c md p w fl ff hi mk) (fun n c h => br_t (nI_le (a := 10) (b := 10) (by omega) (by omega)) h) ?_ (br_f h0 (br_c (fun h => hy h) (fun h => nm_e (hn h))))
  intro n c x hx H0 H1
  refine br_f (nI_ge (a := x) (b := 10) hx (by omega)) (br_f h0 (fd_Yit hf (by omega) (fd_br (fun hb => ?_) (fun hb => fd_Ycb R hf ?_))))
  · have hb' : ¬ x < fd_T f := of_decide_eq_false hb
    rw [if_neg hb'] at H0
    have a1 : ¬ fd_C p w fl ff fs f t < 0 := fun z => h0 (Int32.le_of_lt z)
    have a2 : ¬ 0 = fd_C p w fl ff fs f t := fun z => h0 (by rw [← z]; exact Int32.le_refl 0)
    exact br_f a1 (br_f a2 (nm_e (H0 rfl)))
  · have hb' : x < fd_T f := of_decide_eq_true hb
    rw [if_pos hb'] at H0 H1
    unfold fd_ah at H0 H1
    refine br_c (fun h1 => ?_) (fun h1 => br_c (fun h2 => pk_le t x (fun h3 => ?_) (fun h3 => ?_)) (fun h2 => ?_))
    · exact nm_e (nm_e (H1 (by rw [if_pos h1])))
    · exact nm_e (H0 (by rw [if_neg h1, if_pos h2, decide_eq_false (by omega)]))
    · exact nm_e (nm_e (H1 (by rw [if_neg h1, if_pos h2, decide_eq_true (by omega)])))
    · exact nm_e (H0 (by rw [if_neg h1, if_neg h2]))
theorem fd_Yts {J : Int32 → Prop} {f t : Nat} {k c : Int32} (h0 : c ≤ 0) (h : J (nI t + 1)) : ∃ n, wY_topTerm_46 post J (nI f) k (nI t) c md p w fl ff hi mk n 0 0 :=
  ⟨1, br_f (by decide) (br_t h0 (br_t h0 (nm_e h)))⟩
theorem fd_Yto {f t n : Nat} {k : Int32} (hf : f < 6) (ht : t < 10) (hT : fd_T f ≤ t) (h : wY_topTerm_13 post (nI f) k md p w fl ff hi mk n (nI t + 1)) : wY_topTerm_13 post (nI f) k md p w fl ff hi mk (n + 1) (nI t) := by
  refine br_f (nI_ge (a := t) (b := 10) ht (by omega)) (fd_Yit hf (by omega) ?_)
  rw [decide_eq_false (by omega)]
  exact br_t rfl (fd_Yts (by decide) h)
theorem fd_Ytt {f : Nat} {k : Int32} (R : fd_R p w fs hi md) (hf : f < 6) (hp : post (if fd_fi (fd_tq (fd_C p w fl ff fs f) (fd_T f) k) (fd_T f) 0 = fd_T f then -6 else nI (fd_fi (fd_tq (fd_C p w fl ff fs f) (fd_T f) k) (fd_T f) 0))) : ∃ n, wY_topTerm_13 post (nI f) k md p w fl ff hi mk n 0 := by
  have hT := fd_Tle f
  have h10 : (10 : Int32) ≤ nI 10 := nI_le (a := 10) (b := 10) (by omega) (by omega)
  refine fd_find (fun n x => wY_topTerm_13 post (nI f) k md p w fl ff hi mk n x) (fd_tq (fd_C p w fl ff fs f) (fd_T f) k) (fd_T f) (fun r => post (if r = fd_T f then -6 else nI r)) (fun n h => ?_) ?_ hp
  · rw [if_pos rfl] at h
    have hc : fd_T f = 8 ∨ fd_T f = 10 := by unfold fd_T; split <;> simp
    rcases hc with hc | hc
    · rw [hc]
      refine fd_Yto hf (by omega) (by omega) ?_
      rw [nI_1]
      refine fd_Yto hf (by omega) (by omega) ?_
      rw [nI_1]
      exact br_t h10 h
    · rw [hc]
      exact br_t h10 h
  · intro n x hx H0 H1
    unfold fd_tq at H0 H1
    refine br_f (nI_ge (a := x) (b := 10) (by omega) (by omega)) (fd_Yit hf (by omega) ?_)
    rw [decide_eq_true hx]
    refine br_f (by decide) (fd_Ycb R hf ?_)
    by_cases h1 : fd_C p w fl ff fs f x ≤ 0
    · exact fd_Yts h1 (H0 (by rw [if_pos h1]))
    · rw [if_neg h1] at H0 H1
      refine fd_Yta R hf (by omega) h1 (fun h2 => ?_) (fun h2 => H0 (decide_eq_false h2))
      have := H1 (decide_eq_true h2)
      rw [if_neg (by omega)] at this
      exact this
/-- sorted, ranked: is document e before d -/
def fd_bf (w : Nat → Int32) (f : Nat) (o : Int32) (d e : Nat) : Bool :=
  if w (6 * e + f) = w (6 * d + f) then decide (e < d) else if o = 0 then decide (¬ w (6 * d + f) ≤ w (6 * e + f)) else decide (¬ w (6 * e + f) ≤ w (6 * d + f))
def fd_bq (p w fl ff fs : Nat → Int32) (f : Nat) (o : Int32) (d e : Nat) : Bool := fd_bf w f o d e && fd_M p w fl ff fs e (-1)
def fd_B (p w fl ff fs : Nat → Int32) (f : Nat) (o : Int32) (d : Nat) : Int32 := nI (fd_c (fd_bq p w fl ff fs f o d) 48)
theorem fd_Xda {f d : Nat} {o : Int32} (hf : f < 6) (hd : d < 48) (hp : post (fd_B p w fl ff fs f o d)) : wpX_documentsAhead post (p, w, fl, ff, fs) (nI d) (nI f) o := by
  unfold wpX_documentsAhead
  dsimp only
  rw [fd_ix, fd_cl (x := 6 * d + f) (by omega)]
  refine ⟨vp_in_nI (by omega) (by omega), nm_e ?_⟩
  refine fd_cnt (fun n c x => wX_documentsAhead_19 post (nI d) (nI f) o (w (6 * d + f)) p w fl ff fs n c x) (fd_bq p w fl ff fs f o d) 48 post (fun n c h => br_t fd_l48 h) ?_ hp
  intro n c x hx H0 H1
  refine br_f (fd_g48 hx) ?_
  rw [fd_ix, fd_cl (x := 6 * x + f) (by omega)]
  refine ⟨vp_in_nI (by omega) (by omega), nm_e ?_⟩
  unfold fd_bq at H0 H1
  have K1 : fd_bf w f o d x = true → wX_documentsAhead_103 post (wX_documentsAhead_19 post (nI d) (nI f) o (w (6 * d + f)) p w fl ff fs n) (nI d) (nI f) o (w (6 * d + f)) c (nI x) p w fl ff fs := by
    intro hb
    rw [hb] at H0 H1
    exact fd_XM hx (fd_br (fun hm => nm_e (H0 hm)) (fun hm => nm_e (nm_e (H1 hm))))
  have K2 : ∀ a b : Bool, fd_bf w f o d x = (a || b) → wX_documentsAhead_91 post (wX_documentsAhead_19 post (nI d) (nI f) o (w (6 * d + f)) p w fl ff fs n) (nI d) (nI f) o (w (6 * d + f)) c (nI x) (fd_b a) (fd_b b) p w fl ff fs := by
    intro a b hab
    refine fd_br (fun ha => fd_br (fun hb => ?_) (fun hb => ?_)) (fun ha => ?_)
    · rw [ha, hb] at hab
      rw [hab] at H0
      exact nm_e (H0 rfl)
    · exact K1 (by rw [hab, hb, Bool.or_true])
    · exact K1 (by rw [hab, ha]; rfl)
  have K3 : ∀ a : Bool, (¬ w (6 * x + f) = w (6 * d + f) → fd_bf w f o d x = a) → (w (6 * x + f) = w (6 * d + f) → a = false) → wX_documentsAhead_71 post (wX_documentsAhead_19 post (nI d) (nI f) o (w (6 * d + f)) p w fl ff fs n) (nI d) (nI f) o (w (6 * d + f)) c (nI x) (w (6 * x + f)) (fd_b a) p w fl ff fs := by
    intro a h1 h2
    refine br_c (fun he => pk_le d x (fun h3 => ?_) (fun h3 => ?_)) (fun he => ?_)
    · exact K2 a false (by unfold fd_bf; rw [if_pos he, h2 he, decide_eq_false (by omega)]; rfl)
    · exact K2 a true (by unfold fd_bf; rw [if_pos he, h2 he, decide_eq_true (by omega)]; rfl)
    · exact K2 a false (by rw [h1 he, Bool.or_false])
  refine br_c (fun ho => br_c (fun hl => ?_) (fun hl => ?_)) (fun ho => br_c (fun hl => ?_) (fun hl => ?_))
  · exact K3 false (fun he => by unfold fd_bf; rw [if_neg he, if_pos ho, decide_eq_false (fun z => z hl)]) (fun _ => rfl)
  · exact K3 true (fun he => by unfold fd_bf; rw [if_neg he, if_pos ho, decide_eq_true hl]) (fun he => absurd (by rw [he]; exact Int32.le_refl _) hl)
  · exact K3 false (fun he => by unfold fd_bf; rw [if_neg he, if_neg ho, decide_eq_false (fun z => z hl)]) (fun _ => rfl)
  · exact K3 true (fun he => by unfold fd_bf; rw [if_neg he, if_neg ho, decide_eq_true hl]) (fun he => absurd (by rw [he]; exact Int32.le_refl _) hl)
def fd_oq (p w fl ff fs : Nat → Int32) (f : Nat) (o k : Int32) (d : Nat) : Bool := fd_M p w fl ff fs d (-1) && decide (fd_B p w fl ff fs f o d = k)
theorem fd_Xat {f : Nat} {o k : Int32} (hf : f < 6) (hp : post (nI (fd_fi (fd_oq p w fl ff fs f o k) 48 0))) : wpX_documentAt post (p, w, fl, ff, fs) (nI f) o k := by
  unfold wpX_documentAt
  refine fd_find (fun n x => wX_documentAt_3 post (nI f) o k p w fl ff fs n x) (fd_oq p w fl ff fs f o k) 48 (fun r => post (nI r)) (fun n h => br_t fd_l48 h) ?_ hp
  intro n x hx H0 H1
  unfold fd_oq at H0 H1
  refine br_f (fd_g48 hx) (fd_XM hx (fd_br (fun hm => ?_) (fun hm => fd_Xda hf hx (br_c (fun he => ?_) (fun he => ?_)))))
  · exact nm_e (H0 (by rw [hm]; rfl))
  · exact H1 (by rw [hm, decide_eq_true he]; rfl)
  · exact nm_e (H0 (by rw [decide_eq_false he, Bool.and_false]))
theorem fd_Yat {f : Nat} {o k : Int32} (R : fd_R p w fs hi md) (hf : f < 6) (hp : post (if fd_fi (fd_oq p w fl ff fs f o k) 48 0 = 48 then -1 else nI (fd_fi (fd_oq p w fl ff fs f o k) 48 0))) : wpY_inOrder post (md, p, w, fl, ff, hi, mk) (nI f) o k := by
  unfold wpY_inOrder
  refine fd_find (fun n x => wY_inOrder_3 post (nI f) o k md p w fl ff hi mk n x) (fd_oq p w fl ff fs f o k) 48 (fun r => post (if r = 48 then -1 else nI r)) (fun n h => br_t fd_l48 (by rw [if_pos rfl] at h; exact h)) ?_ hp
  intro n d hd H0 H1
  unfold fd_oq at H0 H1
  refine br_f (fd_g48 hd) ?_
  rw [fd_iy, fd_cl (x := 6 * d + f) (by omega)]
  refine ⟨vp_in_nI (by omega) (by omega), nm_e ?_⟩
  refine fd_cnt (fun m c x => wY_inOrder_30 post (wY_inOrder_3 post (nI f) o k md p w fl ff hi mk (n + 1)) (nI f) o k (nI d) (w (6 * d + f)) md p w fl ff hi mk m c x) (fd_bq p w fl ff fs f o d) 48 (fun c => wpY_matches (fun r_5 => (((r_5 = 0 → (∀ x4_14 : Int32, x4_14 = nI d + 1 → wY_inOrder_3 post (nI f) o k md p w fl ff hi mk (n + 1) x4_14)) ∧ (¬ r_5 = 0 → (((c = k → (post (nI d))) ∧ (¬ c = k → (∀ x4_16 : Int32, x4_16 = nI d + 1 → wY_inOrder_3 post (nI f) o k md p w fl ff hi mk (n + 1) x4_16)))))))) (md, p, w, fl, ff, hi, mk) (nI d) (-1)) (fun m c h => br_t fd_l48 h) ?_ ?_
  · intro m c x hx G0 G1
    unfold fd_bq at G0 G1
    refine br_f (fd_g48 hx) ?_
    rw [fd_iy, fd_cl (x := 6 * x + f) (by omega)]
    refine ⟨vp_in_nI (by omega) (by omega), nm_e ?_⟩
    have K1 : ∀ a : Bool, fd_bf w f o d x = a → wY_inOrder_104 post (wY_inOrder_3 post (nI f) o k md p w fl ff hi mk (n + 1)) (wY_inOrder_30 post (wY_inOrder_3 post (nI f) o k md p w fl ff hi mk (n + 1)) (nI f) o k (nI d) (w (6 * d + f)) md p w fl ff hi mk m) (nI f) o k (nI d) (w (6 * d + f)) c (nI x) (fd_b a) md p w fl ff hi mk := by
      intro a ha
      rw [ha] at G0 G1
      refine fd_br (fun hb => ?_) (fun hb => ?_)
      · rw [hb] at G0
        exact nm_e (G0 rfl)
      · rw [hb] at G0 G1
        exact fd_YM R hx (fd_br (fun hm => nm_e (G0 hm)) (fun hm => nm_e (nm_e (G1 hm))))
    refine br_c (fun he => pk_le d x (fun h3 => ?_) (fun h3 => ?_)) (fun he => br_c (fun ho => br_c (fun hl => ?_) (fun hl => ?_)) (fun ho => br_c (fun hl => ?_) (fun hl => ?_)))
    · exact K1 false (by unfold fd_bf; rw [if_pos he, decide_eq_false (by omega)])
    · exact K1 true (by unfold fd_bf; rw [if_pos he, decide_eq_true (by omega)])
    · exact K1 false (by unfold fd_bf; rw [if_neg he, if_pos ho, decide_eq_false (fun z => z hl)])
    · exact K1 true (by unfold fd_bf; rw [if_neg he, if_pos ho, decide_eq_true hl])
    · exact K1 false (by unfold fd_bf; rw [if_neg he, if_neg ho, decide_eq_false (fun z => z hl)])
    · exact K1 true (by unfold fd_bf; rw [if_neg he, if_neg ho, decide_eq_true hl])
  · refine fd_YM R hd (fd_br (fun hm => ?_) (fun hm => br_c (fun he => ?_) (fun he => ?_)))
    · exact nm_e (H0 (by rw [hm]; rfl))
    · have he' : fd_B p w fl ff fs f o d = k := he
      have := H1 (by rw [hm, decide_eq_true he']; rfl)
      rw [if_neg (by omega)] at this
      exact this
    · have he' : ¬ fd_B p w fl ff fs f o d = k := he
      exact nm_e (H0 (by rw [decide_eq_false he', Bool.and_false]))
end
end
section
section
variable {p w fl ff fs hi mk : Nat → Int32} {md : Int32} {post : Int32 → Prop}
/-- does document e match and show d's values in fields f and g -/
def fd_sm (p w fl ff fs : Nat → Int32) (f g d e : Nat) : Bool :=
  if w (6 * e + f) = w (6 * d + f) then (if w (6 * e + g) = w (6 * d + g) then fd_M p w fl ff fs e (-1) else false) else false
/-- is d seen earlier -/
def fd_se (p w fl ff fs : Nat → Int32) (f g d : Nat) : Bool := decide (fd_fi (fd_sm p w fl ff fs f g d) d 0 < d)
def fd_dq (p w fl ff fs : Nat → Int32) (f g d : Nat) : Bool := fd_M p w fl ff fs d (-1) && !fd_se p w fl ff fs f g d
theorem fd_ix' {x : Int32} {e f : Nat} (h : x = nI e * 6) : x + nI f = nI (6 * e + f) := by rw [h, fd_ix]
theorem fd_Xse {f g d : Nat} (hf : f < 6) (hg : g < 6) (hd : d < 48) (hp : post (fd_b (fd_se p w fl ff fs f g d))) : wpX_isSeenEarlier post (p, w, fl, ff, fs) (nI d) (nI f) (nI g) := by
  unfold wpX_isSeenEarlier
  dsimp only
  rw [fd_ix, fd_ix, fd_cl (x := 6 * d + f) (by omega), fd_cl (x := 6 * d + g) (by omega)]
  refine ⟨vp_in_nI (by omega) (by omega), nm_e ⟨vp_in_nI (by omega) (by omega), nm_e ?_⟩⟩
  refine fd_find (fun n x => wX_isSeenEarlier_29 post (nI d) (nI f) (nI g) (w (6 * d + f)) (w (6 * d + g)) p w fl ff fs n x) (fd_sm p w fl ff fs f g d) d (fun r => post (fd_b (decide (r < d)))) (fun n h => br_t (nI_le (Nat.le_refl _) (by omega)) (by rw [decide_eq_false (by omega)] at h; exact h)) ?_ hp
  intro n x hx H0 H1
  unfold fd_sm at H0 H1
  refine br_f (nI_ge hx (by omega)) (nm_e ?_)
  rw [fd_ix, fd_ix, fd_cl (x := 6 * x + f) (by omega), fd_cl (x := 6 * x + g) (by omega)]
  refine ⟨vp_in_nI (by omega) (by omega), br_c (fun h1 => ⟨vp_in_nI (by omega) (by omega), br_c (fun h2 => ?_) (fun h2 => ?_)⟩) (fun h1 => ?_)⟩
  · rw [if_pos h1, if_pos h2] at H0 H1
    refine fd_XM (by omega) (fd_br (fun hm => nm_e (H0 hm)) (fun hm => ?_))
    have := H1 hm
    rw [decide_eq_true hx] at this
    exact this
  · exact nm_e (H0 (by rw [if_pos h1, if_neg h2]))
  · exact nm_e (H0 (by rw [if_neg h1]))
theorem fd_Xdp {f g : Nat} (hf : f < 6) (hg : g < 6) (hp : post (nI (fd_c (fd_dq p w fl ff fs f g) 48))) : wpX_differentPairs post (p, w, fl, ff, fs) (nI f) (nI g) := by
  unfold wpX_differentPairs
  refine fd_cnt (fun n c x => wX_differentPairs_5 post (nI f) (nI g) p w fl ff fs n c x) (fd_dq p w fl ff fs f g) 48 post (fun n c h => br_t fd_l48 h) ?_ hp
  intro n c x hx H0 H1
  unfold fd_dq at H0 H1
  refine br_f (fd_g48 hx) (fd_XM hx (fd_br (fun hm => ?_) (fun hm => fd_Xse hf hg hx (fd_br (fun hs => ?_) (fun hs => ?_)))))
  · exact nm_e (H0 (by rw [hm]; rfl))
  · exact nm_e (nm_e (H1 (by rw [hm, hs]; rfl)))
  · exact nm_e (H0 (by rw [hm, hs]; rfl))
/-- different, in the reference -/
theorem fd_Ydf {f : Nat} (R : fd_R p w fs hi md) (hf : f < 6) (hp : post (nI (fd_c (fd_dq p w fl ff fs f f) 48))) : ∃ n, wY_different_16 post (nI f) md p w fl ff hi mk n 0 0 := by
  refine fd_cnt (fun n c x => wY_different_16 post (nI f) md p w fl ff hi mk n c x) (fd_dq p w fl ff fs f f) 48 post (fun n c h => br_t fd_l48 h) ?_ hp
  intro n c d hd H0 H1
  unfold fd_dq at H0 H1
  refine br_f (fd_g48 hd) (fd_YM R hd ?_)
  have K : ∀ m x, wY_different_33 post (wY_different_16 post (nI f) md p w fl ff hi mk n) (nI f) c (nI d) md p w fl ff hi mk (m + 1) 0 x ∨ (fd_M p w fl ff fs d (-1) && !fd_se p w fl ff fs f f d) = true := by
    intro m x
    cases hq : (fd_M p w fl ff fs d (-1) && !fd_se p w fl ff fs f f d)
    · exact Or.inl (br_c (fun _ => br_t rfl (nm_e (H0 hq))) (fun _ => br_t rfl (br_t rfl (nm_e (H0 hq)))))
    · exact Or.inr rfl
  cases hm : fd_M p w fl ff fs d (-1)
  · rcases K 0 0 with h | h
    · exact ⟨1, h⟩
    · rw [hm] at h
      exact fd_no h
  · rw [hm] at H0 H1 K
    refine fd_find (fun m x => wY_different_33 post (wY_different_16 post (nI f) md p w fl ff hi mk n) (nI f) c (nI d) md p w fl ff hi mk m 1 x) (fd_sm p w fl ff fs f f d) d (fun r => (!decide (r < d)) = (true && !fd_se p w fl ff fs f f d)) (fun m h => ?_) ?_ ?_
    · rw [decide_eq_false (by omega)] at h
      exact br_t (nI_le (Nat.le_refl _) (by omega)) (br_f (by decide) (nm_e (nm_e (H1 h.symm))))
    · intro m x hx G0 G1
      unfold fd_sm at G0 G1
      refine br_f (nI_ge hx (by omega)) (br_f (by decide) (fd_YM R (by omega) (fd_br (fun hb => ?_) (fun hb => ?_))))
      · refine nm_e (G0 ?_)
        rw [hb]
        split <;> rfl
      · rw [hb] at G0 G1
        rw [fd_iy, fd_iy, fd_cl (x := 6 * x + f) (by omega), fd_cl (x := 6 * d + f) (by omega)]
        refine ⟨vp_in_nI (by omega) (by omega), vp_in_nI (by omega) (by omega), br_c (fun h1 => nm_e ?_) (fun h1 => ?_)⟩
        · have hg := G1 (by rw [if_pos h1, if_pos h1])
          rw [decide_eq_true hx] at hg
          rcases K m (nI x + 1) with h | h
          · exact h
          · rw [h] at hg
            exact fd_no hg
        · exact nm_e (G0 (by rw [if_neg h1]))
    · rfl
/-- pairs, in the reference: the marks -/
def fd_F (mk : Nat → Int32) : Nat → Nat → Int32
  | 0 => mk
  | x + 1 => upd (fd_F mk x) x 0
def fd_G (m : Nat → Bool) (ky : Nat → Nat) (z : Nat → Int32) : Nat → Nat → Int32
  | 0 => z
  | x + 1 => if m x then upd (fd_G m ky z x) (ky x) 1 else fd_G m ky z x
theorem fd_F0 (mk : Nat → Int32) : ∀ x i, i < x → fd_F mk x i = 0 := by
  intro x
  induction x with
  | zero => intro i h; omega
  | succ x ih =>
    intro i h
    show upd (fd_F mk x) x 0 i = 0
    by_cases e : i = x
    · rw [e, pk_us]
    · rw [pk_un e, ih i (by omega)]
theorem fd_c_zero {q : Nat → Bool} : ∀ N, (∀ x, x < N → q x = false) → fd_c q N = 0 := by
  intro N
  induction N with
  | zero => intro _; rfl
  | succ N ih =>
    intro h
    show fd_c q N + (if q N then 1 else 0) = 0
    rw [ih (fun x hx => h x (by omega)), h N (by omega)]
    rfl
theorem fd_c_one {q r : Nat → Bool} {i : Nat} (hq : q i = false) (hr : r i = true) (h : ∀ x, x ≠ i → r x = q x) : ∀ N, i < N → fd_c r N = fd_c q N + 1 := by
  intro N
  induction N with
  | zero => intro h; omega
  | succ N ih =>
    intro hN
    show fd_c r N + (if r N then 1 else 0) = fd_c q N + (if q N then 1 else 0) + 1
    by_cases e : i = N
    · subst e
      rw [hq, hr, fd_c_congr (q := r) (r := q) i (fun x hx => h x (by omega))]
      rfl
    · rw [ih (by omega), h N (by omega)]
      omega
theorem fd_Gc {m : Nat → Bool} {ky : Nat → Nat} {z : Nat → Int32} {s : Nat → Bool} (hz : ∀ i, i < 100 → z i = 0) (hk : ∀ d, d < 48 → ky d < 100) (hs : ∀ d, d < 48 → (s d = true ↔ ∃ e, e < d ∧ m e = true ∧ ky e = ky d)) : ∀ n, n ≤ 48 → (∀ i, i < 100 → (fd_G m ky z n i = 0 ↔ ¬ ∃ e, e < n ∧ m e = true ∧ ky e = i)) ∧ fd_c (fun i => decide (¬ fd_G m ky z n i = 0)) 100 = fd_c (fun d => m d && !s d) n := by
  intro n
  induction n with
  | zero =>
    intro _
    refine ⟨fun i hi => ⟨fun _ ⟨e, he, _⟩ => by omega, fun _ => hz i hi⟩, ?_⟩
    exact fd_c_zero 100 (fun x hx => decide_eq_false (fun h => h (hz x hx)))
  | succ n ih =>
    intro hn
    obtain ⟨I1, I2⟩ := ih (by omega)
    have eG : fd_G m ky z (n + 1) = if m n then upd (fd_G m ky z n) (ky n) 1 else fd_G m ky z n := rfl
    have eC : fd_c (fun d => m d && !s d) (n + 1) = fd_c (fun d => m d && !s d) n + (if (m n && !s n) then 1 else 0) := rfl
    rw [eG, eC]
    cases hm : m n
    · refine ⟨fun i hi => ?_, ?_⟩
      · rw [if_neg (by decide), I1 i hi]
        constructor
        · intro h ⟨e, h1, h2, h3⟩
          by_cases e1 : e = n
          · rw [e1, hm] at h2; exact fd_no h2
          · exact h ⟨e, by omega, h2, h3⟩
        · intro h ⟨e, h1, h2, h3⟩
          exact h ⟨e, by omega, h2, h3⟩
      · rw [if_neg (by decide)]
        exact I2
    · rw [if_pos rfl]
      refine ⟨fun i hi => ?_, ?_⟩
      · by_cases e1 : i = ky n
        · subst e1
          rw [pk_us]
          exact ⟨fun h => absurd h (by decide), fun h => absurd ⟨n, by omega, hm, rfl⟩ h⟩
        · rw [pk_un e1, I1 i hi]
          constructor
          · intro h ⟨e, h1, h2, h3⟩
            by_cases e2 : e = n
            · subst e2; exact e1 h3.symm
            · exact h ⟨e, by omega, h2, h3⟩
          · intro h ⟨e, h1, h2, h3⟩
            exact h ⟨e, by omega, h2, h3⟩
      · have hI := I1 (ky n) (hk n (by omega))
        cases hsn : s n
        · have h0 : fd_G m ky z n (ky n) = 0 := hI.mpr (fun h => by
            have := (hs n (by omega)).mpr h
            rw [hsn] at this
            exact fd_no this)
          rw [fd_c_one (q := fun i => decide (¬ fd_G m ky z n i = 0)) (i := ky n) (decide_eq_false (fun h => h h0)) (decide_eq_true (by rw [pk_us]; decide)) (fun x hx => by rw [pk_un hx]) 100 (hk n (by omega)), I2]
          rfl
        · have h0 : ¬ fd_G m ky z n (ky n) = 0 := fun h => hI.mp h ((hs n (by omega)).mp hsn)
          rw [fd_c_congr (r := fun i => decide (¬ fd_G m ky z n i = 0)) 100 (fun x _ => by
            by_cases e1 : x = ky n
            · rw [e1, pk_us, decide_eq_true h0, decide_eq_true (by decide)]
            · rw [pk_un e1]), I2]
          rfl
def fd_ky (w : Nat → Int32) (f g d : Nat) : Nat := 10 * (w (6 * d + f)).toNatClampNeg + (w (6 * d + g)).toNatClampNeg
theorem fd_kyv {f g d : Nat} (hw : ∀ i, i % 6 < 3 → ∃ j : Nat, j < 10 ∧ w i = nI j) (hf : f < 3) (hg : g < 3) : fd_ky w f g d < 100 ∧ 10 * w (6 * d + f) + w (6 * d + g) = nI (fd_ky w f g d) := by
  obtain ⟨a, ha, ea⟩ := hw (6 * d + f) (by omega)
  obtain ⟨b, hb, eb⟩ := hw (6 * d + g) (by omega)
  unfold fd_ky
  rw [ea, eb, fd_cl (x := a) (by omega), fd_cl (x := b) (by omega)]
  refine ⟨by omega, ?_⟩
  rw [show (10 : Int32) = nI 10 from rfl, pk_mul, nI_add]
theorem fd_kyi {f g d e : Nat} (hw : ∀ i, i % 6 < 3 → ∃ j : Nat, j < 10 ∧ w i = nI j) (hf : f < 3) (hg : g < 3) : fd_ky w f g e = fd_ky w f g d ↔ (w (6 * e + f) = w (6 * d + f) ∧ w (6 * e + g) = w (6 * d + g)) := by
  obtain ⟨a, ha, ea⟩ := hw (6 * d + f) (by omega)
  obtain ⟨b, hb, eb⟩ := hw (6 * d + g) (by omega)
  obtain ⟨a', ha', ea'⟩ := hw (6 * e + f) (by omega)
  obtain ⟨b', hb', eb'⟩ := hw (6 * e + g) (by omega)
  unfold fd_ky
  rw [ea, eb, ea', eb', fd_cl (x := a) (by omega), fd_cl (x := b) (by omega), fd_cl (x := a') (by omega), fd_cl (x := b') (by omega), nI_eq (by omega) (by omega), nI_eq (by omega) (by omega)]
  omega
theorem fd_ses {f g d : Nat} (hw : ∀ i, i % 6 < 3 → ∃ j : Nat, j < 10 ∧ w i = nI j) (hf : f < 3) (hg : g < 3) : fd_se p w fl ff fs f g d = true ↔ ∃ e, e < d ∧ fd_M p w fl ff fs e (-1) = true ∧ fd_ky w f g e = fd_ky w f g d := by
  have hsm : ∀ e, fd_sm p w fl ff fs f g d e = true ↔ (fd_M p w fl ff fs e (-1) = true ∧ fd_ky w f g e = fd_ky w f g d) := by
    intro e
    rw [fd_kyi hw hf hg]
    unfold fd_sm
    by_cases h1 : w (6 * e + f) = w (6 * d + f)
    · by_cases h2 : w (6 * e + g) = w (6 * d + g)
      · rw [if_pos h1, if_pos h2]
        exact ⟨fun h => ⟨h, h1, h2⟩, fun h => h.1⟩
      · rw [if_pos h1, if_neg h2]
        exact ⟨fun h => fd_no h, fun h => absurd h.2.2 h2⟩
    · rw [if_neg h1]
      exact ⟨fun h => fd_no h, fun h => absurd h.2.1 h1⟩
  unfold fd_se
  rw [decide_eq_true_iff]
  rcases fd_fi_spec (fd_sm p w fl ff fs f g d) d 0 with ⟨h1, h2⟩ | ⟨h1, h2, h3⟩
  · refine ⟨fun h => by omega, fun ⟨e, he, hx⟩ => ?_⟩
    have := (hsm e).mpr hx
    rw [h2 e (by omega) (by omega)] at this
    exact fd_no this
  · exact ⟨fun h => ⟨_, h, (hsm _).mp h3⟩, fun _ => by omega⟩
theorem fd_Ypr {post : Int32 → SY → Prop} {f g : Nat} (R : fd_R p w fs hi md) (hf : f < 3) (hg : g < 3) (hp : ∀ mk', post (nI (fd_c (fd_dq p w fl ff fs f g) 48)) (md, p, w, fl, ff, hi, mk')) : ∃ n, wY_pairs_23 post (nI f) (nI g) md n 0 p w fl ff hi mk := by
  have hw := R.2.2.2.2.1
  refine fd_fold (fun n (c : Nat → Int32) x => wY_pairs_23 post (nI f) (nI g) md n (nI x) p w fl ff hi c) (fd_F mk) 100 (fun n => br_t (nI_le (a := 100) (b := 100) (by omega) (by omega)) ?_) ?_
  · have hz := fd_F0 mk 100
    generalize fd_F mk 100 = z at hz ⊢
    refine fd_fold (fun n (c : Nat → Int32) x => wY_pairs_44 post (nI f) (nI g) md n (nI x) p w fl ff hi c) (fd_G (fun d => fd_M p w fl ff fs d (-1)) (fd_ky w f g) z) 48 (fun n => br_t fd_l48 ?_) ?_
    · have hG := (fd_Gc (m := fun d => fd_M p w fl ff fs d (-1)) (ky := fd_ky w f g) (z := z) (s := fd_se p w fl ff fs f g) hz (fun d _ => (fd_kyv hw hf hg).1) (fun d _ => fd_ses hw hf hg) 48 (by omega)).2
      generalize fd_G (fun d => fd_M p w fl ff fs d (-1)) (fd_ky w f g) z 48 = m' at hG ⊢
      refine fd_cnt (fun n c x => wY_pairs_102 post md p w fl ff hi m' n c x) (fun i => decide (¬ m' i = 0)) 100 (fun c => post c (md, p, w, fl, ff, hi, m')) (fun n c h => br_t (nI_le (a := 100) (b := 100) (by omega) (by omega)) h) ?_ ?_
      · intro n c x hx H0 H1
        have e := fd_cl (x := x) (by omega)
        refine br_f (nI_ge (a := x) (b := 100) hx (by omega)) ⟨vp_in_nI (by omega) (by omega), br_c (fun h0 => ?_) (fun h0 => ?_)⟩
        · rw [e] at h0
          exact nm_e (H0 (decide_eq_false (fun z => z h0)))
        · rw [e] at h0
          exact nm_e (nm_e (H1 (decide_eq_true h0)))
      · rw [hG]
        exact hp m'
    · intro n x hx H
      have H' : wY_pairs_44 post (nI f) (nI g) md n (nI x + 1) p w fl ff hi (if fd_M p w fl ff fs x (-1) then upd (fd_G (fun d => fd_M p w fl ff fs d (-1)) (fd_ky w f g) z x) (fd_ky w f g x) 1 else fd_G (fun d => fd_M p w fl ff fs d (-1)) (fd_ky w f g) z x) := by
        rw [nI_1]; exact H
      refine br_f (fd_g48 hx) (fd_YM R hx (fd_br (fun hm => ?_) (fun hm => ?_)))
      · rw [hm] at H'
        exact nm_e H'
      · rw [hm] at H'
        obtain ⟨k1, k2⟩ := fd_kyv (d := x) hw hf hg
        rw [fd_iy, fd_iy, fd_cl (x := 6 * x + f) (by omega), fd_cl (x := 6 * x + g) (by omega), k2, fd_cl (x := fd_ky w f g x) (by omega)]
        exact ⟨vp_in_nI (by omega) (by omega), vp_in_nI (by omega) (by omega), vp_in_nI (by omega) (by omega), nm_e (nm_e H')⟩
  · intro n x hx H
    have H' : wY_pairs_23 post (nI f) (nI g) md n (nI x + 1) p w fl ff hi (upd (fd_F mk x) x 0) := by
      rw [nI_1]; exact H
    refine br_f (nI_ge (a := x) (b := 100) hx (by omega)) ?_
    rw [fd_cl (x := x) (by omega)]
    exact ⟨vp_in_nI (by omega) (by omega), nm_e (nm_e H')⟩
end
end
section
theorem fd_c6 (x : Int32) : x < 0 ∨ (¬ x < 0 ∧ (6 : Int32) ≤ x ∧ ¬ x ≤ 5) ∨ ∃ f : Nat, f < 6 ∧ x = nI f ∧ ¬ x < 0 ∧ ¬ (6 : Int32) ≤ x ∧ x ≤ 5 := by
  by_cases h : x < 0
  · exact Or.inl h
  · obtain ⟨j, hj, rfl⟩ := nI_of h
    by_cases h6 : j < 6
    · exact Or.inr (Or.inr ⟨j, h6, rfl, h, nI_ge (a := j) (b := 6) h6 (by omega), nI_le (a := j) (b := 5) (by omega) (by omega)⟩)
    · exact Or.inr (Or.inl ⟨h, nI_le (a := 6) (b := j) (by omega) hj, nI_ge (a := 5) (b := j) (by omega) hj⟩)
theorem fd_c3 (x : Int32) : x < 0 ∨ (¬ x < 0 ∧ (3 : Int32) ≤ x ∧ ¬ x ≤ 2 ∧ (2 : Int32) < x) ∨ ∃ f : Nat, f < 3 ∧ x = nI f ∧ ¬ x < 0 ∧ ¬ (3 : Int32) ≤ x ∧ x ≤ 2 ∧ ¬ (2 : Int32) < x := by
  by_cases h : x < 0
  · exact Or.inl h
  · obtain ⟨j, hj, rfl⟩ := nI_of h
    by_cases h3 : j < 3
    · exact Or.inr (Or.inr ⟨j, h3, rfl, h, nI_ge (a := j) (b := 3) h3 (by omega), nI_le (a := j) (b := 2) (by omega) (by omega), nI_nlt (a := 2) (b := j) (by omega) (by omega)⟩)
    · exact Or.inr (Or.inl ⟨h, nI_le (a := 3) (b := j) (by omega) hj, nI_ge (a := 2) (b := j) (by omega) hj, nI_lt (a := 2) (b := j) (by omega) hj⟩)
/-- make's three tests -/
theorem fd_c10 {f : Nat} (hf : f < 3) (x : Int32) : ((∀ ⦃post : Int32 → Prop⦄, post 0 → wpX_isTermOf post (nI f) x) ∧ (x < 0 ∨ (¬ x < 0 ∧ (9 : Int32) < x ∧ ¬ x ≤ 9))) ∨ ∃ t : Nat, t < 10 ∧ x = nI t ∧ (∀ ⦃post : Int32 → Prop⦄, post 1 → wpX_isTermOf post (nI f) x) ∧ ¬ x < 0 ∧ ¬ (9 : Int32) < x ∧ x ≤ 9 := by
  have hT : fd_T f = 10 := by unfold fd_T; rw [if_neg (by omega)]
  by_cases h : x < 0
  · exact Or.inl ⟨fun _ hp => br_t h hp, Or.inl h⟩
  · obtain ⟨j, hj, rfl⟩ := nI_of h
    by_cases h10 : j < 10
    · refine Or.inr ⟨j, h10, rfl, fun _ hp => fd_Xit (by omega) hj ?_, h, nI_nlt (a := 9) (b := j) (by omega) (by omega), nI_le (a := j) (b := 9) (by omega) (by omega)⟩
      rw [hT, decide_eq_true h10]; exact hp
    · refine Or.inl ⟨fun _ hp => fd_Xit (by omega) hj ?_, Or.inr ⟨h, nI_lt (a := 9) (b := j) (by omega) hj, nI_ge (a := 9) (b := j) (by omega) hj⟩⟩
      rw [hT, decide_eq_false h10]; exact hp
/-- the values' ranges -/
def fd_V (w : Nat → Int32) : Prop := (∀ i, i % 6 < 3 → ∃ j : Nat, j < 10 ∧ w i = nI j) ∧ (∀ i, 4 ≤ i % 6 → ¬ w i = -2002)
theorem fd_Vu {w : Nat → Int32} {k : Nat} {x : Int32} (V : fd_V w) (h1 : k % 6 < 3 → ∃ j : Nat, j < 10 ∧ x = nI j) (h2 : 4 ≤ k % 6 → ¬ x = -2002) : fd_V (upd w k x) := by
  refine ⟨fun i hi => ?_, fun i hi => ?_⟩
  · by_cases e : i = k
    · rw [e, pk_us]; exact h1 (by omega)
    · rw [pk_un e]; exact V.1 i hi
  · by_cases e : i = k
    · rw [e, pk_us]; exact h2 (by omega)
    · rw [pk_un e]; exact V.2 i hi
theorem fd_P01 {p : Nat → Int32} {k : Nat} {x : Int32} (h : ∀ i, p i = 0 ∨ p i = 1) (hx : x = 0 ∨ x = 1) : ∀ i, upd p k x i = 0 ∨ upd p k x i = 1 := by
  intro i
  by_cases e : i = k
  · rw [e, pk_us]; exact hx
  · rw [pk_un e]; exact h i
theorem fd_upd0 (w : Nat → Int32) (k : Nat) : upd w k (w k) = w := by
  funext i
  by_cases e : i = k
  · rw [e, pk_us]
  · rw [pk_un e]
def fd_mw (w : Nat → Int32) (r a b c : Nat) : Nat → Int32 := upd (upd (upd (upd (upd (upd w (6 * r) (nI a)) (6 * r + 1) (nI b)) (6 * r + 2) (nI c)) (6 * r + 3) 0) (6 * r + 4) 0) (6 * r + 5) 0
theorem fd_mV {w : Nat → Int32} {r a b c : Nat} (V : fd_V w) (ha : a < 10) (hb : b < 10) (hc : c < 10) : fd_V (fd_mw w r a b c) := by
  unfold fd_mw
  refine fd_Vu (fd_Vu (fd_Vu (fd_Vu (fd_Vu (fd_Vu V ?_ ?_) ?_ ?_) ?_ ?_) ?_ ?_) ?_ ?_) ?_ ?_
  · exact fun _ => ⟨a, ha, rfl⟩
  · intro h; omega
  · exact fun _ => ⟨b, hb, rfl⟩
  · intro h; omega
  · exact fun _ => ⟨c, hc, rfl⟩
  · intro h; omega
  · intro h; omega
  · intro h; omega
  · intro h; omega
  · exact fun _ => fd_z
  · intro h; omega
  · exact fun _ => fd_z
section
variable {p w fl ff fs hi mk : Nat → Int32} {md : Int32}
theorem fd_Xlf {post : Int32 → Prop} (hp : post (nI (fd_fi (fun d => decide (p d = 0)) 48 0))) : wpX_leastFree post (p, w, fl, ff, fs) := by
  unfold wpX_leastFree
  refine fd_find (fun n x => wX_leastFree_2 post p w fl ff fs n x) (fun d => decide (p d = 0)) 48 (fun r => post (nI r)) (fun n h => br_t fd_l48 h) ?_ hp
  intro n x hx H0 H1
  have e := fd_cl (x := x) (by omega)
  refine br_f (fd_g48 hx) ⟨vp_in_nI hx (by omega), br_c (fun h0 => ?_) (fun h0 => ?_)⟩
  · rw [e] at h0
    exact H1 (decide_eq_true h0)
  · rw [e] at h0
    exact nm_e (H0 (decide_eq_false h0))
theorem fd_Xmw {P : Prop} {A : (Nat → Int32) → (Nat → Int32) → Prop} {r a b c : Nat} (hr : r < 48) (h : A (upd p r 1) (fd_mw w r a b c)) (hP : (vp_in (nI r) 48 ∧ ∀ q : Nat → Int32, q = upd p (nI r).toNatClampNeg (vp_nar .boolean 1) → (∀ x : Int32, x = nI r * 6 → (vp_in x 288 ∧ ∀ w1 : Nat → Int32, w1 = upd w x.toNatClampNeg (nI a) → (vp_in (x + 1) 288 ∧ ∀ w2 : Nat → Int32, w2 = upd w1 (x + 1).toNatClampNeg (nI b) → (vp_in (x + 2) 288 ∧ ∀ w3 : Nat → Int32, w3 = upd w2 (x + 2).toNatClampNeg (nI c) → (vp_in (x + 3) 288 ∧ ∀ w4 : Nat → Int32, w4 = upd w3 (x + 3).toNatClampNeg 0 → (vp_in (x + 4) 288 ∧ ∀ w5 : Nat → Int32, w5 = upd w4 (x + 4).toNatClampNeg 0 → (vp_in (x + 5) 288 ∧ ∀ w6 : Nat → Int32, w6 = upd w5 (x + 5).toNatClampNeg 0 → A q w6)))))))) → P) : P := by
  apply hP
  have e0 : nI r * 6 = nI (6 * r) := by rw [show (6 : Int32) = nI 6 from rfl, pk_mul, Nat.mul_comm]
  refine ⟨vp_in_nI hr (by omega), nm_r (by rw [fd_cl (x := r) (by omega), fd_v1]) (nm_r e0 ?_)⟩
  rw [show nI (6 * r) + 1 = nI (6 * r + 1) from nI_add _ 1, show nI (6 * r) + 2 = nI (6 * r + 2) from nI_add _ 2, show nI (6 * r) + 3 = nI (6 * r + 3) from nI_add _ 3, show nI (6 * r) + 4 = nI (6 * r + 4) from nI_add _ 4, show nI (6 * r) + 5 = nI (6 * r + 5) from nI_add _ 5]
  rw [fd_cl (x := 6 * r) (by omega), fd_cl (x := 6 * r + 1) (by omega), fd_cl (x := 6 * r + 2) (by omega), fd_cl (x := 6 * r + 3) (by omega), fd_cl (x := 6 * r + 4) (by omega), fd_cl (x := 6 * r + 5) (by omega)]
  exact ⟨vp_in_nI (by omega) (by omega), nm_e ⟨vp_in_nI (by omega) (by omega), nm_e ⟨vp_in_nI (by omega) (by omega), nm_e ⟨vp_in_nI (by omega) (by omega), nm_e ⟨vp_in_nI (by omega) (by omega), nm_e ⟨vp_in_nI (by omega) (by omega), nm_e h⟩⟩⟩⟩⟩⟩
theorem fd_Ymk {post : Int32 → SY → Prop} {a b c : Nat} (hp : (fd_fi (fun d => decide (p d = 0)) 48 0 = 48 → post (-4) (md, p, w, fl, ff, hi, mk)) ∧ (fd_fi (fun d => decide (p d = 0)) 48 0 < 48 → post (nI (fd_fi (fun d => decide (p d = 0)) 48 0)) (md, upd p (fd_fi (fun d => decide (p d = 0)) 48 0) 1, fd_mw w (fd_fi (fun d => decide (p d = 0)) 48 0) a b c, fl, ff, hi, mk))) : ∃ n, wY_make_36 post (nI a) (nI b) (nI c) md p w fl ff hi mk n 0 := by
  refine fd_find (fun n x => wY_make_36 post (nI a) (nI b) (nI c) md p w fl ff hi mk n x) (fun d => decide (p d = 0)) 48 (fun r => (r = 48 → post (-4) (md, p, w, fl, ff, hi, mk)) ∧ (r < 48 → post (nI r) (md, upd p r 1, fd_mw w r a b c, fl, ff, hi, mk))) (fun n h => br_t fd_l48 (h.1 rfl)) ?_ hp
  intro n r hr H0 H1
  have e := fd_cl (x := r) (by omega)
  refine br_f (fd_g48 hr) ⟨vp_in_nI hr (by omega), br_c (fun h0 => ?_) (fun h0 => ?_)⟩
  · rw [e] at h0
    have h := (H1 (decide_eq_true h0)).2 hr
    have e0 : 6 * nI r = nI (6 * r) := by rw [show (6 : Int32) = nI 6 from rfl, pk_mul]
    refine ⟨vp_in_nI hr (by omega), nm_r (by rw [fd_cl (x := r) (by omega), fd_v1]) ?_⟩
    rw [e0, show nI (6 * r) + 1 = nI (6 * r + 1) from nI_add _ 1, show nI (6 * r) + 2 = nI (6 * r + 2) from nI_add _ 2, show nI (6 * r) + 3 = nI (6 * r + 3) from nI_add _ 3, show nI (6 * r) + 4 = nI (6 * r + 4) from nI_add _ 4, show nI (6 * r) + 5 = nI (6 * r + 5) from nI_add _ 5]
    rw [fd_cl (x := 6 * r) (by omega), fd_cl (x := 6 * r + 1) (by omega), fd_cl (x := 6 * r + 2) (by omega), fd_cl (x := 6 * r + 3) (by omega), fd_cl (x := 6 * r + 4) (by omega), fd_cl (x := 6 * r + 5) (by omega)]
    exact ⟨vp_in_nI (by omega) (by omega), nm_e ⟨vp_in_nI (by omega) (by omega), nm_e ⟨vp_in_nI (by omega) (by omega), nm_e ⟨vp_in_nI (by omega) (by omega), nm_e ⟨vp_in_nI (by omega) (by omega), nm_e ⟨vp_in_nI (by omega) (by omega), nm_e h⟩⟩⟩⟩⟩⟩
  · rw [e] at h0
    exact nm_e (H0 (decide_eq_false h0))
/-- set: the value's test -/
def fd_lo (f : Nat) : Int32 := if f < 4 then 0 else -999
def fd_hi (f : Nat) : Int32 := if f < 3 then 9 else if f = 3 then 255 else 999
theorem fd_Xvo {post : Int32 → Prop} {f : Nat} {x : Int32} (hf : f < 6) (h0 : (x < fd_lo f ∨ ¬ x ≤ fd_hi f) → post 0) (h1 : ¬ x < fd_lo f → x ≤ fd_hi f → post 1) : wpX_isValueOf post (nI f) x := by
  unfold fd_lo fd_hi at h0 h1
  refine pk_le 3 f (fun h3 => pk_eq f 3 (fun h => ?_) (fun h => ?_)) (fun h3 => ?_)
  · rw [if_pos (by omega), if_neg (by omega), if_pos h] at h0 h1
    exact br_c (fun h5 => h0 (Or.inl h5)) (fun h5 => br_c (fun h6 => h0 (Or.inr (Int32.not_le.mpr h6))) (fun h6 => h1 h5 (Int32.not_lt.mp h6)))
  · rw [if_neg (by omega), if_neg (by omega), if_neg h] at h0 h1
    exact br_c (fun h5 => h0 (Or.inl h5)) (fun h5 => br_c (fun h6 => h0 (Or.inr (Int32.not_le.mpr h6))) (fun h6 => h1 h5 (Int32.not_lt.mp h6)))
  · rw [if_pos (by omega), if_pos h3] at h0 h1
    rcases fd_c10 h3 x with ⟨hX, hc⟩ | ⟨t, ht, rfl, hX, n1, n2, n3⟩
    · refine hX ⟨rfl, h0 ?_⟩
      rcases hc with hc | hc
      · exact Or.inl hc
      · exact Or.inr hc.2.2
    · exact hX ⟨rfl, h1 n1 n3⟩
theorem fd_Yvo {post : Int32 → SY → Prop} {f d : Nat} {x : Int32} (hf : f < 6) (h : wY_set_60 post (nI d) (nI f) x (fd_lo f) (fd_hi f) md p w fl ff hi mk) : ((4 : Int32) ≤ nI f → wY_set_34 post (nI d) (nI f) x (-999) md p w fl ff hi mk) ∧ (¬ (4 : Int32) ≤ nI f → wY_set_34 post (nI d) (nI f) x 0 md p w fl ff hi mk) := by
  unfold fd_lo fd_hi at h
  refine pk_le 4 f (fun h4 => ?_) (fun h4 => ?_)
  · rw [if_neg (by omega), if_neg (by omega), if_neg (by omega)] at h
    exact pk_le 3 f (fun _ => pk_eq f 3 (fun z => absurd z (by omega)) (fun _ => h)) (fun z => absurd z (by omega))
  · rw [if_pos h4] at h
    refine pk_le 3 f (fun h3 => pk_eq f 3 (fun z => ?_) (fun z => absurd z (by omega))) (fun h3 => ?_)
    · rw [if_neg (by omega), if_pos z] at h; exact h
    · rw [if_pos h3] at h; exact h
theorem fd_svV {f d : Nat} {x : Int32} (V : fd_V w) (hf : f < 6) (h1 : ¬ x < fd_lo f) (h2 : x ≤ fd_hi f) : fd_V (upd w (6 * d + f) x) := by
  refine fd_Vu V (fun h => ?_) (fun h => ?_)
  · have hf3 : f < 3 := by omega
    unfold fd_lo at h1
    unfold fd_hi at h2
    rw [if_pos (by omega)] at h1
    rw [if_pos hf3] at h2
    rcases fd_c10 hf3 x with ⟨_, hc⟩ | ⟨t, ht, rfl, _⟩
    · rcases hc with hc | hc
      · exact absurd hc h1
      · exact absurd h2 hc.2.2
    · exact ⟨t, ht, rfl⟩
  · intro e
    unfold fd_lo at h1
    rw [if_neg (by omega), e] at h1
    exact h1 (by decide)
end
end
section
theorem fd_RV {p w fs hi : Nat → Int32} {md : Int32} (R : fd_R p w fs hi md) : fd_V w := ⟨R.2.2.2.2.1, R.2.2.2.2.2⟩
theorem i_vc_make {k : Nat} {u : SX} {v : SY} (I : i_Rel k u v) (hk : k + 4 ≤ 2048) (v1 : Int32) (v2 : Int32) (v3 : Int32) : wpX_make (fun r u' => wpY_make (fun r' v' => r' = r ∧ i_Rel (k + 4) u' v') v v1 v2 v3) u v1 v2 v3 := by
  obtain ⟨p, w, fl, ff, fs, hi, mk, md, rfl, rfl, R⟩ := I
  have J := fd_rel (fl := fl) (ff := ff) (mk := mk) (k + 4) R
  unfold wpX_make
  dsimp only
  rcases fd_c10 (f := 0) (by omega) v1 with ⟨hX, hc⟩ | ⟨a, ha, rfl, aX, a1, a2, a3⟩
  · refine hX (br_t rfl ?_)
    rcases hc with hc | ⟨hc, hd, _⟩
    · exact br_t hc ⟨rfl, J⟩
    · exact br_f hc (br_t hd ⟨rfl, J⟩)
  · refine aX (br_f (by decide) ?_)
    rcases fd_c10 (f := 1) (by omega) v2 with ⟨hX, hc⟩ | ⟨b, hb, rfl, bX, b1, b2, b3⟩
    · refine hX (br_t rfl (br_f a1 (br_f a2 ?_)))
      rcases hc with hc | ⟨hc, hd, _⟩
      · exact br_t hc ⟨rfl, J⟩
      · exact br_f hc (br_t hd ⟨rfl, J⟩)
    · refine bX (br_f (by decide) ?_)
      rcases fd_c10 (f := 2) (by omega) v3 with ⟨hX, hc⟩ | ⟨c, hcc, rfl, cX, c1, c2, c3⟩
      · refine hX (br_t rfl (br_f a1 (br_f a2 (br_f b1 (br_f b2 ?_)))))
        rcases hc with hc | ⟨hc, _, hd⟩
        · exact br_t hc ⟨rfl, J⟩
        · exact br_f hc (br_f hd ⟨rfl, J⟩)
      · refine cX (br_f (by decide) (fd_Xlf ?_))
        rcases fd_fi_spec (fun d => decide (p d = 0)) 48 0 with ⟨h1, _⟩ | ⟨_, h2, _⟩
        · have h1' : fd_fi (fun d => decide (p d = 0)) 48 0 = 48 := by omega
          refine br_t (by rw [h1']; rfl) (br_f a1 (br_f a2 (br_f b1 (br_f b2 (br_f c1 (br_t c3 (fd_Ymk ⟨fun _ => ⟨rfl, J⟩, fun h => absurd h (by omega)⟩)))))))
        · have h2' : fd_fi (fun d => decide (p d = 0)) 48 0 < 48 := by omega
          refine br_f (fun h => absurd ((nI_eq (b := 48) (by omega) (by omega)).mp h) (by omega)) ?_
          refine fd_Xmw (p := p) (w := w) (a := a) (b := b) (c := c) (A := fun q w' => wpY_make (fun r' v' => r' = nI (fd_fi (fun d => decide (p d = 0)) 48 0) ∧ i_Rel (k + 4) (q, w', fl, ff, fs) v') (md, p, w, fl, ff, hi, mk) (nI a) (nI b) (nI c)) h2' ?_ (fun H => H)
          refine br_f a1 (br_f a2 (br_f b1 (br_f b2 (br_f c1 (br_t c3 (fd_Ymk ⟨fun h => absurd h (by omega), fun _ => ⟨rfl, fd_rel _ ?_⟩⟩))))))
          have V := fd_mV (r := fd_fi (fun d => decide (p d = 0)) 48 0) (fd_RV R) ha hb hcc
          exact ⟨fd_P01 R.1 (Or.inr rfl), R.2.1, R.2.2.1, R.2.2.2.1, V.1, V.2⟩
theorem i_vc_remove {k : Nat} {u : SX} {v : SY} (I : i_Rel k u v) (hk : k + 4 ≤ 2048) (v1 : Int32) : wpX_remove (fun r u' => wpY_remove (fun r' v' => r' = r ∧ i_Rel (k + 4) u' v') v v1) u v1 := by
  obtain ⟨p, w, fl, ff, fs, hi, mk, md, rfl, rfl, R⟩ := I
  have J := fd_rel (fl := fl) (ff := ff) (mk := mk) (k + 4) R
  unfold wpX_remove wpY_remove
  dsimp only
  obtain ⟨b, hb, hX, hY⟩ := fd_doc (p := p) (w := w) (fl := fl) (ff := ff) (fs := fs) (hi := hi) (mk := mk) (md := md) v1
  cases b
  · exact hX (br_t rfl (hY (br_t rfl ⟨rfl, J⟩)))
  · obtain ⟨d, hd, rfl⟩ := hb rfl
    have e : upd p (nI d).toNatClampNeg (vp_nar .boolean 0) = upd p d 0 := by rw [fd_cl (x := d) (by omega), fd_v0]
    have i := vp_in_nI (N := 48) hd (by omega)
    have R' : fd_R (upd p d 0) w fs hi md := ⟨fd_P01 R.1 (Or.inl rfl), R.2⟩
    exact hX (br_f (by decide) ⟨i, nm_r e (fd_Xdocs (hY (br_f (by decide) ⟨i, nm_r e (fd_Ydocs ⟨rfl, fd_rel _ R'⟩)⟩)))⟩)
theorem i_vc_set {k : Nat} {u : SX} {v : SY} (I : i_Rel k u v) (hk : k + 4 ≤ 2048) (v1 : Int32) (v2 : Int32) (v3 : Int32) : wpX_set (fun r u' => wpY_set (fun r' v' => r' = r ∧ i_Rel (k + 4) u' v') v v1 v2 v3) u v1 v2 v3 := by
  obtain ⟨p, w, fl, ff, fs, hi, mk, md, rfl, rfl, R⟩ := I
  have J := fd_rel (fl := fl) (ff := ff) (mk := mk) (k + 4) R
  unfold wpX_set wpY_set
  dsimp only
  obtain ⟨b, hb, hX, hY⟩ := fd_doc (p := p) (w := w) (fl := fl) (ff := ff) (fs := fs) (hi := hi) (mk := mk) (md := md) v1
  cases b
  · exact hX (br_t rfl (hY (br_t rfl ⟨rfl, J⟩)))
  · obtain ⟨d, hd, rfl⟩ := hb rfl
    refine hX (br_f (by decide) ?_)
    rcases fd_c6 v2 with h | ⟨h, h6, h5⟩ | ⟨f, hf, rfl, h, h6, h5⟩
    · exact br_t h (br_t rfl (hY (br_f (by decide) (br_t h ⟨rfl, J⟩))))
    · exact br_f h (br_t h6 (br_t rfl (hY (br_f (by decide) (br_f h (br_f h5 ⟨rfl, J⟩))))))
    · refine br_f h (br_f h6 (br_f (by decide) (fd_Xvo hf (fun hv => br_t rfl (hY (br_f (by decide) (br_f h (br_t h5 (fd_Yvo hf ?_)))))) (fun g1 g2 => br_f (by decide) (nm_r (fd_ix d f) ?_)))))
      · rcases hv with hv | hv
        · exact br_t hv ⟨rfl, J⟩
        · exact br_c (fun _ => ⟨rfl, J⟩) (fun _ => br_f hv ⟨rfl, J⟩)
      · have e := fd_cl (x := 6 * d + f) (by omega)
        have i := vp_in_nI (n := 6 * d + f) (N := 288) (by omega) (by omega)
        rw [e]
        have V := fd_svV (d := d) (fd_RV R) hf g1 g2
        have R' : fd_R p (upd w (6 * d + f) v3) fs hi md := ⟨R.1, R.2.1, R.2.2.1, R.2.2.2.1, V.1, V.2⟩
        refine ⟨i, br_c (fun he => ?_) (fun he => ⟨i, nm_e ?_⟩)⟩
        · refine hY (br_f (by decide) (br_f h (br_t h5 (fd_Yvo hf (br_f g1 (br_t g2 ?_))))))
          rw [fd_iy, e]
          refine ⟨i, nm_e ⟨i, nm_e (br_t he ⟨rfl, ?_⟩)⟩⟩
          rw [← he, fd_upd0]
          exact J
        · refine hY (br_f (by decide) (br_f h (br_t h5 (fd_Yvo hf (br_f g1 (br_t g2 ?_))))))
          rw [fd_iy, e]
          exact ⟨i, nm_e ⟨i, nm_e (br_f he ⟨rfl, fd_rel _ R'⟩)⟩⟩
theorem i_vc_filterTerms {k : Nat} {u : SX} {v : SY} (I : i_Rel k u v) (hk : k + 4 ≤ 2048) (v1 : Int32) (v2 : Int32) : wpX_filterTerms (fun r u' => wpY_filterTerms (fun r' v' => r' = r ∧ i_Rel (k + 4) u' v') v v1 v2) u v1 v2 := by
  obtain ⟨p, w, fl, ff, fs, hi, mk, md, rfl, rfl, R⟩ := I
  have J := fd_rel (fl := fl) (ff := ff) (mk := mk) (k + 4) R
  rcases fd_c3 v1 with h | ⟨h, h3, h2, _⟩ | ⟨f, hf, rfl, h, h3, h2, _⟩
  · exact br_t h (br_t rfl (br_t h ⟨rfl, J⟩))
  · exact br_f h (br_t h3 (br_t rfl (br_f h (br_f h2 ⟨rfl, J⟩))))
  · refine br_f h (br_f h3 (br_f (by decide) (br_c (fun g1 => ?_) (fun g1 => br_c (fun g2 => ?_) (fun g2 => ?_)))))
    · exact br_f h (br_t h2 (br_t g1 ⟨rfl, J⟩))
    · have e := fd_cl (x := f) (by omega)
      have i := vp_in_nI (n := f) (N := 6) (by omega) (by omega)
      have R' : fd_R p w (upd fs f 0) hi md := by
        refine ⟨R.1, ?_, ?_, ?_, R.2.2.2.2⟩
        · rw [pk_un (by omega)]; exact R.2.1
        · rw [pk_un (by omega)]; exact R.2.2.1
        · rw [pk_un (by omega)]; exact R.2.2.2.1
      have e1 : upd fl (nI f).toNatClampNeg (vp_nar .boolean 1) = upd fl f 1 := by rw [e, fd_v1]
      have e2 : upd ff (nI f).toNatClampNeg v2 = upd ff f v2 := by rw [e]
      have e3 : upd fs (nI f).toNatClampNeg 0 = upd fs f 0 := by rw [e]
      exact ⟨i, nm_r e1 ⟨i, nm_r e2 ⟨i, nm_r e3 (fd_Xmat (br_f h (br_t h2 (br_f g1 (br_t g2 ⟨i, nm_r e1 ⟨i, nm_r e2 (fd_Ymat R' ⟨rfl, fd_rel _ R'⟩)⟩⟩)))))⟩⟩⟩
    · exact br_f h (br_t h2 (br_f g1 (br_f g2 ⟨rfl, J⟩)))
theorem fd_ft {k : Nat} {p w fl ff fs hi mk : Nat → Int32} {md v1 v2 : Int32} (R : fd_R p w fs hi md) (h : wpY_matching (fun r => r = nI (fd_c (fun d => fd_M p w (upd fl 3 1) (upd ff 3 v1) (upd fs 3 v2) d (-1)) 48) ∧ i_Rel (k + 4) (p, w, upd fl 3 1, upd ff 3 v1, upd fs 3 v2) (v2, p, w, upd fl 3 1, upd ff 3 v1, hi, mk)) (v2, p, w, upd fl 3 1, upd ff 3 v1, hi, mk) → wpY_filterTags (fun r' v' => r' = nI (fd_c (fun d => fd_M p w (upd fl 3 1) (upd ff 3 v1) (upd fs 3 v2) d (-1)) 48) ∧ i_Rel (k + 4) (p, w, upd fl 3 1, upd ff 3 v1, upd fs 3 v2) v') (md, p, w, fl, ff, hi, mk) v1 v2) : wX_filterTags_32 (fun r u' => wpY_filterTags (fun r' v' => r' = r ∧ i_Rel (k + 4) u' v') (md, p, w, fl, ff, hi, mk) v1 v2) v1 v2 p w fl ff fs := by
  have i := vp_in_nI (n := 3) (N := 6) (by omega) (by omega)
  have R' : fd_R p w (upd fs 3 v2) hi v2 := by
    refine ⟨R.1, pk_us, ?_, ?_, R.2.2.2.2⟩
    · rw [pk_un (by omega)]; exact R.2.2.1
    · rw [pk_un (by omega)]; exact R.2.2.2.1
  exact ⟨i, nm_r rfl ⟨i, nm_r rfl ⟨i, nm_r rfl (fd_Xmat (h (fd_Ymat R' ⟨rfl, fd_rel _ R'⟩)))⟩⟩⟩
theorem i_vc_filterTags {k : Nat} {u : SX} {v : SY} (I : i_Rel k u v) (hk : k + 4 ≤ 2048) (v1 : Int32) (v2 : Int32) : wpX_filterTags (fun r u' => wpY_filterTags (fun r' v' => r' = r ∧ i_Rel (k + 4) u' v') v v1 v2) u v1 v2 := by
  obtain ⟨p, w, fl, ff, fs, hi, mk, md, rfl, rfl, R⟩ := I
  have J := fd_rel (fl := fl) (ff := ff) (mk := mk) (k + 4) R
  refine br_c (fun g1 => br_t g1 ⟨rfl, J⟩) (fun g1 => br_c (fun g2 => ?_) (fun g2 => br_f g1 (br_f g2 ⟨rfl, J⟩)))
  by_cases h : v2 < 0
  · have a0 : ¬ v2 = 0 := fun e => absurd h (by rw [e]; decide)
    have a1 : ¬ v2 = 1 := fun e => absurd h (by rw [e]; decide)
    have a2 : ¬ v2 = 2 := fun e => absurd h (by rw [e]; decide)
    exact br_f a0 (br_f a1 (br_f a2 (br_f g1 (br_t g2 (br_t h ⟨rfl, J⟩)))))
  · obtain ⟨j, hj, rfl⟩ := nI_of h
    refine pk_eq j 0 (fun e => ?_) (fun e0 => pk_eq j 1 (fun e => ?_) (fun e1 => pk_eq j 2 (fun e => ?_) (fun e2 => ?_)))
    · exact fd_ft R (fun H => br_f g1 (br_t g2 (br_f h (br_t (nI_le (b := 2) (by omega) (by omega)) (nm_r rfl (nm_r rfl H))))))
    · exact fd_ft R (fun H => br_f g1 (br_t g2 (br_f h (br_t (nI_le (b := 2) (by omega) (by omega)) (nm_r rfl (nm_r rfl H))))))
    · exact fd_ft R (fun H => br_f g1 (br_t g2 (br_f h (br_t (nI_le (b := 2) (by omega) (by omega)) (nm_r rfl (nm_r rfl H))))))
    · exact br_f g1 (br_t g2 (br_f h (br_f (nI_ge (a := 2) (by omega) hj) ⟨rfl, J⟩)))
theorem i_vc_filterRange {k : Nat} {u : SX} {v : SY} (I : i_Rel k u v) (hk : k + 4 ≤ 2048) (v1 : Int32) (v2 : Int32) (v3 : Int32) : wpX_filterRange (fun r u' => wpY_filterRange (fun r' v' => r' = r ∧ i_Rel (k + 4) u' v') v v1 v2 v3) u v1 v2 v3 := by
  obtain ⟨p, w, fl, ff, fs, hi, mk, md, rfl, rfl, R⟩ := I
  have J := fd_rel (fl := fl) (ff := ff) (mk := mk) (k + 4) R
  unfold wpX_filterRange wpY_filterRange
  dsimp only
  obtain ⟨b, hb, hX, hY⟩ := fd_num (p := p) (w := w) (fl := fl) (ff := ff) (hi := hi) (mk := mk) (md := md) v1
  cases b
  · exact hX (br_t rfl (hY (br_t rfl ⟨rfl, J⟩)))
  · obtain ⟨f, hf, rfl⟩ := hb rfl
    have e := fd_cl (x := f) (by omega)
    have i := vp_in_nI (n := f) (N := 6) (by omega) (by omega)
    have R' : fd_R p w (upd fs f v3) (upd hi f v3) md := by
      refine ⟨R.1, ?_, ?_, ?_, R.2.2.2.2⟩
      · rw [pk_un (by omega)]; exact R.2.1
      · rcases hf with rfl | rfl
        · rw [pk_us, pk_us]
        · rw [pk_un (by omega), pk_un (by omega)]; exact R.2.2.1
      · rcases hf with rfl | rfl
        · rw [pk_un (by omega), pk_un (by omega)]; exact R.2.2.2.1
        · rw [pk_us, pk_us]
    have e1 : upd fl (nI f).toNatClampNeg (vp_nar .boolean 1) = upd fl f 1 := by rw [e, fd_v1]
    have e2 : upd ff (nI f).toNatClampNeg v2 = upd ff f v2 := by rw [e]
    have e3 : upd fs (nI f).toNatClampNeg v3 = upd fs f v3 := by rw [e]
    have e4 : upd hi (nI f).toNatClampNeg v3 = upd hi f v3 := by rw [e]
    exact hX (br_f (by decide) ⟨i, nm_r e1 ⟨i, nm_r e2 ⟨i, nm_r e3 (fd_Xmat (hY (br_f (by decide) ⟨i, nm_r e1 ⟨i, nm_r e2 ⟨i, nm_r e4 (fd_Ymat R' ⟨rfl, fd_rel _ R'⟩)⟩⟩⟩)))⟩⟩⟩)
theorem i_vc_release {k : Nat} {u : SX} {v : SY} (I : i_Rel k u v) (hk : k + 4 ≤ 2048) (v1 : Int32) : wpX_release (fun r u' => wpY_release (fun r' v' => r' = r ∧ i_Rel (k + 4) u' v') v v1) u v1 := by
  obtain ⟨p, w, fl, ff, fs, hi, mk, md, rfl, rfl, R⟩ := I
  have J := fd_rel (fl := fl) (ff := ff) (mk := mk) (k + 4) R
  rcases fd_c6 v1 with h | ⟨h, h6, h5⟩ | ⟨f, hf, rfl, h, h6, h5⟩
  · exact br_t h (br_t rfl (br_t h ⟨rfl, J⟩))
  · exact br_f h (br_t h6 (br_t rfl (br_f h (br_f h5 ⟨rfl, J⟩))))
  · have i := vp_in_nI (n := f) (N := 6) (by omega) (by omega)
    have e1 : upd fl (nI f).toNatClampNeg (vp_nar .boolean 0) = upd fl f 0 := by rw [fd_cl (x := f) (by omega), fd_v0]
    exact br_f h (br_f h6 (br_f (by decide) ⟨i, nm_r e1 (fd_Xmat (br_f h (br_t h5 ⟨i, nm_r e1 (fd_Ymat R ⟨rfl, fd_rel _ R⟩)⟩)))⟩))
end
section
theorem i_vc_documents {k : Nat} {u : SX} {v : SY} (I : i_Rel k u v) (hk : k + 4 ≤ 2048) : wpX_documents (fun r => wpY_documents (fun r' => r' = r ∧ i_Rel (k + 4) u v) v) u := by
  obtain ⟨p, w, fl, ff, fs, hi, mk, md, rfl, rfl, R⟩ := I
  exact fd_Xdocs (fd_Ydocs ⟨rfl, fd_rel _ R⟩)
theorem i_vc_valueOf {k : Nat} {u : SX} {v : SY} (I : i_Rel k u v) (hk : k + 4 ≤ 2048) (v1 : Int32) (v2 : Int32) : wpX_valueOf (fun r => wpY_valueOf (fun r' => r' = r ∧ i_Rel (k + 4) u v) v v1 v2) u v1 v2 := by
  obtain ⟨p, w, fl, ff, fs, hi, mk, md, rfl, rfl, R⟩ := I
  have J := fd_rel (fl := fl) (ff := ff) (mk := mk) (k + 4) R
  unfold wpX_valueOf wpY_valueOf
  dsimp only
  obtain ⟨b, hb, hX, hY⟩ := fd_doc (p := p) (w := w) (fl := fl) (ff := ff) (fs := fs) (hi := hi) (mk := mk) (md := md) v1
  cases b
  · exact hX (br_t rfl (hY (br_t rfl ⟨rfl, J⟩)))
  · obtain ⟨d, hd, rfl⟩ := hb rfl
    refine hX (br_f (by decide) ?_)
    rcases fd_c6 v2 with h | ⟨h, h6, h5⟩ | ⟨f, hf, rfl, h, h6, h5⟩
    · exact br_t h (br_t rfl (hY (br_f (by decide) (br_t h ⟨rfl, J⟩))))
    · exact br_f h (br_t h6 (br_t rfl (hY (br_f (by decide) (br_f h (br_f h5 ⟨rfl, J⟩))))))
    · have i := vp_in_nI (n := 6 * d + f) (N := 288) (by omega) (by omega)
      rw [fd_ix, fd_iy, fd_cl (x := 6 * d + f) (by omega)]
      exact br_f h (br_f h6 (br_f (by decide) ⟨i, hY (br_f (by decide) (br_f h (br_t h5 ⟨i, rfl, J⟩)))⟩))
theorem i_vc_matching {k : Nat} {u : SX} {v : SY} (I : i_Rel k u v) (hk : k + 4 ≤ 2048) : wpX_matching (fun r => wpY_matching (fun r' => r' = r ∧ i_Rel (k + 4) u v) v) u := by
  obtain ⟨p, w, fl, ff, fs, hi, mk, md, rfl, rfl, R⟩ := I
  exact fd_Xmat (fd_Ymat R ⟨rfl, fd_rel _ R⟩)
theorem i_vc_facet {k : Nat} {u : SX} {v : SY} (I : i_Rel k u v) (hk : k + 4 ≤ 2048) (v1 : Int32) (v2 : Int32) : wpX_facet (fun r => wpY_facet (fun r' => r' = r ∧ i_Rel (k + 4) u v) v v1 v2) u v1 v2 := by
  obtain ⟨p, w, fl, ff, fs, hi, mk, md, rfl, rfl, R⟩ := I
  have J := fd_rel (fl := fl) (ff := ff) (mk := mk) (k + 4) R
  unfold wpX_facet wpY_facet
  dsimp only
  obtain ⟨b, hb, hX, hY⟩ := fd_grp (p := p) (w := w) (fl := fl) (ff := ff) (hi := hi) (mk := mk) (md := md) v1
  cases b
  · exact hX (br_t rfl (hY (br_t rfl ⟨rfl, J⟩)))
  · obtain ⟨f, hf, rfl⟩ := hb rfl
    obtain ⟨b2, hb2, hX2, hY2⟩ := fd_trm (p := p) (w := w) (fl := fl) (ff := ff) (hi := hi) (mk := mk) (md := md) (f := f) (by omega) v2
    cases b2
    · exact hX (br_f (by decide) (hX2 (br_t rfl (hY (br_f (by decide) (hY2 (br_t rfl ⟨rfl, J⟩)))))))
    · obtain ⟨t, ht, rfl⟩ := hb2 rfl
      exact hX (br_f (by decide) (hX2 (br_f (by decide) (fd_Xcb (by omega) (hY (br_f (by decide) (hY2 (br_f (by decide) (fd_Ycb R (by omega) ⟨rfl, J⟩)))))))))
theorem i_vc_topTerm {k : Nat} {u : SX} {v : SY} (I : i_Rel k u v) (hk : k + 4 ≤ 2048) (v1 : Int32) (v2 : Int32) : wpX_topTerm (fun r => wpY_topTerm (fun r' => r' = r ∧ i_Rel (k + 4) u v) v v1 v2) u v1 v2 := by
  obtain ⟨p, w, fl, ff, fs, hi, mk, md, rfl, rfl, R⟩ := I
  have J := fd_rel (fl := fl) (ff := ff) (mk := mk) (k + 4) R
  obtain ⟨b, hb, hX, hY⟩ := fd_grp (p := p) (w := w) (fl := fl) (ff := ff) (hi := hi) (mk := mk) (md := md) v1
  unfold wpX_topTerm
  dsimp only
  cases b
  · refine hX (br_t rfl ?_)
    unfold wpY_topTerm
    exact hY (br_t rfl ⟨rfl, J⟩)
  · obtain ⟨f, hf, rfl⟩ := hb rfl
    refine hX (br_f (by decide) (fd_Xto (by omega) (fd_Xtt (by omega) ?_)))
    unfold wpY_topTerm
    exact hY (br_f (by decide) (fd_Ytt R (by omega) ⟨rfl, J⟩))
theorem i_vc_between {k : Nat} {u : SX} {v : SY} (I : i_Rel k u v) (hk : k + 4 ≤ 2048) (v1 : Int32) (v2 : Int32) (v3 : Int32) : wpX_between (fun r => wpY_between (fun r' => r' = r ∧ i_Rel (k + 4) u v) v v1 v2 v3) u v1 v2 v3 := by
  obtain ⟨p, w, fl, ff, fs, hi, mk, md, rfl, rfl, R⟩ := I
  have J := fd_rel (fl := fl) (ff := ff) (mk := mk) (k + 4) R
  obtain ⟨b, hb, hX, hY⟩ := fd_num (p := p) (w := w) (fl := fl) (ff := ff) (hi := hi) (mk := mk) (md := md) v1
  unfold wpX_between
  dsimp only
  cases b
  · refine hX (br_t rfl ?_)
    unfold wpY_between
    exact hY (br_t rfl ⟨rfl, J⟩)
  · obtain ⟨f, hf, rfl⟩ := hb rfl
    refine hX (br_f (by decide) (fd_Xbt (by omega) ?_))
    unfold wpY_between
    exact hY (br_f (by decide) (fd_Ybt R (by omega) ⟨rfl, J⟩))
theorem fd_m1 : ¬ (0 : Int32) ≤ -1 := by decide
theorem i_vc_ranked {k : Nat} {u : SX} {v : SY} (I : i_Rel k u v) (hk : k + 4 ≤ 2048) (v1 : Int32) (v2 : Int32) : wpX_ranked (fun r => wpY_ranked (fun r' => r' = r ∧ i_Rel (k + 4) u v) v v1 v2) u v1 v2 := by
  obtain ⟨p, w, fl, ff, fs, hi, mk, md, rfl, rfl, R⟩ := I
  have J := fd_rel (fl := fl) (ff := ff) (mk := mk) (k + 4) R
  obtain ⟨b, hb, hX, hY⟩ := fd_num (p := p) (w := w) (fl := fl) (ff := ff) (hi := hi) (mk := mk) (md := md) v1
  unfold wpX_ranked
  dsimp only
  cases b
  · refine hX (br_t rfl ?_)
    unfold wpY_ranked
    exact hY (br_t rfl ⟨rfl, J⟩)
  · obtain ⟨f, hf, rfl⟩ := hb rfl
    refine hX (br_f (by decide) (fd_Xat (by omega) ?_))
    rcases fd_fi_spec (fd_oq p w fl ff fs f 0 v2) 48 0 with ⟨h1, _⟩ | ⟨_, h2, _⟩
    · have h1' : fd_fi (fd_oq p w fl ff fs f 0 v2) 48 0 = 48 := by omega
      refine br_t (by rw [h1']; rfl) ?_
      unfold wpY_ranked
      refine hY (br_f (by decide) (fd_Yat R (by omega) ?_))
      rw [if_pos h1']
      exact br_f fd_m1 ⟨rfl, J⟩
    · have h2' : fd_fi (fd_oq p w fl ff fs f 0 v2) 48 0 < 48 := by omega
      refine br_f (fun h => absurd ((nI_eq (b := 48) (by omega) (by omega)).mp h) (by omega)) ?_
      have e := fd_cl (x := 6 * fd_fi (fd_oq p w fl ff fs f 0 v2) 48 0 + f) (by omega)
      have i := vp_in_nI (n := 6 * fd_fi (fd_oq p w fl ff fs f 0 v2) 48 0 + f) (N := 288) (by omega) (by omega)
      rw [fd_ix, e]
      refine ⟨i, ?_⟩
      unfold wpY_ranked
      refine hY (br_f (by decide) (fd_Yat R (by omega) ?_))
      rw [if_neg (by omega)]
      refine br_t (nI_pos' (by omega)) ?_
      rw [fd_iy, e]
      exact ⟨i, rfl, J⟩
theorem fd_srt {k : Nat} {p w fl ff fs hi mk : Nat → Int32} {md v2 v3 : Int32} {f : Nat} (R : fd_R p w fs hi md) (hf : f < 6) {Q : Int32 → Prop} (h : ∀ r : Int32, wY_sorted_23 (fun r' => r' = r ∧ i_Rel (k + 4) (p, w, fl, ff, fs) (md, p, w, fl, ff, hi, mk)) (nI f) v2 v3 md p w fl ff hi mk → Q r) : wX_sorted_22 Q (nI f) v2 v3 p w fl ff fs := by
  have J := fd_rel (fl := fl) (ff := ff) (mk := mk) (k + 4) R
  unfold wX_sorted_22
  unfold wY_sorted_23 at h
  refine fd_Xat hf ?_
  rcases fd_fi_spec (fd_oq p w fl ff fs f v2 v3) 48 0 with ⟨h1, _⟩ | ⟨_, h2, _⟩
  · have h1' : fd_fi (fd_oq p w fl ff fs f v2 v3) 48 0 = 48 := by omega
    refine br_t (by rw [h1']; rfl) (h _ (fd_Yat R hf ?_))
    rw [if_pos h1']
    exact br_f fd_m1 ⟨rfl, J⟩
  · have h2' : fd_fi (fd_oq p w fl ff fs f v2 v3) 48 0 < 48 := by omega
    refine br_f (fun h => absurd ((nI_eq (b := 48) (by omega) (by omega)).mp h) (by omega)) (h _ (fd_Yat R hf ?_))
    rw [if_neg (by omega)]
    exact br_t (nI_pos' (by omega)) ⟨rfl, J⟩
theorem i_vc_sorted {k : Nat} {u : SX} {v : SY} (I : i_Rel k u v) (hk : k + 4 ≤ 2048) (v1 : Int32) (v2 : Int32) (v3 : Int32) : wpX_sorted (fun r => wpY_sorted (fun r' => r' = r ∧ i_Rel (k + 4) u v) v v1 v2 v3) u v1 v2 v3 := by
  obtain ⟨p, w, fl, ff, fs, hi, mk, md, rfl, rfl, R⟩ := I
  have J := fd_rel (fl := fl) (ff := ff) (mk := mk) (k + 4) R
  obtain ⟨b, hb, hX, hY⟩ := fd_num (p := p) (w := w) (fl := fl) (ff := ff) (hi := hi) (mk := mk) (md := md) v1
  unfold wpX_sorted wpY_sorted
  dsimp only
  cases b
  · exact hX (br_t rfl (hY (br_t rfl ⟨rfl, J⟩)))
  · obtain ⟨f, hf, rfl⟩ := hb rfl
    refine hX (br_f (by decide) (br_c (fun h0 => ?_) (fun h0 => br_c (fun h1 => ?_) (fun h1 => ?_))))
    · exact fd_srt R (by omega) (fun r H => hY (br_f (by decide) (br_t h0 H)))
    · exact fd_srt R (by omega) (fun r H => hY (br_f (by decide) (br_f h0 (br_t h1 H))))
    · exact hY (br_f (by decide) (br_f h0 (br_f h1 ⟨rfl, J⟩)))
theorem i_vc_sum {k : Nat} {u : SX} {v : SY} (I : i_Rel k u v) (hk : k + 4 ≤ 2048) (v1 : Int32) (v2 : Int32) (v3 : Int32) : wpX_sum (fun r => wpY_sum (fun r' => r' = r ∧ i_Rel (k + 4) u v) v v1 v2 v3) u v1 v2 v3 := by
  obtain ⟨p, w, fl, ff, fs, hi, mk, md, rfl, rfl, R⟩ := I
  have J := fd_rel (fl := fl) (ff := ff) (mk := mk) (k + 4) R
  obtain ⟨b, hb, hX, hY⟩ := fd_grp (p := p) (w := w) (fl := fl) (ff := ff) (hi := hi) (mk := mk) (md := md) v1
  obtain ⟨b3, hb3, hX3, hY3⟩ := fd_num (p := p) (w := w) (fl := fl) (ff := ff) (hi := hi) (mk := mk) (md := md) v3
  unfold wpX_sum wpY_sum
  dsimp only
  cases b
  · exact hX (br_t rfl (hY (br_t rfl ⟨rfl, J⟩)))
  · obtain ⟨g, hg, rfl⟩ := hb rfl
    refine hX (br_f (by decide) ?_)
    cases b3
    · exact hX3 (br_t rfl (hY (br_f (by decide) (hY3 (br_t rfl ⟨rfl, J⟩)))))
    · obtain ⟨f, hf, rfl⟩ := hb3 rfl
      refine hX3 (br_f (by decide) ?_)
      obtain ⟨b2, hb2, hX2, hY2⟩ := fd_trm (p := p) (w := w) (fl := fl) (ff := ff) (hi := hi) (mk := mk) (md := md) (f := g) (by omega) v2
      cases b2
      · exact hX2 (br_t rfl (hY (br_f (by decide) (hY3 (br_f (by decide) (hY2 (br_t rfl ⟨rfl, J⟩)))))))
      · exact hX2 (br_f (by decide) (fd_Xsm (by omega) (by omega) (hY (br_f (by decide) (hY3 (br_f (by decide) (hY2 (br_f (by decide) (fd_Ysm R (by omega) (by omega) ⟨rfl, J⟩)))))))))
theorem fd_exr {k : Nat} {p w fl ff fs hi mk : Nat → Int32} {md t o : Int32} {g f : Nat} (R : fd_R p w fs hi md) (hg : g < 6) (hf : f = 4 ∨ f = 5) {Q : Int32 → Prop} (h : ∀ r : Int32, wpY_isTerm (fun r_28 => (((r_28 = 0 → ((fun r' => r' = r ∧ i_Rel (k + 4) (p, w, fl, ff, fs) (md, p, w, fl, ff, hi, mk)) (-2001))) ∧ (¬ r_28 = 0 → (∃ n72 : Nat, wY_extreme_72 (fun r' => r' = r ∧ i_Rel (k + 4) (p, w, fl, ff, fs) (md, p, w, fl, ff, hi, mk)) (nI f) (nI g) t o md p w fl ff hi mk n72 (-2002) 0))))) (md, p, w, fl, ff, hi, mk) (nI g) t → Q r) : wX_extreme_57 Q (nI f) (nI g) t o p w fl ff fs := by
  have J := fd_rel (fl := fl) (ff := ff) (mk := mk) (k + 4) R
  obtain ⟨b2, hb2, hX2, hY2⟩ := fd_trm (p := p) (w := w) (fl := fl) (ff := ff) (hi := hi) (mk := mk) (md := md) (f := g) hg t
  unfold wX_extreme_57
  cases b2
  · exact hX2 (br_t rfl (h _ (hY2 (br_t rfl ⟨rfl, J⟩))))
  · exact hX2 (br_f (by decide) (fd_Xex R.2.2.2.2.2 hg hf (h _ (hY2 (br_f (by decide) (fd_Yex R hg hf ⟨rfl, J⟩))))))
theorem i_vc_extreme {k : Nat} {u : SX} {v : SY} (I : i_Rel k u v) (hk : k + 4 ≤ 2048) (v1 : Int32) (v2 : Int32) : wpX_extreme (fun r => wpY_extreme (fun r' => r' = r ∧ i_Rel (k + 4) u v) v v1 v2) u v1 v2 := by
  obtain ⟨p, w, fl, ff, fs, hi, mk, md, rfl, rfl, R⟩ := I
  have J := fd_rel (fl := fl) (ff := ff) (mk := mk) (k + 4) R
  have n1 : ¬ (100 : Int32) = 0 := by decide
  have n2 : ¬ (10 : Int32) = 0 := by decide
  by_cases h : v1 < 0
  · have h' : ¬ 0 ≤ v1 := Int32.not_le.mpr h
    exact br_f h' ⟨n1, nm_e ⟨n2, n2, nm_e ⟨n2, nm_e (br_t h ⟨rfl, J⟩)⟩⟩⟩
  · obtain ⟨j, hj, rfl⟩ := nI_of h
    have e1 : nI j / 100 = nI (j / 100) := pk_div (d := 100) hj (by omega) (by omega)
    have e2 : nI j / 10 - nI j / 10 / 10 * 10 = nI (j / 10 % 10) := by
      rw [show nI j / 10 = nI (j / 10) from pk_div (d := 10) hj (by omega) (by omega)]
      exact pk_rem (d := 10) (by omega) (by omega) (by omega)
    have e3 : nI j - nI j / 10 * 10 = nI (j % 10) := pk_rem (d := 10) hj (by omega) (by omega)
    obtain ⟨b, hb, hX, hY⟩ := fd_grp (p := p) (w := w) (fl := fl) (ff := ff) (hi := hi) (mk := mk) (md := md) (nI (j / 100))
    obtain ⟨b3, hb3, hX3, hY3⟩ := fd_num (p := p) (w := w) (fl := fl) (ff := ff) (hi := hi) (mk := mk) (md := md) v2
    unfold wpX_extreme wpY_extreme
    dsimp only
    refine br_t (Int32.not_lt.mp h) ⟨n1, nm_r e1 ⟨n2, n2, nm_r e2 ⟨n2, nm_r e3 ?_⟩⟩⟩
    cases b
    · exact hX (br_t rfl ⟨n1, nm_r e1 ⟨n2, n2, nm_r e2 ⟨n2, nm_r e3 (br_f h (hY (br_t rfl ⟨rfl, J⟩)))⟩⟩⟩)
    · obtain ⟨g, hg, eg⟩ := hb rfl
      refine hX (br_f (by decide) ?_)
      cases b3
      · exact hX3 (br_t rfl ⟨n1, nm_r e1 ⟨n2, n2, nm_r e2 ⟨n2, nm_r e3 (br_f h (hY (br_f (by decide) (hY3 (br_t rfl ⟨rfl, J⟩)))))⟩⟩⟩)
      · obtain ⟨f, hf, rfl⟩ := hb3 rfl
        rw [eg] at hY e1 ⊢
        refine hX3 (br_f (by decide) (pk_eq (j % 10) 0 (fun h0 => ?_) (fun h0 => pk_eq (j % 10) 1 (fun h1 => ?_) (fun h1 => ?_))))
        · exact fd_exr R (by omega) hf (fun r H => ⟨n1, nm_r e1 ⟨n2, n2, nm_r e2 ⟨n2, nm_r e3 (br_f h (hY (br_f (by decide) (hY3 (br_f (by decide) (br_t (nI_le (b := 1) (by omega) (by omega)) H))))))⟩⟩⟩)
        · exact fd_exr R (by omega) hf (fun r H => ⟨n1, nm_r e1 ⟨n2, n2, nm_r e2 ⟨n2, nm_r e3 (br_f h (hY (br_f (by decide) (hY3 (br_f (by decide) (br_t (nI_le (b := 1) (by omega) (by omega)) H))))))⟩⟩⟩)
        · exact ⟨n1, nm_r e1 ⟨n2, n2, nm_r e2 ⟨n2, nm_r e3 (br_f h (hY (br_f (by decide) (hY3 (br_f (by decide) (br_f (nI_ge (a := 1) (by omega) (by omega)) ⟨rfl, J⟩))))))⟩⟩⟩
theorem i_vc_different {k : Nat} {u : SX} {v : SY} (I : i_Rel k u v) (hk : k + 4 ≤ 2048) (v1 : Int32) : wpX_different (fun r => wpY_different (fun r' => r' = r ∧ i_Rel (k + 4) u v) v v1) u v1 := by
  obtain ⟨p, w, fl, ff, fs, hi, mk, md, rfl, rfl, R⟩ := I
  have J := fd_rel (fl := fl) (ff := ff) (mk := mk) (k + 4) R
  rcases fd_c6 v1 with h | ⟨h, h6, h5⟩ | ⟨f, hf, rfl, h, h6, h5⟩
  · exact br_t h (br_t rfl (br_t h ⟨rfl, J⟩))
  · exact br_f h (br_t h6 (br_t rfl (br_f h (br_f h5 ⟨rfl, J⟩))))
  · exact br_f h (br_f h6 (br_f (by decide) (fd_Xdp hf hf (br_f h (br_t h5 (fd_Ydf R hf ⟨rfl, J⟩))))))
theorem i_vc_pairs {k : Nat} {u : SX} {v : SY} (I : i_Rel k u v) (hk : k + 4 ≤ 2048) (v1 : Int32) (v2 : Int32) : wpX_pairs (fun r => wpY_pairs (fun r' v' => r' = r ∧ i_Rel (k + 4) u v') v v1 v2) u v1 v2 := by
  obtain ⟨p, w, fl, ff, fs, hi, mk, md, rfl, rfl, R⟩ := I
  have J := fd_rel (fl := fl) (ff := ff) (mk := mk) (k + 4) R
  rcases fd_c3 v1 with h | ⟨h, h3, _, h2⟩ | ⟨f, hf, rfl, h, h3, _, h2⟩
  · exact br_t h (br_t rfl (br_t h ⟨rfl, J⟩))
  · exact br_f h (br_t h3 (br_t rfl (br_f h (br_t h2 ⟨rfl, J⟩))))
  · rcases fd_c3 v2 with g | ⟨g, g3, g2, _⟩ | ⟨f2, hf2, rfl, g, g3, g2, _⟩
    · exact br_f h (br_f h3 (br_f (by decide) (br_t g (br_t rfl (br_f h (br_f h2 (br_t g ⟨rfl, J⟩)))))))
    · exact br_f h (br_f h3 (br_f (by decide) (br_f g (br_t g3 (br_t rfl (br_f h (br_f h2 (br_f g (br_f g2 ⟨rfl, J⟩)))))))))
    · exact br_f h (br_f h3 (br_f (by decide) (br_f g (br_f g3 (br_f (by decide) (fd_Xdp (by omega) (by omega) (br_f h (br_f h2 (br_f g (br_t g2 (fd_Ypr R hf hf2 (fun _ => ⟨rfl, fd_rel _ R⟩))))))))))))
theorem i_vc_box {k : Nat} {u : SX} {v : SY} (I : i_Rel k u v) (hk : k + 4 ≤ 2048) (v1 : Int32) (v2 : Int32) (v3 : Int32) : wpX_box (fun r => wpY_box (fun r' => r' = r ∧ i_Rel (k + 4) u v) v v1 v2 v3) u v1 v2 v3 := by
  obtain ⟨p, w, fl, ff, fs, hi, mk, md, rfl, rfl, R⟩ := I
  have J := fd_rel (fl := fl) (ff := ff) (mk := mk) (k + 4) R
  obtain ⟨b, hb, hX, hY⟩ := fd_num (p := p) (w := w) (fl := fl) (ff := ff) (hi := hi) (mk := mk) (md := md) v1
  unfold wpX_box wpY_box
  dsimp only
  cases b
  · exact hX (br_t rfl (hY (br_t rfl ⟨rfl, J⟩)))
  · obtain ⟨f, hf, rfl⟩ := hb rfl
    have e : v3.toInt64 * v2.toInt64 + v2.toInt64 = (v3.toInt64 + 1) * v2.toInt64 := by grind
    refine hX (br_f (by decide) (br_c (fun g1 => ?_) (fun g1 => br_c (fun g2 => nm_e (nm_r e (fd_Xbx (by omega) ?_))) (fun g2 => ?_))))
    · exact hY (br_f (by decide) (br_t g1 ⟨rfl, J⟩))
    · exact hY (br_f (by decide) (br_f g1 (br_t g2 (fd_Ybx R (by omega) ⟨rfl, J⟩))))
    · exact hY (br_f (by decide) (br_f g1 (br_f g2 ⟨rfl, J⟩)))
end
