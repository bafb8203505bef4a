section
variable {p w fl ff fs hi mk : Nat → Int32} {md : Int32} {post : Int32 → Prop}
/-- does document e match and show d's values in fields f and g -/
def fd_sm (p w fl ff fs : Nat → Int32) (f g d e : Nat) : Bool :=
  if w (6 * e + f) = w (6 * d + f) then (if w (6 * e + g) = w (6 * d + g) then fd_M p w fl ff fs e (-1) else false) else false
/-- is d seen earlier -/
def fd_se (p w fl ff fs : Nat → Int32) (f g d : Nat) : Bool := decide (fd_fi (fd_sm p w fl ff fs f g d) d 0 < d)
def fd_dq (p w fl ff fs : Nat → Int32) (f g d : Nat) : Bool := fd_M p w fl ff fs d (-1) && !fd_se p w fl ff fs f g d
theorem fd_ix' {x : Int32} {e f : Nat} (h : x = nI e * 6) : x + nI f = nI (6 * e + f) := by rw [h, fd_ix]
theorem fd_Xse {f g d : Nat} (hf : f < 6) (hg : g < 6) (hd : d < 48) (hp : post (fd_b (fd_se p w fl ff fs f g d))) : wpX_isSeenEarlier post (p, w, fl, ff, fs) (nI d) (nI f) (nI g) := by
  unfold wpX_isSeenEarlier
  dsimp only
  rw [fd_ix, fd_ix, fd_cl (x := 6 * d + f) (by omega), fd_cl (x := 6 * d + g) (by omega)]
  refine ⟨vp_in_nI (by omega) (by omega), nm_e ⟨vp_in_nI (by omega) (by omega), nm_e ?_⟩⟩
  refine fd_find (fun n x => wX_isSeenEarlier_29 post (nI d) (nI f) (nI g) (w (6 * d + f)) (w (6 * d + g)) p w fl ff fs n x) (fd_sm p w fl ff fs f g d) d (fun r => post (fd_b (decide (r < d)))) (fun n h => br_t (nI_le (Nat.le_refl _) (by omega)) (by rw [decide_eq_false (by omega)] at h; exact h)) ?_ hp
  intro n x hx H0 H1
  unfold fd_sm at H0 H1
  refine br_f (nI_ge hx (by omega)) (nm_e ?_)
  rw [fd_ix, fd_ix, fd_cl (x := 6 * x + f) (by omega), fd_cl (x := 6 * x + g) (by omega)]
  refine ⟨vp_in_nI (by omega) (by omega), br_c (fun h1 => ⟨vp_in_nI (by omega) (by omega), br_c (fun h2 => ?_) (fun h2 => ?_)⟩) (fun h1 => ?_)⟩
  · rw [if_pos h1, if_pos h2] at H0 H1
    refine fd_XM (by omega) (fd_br (fun hm => nm_e (H0 hm)) (fun hm => ?_))
    have := H1 hm
    rw [decide_eq_true hx] at this
    exact this
  · exact nm_e (H0 (by rw [if_pos h1, if_neg h2]))
  · exact nm_e (H0 (by rw [if_neg h1]))
theorem fd_Xdp {f g : Nat} (hf : f < 6) (hg : g < 6) (hp : post (nI (fd_c (fd_dq p w fl ff fs f g) 48))) : wpX_differentPairs post (p, w, fl, ff, fs) (nI f) (nI g) := by
  unfold wpX_differentPairs
  refine fd_cnt (fun n c x => wX_differentPairs_5 post (nI f) (nI g) p w fl ff fs n c x) (fd_dq p w fl ff fs f g) 48 post (fun n c h => br_t fd_l48 h) ?_ hp
  intro n c x hx H0 H1
  unfold fd_dq at H0 H1
  refine br_f (fd_g48 hx) (fd_XM hx (fd_br (fun hm => ?_) (fun hm => fd_Xse hf hg hx (fd_br (fun hs => ?_) (fun hs => ?_)))))
  · exact nm_e (H0 (by rw [hm]; rfl))
  · exact nm_e (nm_e (H1 (by rw [hm, hs]; rfl)))
  · exact nm_e (H0 (by rw [hm, hs]; rfl))
/-- different, in the reference -/
theorem fd_Ydf {f : Nat} (R : fd_R p w fs hi md) (hf : f < 6) (hp : post (nI (fd_c (fd_dq p w fl ff fs f f) 48))) : ∃ n, wY_different_16 post (nI f) md p w fl ff hi mk n 0 0 := by
  refine fd_cnt (fun n c x => wY_different_16 post (nI f) md p w fl ff hi mk n c x) (fd_dq p w fl ff fs f f) 48 post (fun n c h => br_t fd_l48 h) ?_ hp
  intro n c d hd H0 H1
  unfold fd_dq at H0 H1
  refine br_f (fd_g48 hd) (fd_YM R hd ?_)
  have K : ∀ m x, wY_different_33 post (wY_different_16 post (nI f) md p w fl ff hi mk n) (nI f) c (nI d) md p w fl ff hi mk (m + 1) 0 x ∨ (fd_M p w fl ff fs d (-1) && !fd_se p w fl ff fs f f d) = true := by
    intro m x
    cases hq : (fd_M p w fl ff fs d (-1) && !fd_se p w fl ff fs f f d)
    · exact Or.inl (br_c (fun _ => br_t rfl (nm_e (H0 hq))) (fun _ => br_t rfl (br_t rfl (nm_e (H0 hq)))))
    · exact Or.inr rfl
  cases hm : fd_M p w fl ff fs d (-1)
  · rcases K 0 0 with h | h
    · exact ⟨1, h⟩
    · rw [hm] at h
      exact fd_no h
  · rw [hm] at H0 H1 K
    refine fd_find (fun m x => wY_different_33 post (wY_different_16 post (nI f) md p w fl ff hi mk n) (nI f) c (nI d) md p w fl ff hi mk m 1 x) (fd_sm p w fl ff fs f f d) d (fun r => (!decide (r < d)) = (true && !fd_se p w fl ff fs f f d)) (fun m h => ?_) ?_ ?_
    · rw [decide_eq_false (by omega)] at h
      exact br_t (nI_le (Nat.le_refl _) (by omega)) (br_f (by decide) (nm_e (nm_e (H1 h.symm))))
    · intro m x hx G0 G1
      unfold fd_sm at G0 G1
      refine br_f (nI_ge hx (by omega)) (br_f (by decide) (fd_YM R (by omega) (fd_br (fun hb => ?_) (fun hb => ?_))))
      · refine nm_e (G0 ?_)
        rw [hb]
        split <;> rfl
      · rw [hb] at G0 G1
        rw [fd_iy, fd_iy, fd_cl (x := 6 * x + f) (by omega), fd_cl (x := 6 * d + f) (by omega)]
        refine ⟨vp_in_nI (by omega) (by omega), vp_in_nI (by omega) (by omega), br_c (fun h1 => nm_e ?_) (fun h1 => ?_)⟩
        · have hg := G1 (by rw [if_pos h1, if_pos h1])
          rw [decide_eq_true hx] at hg
          rcases K m (nI x + 1) with h | h
          · exact h
          · rw [h] at hg
            exact fd_no hg
        · exact nm_e (G0 (by rw [if_neg h1]))
    · rfl
/-- pairs, in the reference: the marks -/
def fd_F (mk : Nat → Int32) : Nat → Nat → Int32
  | 0 => mk
  | x + 1 => upd (fd_F mk x) x 0
def fd_G (m : Nat → Bool) (ky : Nat → Nat) (z : Nat → Int32) : Nat → Nat → Int32
  | 0 => z
  | x + 1 => if m x then upd (fd_G m ky z x) (ky x) 1 else fd_G m ky z x
theorem fd_F0 (mk : Nat → Int32) : ∀ x i, i < x → fd_F mk x i = 0 := by
  intro x
  induction x with
  | zero => intro i h; omega
  | succ x ih =>
    intro i h
    show upd (fd_F mk x) x 0 i = 0
    by_cases e : i = x
    · rw [e, pk_us]
    · rw [pk_un e, ih i (by omega)]
theorem fd_c_zero {q : Nat → Bool} : ∀ N, (∀ x, x < N → q x = false) → fd_c q N = 0 := by
  intro N
  induction N with
  | zero => intro _; rfl
  | succ N ih =>
    intro h
    show fd_c q N + (if q N then 1 else 0) = 0
    rw [ih (fun x hx => h x (by omega)), h N (by omega)]
    rfl
theorem fd_c_one {q r : Nat → Bool} {i : Nat} (hq : q i = false) (hr : r i = true) (h : ∀ x, x ≠ i → r x = q x) : ∀ N, i < N → fd_c r N = fd_c q N + 1 := by
  intro N
  induction N with
  | zero => intro h; omega
  | succ N ih =>
    intro hN
    show fd_c r N + (if r N then 1 else 0) = fd_c q N + (if q N then 1 else 0) + 1
    by_cases e : i = N
    · subst e
      rw [hq, hr, fd_c_congr (q := r) (r := q) i (fun x hx => h x (by omega))]
      rfl
    · rw [ih (by omega), h N (by omega)]
      omega
theorem fd_Gc {m : Nat → Bool} {ky : Nat → Nat} {z : Nat → Int32} {s : Nat → Bool} (hz : ∀ i, i < 100 → z i = 0) (hk : ∀ d, d < 48 → ky d < 100) (hs : ∀ d, d < 48 → (s d = true ↔ ∃ e, e < d ∧ m e = true ∧ ky e = ky d)) : ∀ n, n ≤ 48 → (∀ i, i < 100 → (fd_G m ky z n i = 0 ↔ ¬ ∃ e, e < n ∧ m e = true ∧ ky e = i)) ∧ fd_c (fun i => decide (¬ fd_G m ky z n i = 0)) 100 = fd_c (fun d => m d && !s d) n := by
  intro n
  induction n with
  | zero =>
    intro _
    refine ⟨fun i hi => ⟨fun _ ⟨e, he, _⟩ => by omega, fun _ => hz i hi⟩, ?_⟩
    exact fd_c_zero 100 (fun x hx => decide_eq_false (fun h => h (hz x hx)))
  | succ n ih =>
    intro hn
    obtain ⟨I1, I2⟩ := ih (by omega)
    have eG : fd_G m ky z (n + 1) = if m n then upd (fd_G m ky z n) (ky n) 1 else fd_G m ky z n := rfl
    have eC : fd_c (fun d => m d && !s d) (n + 1) = fd_c (fun d => m d && !s d) n + (if (m n && !s n) then 1 else 0) := rfl
    rw [eG, eC]
    cases hm : m n
    · refine ⟨fun i hi => ?_, ?_⟩
      · rw [if_neg (by decide), I1 i hi]
        constructor
        · intro h ⟨e, h1, h2, h3⟩
          by_cases e1 : e = n
          · rw [e1, hm] at h2; exact fd_no h2
          · exact h ⟨e, by omega, h2, h3⟩
        · intro h ⟨e, h1, h2, h3⟩
          exact h ⟨e, by omega, h2, h3⟩
      · rw [if_neg (by decide)]
        exact I2
    · rw [if_pos rfl]
      refine ⟨fun i hi => ?_, ?_⟩
      · by_cases e1 : i = ky n
        · subst e1
          rw [pk_us]
          exact ⟨fun h => absurd h (by decide), fun h => absurd ⟨n, by omega, hm, rfl⟩ h⟩
        · rw [pk_un e1, I1 i hi]
          constructor
          · intro h ⟨e, h1, h2, h3⟩
            by_cases e2 : e = n
            · subst e2; exact e1 h3.symm
            · exact h ⟨e, by omega, h2, h3⟩
          · intro h ⟨e, h1, h2, h3⟩
            exact h ⟨e, by omega, h2, h3⟩
      · have hI := I1 (ky n) (hk n (by omega))
        cases hsn : s n
        · have h0 : fd_G m ky z n (ky n) = 0 := hI.mpr (fun h => by
            have := (hs n (by omega)).mpr h
            rw [hsn] at this
            exact fd_no this)
          rw [fd_c_one (q := fun i => decide (¬ fd_G m ky z n i = 0)) (i := ky n) (decide_eq_false (fun h => h h0)) (decide_eq_true (by rw [pk_us]; decide)) (fun x hx => by rw [pk_un hx]) 100 (hk n (by omega)), I2]
          rfl
        · have h0 : ¬ fd_G m ky z n (ky n) = 0 := fun h => hI.mp h ((hs n (by omega)).mp hsn)
          rw [fd_c_congr (r := fun i => decide (¬ fd_G m ky z n i = 0)) 100 (fun x _ => by
            by_cases e1 : x = ky n
            · rw [e1, pk_us, decide_eq_true h0, decide_eq_true (by decide)]
            · rw [pk_un e1]), I2]
          rfl
def fd_ky (w : Nat → Int32) (f g d : Nat) : Nat := 10 * (w (6 * d + f)).toNatClampNeg + (w (6 * d + g)).toNatClampNeg
theorem fd_kyv {f g d : Nat} (hw : ∀ i, i % 6 < 3 → ∃ j : Nat, j < 10 ∧ w i = nI j) (hf : f < 3) (hg : g < 3) : fd_ky w f g d < 100 ∧ 10 * w (6 * d + f) + w (6 * d + g) = nI (fd_ky w f g d) := by
  obtain ⟨a, ha, ea⟩ := hw (6 * d + f) (by omega)
  obtain ⟨b, hb, eb⟩ := hw (6 * d + g) (by omega)
  unfold fd_ky
  rw [ea, eb, fd_cl (x := a) (by omega), fd_cl (x := b) (by omega)]
  refine ⟨by omega, ?_⟩
  rw [show (10 : Int32) = nI 10 from rfl, pk_mul, nI_add]
theorem fd_kyi {f g d e : Nat} (hw : ∀ i, i % 6 < 3 → ∃ j : Nat, j < 10 ∧ w i = nI j) (hf : f < 3) (hg : g < 3) : fd_ky w f g e = fd_ky w f g d ↔ (w (6 * e + f) = w (6 * d + f) ∧ w (6 * e + g) = w (6 * d + g)) := by
  obtain ⟨a, ha, ea⟩ := hw (6 * d + f) (by omega)
  obtain ⟨b, hb, eb⟩ := hw (6 * d + g) (by omega)
  obtain ⟨a', ha', ea'⟩ := hw (6 * e + f) (by omega)
  obtain ⟨b', hb', eb'⟩ := hw (6 * e + g) (by omega)
  unfold fd_ky
  rw [ea, eb, ea', eb', fd_cl (x := a) (by omega), fd_cl (x := b) (by omega), fd_cl (x := a') (by omega), fd_cl (x := b') (by omega), nI_eq (by omega) (by omega), nI_eq (by omega) (by omega)]
  omega
theorem fd_ses {f g d : Nat} (hw : ∀ i, i % 6 < 3 → ∃ j : Nat, j < 10 ∧ w i = nI j) (hf : f < 3) (hg : g < 3) : fd_se p w fl ff fs f g d = true ↔ ∃ e, e < d ∧ fd_M p w fl ff fs e (-1) = true ∧ fd_ky w f g e = fd_ky w f g d := by
  have hsm : ∀ e, fd_sm p w fl ff fs f g d e = true ↔ (fd_M p w fl ff fs e (-1) = true ∧ fd_ky w f g e = fd_ky w f g d) := by
    intro e
    rw [fd_kyi hw hf hg]
    unfold fd_sm
    by_cases h1 : w (6 * e + f) = w (6 * d + f)
    · by_cases h2 : w (6 * e + g) = w (6 * d + g)
      · rw [if_pos h1, if_pos h2]
        exact ⟨fun h => ⟨h, h1, h2⟩, fun h => h.1⟩
      · rw [if_pos h1, if_neg h2]
        exact ⟨fun h => fd_no h, fun h => absurd h.2.2 h2⟩
    · rw [if_neg h1]
      exact ⟨fun h => fd_no h, fun h => absurd h.2.1 h1⟩
  unfold fd_se
  rw [decide_eq_true_iff]
  rcases fd_fi_spec (fd_sm p w fl ff fs f g d) d 0 with ⟨h1, h2⟩ | ⟨h1, h2, h3⟩
  · refine ⟨fun h => by omega, fun ⟨e, he, hx⟩ => ?_⟩
    have := (hsm e).mpr hx
    rw [h2 e (by omega) (by omega)] at this
    exact fd_no this
  · exact ⟨fun h => ⟨_, h, (hsm _).mp h3⟩, fun _ => by omega⟩
theorem fd_Ypr {post : Int32 → SY → Prop} {f g : Nat} (R : fd_R p w fs hi md) (hf : f < 3) (hg : g < 3) (hp : ∀ mk', post (nI (fd_c (fd_dq p w fl ff fs f g) 48)) (md, p, w, fl, ff, hi, mk')) : ∃ n, wY_pairs_23 post (nI f) (nI g) md n 0 p w fl ff hi mk := by
  have hw := R.2.2.2.2.1
  refine fd_fold (fun n (c : Nat → Int32) x => wY_pairs_23 post (nI f) (nI g) md n (nI x) p w fl ff hi c) (fd_F mk) 100 (fun n => br_t (nI_le (a := 100) (b := 100) (by omega) (by omega)) ?_) ?_
  · have hz := fd_F0 mk 100
    generalize fd_F mk 100 = z at hz ⊢
    refine fd_fold (fun n (c : Nat → Int32) x => wY_pairs_44 post (nI f) (nI g) md n (nI x) p w fl ff hi c) (fd_G (fun d => fd_M p w fl ff fs d (-1)) (fd_ky w f g) z) 48 (fun n => br_t fd_l48 ?_) ?_
    · have hG := (fd_Gc (m := fun d => fd_M p w fl ff fs d (-1)) (ky := fd_ky w f g) (z := z) (s := fd_se p w fl ff fs f g) hz (fun d _ => (fd_kyv hw hf hg).1) (fun d _ => fd_ses hw hf hg) 48 (by omega)).2
      generalize fd_G (fun d => fd_M p w fl ff fs d (-1)) (fd_ky w f g) z 48 = m' at hG ⊢
      refine fd_cnt (fun n c x => wY_pairs_102 post md p w fl ff hi m' n c x) (fun i => decide (¬ m' i = 0)) 100 (fun c => post c (md, p, w, fl, ff, hi, m')) (fun n c h => br_t (nI_le (a := 100) (b := 100) (by omega) (by omega)) h) ?_ ?_
      · intro n c x hx H0 H1
        have e := fd_cl (x := x) (by omega)
        refine br_f (nI_ge (a := x) (b := 100) hx (by omega)) ⟨vp_in_nI (by omega) (by omega), br_c (fun h0 => ?_) (fun h0 => ?_)⟩
        · rw [e] at h0
          exact nm_e (H0 (decide_eq_false (fun z => z h0)))
        · rw [e] at h0
          exact nm_e (nm_e (H1 (decide_eq_true h0)))
      · rw [hG]
        exact hp m'
    · intro n x hx H
      have H' : wY_pairs_44 post (nI f) (nI g) md n (nI x + 1) p w fl ff hi (if fd_M p w fl ff fs x (-1) then upd (fd_G (fun d => fd_M p w fl ff fs d (-1)) (fd_ky w f g) z x) (fd_ky w f g x) 1 else fd_G (fun d => fd_M p w fl ff fs d (-1)) (fd_ky w f g) z x) := by
        rw [nI_1]; exact H
      refine br_f (fd_g48 hx) (fd_YM R hx (fd_br (fun hm => ?_) (fun hm => ?_)))
      · rw [hm] at H'
        exact nm_e H'
      · rw [hm] at H'
        obtain ⟨k1, k2⟩ := fd_kyv (d := x) hw hf hg
        rw [fd_iy, fd_iy, fd_cl (x := 6 * x + f) (by omega), fd_cl (x := 6 * x + g) (by omega), k2, fd_cl (x := fd_ky w f g x) (by omega)]
        exact ⟨vp_in_nI (by omega) (by omega), vp_in_nI (by omega) (by omega), vp_in_nI (by omega) (by omega), nm_e (nm_e H')⟩
  · intro n x hx H
    have H' : wY_pairs_23 post (nI f) (nI g) md n (nI x + 1) p w fl ff hi (upd (fd_F mk x) x 0) := by
      rw [nI_1]; exact H
    refine br_f (nI_ge (a := x) (b := 100) hx (by omega)) ?_
    rw [fd_cl (x := x) (by omega)]
    exact ⟨vp_in_nI (by omega) (by omega), nm_e (nm_e H')⟩
end
