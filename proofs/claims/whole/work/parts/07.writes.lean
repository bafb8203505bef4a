theorem fd_c6 (x : Int32) : x < 0 ∨ (¬ x < 0 ∧ (6 : Int32) ≤ x ∧ ¬ x ≤ 5) ∨ ∃ f : Nat, f < 6 ∧ x = nI f ∧ ¬ x < 0 ∧ ¬ (6 : Int32) ≤ x ∧ x ≤ 5 := by
  by_cases h : x < 0
  · exact Or.inl h
  · obtain ⟨j, hj, rfl⟩ := nI_of h
    by_cases h6 : j < 6
    · exact Or.inr (Or.inr ⟨j, h6, rfl, h, nI_ge (a := j) (b := 6) h6 (by omega), nI_le (a := j) (b := 5) (by omega) (by omega)⟩)
    · exact Or.inr (Or.inl ⟨h, nI_le (a := 6) (b := j) (by omega) hj, nI_ge (a := 5) (b := j) (by omega) hj⟩)
theorem fd_c3 (x : Int32) : x < 0 ∨ (¬ x < 0 ∧ (3 : Int32) ≤ x ∧ ¬ x ≤ 2 ∧ (2 : Int32) < x) ∨ ∃ f : Nat, f < 3 ∧ x = nI f ∧ ¬ x < 0 ∧ ¬ (3 : Int32) ≤ x ∧ x ≤ 2 ∧ ¬ (2 : Int32) < x := by
  by_cases h : x < 0
  · exact Or.inl h
  · obtain ⟨j, hj, rfl⟩ := nI_of h
    by_cases h3 : j < 3
    · exact Or.inr (Or.inr ⟨j, h3, rfl, h, nI_ge (a := j) (b := 3) h3 (by omega), nI_le (a := j) (b := 2) (by omega) (by omega), nI_nlt (a := 2) (b := j) (by omega) (by omega)⟩)
    · exact Or.inr (Or.inl ⟨h, nI_le (a := 3) (b := j) (by omega) hj, nI_ge (a := 2) (b := j) (by omega) hj, nI_lt (a := 2) (b := j) (by omega) hj⟩)
/-- make's three tests -/
theorem fd_c10 {f : Nat} (hf : f < 3) (x : Int32) : ((∀ ⦃post : Int32 → Prop⦄, post 0 → wpX_isTermOf post (nI f) x) ∧ (x < 0 ∨ (¬ x < 0 ∧ (9 : Int32) < x ∧ ¬ x ≤ 9))) ∨ ∃ t : Nat, t < 10 ∧ x = nI t ∧ (∀ ⦃post : Int32 → Prop⦄, post 1 → wpX_isTermOf post (nI f) x) ∧ ¬ x < 0 ∧ ¬ (9 : Int32) < x ∧ x ≤ 9 := by
  have hT : fd_T f = 10 := by unfold fd_T; rw [if_neg (by omega)]
  by_cases h : x < 0
  · exact Or.inl ⟨fun _ hp => br_t h hp, Or.inl h⟩
  · obtain ⟨j, hj, rfl⟩ := nI_of h
    by_cases h10 : j < 10
    · refine Or.inr ⟨j, h10, rfl, fun _ hp => fd_Xit (by omega) hj ?_, h, nI_nlt (a := 9) (b := j) (by omega) (by omega), nI_le (a := j) (b := 9) (by omega) (by omega)⟩
      rw [hT, decide_eq_true h10]; exact hp
    · refine Or.inl ⟨fun _ hp => fd_Xit (by omega) hj ?_, Or.inr ⟨h, nI_lt (a := 9) (b := j) (by omega) hj, nI_ge (a := 9) (b := j) (by omega) hj⟩⟩
      rw [hT, decide_eq_false h10]; exact hp
/-- the values' ranges -/
def fd_V (w : Nat → Int32) : Prop := (∀ i, i % 6 < 3 → ∃ j : Nat, j < 10 ∧ w i = nI j) ∧ (∀ i, 4 ≤ i % 6 → ¬ w i = -2002)
theorem fd_Vu {w : Nat → Int32} {k : Nat} {x : Int32} (V : fd_V w) (h1 : k % 6 < 3 → ∃ j : Nat, j < 10 ∧ x = nI j) (h2 : 4 ≤ k % 6 → ¬ x = -2002) : fd_V (upd w k x) := by
  refine ⟨fun i hi => ?_, fun i hi => ?_⟩
  · by_cases e : i = k
    · rw [e, pk_us]; exact h1 (by omega)
    · rw [pk_un e]; exact V.1 i hi
  · by_cases e : i = k
    · rw [e, pk_us]; exact h2 (by omega)
    · rw [pk_un e]; exact V.2 i hi
theorem fd_P01 {p : Nat → Int32} {k : Nat} {x : Int32} (h : ∀ i, p i = 0 ∨ p i = 1) (hx : x = 0 ∨ x = 1) : ∀ i, upd p k x i = 0 ∨ upd p k x i = 1 := by
  intro i
  by_cases e : i = k
  · rw [e, pk_us]; exact hx
  · rw [pk_un e]; exact h i
theorem fd_upd0 (w : Nat → Int32) (k : Nat) : upd w k (w k) = w := by
  funext i
  by_cases e : i = k
  · rw [e, pk_us]
  · rw [pk_un e]
def fd_mw (w : Nat → Int32) (r a b c : Nat) : Nat → Int32 := upd (upd (upd (upd (upd (upd w (6 * r) (nI a)) (6 * r + 1) (nI b)) (6 * r + 2) (nI c)) (6 * r + 3) 0) (6 * r + 4) 0) (6 * r + 5) 0
theorem fd_mV {w : Nat → Int32} {r a b c : Nat} (V : fd_V w) (ha : a < 10) (hb : b < 10) (hc : c < 10) : fd_V (fd_mw w r a b c) := by
  unfold fd_mw
  refine fd_Vu (fd_Vu (fd_Vu (fd_Vu (fd_Vu (fd_Vu V ?_ ?_) ?_ ?_) ?_ ?_) ?_ ?_) ?_ ?_) ?_ ?_
  · exact fun _ => ⟨a, ha, rfl⟩
  · intro h; omega
  · exact fun _ => ⟨b, hb, rfl⟩
  · intro h; omega
  · exact fun _ => ⟨c, hc, rfl⟩
  · intro h; omega
  · intro h; omega
  · intro h; omega
  · intro h; omega
  · exact fun _ => fd_z
  · intro h; omega
  · exact fun _ => fd_z
section
variable {p w fl ff fs hi mk : Nat → Int32} {md : Int32}
theorem fd_Xlf {post : Int32 → Prop} (hp : post (nI (fd_fi (fun d => decide (p d = 0)) 48 0))) : wpX_leastFree post (p, w, fl, ff, fs) := by
  unfold wpX_leastFree
  refine fd_find (fun n x => wX_leastFree_2 post p w fl ff fs n x) (fun d => decide (p d = 0)) 48 (fun r => post (nI r)) (fun n h => br_t fd_l48 h) ?_ hp
  intro n x hx H0 H1
  have e := fd_cl (x := x) (by omega)
  refine br_f (fd_g48 hx) ⟨vp_in_nI hx (by omega), br_c (fun h0 => ?_) (fun h0 => ?_)⟩
  · rw [e] at h0
    exact H1 (decide_eq_true h0)
  · rw [e] at h0
    exact nm_e (H0 (decide_eq_false h0))
theorem fd_Xmw {P : Prop} {A : (Nat → Int32) → (Nat → Int32) → Prop} {r a b c : Nat} (hr : r < 48) (h : A (upd p r 1) (fd_mw w r a b c)) (hP : (vp_in (nI r) 48 ∧ ∀ q : Nat → Int32, q = upd p (nI r).toNatClampNeg (vp_nar .boolean 1) → (∀ x : Int32, x = nI r * 6 → (vp_in x 288 ∧ ∀ w1 : Nat → Int32, w1 = upd w x.toNatClampNeg (nI a) → (vp_in (x + 1) 288 ∧ ∀ w2 : Nat → Int32, w2 = upd w1 (x + 1).toNatClampNeg (nI b) → (vp_in (x + 2) 288 ∧ ∀ w3 : Nat → Int32, w3 = upd w2 (x + 2).toNatClampNeg (nI c) → (vp_in (x + 3) 288 ∧ ∀ w4 : Nat → Int32, w4 = upd w3 (x + 3).toNatClampNeg 0 → (vp_in (x + 4) 288 ∧ ∀ w5 : Nat → Int32, w5 = upd w4 (x + 4).toNatClampNeg 0 → (vp_in (x + 5) 288 ∧ ∀ w6 : Nat → Int32, w6 = upd w5 (x + 5).toNatClampNeg 0 → A q w6)))))))) → P) : P := by
  apply hP
  have e0 : nI r * 6 = nI (6 * r) := by rw [show (6 : Int32) = nI 6 from rfl, pk_mul, Nat.mul_comm]
  refine ⟨vp_in_nI hr (by omega), nm_r (by rw [fd_cl (x := r) (by omega), fd_v1]) (nm_r e0 ?_)⟩
  rw [show nI (6 * r) + 1 = nI (6 * r + 1) from nI_add _ 1, show nI (6 * r) + 2 = nI (6 * r + 2) from nI_add _ 2, show nI (6 * r) + 3 = nI (6 * r + 3) from nI_add _ 3, show nI (6 * r) + 4 = nI (6 * r + 4) from nI_add _ 4, show nI (6 * r) + 5 = nI (6 * r + 5) from nI_add _ 5]
  rw [fd_cl (x := 6 * r) (by omega), fd_cl (x := 6 * r + 1) (by omega), fd_cl (x := 6 * r + 2) (by omega), fd_cl (x := 6 * r + 3) (by omega), fd_cl (x := 6 * r + 4) (by omega), fd_cl (x := 6 * r + 5) (by omega)]
  exact ⟨vp_in_nI (by omega) (by omega), nm_e ⟨vp_in_nI (by omega) (by omega), nm_e ⟨vp_in_nI (by omega) (by omega), nm_e ⟨vp_in_nI (by omega) (by omega), nm_e ⟨vp_in_nI (by omega) (by omega), nm_e ⟨vp_in_nI (by omega) (by omega), nm_e h⟩⟩⟩⟩⟩⟩
theorem fd_Ymk {post : Int32 → SY → Prop} {a b c : Nat} (hp : (fd_fi (fun d => decide (p d = 0)) 48 0 = 48 → post (-4) (md, p, w, fl, ff, hi, mk)) ∧ (fd_fi (fun d => decide (p d = 0)) 48 0 < 48 → post (nI (fd_fi (fun d => decide (p d = 0)) 48 0)) (md, upd p (fd_fi (fun d => decide (p d = 0)) 48 0) 1, fd_mw w (fd_fi (fun d => decide (p d = 0)) 48 0) a b c, fl, ff, hi, mk))) : ∃ n, wY_make_36 post (nI a) (nI b) (nI c) md p w fl ff hi mk n 0 := by
  refine fd_find (fun n x => wY_make_36 post (nI a) (nI b) (nI c) md p w fl ff hi mk n x) (fun d => decide (p d = 0)) 48 (fun r => (r = 48 → post (-4) (md, p, w, fl, ff, hi, mk)) ∧ (r < 48 → post (nI r) (md, upd p r 1, fd_mw w r a b c, fl, ff, hi, mk))) (fun n h => br_t fd_l48 (h.1 rfl)) ?_ hp
  intro n r hr H0 H1
  have e := fd_cl (x := r) (by omega)
  refine br_f (fd_g48 hr) ⟨vp_in_nI hr (by omega), br_c (fun h0 => ?_) (fun h0 => ?_)⟩
  · rw [e] at h0
    have h := (H1 (decide_eq_true h0)).2 hr
    have e0 : 6 * nI r = nI (6 * r) := by rw [show (6 : Int32) = nI 6 from rfl, pk_mul]
    refine ⟨vp_in_nI hr (by omega), nm_r (by rw [fd_cl (x := r) (by omega), fd_v1]) ?_⟩
    rw [e0, show nI (6 * r) + 1 = nI (6 * r + 1) from nI_add _ 1, show nI (6 * r) + 2 = nI (6 * r + 2) from nI_add _ 2, show nI (6 * r) + 3 = nI (6 * r + 3) from nI_add _ 3, show nI (6 * r) + 4 = nI (6 * r + 4) from nI_add _ 4, show nI (6 * r) + 5 = nI (6 * r + 5) from nI_add _ 5]
    rw [fd_cl (x := 6 * r) (by omega), fd_cl (x := 6 * r + 1) (by omega), fd_cl (x := 6 * r + 2) (by omega), fd_cl (x := 6 * r + 3) (by omega), fd_cl (x := 6 * r + 4) (by omega), fd_cl (x := 6 * r + 5) (by omega)]
    exact ⟨vp_in_nI (by omega) (by omega), nm_e ⟨vp_in_nI (by omega) (by omega), nm_e ⟨vp_in_nI (by omega) (by omega), nm_e ⟨vp_in_nI (by omega) (by omega), nm_e ⟨vp_in_nI (by omega) (by omega), nm_e ⟨vp_in_nI (by omega) (by omega), nm_e h⟩⟩⟩⟩⟩⟩
  · rw [e] at h0
    exact nm_e (H0 (decide_eq_false h0))
/-- set: the value's test -/
def fd_lo (f : Nat) : Int32 := if f < 4 then 0 else -999
def fd_hi (f : Nat) : Int32 := if f < 3 then 9 else if f = 3 then 255 else 999
theorem fd_Xvo {post : Int32 → Prop} {f : Nat} {x : Int32} (hf : f < 6) (h0 : (x < fd_lo f ∨ ¬ x ≤ fd_hi f) → post 0) (h1 : ¬ x < fd_lo f → x ≤ fd_hi f → post 1) : wpX_isValueOf post (nI f) x := by
  unfold fd_lo fd_hi at h0 h1
  refine pk_le 3 f (fun h3 => pk_eq f 3 (fun h => ?_) (fun h => ?_)) (fun h3 => ?_)
  · rw [if_pos (by omega), if_neg (by omega), if_pos h] at h0 h1
    exact br_c (fun h5 => h0 (Or.inl h5)) (fun h5 => br_c (fun h6 => h0 (Or.inr (Int32.not_le.mpr h6))) (fun h6 => h1 h5 (Int32.not_lt.mp h6)))
  · rw [if_neg (by omega), if_neg (by omega), if_neg h] at h0 h1
    exact br_c (fun h5 => h0 (Or.inl h5)) (fun h5 => br_c (fun h6 => h0 (Or.inr (Int32.not_le.mpr h6))) (fun h6 => h1 h5 (Int32.not_lt.mp h6)))
  · rw [if_pos (by omega), if_pos h3] at h0 h1
    rcases fd_c10 h3 x with ⟨hX, hc⟩ | ⟨t, ht, rfl, hX, n1, n2, n3⟩
    · refine hX ⟨rfl, h0 ?_⟩
      rcases hc with hc | hc
      · exact Or.inl hc
      · exact Or.inr hc.2.2
    · exact hX ⟨rfl, h1 n1 n3⟩
theorem fd_Yvo {post : Int32 → SY → Prop} {f d : Nat} {x : Int32} (hf : f < 6) (h : wY_set_60 post (nI d) (nI f) x (fd_lo f) (fd_hi f) md p w fl ff hi mk) : ((4 : Int32) ≤ nI f → wY_set_34 post (nI d) (nI f) x (-999) md p w fl ff hi mk) ∧ (¬ (4 : Int32) ≤ nI f → wY_set_34 post (nI d) (nI f) x 0 md p w fl ff hi mk) := by
  unfold fd_lo fd_hi at h
  refine pk_le 4 f (fun h4 => ?_) (fun h4 => ?_)
  · rw [if_neg (by omega), if_neg (by omega), if_neg (by omega)] at h
    exact pk_le 3 f (fun _ => pk_eq f 3 (fun z => absurd z (by omega)) (fun _ => h)) (fun z => absurd z (by omega))
  · rw [if_pos h4] at h
    refine pk_le 3 f (fun h3 => pk_eq f 3 (fun z => ?_) (fun z => absurd z (by omega))) (fun h3 => ?_)
    · rw [if_neg (by omega), if_pos z] at h; exact h
    · rw [if_pos h3] at h; exact h
theorem fd_svV {f d : Nat} {x : Int32} (V : fd_V w) (hf : f < 6) (h1 : ¬ x < fd_lo f) (h2 : x ≤ fd_hi f) : fd_V (upd w (6 * d + f) x) := by
  refine fd_Vu V (fun h => ?_) (fun h => ?_)
  · have hf3 : f < 3 := by omega
    unfold fd_lo at h1
    unfold fd_hi at h2
    rw [if_pos (by omega)] at h1
    rw [if_pos hf3] at h2
    rcases fd_c10 hf3 x with ⟨_, hc⟩ | ⟨t, ht, rfl, _⟩
    · rcases hc with hc | hc
      · exact absurd hc h1
      · exact absurd h2 hc.2.2
    · exact ⟨t, ht, rfl⟩
  · intro e
    unfold fd_lo at h1
    rw [if_neg (by omega), e] at h1
    exact h1 (by decide)
end
