/-- what the two states hold beside their equal arrays -/
def fd_R (p w fs hi : Nat → Int32) (md : Int32) : Prop :=
  (∀ i, p i = 0 ∨ p i = 1) ∧ fs 3 = md ∧ fs 4 = hi 4 ∧ fs 5 = hi 5 ∧ (∀ i, i % 6 < 3 → ∃ j : Nat, j < 10 ∧ w i = nI j) ∧ (∀ i, 4 ≤ i % 6 → ¬ w i = -2002)
def i_Rel (_ : Nat) (u : SX) (v : SY) : Prop := ∃ p w fl ff fs hi mk : Nat → Int32, ∃ md : Int32, u = (p, w, fl, ff, fs) ∧ v = (md, p, w, fl, ff, hi, mk) ∧ fd_R p w fs hi md
theorem i_up {k : Nat} {u : SX} {v : SY} (h : i_Rel k u v) : i_Rel (k + 4) u v := h
theorem fd_z : ¬ (0 : Int32) = -2002 := by decide
theorem fd_no {A : Prop} (h : false = true) : A := nomatch h
theorem i_vc0 : wpX_init (fun u => wpY_init (fun v => i_Rel 0 u v)) :=
  ⟨fun _ => 0, fun _ => 0, fun _ => 0, fun _ => 0, fun _ => 0, fun _ => 0, fun _ => 0, 0, rfl, rfl, fun _ => Or.inl rfl, rfl, rfl, rfl, fun _ _ => ⟨0, by omega, rfl⟩, fun _ _ => fd_z⟩
section
variable {p w fl ff fs hi mk : Nat → Int32} {md : Int32} {post : Int32 → Prop}
theorem fd_rel (k : Nat) (R : fd_R p w fs hi md) : i_Rel k (p, w, fl, ff, fs) (md, p, w, fl, ff, hi, mk) :=
  ⟨p, w, fl, ff, fs, hi, mk, md, rfl, rfl, R⟩
theorem fd_YM {d : Nat} {s : Int32} (R : fd_R p w fs hi md) (hd : d < 48) (hp : post (fd_b (fd_M p w fl ff fs d s))) : wpY_matches post (md, p, w, fl, ff, hi, mk) (nI d) s :=
  fd_Ym R.1 R.2.1 R.2.2.1 R.2.2.2.1 hd hp
theorem fd_XM {d : Nat} (hd : d < 48) (hp : post (fd_b (fd_M p w fl ff fs d (-1)))) : wpX_matches post (p, w, fl, ff, fs) (nI d) := by
  unfold wpX_matches
  exact fd_Xm hd ⟨fd_bn _, hp⟩
theorem fd_g48 {x : Nat} (h : x < 48) : ¬ (48 : Int32) ≤ nI x := nI_ge (a := x) (b := 48) h (by omega)
theorem fd_l48 : (48 : Int32) ≤ nI 48 := nI_le (a := 48) (b := 48) (by omega) (by omega)
theorem fd_cl {x : Nat} (h : x < 2 ^ 31) : (nI x).toNatClampNeg = x := nI_clamp h
/-- documents -/
theorem fd_Xdocs (hp : post (nI (fd_c (fun d => decide (¬ p d = 0)) 48))) : wpX_documents post (p, w, fl, ff, fs) := by
  unfold wpX_documents
  refine fd_cnt (fun n c x => wX_documents_4 post p w fl ff fs n c x) (fun d => decide (¬ p d = 0)) 48 post (fun n c h => br_t fd_l48 h) ?_ hp
  intro n c x hx H0 H1
  have e := fd_cl (x := x) (by omega)
  refine br_f (fd_g48 hx) ⟨vp_in_nI hx (by omega), br_c (fun h0 => ?_) (fun h0 => ?_)⟩
  · rw [e] at h0
    exact nm_e (H0 (decide_eq_false (fun z => z h0)))
  · rw [e] at h0
    exact nm_e (nm_e (H1 (decide_eq_true h0)))
theorem fd_Ydocs (hp : post (nI (fd_c (fun d => decide (¬ p d = 0)) 48))) : wpY_documents post (md, p, w, fl, ff, hi, mk) := by
  unfold wpY_documents
  refine fd_cnt (fun n c x => wY_documents_4 post md p w fl ff hi mk n c x) (fun d => decide (¬ p d = 0)) 48 post (fun n c h => br_t fd_l48 h) ?_ hp
  intro n c x hx H0 H1
  have e := fd_cl (x := x) (by omega)
  refine br_f (fd_g48 hx) ⟨vp_in_nI hx (by omega), br_c (fun h0 => ?_) (fun h0 => ?_)⟩
  · rw [e] at h0
    exact nm_e (H0 (decide_eq_false (fun z => z h0)))
  · rw [e] at h0
    exact nm_e (nm_e (H1 (decide_eq_true h0)))
/-- matching -/
theorem fd_Xmat (hp : post (nI (fd_c (fun d => fd_M p w fl ff fs d (-1)) 48))) : wpX_matching post (p, w, fl, ff, fs) := by
  unfold wpX_matching
  refine fd_cnt (fun n c x => wX_matching_4 post p w fl ff fs n c x) (fun d => fd_M p w fl ff fs d (-1)) 48 post (fun n c h => br_t fd_l48 h) ?_ hp
  intro n c x hx H0 H1
  exact br_f (fd_g48 hx) (fd_XM hx (fd_br (fun hb => nm_e (H0 hb)) (fun hb => nm_e (nm_e (H1 hb)))))
theorem fd_Ymat (R : fd_R p w fs hi md) (hp : post (nI (fd_c (fun d => fd_M p w fl ff fs d (-1)) 48))) : wpY_matching post (md, p, w, fl, ff, hi, mk) := by
  unfold wpY_matching
  refine fd_cnt (fun n c x => wY_matching_4 post md p w fl ff hi mk n c x) (fun d => fd_M p w fl ff fs d (-1)) 48 post (fun n c h => br_t fd_l48 h) ?_ hp
  intro n c x hx H0 H1
  exact br_f (fd_g48 hx) (fd_YM R hx (fd_br (fun hb => nm_e (H0 hb)) (fun hb => nm_e (nm_e (H1 hb)))))
/-- the tests of arguments -/
theorem fd_doc (x : Int32) : ∃ b : Bool, (b = true → ∃ d : Nat, d < 48 ∧ x = nI d) ∧ (∀ ⦃post : Int32 → Prop⦄, post (fd_b b) → wpX_isDocument post (p, w, fl, ff, fs) x) ∧ (∀ ⦃post : Int32 → Prop⦄, post (fd_b b) → wpY_isDocument post (md, p, w, fl, ff, hi, mk) x) := by
  by_cases h : x < 0
  · exact ⟨false, fd_no, fun _ hp => br_t h hp, fun _ hp => br_t h hp⟩
  · obtain ⟨j, hj, rfl⟩ := nI_of h
    by_cases h48 : j < 48
    · have e := fd_cl (x := j) (by omega)
      have i : vp_in (nI j) 48 := vp_in_nI h48 (by omega)
      have a1 : ¬ (47 : Int32) < nI j := nI_nlt (a := 47) (b := j) (by omega) (by omega)
      by_cases hz : p j = 0
      · have hz' : p (nI j).toNatClampNeg = 0 := by rw [e]; exact hz
        exact ⟨false, fd_no, fun _ hp => br_f h (br_f (fd_g48 h48) ⟨i, br_t hz' hp⟩), fun _ hp => br_f h (br_f a1 ⟨i, br_t hz' hp⟩)⟩
      · have hz' : ¬ p (nI j).toNatClampNeg = 0 := by rw [e]; exact hz
        exact ⟨true, fun _ => ⟨j, h48, rfl⟩, fun _ hp => br_f h (br_f (fd_g48 h48) ⟨i, br_f hz' hp⟩), fun _ hp => br_f h (br_f a1 ⟨i, br_f hz' hp⟩)⟩
    · have a1 : (48 : Int32) ≤ nI j := nI_le (a := 48) (b := j) (by omega) hj
      have a2 : (47 : Int32) < nI j := nI_lt (a := 47) (b := j) (by omega) hj
      exact ⟨false, fd_no, fun _ hp => br_f h (br_t a1 hp), fun _ hp => br_f h (br_t a2 hp)⟩
theorem fd_num (x : Int32) : ∃ b : Bool, (b = true → ∃ f : Nat, (f = 4 ∨ f = 5) ∧ x = nI f) ∧ (∀ ⦃post : Int32 → Prop⦄, post (fd_b b) → wpX_isNumberField post x) ∧ (∀ ⦃post : Int32 → Prop⦄, post (fd_b b) → wpY_isNumberField post (md, p, w, fl, ff, hi, mk) x) := by
  by_cases h : x < 0
  · have a1 : x ≤ 3 := Int32.le_of_lt (Int32.lt_trans h (by decide))
    have a2 : ¬ x = 4 := fun e => absurd h (by rw [e]; decide)
    have a3 : ¬ x = 5 := fun e => absurd h (by rw [e]; decide)
    exact ⟨false, fd_no, fun _ hp => br_t a1 hp, fun _ hp => br_f a2 (br_f a3 hp)⟩
  · obtain ⟨j, hj, rfl⟩ := nI_of h
    by_cases h4 : j = 4
    · subst h4
      exact ⟨true, fun _ => ⟨4, Or.inl rfl, rfl⟩, fun _ hp => br_f (by decide) (br_f (by decide) hp), fun _ hp => br_t rfl hp⟩
    · by_cases h5 : j = 5
      · subst h5
        exact ⟨true, fun _ => ⟨5, Or.inr rfl, rfl⟩, fun _ hp => br_f (by decide) (br_f (by decide) hp), fun _ hp => br_f (by decide) (br_t rfl hp)⟩
      · exact ⟨false, fd_no, fun _ hp => pk_le j 3 (fun _ => hp) (fun _ => pk_le 6 j (fun _ => hp) (fun _ => absurd h4 (by omega))), fun _ hp => pk_eq j 4 (fun z => absurd z h4) (fun _ => pk_eq j 5 (fun z => absurd z h5) (fun _ => hp))⟩
theorem fd_grp (x : Int32) : ∃ b : Bool, (b = true → ∃ f : Nat, f < 4 ∧ x = nI f) ∧ (∀ ⦃post : Int32 → Prop⦄, post (fd_b b) → wpX_isGroupField post x) ∧ (∀ ⦃post : Int32 → Prop⦄, post (fd_b b) → wpY_isGroupField post (md, p, w, fl, ff, hi, mk) x) := by
  by_cases h : x < 0
  · exact ⟨false, fd_no, fun _ hp => br_t h hp, fun _ hp => br_t h hp⟩
  · obtain ⟨j, hj, rfl⟩ := nI_of h
    by_cases h4 : j < 4
    · have a1 : ¬ (3 : Int32) < nI j := nI_nlt (a := 3) (b := j) (by omega) (by omega)
      exact ⟨true, fun _ => ⟨j, h4, rfl⟩, fun _ hp => br_f h (br_f a1 hp), fun _ hp => br_f h (br_f a1 hp)⟩
    · have a1 : (3 : Int32) < nI j := nI_lt (a := 3) (b := j) (by omega) hj
      exact ⟨false, fd_no, fun _ hp => br_f h (br_t a1 hp), fun _ hp => br_f h (br_t a1 hp)⟩
/-- how many terms field f has -/
def fd_T (f : Nat) : Nat := if f = 3 then 8 else 10
theorem fd_Xto {f : Nat} (hf : f < 6) (hp : post (nI (fd_T f))) : wpX_termsOf post (nI f) := by
  unfold fd_T at hp
  exact pk_eq f 3 (fun h => by rw [if_pos h] at hp; exact hp) (fun h => by rw [if_neg h] at hp; exact hp)
theorem fd_Tle (f : Nat) : 0 < fd_T f ∧ fd_T f ≤ 10 := by
  unfold fd_T; split <;> omega
theorem fd_Xit {f t : Nat} (hf : f < 6) (ht : t < 2 ^ 31) (hp : post (fd_b (decide (t < fd_T f)))) : wpX_isTermOf post (nI f) (nI t) := by
  have hT := fd_Tle f
  refine br_f (nI_pos ht) (fd_Xto hf (pk_le (fd_T f) t (fun h => ?_) (fun h => ?_)))
  · rw [decide_eq_false (by omega)] at hp; exact hp
  · rw [decide_eq_true h] at hp; exact hp
theorem fd_Yit {f t : Nat} (hf : f < 6) (ht : t < 2 ^ 31) (hp : post (fd_b (decide (t < fd_T f)))) : wpY_isTerm post (md, p, w, fl, ff, hi, mk) (nI f) (nI t) := by
  unfold fd_T at hp
  refine br_f (nI_pos ht) (pk_eq f 3 (fun h => ?_) (fun h => ?_))
  · rw [if_pos h] at hp
    refine pk_lt 7 t (fun h => ?_) (fun h => ?_)
    · rw [decide_eq_false (by omega)] at hp; exact hp
    · rw [decide_eq_true (by omega)] at hp; exact hp
  · rw [if_neg h] at hp
    refine pk_lt 9 t (fun h => ?_) (fun h => ?_)
    · rw [decide_eq_false (by omega)] at hp; exact hp
    · rw [decide_eq_true (by omega)] at hp; exact hp
theorem fd_trm {f : Nat} (hf : f < 6) (x : Int32) : ∃ b : Bool, (b = true → ∃ t : Nat, t < fd_T f ∧ x = nI t) ∧ (∀ ⦃post : Int32 → Prop⦄, post (fd_b b) → wpX_isTermOf post (nI f) x) ∧ (∀ ⦃post : Int32 → Prop⦄, post (fd_b b) → wpY_isTerm post (md, p, w, fl, ff, hi, mk) (nI f) x) := by
  by_cases h : x < 0
  · exact ⟨false, fd_no, fun _ hp => br_t h hp, fun _ hp => br_t h hp⟩
  · obtain ⟨j, hj, rfl⟩ := nI_of h
    exact ⟨decide (j < fd_T f), fun z => ⟨j, of_decide_eq_true z, rfl⟩, fun _ hp => fd_Xit hf hj hp, fun _ hp => fd_Yit hf hj hp⟩
/-- has document d the term t in field f -/
def fd_hs (w : Nat → Int32) (f : Nat) (t : Int32) (d : Nat) : Bool :=
  if f = 3 then decide (((w (6 * d + f) >>> (t &&& 31)) &&& 1) = 1) else decide (w (6 * d + f) = t)
theorem fd_Xhs {d f : Nat} {t : Int32} (hd : d < 48) (hf : f < 6) (hp : post (fd_b (fd_hs w f t d))) : wpX_has post (p, w, fl, ff, fs) (nI d) (nI f) t := by
  unfold wpX_has
  dsimp only
  rw [fd_ix, fd_cl (x := 6 * d + f) (by omega)]
  unfold fd_hs at hp
  refine ⟨vp_in_nI (by omega) (by omega), nm_e (pk_eq f 3 (fun h => ?_) (fun h => ?_))⟩
  · rw [if_pos h] at hp
    exact br_c (fun h7 => by rw [decide_eq_true h7] at hp; exact hp) (fun h7 => by rw [decide_eq_false h7] at hp; exact hp)
  · rw [if_neg h] at hp
    exact br_c (fun h7 => by rw [decide_eq_true h7] at hp; exact hp) (fun h7 => by rw [decide_eq_false h7] at hp; exact hp)
theorem fd_Yhs {d f : Nat} {t : Int32} (hd : d < 48) (hf : f < 6) (hp : post (fd_b (fd_hs w f t d))) : wpY_has post (md, p, w, fl, ff, hi, mk) (nI d) (nI f) t := by
  unfold wpY_has
  dsimp only
  rw [fd_iy, fd_cl (x := 6 * d + f) (by omega)]
  unfold fd_hs at hp
  refine ⟨vp_in_nI (by omega) (by omega), nm_e (pk_eq f 3 (fun h => ?_) (fun h => ?_))⟩
  · rw [if_pos h] at hp
    exact br_c (fun h7 => by rw [decide_eq_true h7] at hp; exact hp) (fun h7 => by rw [decide_eq_false h7] at hp; exact hp)
  · rw [if_neg h] at hp
    exact br_c (fun h7 => by rw [decide_eq_true h7] at hp; exact hp) (fun h7 => by rw [decide_eq_false h7] at hp; exact hp)
/-- the facet's count -/
def fd_q2 (p w fl ff fs : Nat → Int32) (f : Nat) (t s : Int32) (d : Nat) : Bool := fd_hs w f t d && fd_M p w fl ff fs d s
theorem fd_q2a {f d : Nat} {t s : Int32} (h : fd_hs w f t d = false) : fd_q2 p w fl ff fs f t s d = false := by unfold fd_q2; rw [h]; rfl
theorem fd_q2b {f d : Nat} {t s : Int32} (h : fd_M p w fl ff fs d s = false) : fd_q2 p w fl ff fs f t s d = false := by unfold fd_q2; rw [h, Bool.and_false]
theorem fd_q2c {f d : Nat} {t s : Int32} (h : fd_hs w f t d = true) (h2 : fd_M p w fl ff fs d s = true) : fd_q2 p w fl ff fs f t s d = true := by unfold fd_q2; rw [h, h2]; rfl
def fd_C (p w fl ff fs : Nat → Int32) (f : Nat) (t : Nat) : Int32 := nI (fd_c (fd_q2 p w fl ff fs f (nI t) (nI f)) 48)
theorem fd_Xcb {f t : Nat} (hf : f < 6) (hp : post (fd_C p w fl ff fs f t)) : wpX_countBeside post (p, w, fl, ff, fs) (nI f) (nI t) := by
  unfold wpX_countBeside
  refine fd_cnt (fun n c x => wX_countBeside_5 post (nI f) (nI t) p w fl ff fs n c x) (fd_q2 p w fl ff fs f (nI t) (nI f)) 48 post (fun n c h => br_t fd_l48 h) ?_ hp
  intro n c x hx H0 H1
  exact br_f (fd_g48 hx) (fd_Xhs hx hf (fd_br (fun hb => nm_e (H0 (fd_q2a hb))) (fun hb => fd_Xm hx (fd_br (fun hc => nm_e (H0 (fd_q2b hc))) (fun hc => nm_e (nm_e (H1 (fd_q2c hb hc))))))))
theorem fd_Ycb {f t : Nat} (R : fd_R p w fs hi md) (hf : f < 6) (hp : post (fd_C p w fl ff fs f t)) : wpY_facetOf post (md, p, w, fl, ff, hi, mk) (nI f) (nI t) := by
  unfold wpY_facetOf
  refine fd_cnt (fun n c x => wY_facetOf_5 post (nI f) (nI t) md p w fl ff hi mk n c x) (fd_q2 p w fl ff fs f (nI t) (nI f)) 48 post (fun n c h => br_t fd_l48 h) ?_ hp
  intro n c x hx H0 H1
  exact br_f (fd_g48 hx) (fd_YM R hx (fd_br (fun hc => nm_e (H0 (fd_q2b hc))) (fun hc => fd_Yhs hx hf (fd_br (fun hb => nm_e (H0 (fd_q2a hb))) (fun hb => nm_e (nm_e (H1 (fd_q2c hb hc))))))))
end
