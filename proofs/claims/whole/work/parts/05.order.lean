section
variable {p w fl ff fs hi mk : Nat → Int32} {md : Int32} {post : Int32 → Prop}
/-- topTerm: is term o ahead of term t, where C counts -/
def fd_ah (C : Nat → Int32) (t o : Nat) : Bool := if C t < C o then true else if C o = C t then decide (o < t) else false
def fd_A (C : Nat → Int32) (T t : Nat) : Int32 := nI (fd_c (fd_ah C t) T)
theorem fd_Xta {f t : Nat} (hf : f < 6) (ht : t < 10) (hp : post (fd_A (fd_C p w fl ff fs f) (fd_T f) t)) : wpX_termsAhead post (p, w, fl, ff, fs) (nI f) (nI t) := by
  have hT := fd_Tle f
  refine fd_Xcb hf (fd_Xto hf ?_)
  refine fd_cnt (fun n c x => wX_termsAhead_19 post (nI f) (nI t) (fd_C p w fl ff fs f t) (nI (fd_T f)) p w fl ff fs n c x) (fd_ah (fd_C p w fl ff fs f) t) (fd_T f) post (fun n c h => br_t (nI_le (Nat.le_refl _) (by omega)) h) ?_ hp
  intro n c x hx H0 H1
  unfold fd_ah at H0 H1
  refine br_f (nI_ge hx (by omega)) (fd_Xcb hf (br_c (fun h1 => ?_) (fun h1 => br_c (fun h2 => pk_le t x (fun h3 => ?_) (fun h3 => ?_)) (fun h2 => ?_))))
  · exact nm_e (nm_e (H1 (by rw [if_pos h1])))
  · exact nm_e (H0 (by rw [if_neg h1, if_pos h2, decide_eq_false (by omega)]))
  · exact nm_e (nm_e (H1 (by rw [if_neg h1, if_pos h2, decide_eq_true (by omega)])))
  · exact nm_e (H0 (by rw [if_neg h1, if_neg h2]))
def fd_tq (C : Nat → Int32) (T : Nat) (k : Int32) (t : Nat) : Bool := if C t ≤ 0 then false else decide (fd_A C T t = k)
theorem fd_Xtt {f : Nat} {k : Int32} (hf : f < 6) (hp : post (if fd_fi (fd_tq (fd_C p w fl ff fs f) (fd_T f) k) (fd_T f) 0 = fd_T f then -6 else nI (fd_fi (fd_tq (fd_C p w fl ff fs f) (fd_T f) k) (fd_T f) 0))) : ∃ n, wX_topTerm_18 post (nI f) k (nI (fd_T f)) p w fl ff fs n 0 := by
  have hT := fd_Tle f
  refine fd_find (fun n x => wX_topTerm_18 post (nI f) k (nI (fd_T f)) p w fl ff fs n x) (fd_tq (fd_C p w fl ff fs f) (fd_T f) k) (fd_T f) (fun r => post (if r = fd_T f then -6 else nI r)) (fun n h => br_t (nI_le (Nat.le_refl _) (by omega)) (by rw [if_pos rfl] at h; exact h)) ?_ hp
  intro n x hx H0 H1
  unfold fd_tq at H0 H1
  refine br_f (nI_ge hx (by omega)) (fd_Xcb hf (br_c (fun h1 => ?_) (fun h1 => fd_Xta hf (by omega) (br_c (fun h2 => ?_) (fun h2 => ?_)))))
  · exact nm_e (H0 (by rw [if_pos h1]))
  · have := H1 (by rw [if_neg h1, decide_eq_true h2])
    rw [if_neg (by omega)] at this
    exact this
  · exact nm_e (H0 (by rw [if_neg h1, decide_eq_false h2]))
theorem fd_c_ext {q r : Nat → Bool} {T : Nat} (h1 : ∀ x, x < T → q x = r x) (h2 : ∀ x, T ≤ x → r x = false) : ∀ k, fd_c r (T + k) = fd_c q T := by
  intro k
  induction k with
  | zero => exact (fd_c_congr T h1).symm
  | succ k ih =>
    show fd_c r (T + k) + (if r (T + k) then 1 else 0) = _
    rw [h2 (T + k) (by omega), ih]
    rfl
theorem fd_Yta {J : Int32 → Prop} {f t : Nat} {k : Int32} (R : fd_R p w fs hi md) (hf : f < 6) (ht : t < 10) (h0 : ¬ fd_C p w fl ff fs f t ≤ 0) (hy : fd_A (fd_C p w fl ff fs f) (fd_T f) t = k → post (nI t)) (hn : ¬ fd_A (fd_C p w fl ff fs f) (fd_T f) t = k → J (nI t + 1)) : ∃ n, wY_topTerm_46 post J (nI f) k (nI t) (fd_C p w fl ff fs f t) md p w fl ff hi mk n 0 0 := by
  have hT := fd_Tle f
  have e : fd_A (fd_C p w fl ff fs f) (fd_T f) t = nI (fd_c (fun o => if o < fd_T f then fd_ah (fd_C p w fl ff fs f) t o else false) 10) := by
    have := fd_c_ext (q := fd_ah (fd_C p w fl ff fs f) t) (r := fun o => if o < fd_T f then fd_ah (fd_C p w fl ff fs f) t o else false) (T := fd_T f) (fun x hx => by rw [if_pos hx]) (fun x hx => by rw [if_neg (by omega)]) (10 - fd_T f)
    rw [show fd_T f + (10 - fd_T f) = 10 from by omega] at this
    unfold fd_A
    rw [this]
  rw [e] at hy hn
  refine fd_cnt (fun n c x => wY_topTerm_46 post J (nI f) k (nI t) (fd_C p w fl ff fs f t) md p w fl ff hi mk n c x) _ 10 (fun c => wY_topTerm_118 post J (nI f) k (nI t) (fd_C p w fl ff fs f t) c md p w fl ff hi mk) (fun n c h => br_t (nI_le (a := 10) (b := 10) (by omega) (by omega)) h) ?_ (br_f h0 (br_c (fun h => hy h) (fun h => nm_e (hn h))))
  intro n c x hx H0 H1
  refine br_f (nI_ge (a := x) (b := 10) hx (by omega)) (br_f h0 (fd_Yit hf (by omega) (fd_br (fun hb => ?_) (fun hb => fd_Ycb R hf ?_))))
  · have hb' : ¬ x < fd_T f := of_decide_eq_false hb
    rw [if_neg hb'] at H0
    have a1 : ¬ fd_C p w fl ff fs f t < 0 := fun z => h0 (Int32.le_of_lt z)
    have a2 : ¬ 0 = fd_C p w fl ff fs f t := fun z => h0 (by rw [← z]; exact Int32.le_refl 0)
    exact br_f a1 (br_f a2 (nm_e (H0 rfl)))
  · have hb' : x < fd_T f := of_decide_eq_true hb
    rw [if_pos hb'] at H0 H1
    unfold fd_ah at H0 H1
    refine br_c (fun h1 => ?_) (fun h1 => br_c (fun h2 => pk_le t x (fun h3 => ?_) (fun h3 => ?_)) (fun h2 => ?_))
    · exact nm_e (nm_e (H1 (by rw [if_pos h1])))
    · exact nm_e (H0 (by rw [if_neg h1, if_pos h2, decide_eq_false (by omega)]))
    · exact nm_e (nm_e (H1 (by rw [if_neg h1, if_pos h2, decide_eq_true (by omega)])))
    · exact nm_e (H0 (by rw [if_neg h1, if_neg h2]))
theorem fd_Yts {J : Int32 → Prop} {f t : Nat} {k c : Int32} (h0 : c ≤ 0) (h : J (nI t + 1)) : ∃ n, wY_topTerm_46 post J (nI f) k (nI t) c md p w fl ff hi mk n 0 0 :=
  ⟨1, br_f (by decide) (br_t h0 (br_t h0 (nm_e h)))⟩
theorem fd_Yto {f t n : Nat} {k : Int32} (hf : f < 6) (ht : t < 10) (hT : fd_T f ≤ t) (h : wY_topTerm_13 post (nI f) k md p w fl ff hi mk n (nI t + 1)) : wY_topTerm_13 post (nI f) k md p w fl ff hi mk (n + 1) (nI t) := by
  refine br_f (nI_ge (a := t) (b := 10) ht (by omega)) (fd_Yit hf (by omega) ?_)
  rw [decide_eq_false (by omega)]
  exact br_t rfl (fd_Yts (by decide) h)
theorem fd_Ytt {f : Nat} {k : Int32} (R : fd_R p w fs hi md) (hf : f < 6) (hp : post (if fd_fi (fd_tq (fd_C p w fl ff fs f) (fd_T f) k) (fd_T f) 0 = fd_T f then -6 else nI (fd_fi (fd_tq (fd_C p w fl ff fs f) (fd_T f) k) (fd_T f) 0))) : ∃ n, wY_topTerm_13 post (nI f) k md p w fl ff hi mk n 0 := by
  have hT := fd_Tle f
  have h10 : (10 : Int32) ≤ nI 10 := nI_le (a := 10) (b := 10) (by omega) (by omega)
  refine fd_find (fun n x => wY_topTerm_13 post (nI f) k md p w fl ff hi mk n x) (fd_tq (fd_C p w fl ff fs f) (fd_T f) k) (fd_T f) (fun r => post (if r = fd_T f then -6 else nI r)) (fun n h => ?_) ?_ hp
  · rw [if_pos rfl] at h
    have hc : fd_T f = 8 ∨ fd_T f = 10 := by unfold fd_T; split <;> simp
    rcases hc with hc | hc
    · rw [hc]
      refine fd_Yto hf (by omega) (by omega) ?_
      rw [nI_1]
      refine fd_Yto hf (by omega) (by omega) ?_
      rw [nI_1]
      exact br_t h10 h
    · rw [hc]
      exact br_t h10 h
  · intro n x hx H0 H1
    unfold fd_tq at H0 H1
    refine br_f (nI_ge (a := x) (b := 10) (by omega) (by omega)) (fd_Yit hf (by omega) ?_)
    rw [decide_eq_true hx]
    refine br_f (by decide) (fd_Ycb R hf ?_)
    by_cases h1 : fd_C p w fl ff fs f x ≤ 0
    · exact fd_Yts h1 (H0 (by rw [if_pos h1]))
    · rw [if_neg h1] at H0 H1
      refine fd_Yta R hf (by omega) h1 (fun h2 => ?_) (fun h2 => H0 (decide_eq_false h2))
      have := H1 (decide_eq_true h2)
      rw [if_neg (by omega)] at this
      exact this
/-- sorted, ranked: is document e before d -/
def fd_bf (w : Nat → Int32) (f : Nat) (o : Int32) (d e : Nat) : Bool :=
  if w (6 * e + f) = w (6 * d + f) then decide (e < d) else if o = 0 then decide (¬ w (6 * d + f) ≤ w (6 * e + f)) else decide (¬ w (6 * e + f) ≤ w (6 * d + f))
def fd_bq (p w fl ff fs : Nat → Int32) (f : Nat) (o : Int32) (d e : Nat) : Bool := fd_bf w f o d e && fd_M p w fl ff fs e (-1)
def fd_B (p w fl ff fs : Nat → Int32) (f : Nat) (o : Int32) (d : Nat) : Int32 := nI (fd_c (fd_bq p w fl ff fs f o d) 48)
theorem fd_Xda {f d : Nat} {o : Int32} (hf : f < 6) (hd : d < 48) (hp : post (fd_B p w fl ff fs f o d)) : wpX_documentsAhead post (p, w, fl, ff, fs) (nI d) (nI f) o := by
  unfold wpX_documentsAhead
  dsimp only
  rw [fd_ix, fd_cl (x := 6 * d + f) (by omega)]
  refine ⟨vp_in_nI (by omega) (by omega), nm_e ?_⟩
  refine fd_cnt (fun n c x => wX_documentsAhead_19 post (nI d) (nI f) o (w (6 * d + f)) p w fl ff fs n c x) (fd_bq p w fl ff fs f o d) 48 post (fun n c h => br_t fd_l48 h) ?_ hp
  intro n c x hx H0 H1
  refine br_f (fd_g48 hx) ?_
  rw [fd_ix, fd_cl (x := 6 * x + f) (by omega)]
  refine ⟨vp_in_nI (by omega) (by omega), nm_e ?_⟩
  unfold fd_bq at H0 H1
  have K1 : fd_bf w f o d x = true → wX_documentsAhead_103 post (wX_documentsAhead_19 post (nI d) (nI f) o (w (6 * d + f)) p w fl ff fs n) (nI d) (nI f) o (w (6 * d + f)) c (nI x) p w fl ff fs := by
    intro hb
    rw [hb] at H0 H1
    exact fd_XM hx (fd_br (fun hm => nm_e (H0 hm)) (fun hm => nm_e (nm_e (H1 hm))))
  have K2 : ∀ a b : Bool, fd_bf w f o d x = (a || b) → wX_documentsAhead_91 post (wX_documentsAhead_19 post (nI d) (nI f) o (w (6 * d + f)) p w fl ff fs n) (nI d) (nI f) o (w (6 * d + f)) c (nI x) (fd_b a) (fd_b b) p w fl ff fs := by
    intro a b hab
    refine fd_br (fun ha => fd_br (fun hb => ?_) (fun hb => ?_)) (fun ha => ?_)
    · rw [ha, hb] at hab
      rw [hab] at H0
      exact nm_e (H0 rfl)
    · exact K1 (by rw [hab, hb, Bool.or_true])
    · exact K1 (by rw [hab, ha]; rfl)
  have K3 : ∀ a : Bool, (¬ w (6 * x + f) = w (6 * d + f) → fd_bf w f o d x = a) → (w (6 * x + f) = w (6 * d + f) → a = false) → wX_documentsAhead_71 post (wX_documentsAhead_19 post (nI d) (nI f) o (w (6 * d + f)) p w fl ff fs n) (nI d) (nI f) o (w (6 * d + f)) c (nI x) (w (6 * x + f)) (fd_b a) p w fl ff fs := by
    intro a h1 h2
    refine br_c (fun he => pk_le d x (fun h3 => ?_) (fun h3 => ?_)) (fun he => ?_)
    · exact K2 a false (by unfold fd_bf; rw [if_pos he, h2 he, decide_eq_false (by omega)]; rfl)
    · exact K2 a true (by unfold fd_bf; rw [if_pos he, h2 he, decide_eq_true (by omega)]; rfl)
    · exact K2 a false (by rw [h1 he, Bool.or_false])
  refine br_c (fun ho => br_c (fun hl => ?_) (fun hl => ?_)) (fun ho => br_c (fun hl => ?_) (fun hl => ?_))
  · exact K3 false (fun he => by unfold fd_bf; rw [if_neg he, if_pos ho, decide_eq_false (fun z => z hl)]) (fun _ => rfl)
  · exact K3 true (fun he => by unfold fd_bf; rw [if_neg he, if_pos ho, decide_eq_true hl]) (fun he => absurd (by rw [he]; exact Int32.le_refl _) hl)
  · exact K3 false (fun he => by unfold fd_bf; rw [if_neg he, if_neg ho, decide_eq_false (fun z => z hl)]) (fun _ => rfl)
  · exact K3 true (fun he => by unfold fd_bf; rw [if_neg he, if_neg ho, decide_eq_true hl]) (fun he => absurd (by rw [he]; exact Int32.le_refl _) hl)
def fd_oq (p w fl ff fs : Nat → Int32) (f : Nat) (o k : Int32) (d : Nat) : Bool := fd_M p w fl ff fs d (-1) && decide (fd_B p w fl ff fs f o d = k)
theorem fd_Xat {f : Nat} {o k : Int32} (hf : f < 6) (hp : post (nI (fd_fi (fd_oq p w fl ff fs f o k) 48 0))) : wpX_documentAt post (p, w, fl, ff, fs) (nI f) o k := by
  unfold wpX_documentAt
  refine fd_find (fun n x => wX_documentAt_3 post (nI f) o k p w fl ff fs n x) (fd_oq p w fl ff fs f o k) 48 (fun r => post (nI r)) (fun n h => br_t fd_l48 h) ?_ hp
  intro n x hx H0 H1
  unfold fd_oq at H0 H1
  refine br_f (fd_g48 hx) (fd_XM hx (fd_br (fun hm => ?_) (fun hm => fd_Xda hf hx (br_c (fun he => ?_) (fun he => ?_)))))
  · exact nm_e (H0 (by rw [hm]; rfl))
  · exact H1 (by rw [hm, decide_eq_true he]; rfl)
  · exact nm_e (H0 (by rw [decide_eq_false he, Bool.and_false]))
theorem fd_Yat {f : Nat} {o k : Int32} (R : fd_R p w fs hi md) (hf : f < 6) (hp : post (if fd_fi (fd_oq p w fl ff fs f o k) 48 0 = 48 then -1 else nI (fd_fi (fd_oq p w fl ff fs f o k) 48 0))) : wpY_inOrder post (md, p, w, fl, ff, hi, mk) (nI f) o k := by
  unfold wpY_inOrder
  refine fd_find (fun n x => wY_inOrder_3 post (nI f) o k md p w fl ff hi mk n x) (fd_oq p w fl ff fs f o k) 48 (fun r => post (if r = 48 then -1 else nI r)) (fun n h => br_t fd_l48 (by rw [if_pos rfl] at h; exact h)) ?_ hp
  intro n d hd H0 H1
  unfold fd_oq at H0 H1
  refine br_f (fd_g48 hd) ?_
  rw [fd_iy, fd_cl (x := 6 * d + f) (by omega)]
  refine ⟨vp_in_nI (by omega) (by omega), nm_e ?_⟩
  refine fd_cnt (fun m c x => wY_inOrder_30 post (wY_inOrder_3 post (nI f) o k md p w fl ff hi mk (n + 1)) (nI f) o k (nI d) (w (6 * d + f)) md p w fl ff hi mk m c x) (fd_bq p w fl ff fs f o d) 48 (fun c => wpY_matches (fun r_5 => (((r_5 = 0 → (∀ x4_14 : Int32, x4_14 = nI d + 1 → wY_inOrder_3 post (nI f) o k md p w fl ff hi mk (n + 1) x4_14)) ∧ (¬ r_5 = 0 → (((c = k → (post (nI d))) ∧ (¬ c = k → (∀ x4_16 : Int32, x4_16 = nI d + 1 → wY_inOrder_3 post (nI f) o k md p w fl ff hi mk (n + 1) x4_16)))))))) (md, p, w, fl, ff, hi, mk) (nI d) (-1)) (fun m c h => br_t fd_l48 h) ?_ ?_
  · intro m c x hx G0 G1
    unfold fd_bq at G0 G1
    refine br_f (fd_g48 hx) ?_
    rw [fd_iy, fd_cl (x := 6 * x + f) (by omega)]
    refine ⟨vp_in_nI (by omega) (by omega), nm_e ?_⟩
    have K1 : ∀ a : Bool, fd_bf w f o d x = a → wY_inOrder_104 post (wY_inOrder_3 post (nI f) o k md p w fl ff hi mk (n + 1)) (wY_inOrder_30 post (wY_inOrder_3 post (nI f) o k md p w fl ff hi mk (n + 1)) (nI f) o k (nI d) (w (6 * d + f)) md p w fl ff hi mk m) (nI f) o k (nI d) (w (6 * d + f)) c (nI x) (fd_b a) md p w fl ff hi mk := by
      intro a ha
      rw [ha] at G0 G1
      refine fd_br (fun hb => ?_) (fun hb => ?_)
      · rw [hb] at G0
        exact nm_e (G0 rfl)
      · rw [hb] at G0 G1
        exact fd_YM R hx (fd_br (fun hm => nm_e (G0 hm)) (fun hm => nm_e (nm_e (G1 hm))))
    refine br_c (fun he => pk_le d x (fun h3 => ?_) (fun h3 => ?_)) (fun he => br_c (fun ho => br_c (fun hl => ?_) (fun hl => ?_)) (fun ho => br_c (fun hl => ?_) (fun hl => ?_)))
    · exact K1 false (by unfold fd_bf; rw [if_pos he, decide_eq_false (by omega)])
    · exact K1 true (by unfold fd_bf; rw [if_pos he, decide_eq_true (by omega)])
    · exact K1 false (by unfold fd_bf; rw [if_neg he, if_pos ho, decide_eq_false (fun z => z hl)])
    · exact K1 true (by unfold fd_bf; rw [if_neg he, if_pos ho, decide_eq_true hl])
    · exact K1 false (by unfold fd_bf; rw [if_neg he, if_neg ho, decide_eq_false (fun z => z hl)])
    · exact K1 true (by unfold fd_bf; rw [if_neg he, if_neg ho, decide_eq_true hl])
  · refine fd_YM R hd (fd_br (fun hm => ?_) (fun hm => br_c (fun he => ?_) (fun he => ?_)))
    · exact nm_e (H0 (by rw [hm]; rfl))
    · have he' : fd_B p w fl ff fs f o d = k := he
      have := H1 (by rw [hm, decide_eq_true he']; rfl)
      rw [if_neg (by omega)] at this
      exact this
    · have he' : ¬ fd_B p w fl ff fs f o d = k := he
      exact nm_e (H0 (by rw [decide_eq_false he', Bool.and_false]))
end
