section
variable {p w fl ff fs hi mk : Nat → Int32} {md : Int32} {post : Int32 → Prop}
/-- between -/
def fd_q3 (p w fl ff fs : Nat → Int32) (f : Nat) (a b : Int32) (d : Nat) : Bool :=
  if w (6 * d + f) < a then false else if b < w (6 * d + f) then false else fd_M p w fl ff fs d (nI f)
theorem fd_Xbt {f : Nat} {a b : Int32} (hf : f < 6) (hp : post (nI (fd_c (fd_q3 p w fl ff fs f a b) 48))) : ∃ n, wX_between_16 post (nI f) a b p w fl ff fs n 0 0 := by
  refine fd_cnt (fun n c x => wX_between_16 post (nI f) a b p w fl ff fs n c x) (fd_q3 p w fl ff fs f a b) 48 post (fun n c h => br_t fd_l48 h) ?_ hp
  intro n c x hx H0 H1
  unfold fd_q3 at H0 H1
  refine br_f (fd_g48 hx) ?_
  rw [fd_ix, fd_cl (x := 6 * x + f) (by omega)]
  refine ⟨vp_in_nI (by omega) (by omega), nm_e (br_c (fun h1 => ?_) (fun h1 => br_c (fun h2 => ?_) (fun h2 => ?_)))⟩
  · exact nm_e (H0 (by rw [if_pos h1]))
  · exact nm_e (H0 (by rw [if_neg h1, if_pos h2]))
  · rw [if_neg h1, if_neg h2] at H0 H1
    exact fd_Xm hx (fd_br (fun hb => nm_e (H0 hb)) (fun hb => nm_e (nm_e (H1 hb))))
theorem fd_Ybt {f : Nat} {a b : Int32} (R : fd_R p w fs hi md) (hf : f < 6) (hp : post (nI (fd_c (fd_q3 p w fl ff fs f a b) 48))) : ∃ n, wY_between_17 post (nI f) a b md p w fl ff hi mk n 0 0 := by
  refine fd_cnt (fun n c x => wY_between_17 post (nI f) a b md p w fl ff hi mk n c x) (fd_q3 p w fl ff fs f a b) 48 post (fun n c h => br_t fd_l48 h) ?_ hp
  intro n c x hx H0 H1
  unfold fd_q3 at H0 H1
  refine br_f (fd_g48 hx) ?_
  rw [fd_iy, fd_cl (x := 6 * x + f) (by omega)]
  refine ⟨vp_in_nI (by omega) (by omega), nm_e (fd_YM R hx (fd_br (fun hb => ?_) (fun hb => br_c (fun h1 => ?_) (fun h1 => br_c (fun h2 => ?_) (fun h2 => ?_)))))⟩
  · refine nm_e (H0 ?_)
    rw [hb]
    split
    · rfl
    · split <;> rfl
  · exact nm_e (H0 (by rw [if_pos h1]))
  · exact nm_e (H0 (by rw [if_neg h1, if_pos h2]))
  · exact nm_e (nm_e (H1 (by rw [if_neg h1, if_neg h2]; exact hb)))
/-- box -/
def fd_q4 (p w fl ff fs : Nat → Int32) (f : Nat) (a b : Int64) (d : Nat) : Bool :=
  if (w (6 * d + f)).toInt64 < a then false else if b ≤ (w (6 * d + f)).toInt64 then false else fd_M p w fl ff fs d (-1)
theorem fd_Xbx {f : Nat} {a b : Int64} (hf : f < 6) (hp : post (nI (fd_c (fd_q4 p w fl ff fs f a b) 48))) : ∃ n, wX_box_45 post (nI f) a b p w fl ff fs n 0 0 := by
  refine fd_cnt (fun n c x => wX_box_45 post (nI f) a b p w fl ff fs n c x) (fd_q4 p w fl ff fs f a b) 48 post (fun n c h => br_t fd_l48 h) ?_ hp
  intro n c x hx H0 H1
  unfold fd_q4 at H0 H1
  refine br_f (fd_g48 hx) ?_
  rw [fd_ix, fd_cl (x := 6 * x + f) (by omega)]
  refine ⟨vp_in_nI (by omega) (by omega), nm_e (br_c (fun h1 => ?_) (fun h1 => br_c (fun h2 => ?_) (fun h2 => ?_)))⟩
  · exact nm_e (H0 (by rw [if_pos h1]))
  · exact nm_e (H0 (by rw [if_neg h1, if_pos h2]))
  · rw [if_neg h1, if_neg h2] at H0 H1
    exact fd_XM hx (fd_br (fun hb => nm_e (H0 hb)) (fun hb => nm_e (nm_e (H1 hb))))
theorem fd_Ybx {f : Nat} {x2 x3 : Int32} (R : fd_R p w fs hi md) (hf : f < 6) (hp : post (nI (fd_c (fd_q4 p w fl ff fs f (x3.toInt64 * x2.toInt64) ((x3.toInt64 + 1) * x2.toInt64)) 48))) : ∃ n, wY_box_32 post (nI f) x2 x3 md p w fl ff hi mk n 0 0 := by
  refine fd_cnt (fun n c x => wY_box_32 post (nI f) x2 x3 md p w fl ff hi mk n c x) (fd_q4 p w fl ff fs f (x3.toInt64 * x2.toInt64) ((x3.toInt64 + 1) * x2.toInt64)) 48 post (fun n c h => br_t fd_l48 h) ?_ hp
  intro n c x hx H0 H1
  unfold fd_q4 at H0 H1
  refine br_f (fd_g48 hx) ?_
  rw [fd_iy, fd_cl (x := 6 * x + f) (by omega)]
  refine ⟨vp_in_nI (by omega) (by omega), nm_e (br_c (fun h1 => ?_) (fun h1 => br_c (fun h2 => ?_) (fun h2 => ?_)))⟩
  · rw [if_pos h1] at H0
    exact fd_YM R hx (fd_br (fun _ => nm_e (H0 rfl)) (fun _ => br_t rfl (nm_e (H0 rfl))))
  · rw [if_neg h1, if_pos h2] at H0
    exact fd_YM R hx (fd_br (fun _ => nm_e (H0 rfl)) (fun _ => br_t rfl (nm_e (H0 rfl))))
  · rw [if_neg h1, if_neg h2] at H0 H1
    exact fd_YM R hx (fd_br (fun hb => nm_e (H0 hb)) (fun hb => br_f (by decide) (nm_e (nm_e (H1 hb)))))
/-- sum -/
def fd_S (p w fl ff fs : Nat → Int32) (g : Nat) (t : Int32) (f : Nat) : Nat → Int32
  | 0 => 0
  | x + 1 => if fd_q2 p w fl ff fs g t (-1) x then fd_S p w fl ff fs g t f x + w (6 * x + f) else fd_S p w fl ff fs g t f x
theorem fd_Xsm {g f : Nat} {t : Int32} (hg : g < 6) (hf : f < 6) (hp : post (fd_S p w fl ff fs g t f 48)) : ∃ n, wX_sum_34 post (nI g) t (nI f) p w fl ff fs n 0 0 := by
  refine fd_fold (fun n (c : Int32) x => wX_sum_34 post (nI g) t (nI f) p w fl ff fs n c (nI x)) (fd_S p w fl ff fs g t f) 48 (fun n => br_t fd_l48 hp) ?_
  intro n x hx H
  have H' : wX_sum_34 post (nI g) t (nI f) p w fl ff fs n (if fd_q2 p w fl ff fs g t (-1) x then fd_S p w fl ff fs g t f x + w (6 * x + f) else fd_S p w fl ff fs g t f x) (nI x + 1) := by
    rw [nI_1]; exact H
  refine br_f (fd_g48 hx) (fd_Xhs hx hg (fd_br (fun hb => ?_) (fun hb => fd_XM hx (fd_br (fun hc => ?_) (fun hc => ?_)))))
  · rw [fd_q2a hb] at H'; exact nm_e H'
  · rw [fd_q2b hc] at H'; exact nm_e H'
  · rw [fd_q2c hb hc] at H'
    rw [fd_ix, fd_cl (x := 6 * x + f) (by omega)]
    exact ⟨vp_in_nI (by omega) (by omega), nm_e (nm_e H')⟩
theorem fd_Ysm {g f : Nat} {t : Int32} (R : fd_R p w fs hi md) (hg : g < 6) (hf : f < 6) (hp : post (fd_S p w fl ff fs g t f 48)) : ∃ n, wY_sum_37 post (nI g) t (nI f) md p w fl ff hi mk n 0 0 := by
  refine fd_fold (fun n (c : Int32) x => wY_sum_37 post (nI g) t (nI f) md p w fl ff hi mk n c (nI x)) (fd_S p w fl ff fs g t f) 48 (fun n => br_t fd_l48 hp) ?_
  intro n x hx H
  have H' : wY_sum_37 post (nI g) t (nI f) md p w fl ff hi mk n (if fd_q2 p w fl ff fs g t (-1) x then fd_S p w fl ff fs g t f x + w (6 * x + f) else fd_S p w fl ff fs g t f x) (nI x + 1) := by
    rw [nI_1]; exact H
  refine br_f (fd_g48 hx) (fd_YM R hx (fd_br (fun hc => ?_) (fun hc => fd_Yhs hx hg (fd_br (fun hb => ?_) (fun hb => ?_)))))
  · rw [fd_q2b hc] at H'; exact nm_e H'
  · rw [fd_q2a hb] at H'; exact nm_e H'
  · rw [fd_q2c hb hc] at H'
    rw [fd_iy, fd_cl (x := 6 * x + f) (by omega)]
    exact ⟨vp_in_nI (by omega) (by omega), nm_e (nm_e H')⟩
/-- extreme: the best so far, -2002 where there is none -/
def fd_bt (o : Int32) (b v : Int32) : Bool := if b = -2002 then true else if o = 0 then decide (¬ b ≤ v) else decide (¬ v ≤ b)
def fd_E (p w fl ff fs : Nat → Int32) (g : Nat) (t : Int32) (o : Int32) (f : Nat) : Nat → Int32
  | 0 => -2002
  | x + 1 => if fd_q2 p w fl ff fs g t (-1) x then (if fd_bt o (fd_E p w fl ff fs g t o f x) (w (6 * x + f)) then w (6 * x + f) else fd_E p w fl ff fs g t o f x) else fd_E p w fl ff fs g t o f x
theorem fd_Xex {g f : Nat} {t o : Int32} (hw : ∀ i, 4 ≤ i % 6 → ¬ w i = -2002) (hg : g < 6) (hf : f = 4 ∨ f = 5) (hp : post (fd_E p w fl ff fs g t o f 48)) : ∃ n, wX_extreme_81 post (nI f) (nI g) t o p w fl ff fs n 0 (-2002) 0 := by
  refine fd_fold (fun n (c : Int32 × Int32) x => wX_extreme_81 post (nI f) (nI g) t o p w fl ff fs n c.1 c.2 (nI x)) (fun x => (fd_b (decide (¬ fd_E p w fl ff fs g t o f x = -2002)), fd_E p w fl ff fs g t o f x)) 48 (fun n => br_t fd_l48 hp) ?_
  intro n x hx H
  have H' : wX_extreme_81 post (nI f) (nI g) t o p w fl ff fs n (fd_b (decide (¬ fd_E p w fl ff fs g t o f (x + 1) = -2002))) (fd_E p w fl ff fs g t o f (x + 1)) (nI x + 1) := by
    rw [nI_1]; exact H
  have e : fd_E p w fl ff fs g t o f (x + 1) = if fd_q2 p w fl ff fs g t (-1) x then (if fd_bt o (fd_E p w fl ff fs g t o f x) (w (6 * x + f)) then w (6 * x + f) else fd_E p w fl ff fs g t o f x) else fd_E p w fl ff fs g t o f x := rfl
  rw [e] at H'
  have hv : ¬ w (6 * x + f) = -2002 := hw _ (by omega)
  generalize fd_E p w fl ff fs g t o f x = b at H' ⊢
  refine br_f (fd_g48 hx) (fd_Xhs hx hg (fd_br (fun hb => ?_) (fun hb => fd_XM hx (fd_br (fun hc => ?_) (fun hc => ?_)))))
  · rw [fd_q2a hb] at H'; exact nm_e H'
  · rw [fd_q2b hc] at H'; exact nm_e H'
  · rw [fd_q2c hb hc, if_pos rfl] at H'
    rw [fd_ix, fd_cl (x := 6 * x + f) (by omega)]
    refine ⟨vp_in_nI (by omega) (by omega), nm_e ?_⟩
    generalize w (6 * x + f) = v at H' hv ⊢
    have K : ∀ z : Bool, (¬ b = -2002 → fd_bt o b v = z) → wX_extreme_155 post (wX_extreme_81 post (nI f) (nI g) t o p w fl ff fs n) (nI f) (nI g) t o (fd_b (decide (¬ b = -2002))) b (nI x) v (fd_b z) p w fl ff fs := by
      intro z hz
      refine fd_br (fun hn => ?_) (fun hn => ?_)
      · have hn' : b = -2002 := by simpa using hn
        have hbt : fd_bt o b v = true := by unfold fd_bt; rw [if_pos hn']
        rw [hbt, if_pos rfl, decide_eq_true hv] at H'
        exact nm_e H'
      · have hn' : ¬ b = -2002 := by simpa using hn
        rw [hz hn'] at H'
        refine fd_br (fun h => ?_) (fun h => ?_)
        · rw [h] at H'
          rw [hn]
          rw [if_neg (by decide), hn] at H'
          exact nm_e H'
        · rw [h, if_pos rfl, decide_eq_true hv] at H'
          exact nm_e H'
    refine br_c (fun ho => br_c (fun hl => ?_) (fun hl => ?_)) (fun ho => br_c (fun hl => ?_) (fun hl => ?_))
    · exact K false (fun hn => by unfold fd_bt; rw [if_neg hn, if_pos ho, decide_eq_false (fun z => z hl)])
    · exact K true (fun hn => by unfold fd_bt; rw [if_neg hn, if_pos ho, decide_eq_true hl])
    · exact K false (fun hn => by unfold fd_bt; rw [if_neg hn, if_neg ho, decide_eq_false (fun z => z hl)])
    · exact K true (fun hn => by unfold fd_bt; rw [if_neg hn, if_neg ho, decide_eq_true hl])
theorem fd_Yex {g f : Nat} {t o : Int32} (R : fd_R p w fs hi md) (hg : g < 6) (hf : f = 4 ∨ f = 5) (hp : post (fd_E p w fl ff fs g t o f 48)) : ∃ n, wY_extreme_72 post (nI f) (nI g) t o md p w fl ff hi mk n (-2002) 0 := by
  refine fd_fold (fun n (c : Int32) x => wY_extreme_72 post (nI f) (nI g) t o md p w fl ff hi mk n c (nI x)) (fd_E p w fl ff fs g t o f) 48 (fun n => br_t fd_l48 hp) ?_
  intro n x hx H
  have H' : wY_extreme_72 post (nI f) (nI g) t o md p w fl ff hi mk n (fd_E p w fl ff fs g t o f (x + 1)) (nI x + 1) := by
    rw [nI_1]; exact H
  have e : fd_E p w fl ff fs g t o f (x + 1) = if fd_q2 p w fl ff fs g t (-1) x then (if fd_bt o (fd_E p w fl ff fs g t o f x) (w (6 * x + f)) then w (6 * x + f) else fd_E p w fl ff fs g t o f x) else fd_E p w fl ff fs g t o f x := rfl
  rw [e] at H'
  generalize fd_E p w fl ff fs g t o f x = b at H' ⊢
  refine br_f (fd_g48 hx) ?_
  rw [fd_iy, fd_cl (x := 6 * x + f) (by omega)]
  refine ⟨vp_in_nI (by omega) (by omega), nm_e ?_⟩
  generalize w (6 * x + f) = v at H' ⊢
  have K : ∀ z : Bool, fd_bt o b v = z → wY_extreme_128 post (wY_extreme_72 post (nI f) (nI g) t o md p w fl ff hi mk n) (nI f) (nI g) t o b (nI x) v (fd_b z) md p w fl ff hi mk := by
    intro z hz
    rw [hz] at H'
    refine fd_YM R hx (fd_br (fun hc => ?_) (fun hc => fd_Yhs hx hg (fd_br (fun hb => ?_) (fun hb => fd_br (fun h => ?_) (fun h => ?_)))))
    · rw [fd_q2b hc] at H'; exact nm_e H'
    · rw [fd_q2a hb] at H'; exact nm_e H'
    · rw [fd_q2c hb hc, h] at H'; exact nm_e H'
    · rw [fd_q2c hb hc, h] at H'; exact nm_e H'
  refine br_c (fun h0 => ?_) (fun h0 => br_c (fun ho => br_c (fun hl => ?_) (fun hl => ?_)) (fun ho => br_c (fun hl => ?_) (fun hl => ?_)))
  · exact K true (by unfold fd_bt; rw [if_pos h0])
  · exact K false (by unfold fd_bt; rw [if_neg h0, if_pos ho, decide_eq_false (fun z => z hl)])
  · exact K true (by unfold fd_bt; rw [if_neg h0, if_pos ho, decide_eq_true hl])
  · exact K false (by unfold fd_bt; rw [if_neg h0, if_neg ho, decide_eq_false (fun z => z hl)])
  · exact K true (by unfold fd_bt; rw [if_neg h0, if_neg ho, decide_eq_true hl])
end
