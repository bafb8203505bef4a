/-- does document d pass the filter of field f -/
def fd_ps (w fl ff fs : Nat → Int32) (d f : Nat) : Bool :=
  if fl f = 0 then true
  else if f < 3 then decide (((ff f >>> (w (6 * d + f) &&& 31)) &&& 1) = 1)
  else if 3 < f then (if w (6 * d + f) < ff f then false else if fs f < w (6 * d + f) then false else true)
  else if fs f = 0 then decide (¬ (w (6 * d + f) &&& ff f) = 0)
  else if fs f = 1 then decide ((w (6 * d + f) &&& ff f) = ff f)
  else decide ((w (6 * d + f) &&& ff f) = 0)
section
variable {p w fl ff fs hi mk : Nat → Int32} {md : Int32} {post : Int32 → Prop}
theorem fd_Xps {d f : Nat} (hd : d < 48) (hf : f < 6) (hp : post (fd_b (fd_ps w fl ff fs d f))) : wpX_passes post (p, w, fl, ff, fs) (nI d) (nI f) := by
  have c1 : (nI f).toNatClampNeg = f := nI_clamp (by omega)
  have c2 : (nI (6 * d + f)).toNatClampNeg = 6 * d + f := nI_clamp (by omega)
  have i1 : vp_in (nI f) 6 := vp_in_nI hf (by omega)
  have i2 : vp_in (nI (6 * d + f)) 288 := vp_in_nI (by omega) (by omega)
  unfold wpX_passes
  dsimp only
  rw [fd_ix, c1, c2]
  unfold fd_ps at hp
  refine ⟨i1, br_c (fun h0 => ?_) (fun h0 => ⟨i2, nm_e ⟨i1, nm_e ⟨i1, nm_e (pk_le 3 f (fun h3 => pk_le f 3 (fun h4 => nm_e ?_) (fun h4 => ?_)) (fun h3 => ?_))⟩⟩⟩)⟩
  · rw [if_pos h0] at hp; exact hp
  · rw [if_neg h0, if_neg (by omega), if_neg (by omega)] at hp
    refine br_c (fun h5 => ?_) (fun h5 => br_c (fun h6 => ?_) (fun h6 => ?_))
    · rw [if_pos h5] at hp
      exact br_c (fun h7 => by rw [decide_eq_false (fun z => z h7)] at hp; exact hp) (fun h7 => by rw [decide_eq_true h7] at hp; exact hp)
    · rw [if_neg h5, if_pos h6] at hp
      exact br_c (fun h7 => by rw [decide_eq_true h7] at hp; exact hp) (fun h7 => by rw [decide_eq_false h7] at hp; exact hp)
    · rw [if_neg h5, if_neg h6] at hp
      exact br_c (fun h7 => by rw [decide_eq_true h7] at hp; exact hp) (fun h7 => by rw [decide_eq_false h7] at hp; exact hp)
  · rw [if_neg h0, if_neg (by omega), if_pos h4] at hp
    refine br_c (fun h5 => ?_) (fun h5 => br_c (fun h6 => ?_) (fun h6 => ?_))
    · rw [if_pos h5] at hp; exact hp
    · rw [if_neg h5, if_pos h6] at hp; exact hp
    · rw [if_neg h5, if_neg h6] at hp; exact hp
  · rw [if_neg h0, if_pos h3] at hp
    exact br_c (fun h7 => by rw [decide_eq_true h7] at hp; exact hp) (fun h7 => by rw [decide_eq_false h7] at hp; exact hp)
theorem fd_Yps {d f : Nat} (e3 : fs 3 = md) (e4 : fs 4 = hi 4) (e5 : fs 5 = hi 5) (hd : d < 48) (hf : f < 6) (hp : post (fd_b (fd_ps w fl ff fs d f))) : wpY_passesField post (md, p, w, fl, ff, hi, mk) (nI d) (nI f) := by
  have c1 : (nI f).toNatClampNeg = f := nI_clamp (by omega)
  have c2 : (nI (6 * d + f)).toNatClampNeg = 6 * d + f := nI_clamp (by omega)
  have i1 : vp_in (nI f) 6 := vp_in_nI hf (by omega)
  have i2 : vp_in (nI (6 * d + f)) 288 := vp_in_nI (by omega) (by omega)
  unfold wpY_passesField
  dsimp only
  rw [fd_iy, c1, c2]
  unfold fd_ps at hp
  refine ⟨i2, nm_e ⟨i1, br_c (fun h0 => ?_) (fun h0 => pk_le f 3 (fun h4 => pk_le 3 f (fun h3 => nm_e ?_) (fun h3 => ⟨i1, ?_⟩)) (fun h4 => ⟨i1, ?_⟩))⟩⟩
  · rw [if_pos h0] at hp; exact hp
  · obtain rfl : f = 3 := by omega
    rw [if_neg h0, if_neg (by omega), if_neg (by omega), e3] at hp
    refine br_c (fun h5 => ?_) (fun h5 => br_c (fun h6 => ?_) (fun h6 => ?_))
    · rw [if_pos h5] at hp
      exact br_c (fun h7 => by rw [decide_eq_false (fun z => z h7)] at hp; exact hp) (fun h7 => by rw [decide_eq_true h7] at hp; exact hp)
    · rw [if_neg h5, if_pos h6] at hp
      exact br_c (fun h7 => by rw [decide_eq_true h7] at hp; exact hp) (fun h7 => by rw [decide_eq_false h7] at hp; exact hp)
    · rw [if_neg h5, if_neg h6] at hp
      exact br_c (fun h7 => by rw [decide_eq_true h7] at hp; exact hp) (fun h7 => by rw [decide_eq_false h7] at hp; exact hp)
  · rw [if_neg h0, if_pos h3] at hp
    exact br_c (fun h7 => by rw [decide_eq_true h7] at hp; exact hp) (fun h7 => by rw [decide_eq_false h7] at hp; exact hp)
  · have e : fs f = hi f := by
      have : f = 4 ∨ f = 5 := by omega
      rcases this with rfl | rfl
      · exact e4
      · exact e5
    rw [if_neg h0, if_neg (by omega), if_pos h4, e] at hp
    refine br_c (fun h5 => ?_) (fun h5 => ⟨i1, br_c (fun h6 => ?_) (fun h6 => ?_)⟩)
    · rw [if_pos h5] at hp; exact hp
    · rw [if_neg h5, if_pos h6] at hp; exact hp
    · rw [if_neg h5, if_neg h6] at hp; exact hp
/-- may document d, beside field s, be at field f -/
def fd_q (w fl ff fs : Nat → Int32) (d : Nat) (s : Int32) (f : Nat) : Bool := if nI f = s then true else fd_ps w fl ff fs d f
/-- does document d match, beside field s -/
def fd_M (p w fl ff fs : Nat → Int32) (d : Nat) (s : Int32) : Bool := if p d = 0 then false else fd_al (fd_q w fl ff fs d s) 6
theorem fd_Xm {d : Nat} {s : Int32} (hd : d < 48) (hp : post (fd_b (fd_M p w fl ff fs d s))) : wpX_matchesBeside post (p, w, fl, ff, fs) (nI d) s := by
  have c1 : (nI d).toNatClampNeg = d := nI_clamp (by omega)
  unfold wpX_matchesBeside
  dsimp only
  rw [c1]
  unfold fd_M at hp
  refine ⟨vp_in_nI hd (by omega), br_c (fun h0 => ?_) (fun h0 => ?_)⟩
  · rw [if_pos h0] at hp; exact hp
  · rw [if_neg h0] at hp
    have hal : fd_al (fd_q w fl ff fs d s) 6 = decide (fd_fi (fun f => !fd_q w fl ff fs d s f) 6 0 = 6) := by
      have hs := fd_fi_spec (fun f => !fd_q w fl ff fs d s f) 6 0
      have ha := fd_al_iff (fd_q w fl ff fs d s) 6
      rw [Bool.eq_iff_iff, ha, decide_eq_true_iff]
      rcases hs with ⟨h1, h2⟩ | ⟨h1, h2, h3⟩
      · refine ⟨fun _ => by omega, fun _ x hx => ?_⟩
        have := h2 x (by omega) (by omega)
        simpa using this
      · refine ⟨fun h => ?_, fun h => by omega⟩
        have := h _ (by omega : fd_fi (fun f => !fd_q w fl ff fs d s f) 6 0 < 6)
        rw [this] at h3
        exact absurd h3 (by decide)
    rw [hal] at hp
    refine fd_find (fun n x => wX_matchesBeside_13 post (nI d) s p w fl ff fs n x) (fun f => !fd_q w fl ff fs d s f) 6 (fun r => post (fd_b (decide (r = 6)))) (fun n h => br_t (nI_le (a := 6) (b := 6) (by omega) (by omega)) h) ?_ hp
    intro n x hx H0 H1
    refine br_f (nI_ge (a := x) (b := 6) hx (by omega)) (br_c (fun hs => ?_) (fun hs => ?_))
    · have : fd_q w fl ff fs d s x = true := by unfold fd_q; rw [if_pos hs]
      exact nm_e (H0 (by rw [this]; rfl))
    · have e : fd_q w fl ff fs d s x = fd_ps w fl ff fs d x := by unfold fd_q; rw [if_neg hs]
      rw [e] at H0 H1
      refine fd_Xps hd hx (fd_br (fun hb => ?_) (fun hb => ?_))
      · have := H1 (by rw [hb]; rfl)
        rw [decide_eq_false (by omega)] at this
        exact this
      · exact nm_e (H0 (by rw [hb]; rfl))
theorem fd_Ym {d : Nat} {s : Int32} (hb01 : ∀ i, p i = 0 ∨ p i = 1) (e3 : fs 3 = md) (e4 : fs 4 = hi 4) (e5 : fs 5 = hi 5) (hd : d < 48) (hp : post (fd_b (fd_M p w fl ff fs d s))) : wpY_matches post (md, p, w, fl, ff, hi, mk) (nI d) s := by
  have c1 : (nI d).toNatClampNeg = d := nI_clamp (by omega)
  unfold wpY_matches
  dsimp only
  rw [c1]
  refine ⟨vp_in_nI hd (by omega), nm_e ?_⟩
  have e0 : p d = fd_b (decide (¬ p d = 0) && fd_al (fd_q w fl ff fs d s) 0) := by
    rcases hb01 d with h | h <;> rw [h] <;> rfl
  have e6 : fd_M p w fl ff fs d s = (decide (¬ p d = 0) && fd_al (fd_q w fl ff fs d s) 6) := by
    unfold fd_M
    by_cases h : p d = 0
    · rw [if_pos h, decide_eq_false (fun z => z h)]; rfl
    · rw [if_neg h, decide_eq_true h]; rfl
  rw [e6] at hp
  rw [e0]
  refine fd_fold (fun n (c : Int32) x => wY_matches_10 post (nI d) s md p w fl ff hi mk n c (nI x)) (fun x => fd_b (decide (¬ p d = 0) && fd_al (fd_q w fl ff fs d s) x)) 6 (fun n => br_t (nI_le (a := 6) (b := 6) (by omega) (by omega)) ⟨fd_bn _, hp⟩) ?_
  intro n x hx H
  have H' : wY_matches_10 post (nI d) s md p w fl ff hi mk n (fd_b (decide (¬ p d = 0) && (fd_al (fd_q w fl ff fs d s) x && fd_q w fl ff fs d s x))) (nI x + 1) := by
    rw [nI_1]; exact H
  rw [← Bool.and_assoc] at H'
  refine br_f (nI_ge (a := x) (b := 6) hx (by omega)) (fd_br (fun hb => ?_) (fun hb => br_c (fun hs => ?_) (fun hs => ?_)))
  · rw [hb] at H'
    exact nm_e H'
  · have : fd_q w fl ff fs d s x = true := by unfold fd_q; rw [if_pos hs]
    rw [hb, this] at H'
    exact nm_e H'
  · have e : fd_q w fl ff fs d s x = fd_ps w fl ff fs d x := by unfold fd_q; rw [if_neg hs]
    rw [hb, e] at H'
    refine fd_Yps e3 e4 e5 hd hx (fd_br (fun hq => ?_) (fun hq => ?_))
    · rw [hq] at H'
      exact nm_e H'
    · rw [hq] at H'
      exact nm_e H'
end
