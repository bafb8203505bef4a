theorem i_vc_documents {k : Nat} {u : SX} {v : SY} (I : i_Rel k u v) (hk : k + 4 ≤ 2048) : wpX_documents (fun r => wpY_documents (fun r' => r' = r ∧ i_Rel (k + 4) u v) v) u := by
  obtain ⟨p, w, fl, ff, fs, hi, mk, md, rfl, rfl, R⟩ := I
  exact fd_Xdocs (fd_Ydocs ⟨rfl, fd_rel _ R⟩)
theorem i_vc_valueOf {k : Nat} {u : SX} {v : SY} (I : i_Rel k u v) (hk : k + 4 ≤ 2048) (v1 : Int32) (v2 : Int32) : wpX_valueOf (fun r => wpY_valueOf (fun r' => r' = r ∧ i_Rel (k + 4) u v) v v1 v2) u v1 v2 := by
  obtain ⟨p, w, fl, ff, fs, hi, mk, md, rfl, rfl, R⟩ := I
  have J := fd_rel (fl := fl) (ff := ff) (mk := mk) (k + 4) R
  unfold wpX_valueOf wpY_valueOf
  dsimp only
  obtain ⟨b, hb, hX, hY⟩ := fd_doc (p := p) (w := w) (fl := fl) (ff := ff) (fs := fs) (hi := hi) (mk := mk) (md := md) v1
  cases b
  · exact hX (br_t rfl (hY (br_t rfl ⟨rfl, J⟩)))
  · obtain ⟨d, hd, rfl⟩ := hb rfl
    refine hX (br_f (by decide) ?_)
    rcases fd_c6 v2 with h | ⟨h, h6, h5⟩ | ⟨f, hf, rfl, h, h6, h5⟩
    · exact br_t h (br_t rfl (hY (br_f (by decide) (br_t h ⟨rfl, J⟩))))
    · exact br_f h (br_t h6 (br_t rfl (hY (br_f (by decide) (br_f h (br_f h5 ⟨rfl, J⟩))))))
    · have i := vp_in_nI (n := 6 * d + f) (N := 288) (by omega) (by omega)
      rw [fd_ix, fd_iy, fd_cl (x := 6 * d + f) (by omega)]
      exact br_f h (br_f h6 (br_f (by decide) ⟨i, hY (br_f (by decide) (br_f h (br_t h5 ⟨i, rfl, J⟩)))⟩))
theorem i_vc_matching {k : Nat} {u : SX} {v : SY} (I : i_Rel k u v) (hk : k + 4 ≤ 2048) : wpX_matching (fun r => wpY_matching (fun r' => r' = r ∧ i_Rel (k + 4) u v) v) u := by
  obtain ⟨p, w, fl, ff, fs, hi, mk, md, rfl, rfl, R⟩ := I
  exact fd_Xmat (fd_Ymat R ⟨rfl, fd_rel _ R⟩)
theorem i_vc_facet {k : Nat} {u : SX} {v : SY} (I : i_Rel k u v) (hk : k + 4 ≤ 2048) (v1 : Int32) (v2 : Int32) : wpX_facet (fun r => wpY_facet (fun r' => r' = r ∧ i_Rel (k + 4) u v) v v1 v2) u v1 v2 := by
  obtain ⟨p, w, fl, ff, fs, hi, mk, md, rfl, rfl, R⟩ := I
  have J := fd_rel (fl := fl) (ff := ff) (mk := mk) (k + 4) R
  unfold wpX_facet wpY_facet
  dsimp only
  obtain ⟨b, hb, hX, hY⟩ := fd_grp (p := p) (w := w) (fl := fl) (ff := ff) (hi := hi) (mk := mk) (md := md) v1
  cases b
  · exact hX (br_t rfl (hY (br_t rfl ⟨rfl, J⟩)))
  · obtain ⟨f, hf, rfl⟩ := hb rfl
    obtain ⟨b2, hb2, hX2, hY2⟩ := fd_trm (p := p) (w := w) (fl := fl) (ff := ff) (hi := hi) (mk := mk) (md := md) (f := f) (by omega) v2
    cases b2
    · exact hX (br_f (by decide) (hX2 (br_t rfl (hY (br_f (by decide) (hY2 (br_t rfl ⟨rfl, J⟩)))))))
    · obtain ⟨t, ht, rfl⟩ := hb2 rfl
      exact hX (br_f (by decide) (hX2 (br_f (by decide) (fd_Xcb (by omega) (hY (br_f (by decide) (hY2 (br_f (by decide) (fd_Ycb R (by omega) ⟨rfl, J⟩)))))))))
theorem i_vc_topTerm {k : Nat} {u : SX} {v : SY} (I : i_Rel k u v) (hk : k + 4 ≤ 2048) (v1 : Int32) (v2 : Int32) : wpX_topTerm (fun r => wpY_topTerm (fun r' => r' = r ∧ i_Rel (k + 4) u v) v v1 v2) u v1 v2 := by
  obtain ⟨p, w, fl, ff, fs, hi, mk, md, rfl, rfl, R⟩ := I
  have J := fd_rel (fl := fl) (ff := ff) (mk := mk) (k + 4) R
  obtain ⟨b, hb, hX, hY⟩ := fd_grp (p := p) (w := w) (fl := fl) (ff := ff) (hi := hi) (mk := mk) (md := md) v1
  unfold wpX_topTerm
  dsimp only
  cases b
  · refine hX (br_t rfl ?_)
    unfold wpY_topTerm
    exact hY (br_t rfl ⟨rfl, J⟩)
  · obtain ⟨f, hf, rfl⟩ := hb rfl
    refine hX (br_f (by decide) (fd_Xto (by omega) (fd_Xtt (by omega) ?_)))
    unfold wpY_topTerm
    exact hY (br_f (by decide) (fd_Ytt R (by omega) ⟨rfl, J⟩))
theorem i_vc_between {k : Nat} {u : SX} {v : SY} (I : i_Rel k u v) (hk : k + 4 ≤ 2048) (v1 : Int32) (v2 : Int32) (v3 : Int32) : wpX_between (fun r => wpY_between (fun r' => r' = r ∧ i_Rel (k + 4) u v) v v1 v2 v3) u v1 v2 v3 := by
  obtain ⟨p, w, fl, ff, fs, hi, mk, md, rfl, rfl, R⟩ := I
  have J := fd_rel (fl := fl) (ff := ff) (mk := mk) (k + 4) R
  obtain ⟨b, hb, hX, hY⟩ := fd_num (p := p) (w := w) (fl := fl) (ff := ff) (hi := hi) (mk := mk) (md := md) v1
  unfold wpX_between
  dsimp only
  cases b
  · refine hX (br_t rfl ?_)
    unfold wpY_between
    exact hY (br_t rfl ⟨rfl, J⟩)
  · obtain ⟨f, hf, rfl⟩ := hb rfl
    refine hX (br_f (by decide) (fd_Xbt (by omega) ?_))
    unfold wpY_between
    exact hY (br_f (by decide) (fd_Ybt R (by omega) ⟨rfl, J⟩))
theorem fd_m1 : ¬ (0 : Int32) ≤ -1 := by decide
theorem i_vc_ranked {k : Nat} {u : SX} {v : SY} (I : i_Rel k u v) (hk : k + 4 ≤ 2048) (v1 : Int32) (v2 : Int32) : wpX_ranked (fun r => wpY_ranked (fun r' => r' = r ∧ i_Rel (k + 4) u v) v v1 v2) u v1 v2 := by
  obtain ⟨p, w, fl, ff, fs, hi, mk, md, rfl, rfl, R⟩ := I
  have J := fd_rel (fl := fl) (ff := ff) (mk := mk) (k + 4) R
  obtain ⟨b, hb, hX, hY⟩ := fd_num (p := p) (w := w) (fl := fl) (ff := ff) (hi := hi) (mk := mk) (md := md) v1
  unfold wpX_ranked
  dsimp only
  cases b
  · refine hX (br_t rfl ?_)
    unfold wpY_ranked
    exact hY (br_t rfl ⟨rfl, J⟩)
  · obtain ⟨f, hf, rfl⟩ := hb rfl
    refine hX (br_f (by decide) (fd_Xat (by omega) ?_))
    rcases fd_fi_spec (fd_oq p w fl ff fs f 0 v2) 48 0 with ⟨h1, _⟩ | ⟨_, h2, _⟩
    · have h1' : fd_fi (fd_oq p w fl ff fs f 0 v2) 48 0 = 48 := by omega
      refine br_t (by rw [h1']; rfl) ?_
      unfold wpY_ranked
      refine hY (br_f (by decide) (fd_Yat R (by omega) ?_))
      rw [if_pos h1']
      exact br_f fd_m1 ⟨rfl, J⟩
    · have h2' : fd_fi (fd_oq p w fl ff fs f 0 v2) 48 0 < 48 := by omega
      refine br_f (fun h => absurd ((nI_eq (b := 48) (by omega) (by omega)).mp h) (by omega)) ?_
      have e := fd_cl (x := 6 * fd_fi (fd_oq p w fl ff fs f 0 v2) 48 0 + f) (by omega)
      have i := vp_in_nI (n := 6 * fd_fi (fd_oq p w fl ff fs f 0 v2) 48 0 + f) (N := 288) (by omega) (by omega)
      rw [fd_ix, e]
      refine ⟨i, ?_⟩
      unfold wpY_ranked
      refine hY (br_f (by decide) (fd_Yat R (by omega) ?_))
      rw [if_neg (by omega)]
      refine br_t (nI_pos' (by omega)) ?_
      rw [fd_iy, e]
      exact ⟨i, rfl, J⟩
theorem fd_srt {k : Nat} {p w fl ff fs hi mk : Nat → Int32} {md v2 v3 : Int32} {f : Nat} (R : fd_R p w fs hi md) (hf : f < 6) {Q : Int32 → Prop} (h : ∀ r : Int32, wY_sorted_23 (fun r' => r' = r ∧ i_Rel (k + 4) (p, w, fl, ff, fs) (md, p, w, fl, ff, hi, mk)) (nI f) v2 v3 md p w fl ff hi mk → Q r) : wX_sorted_22 Q (nI f) v2 v3 p w fl ff fs := by
  have J := fd_rel (fl := fl) (ff := ff) (mk := mk) (k + 4) R
  unfold wX_sorted_22
  unfold wY_sorted_23 at h
  refine fd_Xat hf ?_
  rcases fd_fi_spec (fd_oq p w fl ff fs f v2 v3) 48 0 with ⟨h1, _⟩ | ⟨_, h2, _⟩
  · have h1' : fd_fi (fd_oq p w fl ff fs f v2 v3) 48 0 = 48 := by omega
    refine br_t (by rw [h1']; rfl) (h _ (fd_Yat R hf ?_))
    rw [if_pos h1']
    exact br_f fd_m1 ⟨rfl, J⟩
  · have h2' : fd_fi (fd_oq p w fl ff fs f v2 v3) 48 0 < 48 := by omega
    refine br_f (fun h => absurd ((nI_eq (b := 48) (by omega) (by omega)).mp h) (by omega)) (h _ (fd_Yat R hf ?_))
    rw [if_neg (by omega)]
    exact br_t (nI_pos' (by omega)) ⟨rfl, J⟩
theorem i_vc_sorted {k : Nat} {u : SX} {v : SY} (I : i_Rel k u v) (hk : k + 4 ≤ 2048) (v1 : Int32) (v2 : Int32) (v3 : Int32) : wpX_sorted (fun r => wpY_sorted (fun r' => r' = r ∧ i_Rel (k + 4) u v) v v1 v2 v3) u v1 v2 v3 := by
  obtain ⟨p, w, fl, ff, fs, hi, mk, md, rfl, rfl, R⟩ := I
  have J := fd_rel (fl := fl) (ff := ff) (mk := mk) (k + 4) R
  obtain ⟨b, hb, hX, hY⟩ := fd_num (p := p) (w := w) (fl := fl) (ff := ff) (hi := hi) (mk := mk) (md := md) v1
  unfold wpX_sorted wpY_sorted
  dsimp only
  cases b
  · exact hX (br_t rfl (hY (br_t rfl ⟨rfl, J⟩)))
  · obtain ⟨f, hf, rfl⟩ := hb rfl
    refine hX (br_f (by decide) (br_c (fun h0 => ?_) (fun h0 => br_c (fun h1 => ?_) (fun h1 => ?_))))
    · exact fd_srt R (by omega) (fun r H => hY (br_f (by decide) (br_t h0 H)))
    · exact fd_srt R (by omega) (fun r H => hY (br_f (by decide) (br_f h0 (br_t h1 H))))
    · exact hY (br_f (by decide) (br_f h0 (br_f h1 ⟨rfl, J⟩)))
theorem i_vc_sum {k : Nat} {u : SX} {v : SY} (I : i_Rel k u v) (hk : k + 4 ≤ 2048) (v1 : Int32) (v2 : Int32) (v3 : Int32) : wpX_sum (fun r => wpY_sum (fun r' => r' = r ∧ i_Rel (k + 4) u v) v v1 v2 v3) u v1 v2 v3 := by
  obtain ⟨p, w, fl, ff, fs, hi, mk, md, rfl, rfl, R⟩ := I
  have J := fd_rel (fl := fl) (ff := ff) (mk := mk) (k + 4) R
  obtain ⟨b, hb, hX, hY⟩ := fd_grp (p := p) (w := w) (fl := fl) (ff := ff) (hi := hi) (mk := mk) (md := md) v1
  obtain ⟨b3, hb3, hX3, hY3⟩ := fd_num (p := p) (w := w) (fl := fl) (ff := ff) (hi := hi) (mk := mk) (md := md) v3
  unfold wpX_sum wpY_sum
  dsimp only
  cases b
  · exact hX (br_t rfl (hY (br_t rfl ⟨rfl, J⟩)))
  · obtain ⟨g, hg, rfl⟩ := hb rfl
    refine hX (br_f (by decide) ?_)
    cases b3
    · exact hX3 (br_t rfl (hY (br_f (by decide) (hY3 (br_t rfl ⟨rfl, J⟩)))))
    · obtain ⟨f, hf, rfl⟩ := hb3 rfl
      refine hX3 (br_f (by decide) ?_)
      obtain ⟨b2, hb2, hX2, hY2⟩ := fd_trm (p := p) (w := w) (fl := fl) (ff := ff) (hi := hi) (mk := mk) (md := md) (f := g) (by omega) v2
      cases b2
      · exact hX2 (br_t rfl (hY (br_f (by decide) (hY3 (br_f (by decide) (hY2 (br_t rfl ⟨rfl, J⟩)))))))
      · exact hX2 (br_f (by decide) (fd_Xsm (by omega) (by omega) (hY (br_f (by decide) (hY3 (br_f (by decide) (hY2 (br_f (by decide) (fd_Ysm R (by omega) (by omega) ⟨rfl, J⟩)))))))))
theorem fd_exr {k : Nat} {p w fl ff fs hi mk : Nat → Int32} {md t o : Int32} {g f : Nat} (R : fd_R p w fs hi md) (hg : g < 6) (hf : f = 4 ∨ f = 5) {Q : Int32 → Prop} (h : ∀ r : Int32, wpY_isTerm (fun r_28 => (((r_28 = 0 → ((fun r' => r' = r ∧ i_Rel (k + 4) (p, w, fl, ff, fs) (md, p, w, fl, ff, hi, mk)) (-2001))) ∧ (¬ r_28 = 0 → (∃ n72 : Nat, wY_extreme_72 (fun r' => r' = r ∧ i_Rel (k + 4) (p, w, fl, ff, fs) (md, p, w, fl, ff, hi, mk)) (nI f) (nI g) t o md p w fl ff hi mk n72 (-2002) 0))))) (md, p, w, fl, ff, hi, mk) (nI g) t → Q r) : wX_extreme_57 Q (nI f) (nI g) t o p w fl ff fs := by
  have J := fd_rel (fl := fl) (ff := ff) (mk := mk) (k + 4) R
  obtain ⟨b2, hb2, hX2, hY2⟩ := fd_trm (p := p) (w := w) (fl := fl) (ff := ff) (hi := hi) (mk := mk) (md := md) (f := g) hg t
  unfold wX_extreme_57
  cases b2
  · exact hX2 (br_t rfl (h _ (hY2 (br_t rfl ⟨rfl, J⟩))))
  · exact hX2 (br_f (by decide) (fd_Xex R.2.2.2.2.2 hg hf (h _ (hY2 (br_f (by decide) (fd_Yex R hg hf ⟨rfl, J⟩))))))
theorem i_vc_extreme {k : Nat} {u : SX} {v : SY} (I : i_Rel k u v) (hk : k + 4 ≤ 2048) (v1 : Int32) (v2 : Int32) : wpX_extreme (fun r => wpY_extreme (fun r' => r' = r ∧ i_Rel (k + 4) u v) v v1 v2) u v1 v2 := by
  obtain ⟨p, w, fl, ff, fs, hi, mk, md, rfl, rfl, R⟩ := I
  have J := fd_rel (fl := fl) (ff := ff) (mk := mk) (k + 4) R
  have n1 : ¬ (100 : Int32) = 0 := by decide
  have n2 : ¬ (10 : Int32) = 0 := by decide
  by_cases h : v1 < 0
  · have h' : ¬ 0 ≤ v1 := Int32.not_le.mpr h
    exact br_f h' ⟨n1, nm_e ⟨n2, n2, nm_e ⟨n2, nm_e (br_t h ⟨rfl, J⟩)⟩⟩⟩
  · obtain ⟨j, hj, rfl⟩ := nI_of h
    have e1 : nI j / 100 = nI (j / 100) := pk_div (d := 100) hj (by omega) (by omega)
    have e2 : nI j / 10 - nI j / 10 / 10 * 10 = nI (j / 10 % 10) := by
      rw [show nI j / 10 = nI (j / 10) from pk_div (d := 10) hj (by omega) (by omega)]
      exact pk_rem (d := 10) (by omega) (by omega) (by omega)
    have e3 : nI j - nI j / 10 * 10 = nI (j % 10) := pk_rem (d := 10) hj (by omega) (by omega)
    obtain ⟨b, hb, hX, hY⟩ := fd_grp (p := p) (w := w) (fl := fl) (ff := ff) (hi := hi) (mk := mk) (md := md) (nI (j / 100))
    obtain ⟨b3, hb3, hX3, hY3⟩ := fd_num (p := p) (w := w) (fl := fl) (ff := ff) (hi := hi) (mk := mk) (md := md) v2
    unfold wpX_extreme wpY_extreme
    dsimp only
    refine br_t (Int32.not_lt.mp h) ⟨n1, nm_r e1 ⟨n2, n2, nm_r e2 ⟨n2, nm_r e3 ?_⟩⟩⟩
    cases b
    · exact hX (br_t rfl ⟨n1, nm_r e1 ⟨n2, n2, nm_r e2 ⟨n2, nm_r e3 (br_f h (hY (br_t rfl ⟨rfl, J⟩)))⟩⟩⟩)
    · obtain ⟨g, hg, eg⟩ := hb rfl
      refine hX (br_f (by decide) ?_)
      cases b3
      · exact hX3 (br_t rfl ⟨n1, nm_r e1 ⟨n2, n2, nm_r e2 ⟨n2, nm_r e3 (br_f h (hY (br_f (by decide) (hY3 (br_t rfl ⟨rfl, J⟩)))))⟩⟩⟩)
      · obtain ⟨f, hf, rfl⟩ := hb3 rfl
        rw [eg] at hY e1 ⊢
        refine hX3 (br_f (by decide) (pk_eq (j % 10) 0 (fun h0 => ?_) (fun h0 => pk_eq (j % 10) 1 (fun h1 => ?_) (fun h1 => ?_))))
        · exact fd_exr R (by omega) hf (fun r H => ⟨n1, nm_r e1 ⟨n2, n2, nm_r e2 ⟨n2, nm_r e3 (br_f h (hY (br_f (by decide) (hY3 (br_f (by decide) (br_t (nI_le (b := 1) (by omega) (by omega)) H))))))⟩⟩⟩)
        · exact fd_exr R (by omega) hf (fun r H => ⟨n1, nm_r e1 ⟨n2, n2, nm_r e2 ⟨n2, nm_r e3 (br_f h (hY (br_f (by decide) (hY3 (br_f (by decide) (br_t (nI_le (b := 1) (by omega) (by omega)) H))))))⟩⟩⟩)
        · exact ⟨n1, nm_r e1 ⟨n2, n2, nm_r e2 ⟨n2, nm_r e3 (br_f h (hY (br_f (by decide) (hY3 (br_f (by decide) (br_f (nI_ge (a := 1) (by omega) (by omega)) ⟨rfl, J⟩))))))⟩⟩⟩
theorem i_vc_different {k : Nat} {u : SX} {v : SY} (I : i_Rel k u v) (hk : k + 4 ≤ 2048) (v1 : Int32) : wpX_different (fun r => wpY_different (fun r' => r' = r ∧ i_Rel (k + 4) u v) v v1) u v1 := by
  obtain ⟨p, w, fl, ff, fs, hi, mk, md, rfl, rfl, R⟩ := I
  have J := fd_rel (fl := fl) (ff := ff) (mk := mk) (k + 4) R
  rcases fd_c6 v1 with h | ⟨h, h6, h5⟩ | ⟨f, hf, rfl, h, h6, h5⟩
  · exact br_t h (br_t rfl (br_t h ⟨rfl, J⟩))
  · exact br_f h (br_t h6 (br_t rfl (br_f h (br_f h5 ⟨rfl, J⟩))))
  · exact br_f h (br_f h6 (br_f (by decide) (fd_Xdp hf hf (br_f h (br_t h5 (fd_Ydf R hf ⟨rfl, J⟩))))))
theorem i_vc_pairs {k : Nat} {u : SX} {v : SY} (I : i_Rel k u v) (hk : k + 4 ≤ 2048) (v1 : Int32) (v2 : Int32) : wpX_pairs (fun r => wpY_pairs (fun r' v' => r' = r ∧ i_Rel (k + 4) u v') v v1 v2) u v1 v2 := by
  obtain ⟨p, w, fl, ff, fs, hi, mk, md, rfl, rfl, R⟩ := I
  have J := fd_rel (fl := fl) (ff := ff) (mk := mk) (k + 4) R
  rcases fd_c3 v1 with h | ⟨h, h3, _, h2⟩ | ⟨f, hf, rfl, h, h3, _, h2⟩
  · exact br_t h (br_t rfl (br_t h ⟨rfl, J⟩))
  · exact br_f h (br_t h3 (br_t rfl (br_f h (br_t h2 ⟨rfl, J⟩))))
  · rcases fd_c3 v2 with g | ⟨g, g3, g2, _⟩ | ⟨f2, hf2, rfl, g, g3, g2, _⟩
    · exact br_f h (br_f h3 (br_f (by decide) (br_t g (br_t rfl (br_f h (br_f h2 (br_t g ⟨rfl, J⟩)))))))
    · exact br_f h (br_f h3 (br_f (by decide) (br_f g (br_t g3 (br_t rfl (br_f h (br_f h2 (br_f g (br_f g2 ⟨rfl, J⟩)))))))))
    · exact br_f h (br_f h3 (br_f (by decide) (br_f g (br_f g3 (br_f (by decide) (fd_Xdp (by omega) (by omega) (br_f h (br_f h2 (br_f g (br_t g2 (fd_Ypr R hf hf2 (fun _ => ⟨rfl, fd_rel _ R⟩))))))))))))
theorem i_vc_box {k : Nat} {u : SX} {v : SY} (I : i_Rel k u v) (hk : k + 4 ≤ 2048) (v1 : Int32) (v2 : Int32) (v3 : Int32) : wpX_box (fun r => wpY_box (fun r' => r' = r ∧ i_Rel (k + 4) u v) v v1 v2 v3) u v1 v2 v3 := by
  obtain ⟨p, w, fl, ff, fs, hi, mk, md, rfl, rfl, R⟩ := I
  have J := fd_rel (fl := fl) (ff := ff) (mk := mk) (k + 4) R
  obtain ⟨b, hb, hX, hY⟩ := fd_num (p := p) (w := w) (fl := fl) (ff := ff) (hi := hi) (mk := mk) (md := md) v1
  unfold wpX_box wpY_box
  dsimp only
  cases b
  · exact hX (br_t rfl (hY (br_t rfl ⟨rfl, J⟩)))
  · obtain ⟨f, hf, rfl⟩ := hb rfl
    have e : v3.toInt64 * v2.toInt64 + v2.toInt64 = (v3.toInt64 + 1) * v2.toInt64 := by grind
    refine hX (br_f (by decide) (br_c (fun g1 => ?_) (fun g1 => br_c (fun g2 => nm_e (nm_r e (fd_Xbx (by omega) ?_))) (fun g2 => ?_))))
    · exact hY (br_f (by decide) (br_t g1 ⟨rfl, J⟩))
    · exact hY (br_f (by decide) (br_f g1 (br_t g2 (fd_Ybx R (by omega) ⟨rfl, J⟩))))
    · exact hY (br_f (by decide) (br_f g1 (br_f g2 ⟨rfl, J⟩)))
