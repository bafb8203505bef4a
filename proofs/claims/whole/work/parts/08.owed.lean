theorem fd_RV {p w fs hi : Nat → Int32} {md : Int32} (R : fd_R p w fs hi md) : fd_V w := ⟨R.2.2.2.2.1, R.2.2.2.2.2⟩
theorem i_vc_make {k : Nat} {u : SX} {v : SY} (I : i_Rel k u v) (hk : k + 4 ≤ 2048) (v1 : Int32) (v2 : Int32) (v3 : Int32) : wpX_make (fun r u' => wpY_make (fun r' v' => r' = r ∧ i_Rel (k + 4) u' v') v v1 v2 v3) u v1 v2 v3 := by
  obtain ⟨p, w, fl, ff, fs, hi, mk, md, rfl, rfl, R⟩ := I
  have J := fd_rel (fl := fl) (ff := ff) (mk := mk) (k + 4) R
  unfold wpX_make
  dsimp only
  rcases fd_c10 (f := 0) (by omega) v1 with ⟨hX, hc⟩ | ⟨a, ha, rfl, aX, a1, a2, a3⟩
  · refine hX (br_t rfl ?_)
    rcases hc with hc | ⟨hc, hd, _⟩
    · exact br_t hc ⟨rfl, J⟩
    · exact br_f hc (br_t hd ⟨rfl, J⟩)
  · refine aX (br_f (by decide) ?_)
    rcases fd_c10 (f := 1) (by omega) v2 with ⟨hX, hc⟩ | ⟨b, hb, rfl, bX, b1, b2, b3⟩
    · refine hX (br_t rfl (br_f a1 (br_f a2 ?_)))
      rcases hc with hc | ⟨hc, hd, _⟩
      · exact br_t hc ⟨rfl, J⟩
      · exact br_f hc (br_t hd ⟨rfl, J⟩)
    · refine bX (br_f (by decide) ?_)
      rcases fd_c10 (f := 2) (by omega) v3 with ⟨hX, hc⟩ | ⟨c, hcc, rfl, cX, c1, c2, c3⟩
      · refine hX (br_t rfl (br_f a1 (br_f a2 (br_f b1 (br_f b2 ?_)))))
        rcases hc with hc | ⟨hc, _, hd⟩
        · exact br_t hc ⟨rfl, J⟩
        · exact br_f hc (br_f hd ⟨rfl, J⟩)
      · refine cX (br_f (by decide) (fd_Xlf ?_))
        rcases fd_fi_spec (fun d => decide (p d = 0)) 48 0 with ⟨h1, _⟩ | ⟨_, h2, _⟩
        · have h1' : fd_fi (fun d => decide (p d = 0)) 48 0 = 48 := by omega
          refine br_t (by rw [h1']; rfl) (br_f a1 (br_f a2 (br_f b1 (br_f b2 (br_f c1 (br_t c3 (fd_Ymk ⟨fun _ => ⟨rfl, J⟩, fun h => absurd h (by omega)⟩)))))))
        · have h2' : fd_fi (fun d => decide (p d = 0)) 48 0 < 48 := by omega
          refine br_f (fun h => absurd ((nI_eq (b := 48) (by omega) (by omega)).mp h) (by omega)) ?_
          refine fd_Xmw (p := p) (w := w) (a := a) (b := b) (c := c) (A := fun q w' => wpY_make (fun r' v' => r' = nI (fd_fi (fun d => decide (p d = 0)) 48 0) ∧ i_Rel (k + 4) (q, w', fl, ff, fs) v') (md, p, w, fl, ff, hi, mk) (nI a) (nI b) (nI c)) h2' ?_ (fun H => H)
          refine br_f a1 (br_f a2 (br_f b1 (br_f b2 (br_f c1 (br_t c3 (fd_Ymk ⟨fun h => absurd h (by omega), fun _ => ⟨rfl, fd_rel _ ?_⟩⟩))))))
          have V := fd_mV (r := fd_fi (fun d => decide (p d = 0)) 48 0) (fd_RV R) ha hb hcc
          exact ⟨fd_P01 R.1 (Or.inr rfl), R.2.1, R.2.2.1, R.2.2.2.1, V.1, V.2⟩
theorem i_vc_remove {k : Nat} {u : SX} {v : SY} (I : i_Rel k u v) (hk : k + 4 ≤ 2048) (v1 : Int32) : wpX_remove (fun r u' => wpY_remove (fun r' v' => r' = r ∧ i_Rel (k + 4) u' v') v v1) u v1 := by
  obtain ⟨p, w, fl, ff, fs, hi, mk, md, rfl, rfl, R⟩ := I
  have J := fd_rel (fl := fl) (ff := ff) (mk := mk) (k + 4) R
  unfold wpX_remove wpY_remove
  dsimp only
  obtain ⟨b, hb, hX, hY⟩ := fd_doc (p := p) (w := w) (fl := fl) (ff := ff) (fs := fs) (hi := hi) (mk := mk) (md := md) v1
  cases b
  · exact hX (br_t rfl (hY (br_t rfl ⟨rfl, J⟩)))
  · obtain ⟨d, hd, rfl⟩ := hb rfl
    have e : upd p (nI d).toNatClampNeg (vp_nar .boolean 0) = upd p d 0 := by rw [fd_cl (x := d) (by omega), fd_v0]
    have i := vp_in_nI (N := 48) hd (by omega)
    have R' : fd_R (upd p d 0) w fs hi md := ⟨fd_P01 R.1 (Or.inl rfl), R.2⟩
    exact hX (br_f (by decide) ⟨i, nm_r e (fd_Xdocs (hY (br_f (by decide) ⟨i, nm_r e (fd_Ydocs ⟨rfl, fd_rel _ R'⟩)⟩)))⟩)
theorem i_vc_set {k : Nat} {u : SX} {v : SY} (I : i_Rel k u v) (hk : k + 4 ≤ 2048) (v1 : Int32) (v2 : Int32) (v3 : Int32) : wpX_set (fun r u' => wpY_set (fun r' v' => r' = r ∧ i_Rel (k + 4) u' v') v v1 v2 v3) u v1 v2 v3 := by
  obtain ⟨p, w, fl, ff, fs, hi, mk, md, rfl, rfl, R⟩ := I
  have J := fd_rel (fl := fl) (ff := ff) (mk := mk) (k + 4) R
  unfold wpX_set wpY_set
  dsimp only
  obtain ⟨b, hb, hX, hY⟩ := fd_doc (p := p) (w := w) (fl := fl) (ff := ff) (fs := fs) (hi := hi) (mk := mk) (md := md) v1
  cases b
  · exact hX (br_t rfl (hY (br_t rfl ⟨rfl, J⟩)))
  · obtain ⟨d, hd, rfl⟩ := hb rfl
    refine hX (br_f (by decide) ?_)
    rcases fd_c6 v2 with h | ⟨h, h6, h5⟩ | ⟨f, hf, rfl, h, h6, h5⟩
    · exact br_t h (br_t rfl (hY (br_f (by decide) (br_t h ⟨rfl, J⟩))))
    · exact br_f h (br_t h6 (br_t rfl (hY (br_f (by decide) (br_f h (br_f h5 ⟨rfl, J⟩))))))
    · refine br_f h (br_f h6 (br_f (by decide) (fd_Xvo hf (fun hv => br_t rfl (hY (br_f (by decide) (br_f h (br_t h5 (fd_Yvo hf ?_)))))) (fun g1 g2 => br_f (by decide) (nm_r (fd_ix d f) ?_)))))
      · rcases hv with hv | hv
        · exact br_t hv ⟨rfl, J⟩
        · exact br_c (fun _ => ⟨rfl, J⟩) (fun _ => br_f hv ⟨rfl, J⟩)
      · have e := fd_cl (x := 6 * d + f) (by omega)
        have i := vp_in_nI (n := 6 * d + f) (N := 288) (by omega) (by omega)
        rw [e]
        have V := fd_svV (d := d) (fd_RV R) hf g1 g2
        have R' : fd_R p (upd w (6 * d + f) v3) fs hi md := ⟨R.1, R.2.1, R.2.2.1, R.2.2.2.1, V.1, V.2⟩
        refine ⟨i, br_c (fun he => ?_) (fun he => ⟨i, nm_e ?_⟩)⟩
        · refine hY (br_f (by decide) (br_f h (br_t h5 (fd_Yvo hf (br_f g1 (br_t g2 ?_))))))
          rw [fd_iy, e]
          refine ⟨i, nm_e ⟨i, nm_e (br_t he ⟨rfl, ?_⟩)⟩⟩
          rw [← he, fd_upd0]
          exact J
        · refine hY (br_f (by decide) (br_f h (br_t h5 (fd_Yvo hf (br_f g1 (br_t g2 ?_))))))
          rw [fd_iy, e]
          exact ⟨i, nm_e ⟨i, nm_e (br_f he ⟨rfl, fd_rel _ R'⟩)⟩⟩
theorem i_vc_filterTerms {k : Nat} {u : SX} {v : SY} (I : i_Rel k u v) (hk : k + 4 ≤ 2048) (v1 : Int32) (v2 : Int32) : wpX_filterTerms (fun r u' => wpY_filterTerms (fun r' v' => r' = r ∧ i_Rel (k + 4) u' v') v v1 v2) u v1 v2 := by
  obtain ⟨p, w, fl, ff, fs, hi, mk, md, rfl, rfl, R⟩ := I
  have J := fd_rel (fl := fl) (ff := ff) (mk := mk) (k + 4) R
  rcases fd_c3 v1 with h | ⟨h, h3, h2, _⟩ | ⟨f, hf, rfl, h, h3, h2, _⟩
  · exact br_t h (br_t rfl (br_t h ⟨rfl, J⟩))
  · exact br_f h (br_t h3 (br_t rfl (br_f h (br_f h2 ⟨rfl, J⟩))))
  · refine br_f h (br_f h3 (br_f (by decide) (br_c (fun g1 => ?_) (fun g1 => br_c (fun g2 => ?_) (fun g2 => ?_)))))
    · exact br_f h (br_t h2 (br_t g1 ⟨rfl, J⟩))
    · have e := fd_cl (x := f) (by omega)
      have i := vp_in_nI (n := f) (N := 6) (by omega) (by omega)
      have R' : fd_R p w (upd fs f 0) hi md := by
        refine ⟨R.1, ?_, ?_, ?_, R.2.2.2.2⟩
        · rw [pk_un (by omega)]; exact R.2.1
        · rw [pk_un (by omega)]; exact R.2.2.1
        · rw [pk_un (by omega)]; exact R.2.2.2.1
      have e1 : upd fl (nI f).toNatClampNeg (vp_nar .boolean 1) = upd fl f 1 := by rw [e, fd_v1]
      have e2 : upd ff (nI f).toNatClampNeg v2 = upd ff f v2 := by rw [e]
      have e3 : upd fs (nI f).toNatClampNeg 0 = upd fs f 0 := by rw [e]
      exact ⟨i, nm_r e1 ⟨i, nm_r e2 ⟨i, nm_r e3 (fd_Xmat (br_f h (br_t h2 (br_f g1 (br_t g2 ⟨i, nm_r e1 ⟨i, nm_r e2 (fd_Ymat R' ⟨rfl, fd_rel _ R'⟩)⟩⟩)))))⟩⟩⟩
    · exact br_f h (br_t h2 (br_f g1 (br_f g2 ⟨rfl, J⟩)))
theorem fd_ft {k : Nat} {p w fl ff fs hi mk : Nat → Int32} {md v1 v2 : Int32} (R : fd_R p w fs hi md) (h : wpY_matching (fun r => r = nI (fd_c (fun d => fd_M p w (upd fl 3 1) (upd ff 3 v1) (upd fs 3 v2) d (-1)) 48) ∧ i_Rel (k + 4) (p, w, upd fl 3 1, upd ff 3 v1, upd fs 3 v2) (v2, p, w, upd fl 3 1, upd ff 3 v1, hi, mk)) (v2, p, w, upd fl 3 1, upd ff 3 v1, hi, mk) → wpY_filterTags (fun r' v' => r' = nI (fd_c (fun d => fd_M p w (upd fl 3 1) (upd ff 3 v1) (upd fs 3 v2) d (-1)) 48) ∧ i_Rel (k + 4) (p, w, upd fl 3 1, upd ff 3 v1, upd fs 3 v2) v') (md, p, w, fl, ff, hi, mk) v1 v2) : wX_filterTags_32 (fun r u' => wpY_filterTags (fun r' v' => r' = r ∧ i_Rel (k + 4) u' v') (md, p, w, fl, ff, hi, mk) v1 v2) v1 v2 p w fl ff fs := by
  have i := vp_in_nI (n := 3) (N := 6) (by omega) (by omega)
  have R' : fd_R p w (upd fs 3 v2) hi v2 := by
    refine ⟨R.1, pk_us, ?_, ?_, R.2.2.2.2⟩
    · rw [pk_un (by omega)]; exact R.2.2.1
    · rw [pk_un (by omega)]; exact R.2.2.2.1
  exact ⟨i, nm_r rfl ⟨i, nm_r rfl ⟨i, nm_r rfl (fd_Xmat (h (fd_Ymat R' ⟨rfl, fd_rel _ R'⟩)))⟩⟩⟩
theorem i_vc_filterTags {k : Nat} {u : SX} {v : SY} (I : i_Rel k u v) (hk : k + 4 ≤ 2048) (v1 : Int32) (v2 : Int32) : wpX_filterTags (fun r u' => wpY_filterTags (fun r' v' => r' = r ∧ i_Rel (k + 4) u' v') v v1 v2) u v1 v2 := by
  obtain ⟨p, w, fl, ff, fs, hi, mk, md, rfl, rfl, R⟩ := I
  have J := fd_rel (fl := fl) (ff := ff) (mk := mk) (k + 4) R
  refine br_c (fun g1 => br_t g1 ⟨rfl, J⟩) (fun g1 => br_c (fun g2 => ?_) (fun g2 => br_f g1 (br_f g2 ⟨rfl, J⟩)))
  by_cases h : v2 < 0
  · have a0 : ¬ v2 = 0 := fun e => absurd h (by rw [e]; decide)
    have a1 : ¬ v2 = 1 := fun e => absurd h (by rw [e]; decide)
    have a2 : ¬ v2 = 2 := fun e => absurd h (by rw [e]; decide)
    exact br_f a0 (br_f a1 (br_f a2 (br_f g1 (br_t g2 (br_t h ⟨rfl, J⟩)))))
  · obtain ⟨j, hj, rfl⟩ := nI_of h
    refine pk_eq j 0 (fun e => ?_) (fun e0 => pk_eq j 1 (fun e => ?_) (fun e1 => pk_eq j 2 (fun e => ?_) (fun e2 => ?_)))
    · exact fd_ft R (fun H => br_f g1 (br_t g2 (br_f h (br_t (nI_le (b := 2) (by omega) (by omega)) (nm_r rfl (nm_r rfl H))))))
    · exact fd_ft R (fun H => br_f g1 (br_t g2 (br_f h (br_t (nI_le (b := 2) (by omega) (by omega)) (nm_r rfl (nm_r rfl H))))))
    · exact fd_ft R (fun H => br_f g1 (br_t g2 (br_f h (br_t (nI_le (b := 2) (by omega) (by omega)) (nm_r rfl (nm_r rfl H))))))
    · exact br_f g1 (br_t g2 (br_f h (br_f (nI_ge (a := 2) (by omega) hj) ⟨rfl, J⟩)))
theorem i_vc_filterRange {k : Nat} {u : SX} {v : SY} (I : i_Rel k u v) (hk : k + 4 ≤ 2048) (v1 : Int32) (v2 : Int32) (v3 : Int32) : wpX_filterRange (fun r u' => wpY_filterRange (fun r' v' => r' = r ∧ i_Rel (k + 4) u' v') v v1 v2 v3) u v1 v2 v3 := by
  obtain ⟨p, w, fl, ff, fs, hi, mk, md, rfl, rfl, R⟩ := I
  have J := fd_rel (fl := fl) (ff := ff) (mk := mk) (k + 4) R
  unfold wpX_filterRange wpY_filterRange
  dsimp only
  obtain ⟨b, hb, hX, hY⟩ := fd_num (p := p) (w := w) (fl := fl) (ff := ff) (hi := hi) (mk := mk) (md := md) v1
  cases b
  · exact hX (br_t rfl (hY (br_t rfl ⟨rfl, J⟩)))
  · obtain ⟨f, hf, rfl⟩ := hb rfl
    have e := fd_cl (x := f) (by omega)
    have i := vp_in_nI (n := f) (N := 6) (by omega) (by omega)
    have R' : fd_R p w (upd fs f v3) (upd hi f v3) md := by
      refine ⟨R.1, ?_, ?_, ?_, R.2.2.2.2⟩
      · rw [pk_un (by omega)]; exact R.2.1
      · rcases hf with rfl | rfl
        · rw [pk_us, pk_us]
        · rw [pk_un (by omega), pk_un (by omega)]; exact R.2.2.1
      · rcases hf with rfl | rfl
        · rw [pk_un (by omega), pk_un (by omega)]; exact R.2.2.2.1
        · rw [pk_us, pk_us]
    have e1 : upd fl (nI f).toNatClampNeg (vp_nar .boolean 1) = upd fl f 1 := by rw [e, fd_v1]
    have e2 : upd ff (nI f).toNatClampNeg v2 = upd ff f v2 := by rw [e]
    have e3 : upd fs (nI f).toNatClampNeg v3 = upd fs f v3 := by rw [e]
    have e4 : upd hi (nI f).toNatClampNeg v3 = upd hi f v3 := by rw [e]
    exact hX (br_f (by decide) ⟨i, nm_r e1 ⟨i, nm_r e2 ⟨i, nm_r e3 (fd_Xmat (hY (br_f (by decide) ⟨i, nm_r e1 ⟨i, nm_r e2 ⟨i, nm_r e4 (fd_Ymat R' ⟨rfl, fd_rel _ R'⟩)⟩⟩⟩)))⟩⟩⟩)
theorem i_vc_release {k : Nat} {u : SX} {v : SY} (I : i_Rel k u v) (hk : k + 4 ≤ 2048) (v1 : Int32) : wpX_release (fun r u' => wpY_release (fun r' v' => r' = r ∧ i_Rel (k + 4) u' v') v v1) u v1 := by
  obtain ⟨p, w, fl, ff, fs, hi, mk, md, rfl, rfl, R⟩ := I
  have J := fd_rel (fl := fl) (ff := ff) (mk := mk) (k + 4) R
  rcases fd_c6 v1 with h | ⟨h, h6, h5⟩ | ⟨f, hf, rfl, h, h6, h5⟩
  · exact br_t h (br_t rfl (br_t h ⟨rfl, J⟩))
  · exact br_f h (br_t h6 (br_t rfl (br_f h (br_f h5 ⟨rfl, J⟩))))
  · have i := vp_in_nI (n := f) (N := 6) (by omega) (by omega)
    have e1 : upd fl (nI f).toNatClampNeg (vp_nar .boolean 0) = upd fl f 0 := by rw [fd_cl (x := f) (by omega), fd_v0]
    exact br_f h (br_f h6 (br_f (by decide) ⟨i, nm_r e1 (fd_Xmat (br_f h (br_t h5 ⟨i, nm_r e1 (fd_Ymat R ⟨rfl, fd_rel _ R⟩)⟩)))⟩))
