section MT
variable {mrw mly mln msp mwh mcl mtr mfo : Int} {mki mro mlf mli msw msa msc msl mff mlt mgr mxx msu : Nat → Int}
/-- the point of a code, by its four digits -/
theorem xm_dig {i j k l : Nat} (hi : i < 31) (hj : j < 31) (hk : k < 31) (hl : l < 31) : xm_p (29791 * i + 961 * j + 31 * k + l) 0 = (i : Int) - 15 ∧ xm_p (29791 * i + 961 * j + 31 * k + l) 1 = (j : Int) - 15 ∧ xm_p (29791 * i + 961 * j + 31 * k + l) 2 = (k : Int) - 15 ∧ xm_p (29791 * i + 961 * j + 31 * k + l) 3 = (l : Int) - 15 := by
  simp only [xm_p]
  omega
theorem xr_P_cg {n : Nat} {rce x : Nat → Int} {N : Nat} (h : ∀ w, w < 4 → x w = xm_p N w) : (∀ r, r < n → xr_H rce x r) ↔ xr_P n rce N = true := by
  rw [xr_P_iff]
  have e : ∀ r, xr_H rce x r ↔ xr_H rce (xm_p N) r := fun r => by
    unfold xr_H xr_d
    rw [h 0 (by omega), h 1 (by omega), h 2 (by omega), h 3 (by omega)]
  exact ⟨fun q r hr => (e r).mp (q r hr), fun q r hr => (e r).mpr (q r hr)⟩
abbrev xt_G (n : Nat) (mki mro : Nat → Int) (N : Nat) (fo : Int) (ff lf gf : Nat → Int) : Prop := xm_G (xr_P n (xr_M mki mro)) N 0 fo ff lf gf
theorem sp_try74 {J : Int → Int → (Nat → Int) → (Nat → Int) → (Nat → Int) → (Nat → Int) → (Nat → Int) → Int → Prop} {n i j k : Nat} (hok : xr_ok n (xr_M mki mro)) (hi : i < 31) (hj : j < 31) (hk : k < 31) (hsum : ∀ r, r < n → msu r = mro (5 * r) * ((i : Int) - 15) + mro (5 * r + 1) * ((j : Int) - 15) + mro (5 * r + 2) * ((k : Int) - 15))
    (kk : ∀ fo ff lf gf xx, xt_G n mki mro (29791 * i + 961 * j + 31 * (k + 1)) fo ff lf gf → J mtr fo ff lf gf xx msu (((k + 1 : Nat) : Int) - 15)) :
    ∀ (t l : Nat) (fo : Int) (ff lf gf xx : Nat → Int), l + t = 31 → xx 0 = (i : Int) - 15 → xx 1 = (j : Int) - 15 → xx 2 = (k : Int) - 15 → xt_G n mki mro (29791 * i + 961 * j + 31 * k + l) fo ff lf gf →
      wp_X4_tryAll_74 J (n : Int) mly mln msp mwh mcl mki mro mlf mli msw msa msc msl ((k : Int) - 15) (t + 1) mtr fo ff lf gf xx msu ((l : Int) - 15) := by
  intro t
  induction t with
  | zero =>
    intro l fo ff lf gf xx hl x0 x1 x2 g
    show wl_X4_tryAll_74 _ _ _ _ _ _ _ _ _ _ _ _ _ _ _ _ _ _ _ _ _ _ _ _ _
    unfold wl_X4_tryAll_74
    refine ⟨⟨by omega, by omega⟩, fun _ y hy => ?_, fun q => absurd (show (15 : Int) < (l : Int) - 15 by omega) q⟩
    rw [hy, show (k : Int) - 15 + 1 = ((k + 1 : Nat) : Int) - 15 by omega]
    refine kk fo ff lf gf xx ?_
    rw [show 29791 * i + 961 * j + 31 * (k + 1) = 29791 * i + 961 * j + 31 * k + l by omega]
    exact g
  | succ t ih =>
    intro l fo ff lf gf xx hl x0 x1 x2 g
    show wl_X4_tryAll_74 _ _ _ _ _ _ _ _ _ _ _ _ _ _ _ _ _ _ _ _ _ _ _ _ _
    unfold wl_X4_tryAll_74
    refine ⟨⟨by omega, by omega⟩, fun q => absurd q (by omega), fun _ => ?_⟩
    have hl31 : l < 31 := by omega
    obtain ⟨N, eN⟩ : ∃ N, N = 29791 * i + 961 * j + 31 * k + l := ⟨_, rfl⟩
    obtain ⟨d0, d1, d2, d3⟩ := xm_dig hi hj hk hl31
    rw [← eN] at g d0 d1 d2 d3
    have e3 : xm_p N 3 = (l : Int) - 15 := d3
    have hsum2 : ∀ r, r < n → msu r = mro (5 * r) * xm_p N 0 + mro (5 * r + 1) * xm_p N 1 + mro (5 * r + 2) * xm_p N 2 := fun r hr => by rw [d0, d1, d2]; exact hsum r hr
    have next : ∀ fo2 ff2 lf2 gf2 xx2, xx2 0 = (i : Int) - 15 → xx2 1 = (j : Int) - 15 → xx2 2 = (k : Int) - 15 → xt_G n mki mro (N + 1) fo2 ff2 lf2 gf2 → wp_X4_tryAll_102 (wp_X4_tryAll_74 J (n : Int) mly mln msp mwh mcl mki mro mlf mli msw msa msc msl ((k : Int) - 15) (t + 1)) mtr fo2 ff2 lf2 gf2 xx2 msu ((l : Int) - 15) := by
      intro fo2 ff2 lf2 gf2 xx2 y0 y1 y2 g2
      unfold wp_X4_tryAll_102
      intro y hy
      rw [hy, show (l : Int) - 15 + 1 = ((l + 1 : Nat) : Int) - 15 by omega]
      refine ih (l + 1) fo2 ff2 lf2 gf2 xx2 (by omega) y0 y1 y2 ?_
      rw [show 29791 * i + 961 * j + 31 * k + (l + 1) = N + 1 by omega]
      exact g2
    rw [← e3]
    refine sp_holds hok (fun w _ => xm_p_in N w) hsum2 (fun hh => ⟨⟨by omega, by omega⟩, fun q => absurd q (by omega), fun _ => ⟨by omega, fun xx2 hxx2 => ?_⟩⟩) (fun hh => ⟨⟨by omega, by omega⟩, fun _ => ?_, fun q => absurd rfl q⟩)
    · rw [xw_uI xx (k := 3) 3 (by omega)] at hxx2
      have hxx : ∀ w, w < 4 → xx2 w = xm_p N w := fun w hw => by
        match w, hw with
        | 0, _ => rw [hxx2, d0]; simp [x0]
        | 1, _ => rw [hxx2, d1]; simp [x1]
        | 2, _ => rw [hxx2, d2]; simp [x2]
        | 3, _ => rw [hxx2]; simp
      have hPN : xr_P n (xr_M mki mro) N = true := (xr_P_iff _ _ _).mpr hh
      refine sp_take (fun w hw => by rw [hxx w hw]; exact xm_p_in N w) ⟨g.1, g.2.1⟩ (fun hf w hw => ?_) (fun ff2 lf2 gf2 k1 k2 => ?_)
      · obtain ⟨⟨M1, -, -, c1⟩, ⟨M2, -, -, c2⟩, -⟩ := (g.2.2.2 rfl).2 (by have := g.1; omega) w hw
        have p1 := xm_p_in M1 w
        have p2 := xm_p_in M2 w
        rw [← c1, ← c2]
        exact ⟨⟨by omega, by omega⟩, ⟨by omega, by omega⟩⟩
      · rw [e3]
        refine next _ ff2 lf2 gf2 xx2 (by rw [hxx 0 (by omega), d0]) (by rw [hxx 1 (by omega), d1]) (by rw [hxx 2 (by omega), d2]) ?_
        have hone : ∀ M, N ≤ M → M < N + 1 → M = N := fun M h1 h2 => by omega
        exact xm_G_block (k := 1) (lo := xm_p N) (hi := xm_p N) g (by omega) (by omega) (fun q => absurd rfl q) (fun M h1 h2 => by rw [hone M h1 h2]; exact hPN) (fun w _ => rfl) (fun w _ => ⟨N, by omega, by omega, rfl⟩) (fun w _ M h1 h2 => by rw [hone M h1 h2]; exact ⟨Int.le_refl _, Int.le_refl _⟩) (fun h w hw => by rw [← hxx w hw]; exact k1 h w hw) (fun h w hw => by rw [← hxx w hw]; exact k2 h w hw)
    · rw [e3]
      refine next fo ff lf gf xx x0 x1 x2 (xm_G_skip g (by omega) (fun M h1 h2 => ?_))
      rw [show M = N by omega]
      exact (xr_P_false _ _ _).mpr hh
theorem sp_try39 {J : Int → Int → (Nat → Int) → (Nat → Int) → (Nat → Int) → (Nat → Int) → (Nat → Int) → Int → Prop} {n i j : Nat} (hok : xr_ok n (xr_M mki mro)) (hi : i < 31) (hj : j < 31)
    (kk : ∀ fo ff lf gf xx su, xt_G n mki mro (29791 * i + 961 * (j + 1)) fo ff lf gf → J mtr fo ff lf gf xx su (((j + 1 : Nat) : Int) - 15)) :
    ∀ (t k : Nat) (fo : Int) (ff lf gf xx su : Nat → Int), k + t = 31 → xt_G n mki mro (29791 * i + 961 * j + 31 * k) fo ff lf gf →
      wp_X4_tryAll_39 J (n : Int) mly mln msp mwh mcl mki mro mlf mli msw msa msc msl ((i : Int) - 15) ((j : Int) - 15) (t + 1) mtr fo ff lf gf xx su ((k : Int) - 15) := by
  intro t
  induction t with
  | zero =>
    intro k fo ff lf gf xx su hk g
    show wl_X4_tryAll_39 _ _ _ _ _ _ _ _ _ _ _ _ _ _ _ _ _ _ _ _ _ _ _ _ _ _
    unfold wl_X4_tryAll_39
    refine ⟨⟨by omega, by omega⟩, fun _ y hy => ?_, fun q => absurd (show (15 : Int) < (k : Int) - 15 by omega) q⟩
    rw [hy, show (j : Int) - 15 + 1 = ((j + 1 : Nat) : Int) - 15 by omega]
    refine kk fo ff lf gf xx su ?_
    rw [show 29791 * i + 961 * (j + 1) = 29791 * i + 961 * j + 31 * k by omega]
    exact g
  | succ t ih =>
    intro k fo ff lf gf xx su hk g
    show wl_X4_tryAll_39 _ _ _ _ _ _ _ _ _ _ _ _ _ _ _ _ _ _ _ _ _ _ _ _ _ _
    unfold wl_X4_tryAll_39
    refine ⟨⟨by omega, by omega⟩, fun q => absurd q (by omega), fun _ => ⟨by omega, fun a ha => ⟨by omega, fun b hb => ⟨by omega, fun c hc => ?_⟩⟩⟩⟩
    rw [xw_uI xx (k := 0) 0 (by omega)] at ha
    rw [xw_uI a (k := 1) 1 (by omega)] at hb
    rw [xw_uI b (k := 2) 2 (by omega)] at hc
    have c0 : c 0 = (i : Int) - 15 := by rw [hc, hb, ha]; simp
    have c1 : c 1 = (j : Int) - 15 := by rw [hc, hb, ha]; simp
    have c2 : c 2 = (k : Int) - 15 := by rw [hc, hb, ha]; simp
    refine sp_addUp hok.1 (fun su2 hsu2 => ⟨32, ?_⟩)
    rw [c0, c1, c2] at hsu2
    refine sp_try74 hok hi hj (by omega) hsu2 (fun fo2 ff2 lf2 gf2 xx2 g2 => ?_) 31 0 fo ff lf gf c rfl c0 c1 c2 (by rw [Nat.add_zero]; exact g)
    exact ih (k + 1) fo2 ff2 lf2 gf2 xx2 su2 (by omega) g2
theorem sp_try30 {J : Int → Int → (Nat → Int) → (Nat → Int) → (Nat → Int) → (Nat → Int) → (Nat → Int) → Int → Prop} {n i : Nat} (hok : xr_ok n (xr_M mki mro)) (hi : i < 31)
    (kk : ∀ fo ff lf gf xx su, xt_G n mki mro (29791 * (i + 1)) fo ff lf gf → J mtr fo ff lf gf xx su (((i + 1 : Nat) : Int) - 15)) :
    ∀ (t j : Nat) (fo : Int) (ff lf gf xx su : Nat → Int), j + t = 31 → xt_G n mki mro (29791 * i + 961 * j) fo ff lf gf →
      wp_X4_tryAll_30 J (n : Int) mly mln msp mwh mcl mki mro mlf mli msw msa msc msl ((i : Int) - 15) (t + 1) mtr fo ff lf gf xx su ((j : Int) - 15) := by
  intro t
  induction t with
  | zero =>
    intro j fo ff lf gf xx su hj g
    show wl_X4_tryAll_30 _ _ _ _ _ _ _ _ _ _ _ _ _ _ _ _ _ _ _ _ _ _ _ _ _
    unfold wl_X4_tryAll_30
    refine ⟨⟨by omega, by omega⟩, fun _ y hy => ?_, fun q => absurd (show (15 : Int) < (j : Int) - 15 by omega) q⟩
    rw [hy, show (i : Int) - 15 + 1 = ((i + 1 : Nat) : Int) - 15 by omega]
    refine kk fo ff lf gf xx su ?_
    rw [show 29791 * (i + 1) = 29791 * i + 961 * j by omega]
    exact g
  | succ t ih =>
    intro j fo ff lf gf xx su hj g
    show wl_X4_tryAll_30 _ _ _ _ _ _ _ _ _ _ _ _ _ _ _ _ _ _ _ _ _ _ _ _ _
    unfold wl_X4_tryAll_30
    refine ⟨⟨by omega, by omega⟩, fun q => absurd q (by omega), fun _ => ⟨32, ?_⟩⟩
    exact sp_try39 hok hi (by omega) (fun fo2 ff2 lf2 gf2 xx2 su2 g2 => ih (j + 1) fo2 ff2 lf2 gf2 xx2 su2 (by omega) g2) 31 0 fo ff lf gf xx su rfl (by rw [Nat.mul_zero, Nat.add_zero]; exact g)
theorem sp_tryAll {post : Int → Int → (Nat → Int) → (Nat → Int) → (Nat → Int) → (Nat → Int) → (Nat → Int) → Prop} {n : Nat} (hok : xr_ok n (xr_M mki mro)) (ht : mtr = 0 ∨ mtr = 1) (hg : ¬ mtr = 0 → xt_G n mki mro 923521 mfo mff mlt mgr)
    (kk : ∀ fo ff lf gf xx su, xt_G n mki mro 923521 fo ff lf gf → post 1 fo ff lf gf xx su) : wp_X4_tryAll post (n : Int) mly mln msp mwh mcl mtr mfo mki mro mlf mli msw msa msc msl mff mlt mgr mxx msu := by
  unfold wp_X4_tryAll
  refine ⟨by rcases ht with e | e <;> rw [e] <;> exact ⟨by omega, by omega⟩, fun h => ⟨32, ?_⟩, fun h => ?_⟩
  · have loop : ∀ (t i : Nat) (fo : Int) (ff lf gf xx su : Nat → Int), i + t = 31 → xt_G n mki mro (29791 * i) fo ff lf gf →
        wp_X4_tryAll_21 (n : Int) mly mln msp mwh mcl mki mro mlf mli msw msa msc msl post (t + 1) 1 fo ff lf gf xx su ((i : Int) - 15) := by
      intro t
      induction t with
      | zero =>
        intro i fo ff lf gf xx su hi g
        show wl_X4_tryAll_21 _ _ _ _ _ _ _ _ _ _ _ _ _ _ _ _ _ _ _ _ _ _ _ _
        unfold wl_X4_tryAll_21
        refine ⟨⟨by omega, by omega⟩, fun _ => kk fo ff lf gf xx su ?_, fun q => absurd (show (15 : Int) < (i : Int) - 15 by omega) q⟩
        rw [show (923521 : Nat) = 29791 * i by omega]
        exact g
      | succ t ih =>
        intro i fo ff lf gf xx su hi g
        show wl_X4_tryAll_21 _ _ _ _ _ _ _ _ _ _ _ _ _ _ _ _ _ _ _ _ _ _ _ _
        unfold wl_X4_tryAll_21
        refine ⟨⟨by omega, by omega⟩, fun q => absurd q (by omega), fun _ => ⟨32, ?_⟩⟩
        exact sp_try30 hok (by omega) (fun fo2 ff2 lf2 gf2 xx2 su2 g2 => ih (i + 1) fo2 ff2 lf2 gf2 xx2 su2 (by omega) g2) 31 0 fo ff lf gf xx su rfl (by rw [Nat.mul_zero, Nat.add_zero]; exact g)
    exact loop 31 0 0 mff mlt mgr mxx msu rfl (xm_G_0 _ _ _ _ _)
  · have e : mtr = 1 := by omega
    subst e
    exact kk mfo mff mlt mgr mxx msu (hg h)
end MT
