/-! WHAT THE SEARCHES HAVE FOUND, both sides, and that it is the same. -/
def xv_K (n : Nat) (rce : Nat → Int) (bkn sfo : Int) (sff slf sgf : Nat → Int) : Prop := (bkn = 0 ∨ bkn = 1 ∨ bkn = 2) ∧ (bkn = 1 → xm_G (xr_P n rce) 923521 1 sfo sff slf sgf) ∧ (bkn = 2 → xm_G (xr_P n rce) 923521 0 sfo sff slf sgf)
def xv_Km (n : Nat) (rce : Nat → Int) (mtr mfo : Int) (mff mlt mgr : Nat → Int) : Prop := (mtr = 0 ∨ mtr = 1) ∧ (¬ mtr = 0 → xm_G (xr_P n rce) 923521 0 mfo mff mlt mgr)
theorem xm_F_cmp {P : Nat → Bool} {N : Nat} (hN : 923521 ≤ N) {fo fo2 : Int} {ff ff2 : Nat → Int} (h1 : xm_F P N fo ff) (h2 : xm_F P N fo2 ff2) : (fo = 0 ↔ fo2 = 0) ∧ (0 < fo ↔ 0 < fo2) ∧ (0 < fo → ∀ w, w < 4 → ff w = ff2 w) := by
  rcases h1 with ⟨a1, a2⟩ | ⟨a1, M, a2, a3, a4, a5⟩
  · rcases h2 with ⟨b1, b2⟩ | ⟨b1, K, b2, b3, b4, b5⟩
    · exact ⟨by omega, by omega, fun h => by omega⟩
    · rw [a2 K (by omega)] at b3; cases b3
  · rcases h2 with ⟨b1, b2⟩ | ⟨b1, K, b2, b3, b4, b5⟩
    · rw [b2 M (by omega)] at a3; cases a3
    · have e : M = K := by
        rcases Nat.lt_trichotomy M K with q | q | q
        · rw [b4 M q] at a3; cases a3
        · exact q
        · rw [a4 K q] at b3; cases b3
      subst e
      exact ⟨by omega, by omega, fun _ w hw => by rw [a5 w hw, b5 w hw]⟩
theorem xm_A_cmp {P : Nat → Bool} {N : Nat} {fo fo2 : Int} {lf gf lf2 gf2 : Nat → Int} (h1 : xm_A P N fo lf gf) (h2 : xm_A P N fo2 lf2 gf2) : fo = fo2 ∧ (0 < fo → ∀ w, w < 4 → lf w = lf2 w ∧ gf w = gf2 w) := by
  obtain ⟨a1, a2⟩ := h1
  obtain ⟨b1, b2⟩ := h2
  refine ⟨by rw [a1, b1], fun h w hw => ?_⟩
  obtain ⟨⟨M1, p1, p2, p3⟩, ⟨M2, q1, q2, q3⟩, r⟩ := a2 h w hw
  obtain ⟨⟨K1, s1, s2, s3⟩, ⟨K2, t1, t2, t3⟩, u⟩ := b2 (by omega) w hw
  have e1 := u M1 p1 p2
  have e2 := u M2 q1 q2
  have e3 := r K1 s1 s2
  have e4 := r K2 t1 t2
  omega
theorem xr_P_eq {n : Nat} {f g : Nat → Int} (h : ∀ i, i < 6 * n → f i = g i) : xr_P n f = xr_P n g := by
  funext N
  have e : (∀ r, r < n → xr_H f (xm_p N) r) ↔ (∀ r, r < n → xr_H g (xm_p N) r) := by
    have e1 : ∀ r, r < n → (xr_H f (xm_p N) r ↔ xr_H g (xm_p N) r) := fun r hr => by
      unfold xr_H xr_d
      rw [h (6 * r) (by omega), h (6 * r + 1) (by omega), h (6 * r + 2) (by omega), h (6 * r + 3) (by omega), h (6 * r + 4) (by omega), h (6 * r + 5) (by omega)]
    exact ⟨fun q r hr => (e1 r hr).mp (q r hr), fun q r hr => (e1 r hr).mpr (q r hr)⟩
  cases h1 : xr_P n f N with
  | true => exact ((xr_P_iff n g N).mpr (e.mp ((xr_P_iff n f N).mp h1))).symm
  | false => exact ((xr_P_false n g N).mpr (fun q => (xr_P_false n f N).mp h1 (e.mpr q))).symm
theorem xr_ok_eq {n : Nat} {f g : Nat → Int} (h : ∀ i, i < 6 * n → f i = g i) (ho : xr_ok n f) : xr_ok n g := by
  refine ⟨ho.1, fun r hr => ?_⟩
  obtain ⟨o1, o2, o3⟩ := ho.2 r hr
  rw [h (6 * r) (by omega)] at o1
  rw [h (6 * r + 5) (by omega)] at o3
  exact ⟨o1, fun w hw => by have := o2 w hw; rw [h (6 * r + 1 + w) (by omega)] at this; exact this, o3⟩
section LE
variable {bkn rsz rly lnc lsc lcl lwh sid sfo soe : Int} {rce rst lce lsp ldr sfa sre sle spe spc sfr sto sva sff slf sgf : Nat → Int}
theorem sp3_learn {post : Int → Int → Int → Int → (Nat → Int) → (Nat → Int) → (Nat → Int) → (Nat → Int) → (Nat → Int) → (Nat → Int) → (Nat → Int) → (Nat → Int) → (Nat → Int) → (Nat → Int) → (Nat → Int) → Prop} {n : Nat} {want : Int} (hok : xr_ok n rce) (hw : want = 1 ∨ want = 2) (hK : xv_K n rce bkn sfo sff slf sgf)
    (k : ∀ kn sid fo oe fa re le pe pc fr to_ va ff lf gf, want ≤ kn → xv_K n rce kn fo ff lf gf → post kn sid fo oe fa re le pe pc fr to_ va ff lf gf) :
    wp_X3_learn post bkn (n : Int) rly rce rst lnc lsc lcl lwh lce lsp ldr sid sfo soe sfa sre sle spe spc sfr sto sva sff slf sgf want := by
  unfold wp_X3_learn
  have h0 := hK.1
  refine ⟨⟨by omega, by omega⟩, ⟨by omega, by omega⟩, fun h => ⟨fun h1 => ?_, fun h1 => ?_⟩, fun h => k _ _ _ _ _ _ _ _ _ _ _ _ _ _ _ (by omega) hK⟩
  · refine sp_look hok (Or.inr rfl) (xr_P_iff n rce) (fun sid fo fa re le pe pc fr to_ va ff lf gf g => k _ _ _ _ _ _ _ _ _ _ _ _ _ _ _ (Int.le_refl _) ⟨by omega, fun _ => g, fun q => absurd q (by omega)⟩)
  · refine sp_look hok (Or.inl rfl) (xr_P_iff n rce) (fun sid fo fa re le pe pc fr to_ va ff lf gf g => k _ _ _ _ _ _ _ _ _ _ _ _ _ _ _ (Int.le_refl _) ⟨by omega, fun q => absurd q (by omega), fun _ => g⟩)
/-- what is known when a search has been made: its range and its first -/
theorem xv_K_F {n : Nat} (hK : xv_K n rce bkn sfo sff slf sgf) (h : 1 ≤ bkn) : (0 ≤ sfo ∧ sfo ≤ 923521) ∧ xm_F (xr_P n rce) 923521 sfo sff := by
  rcases hK.1 with e | e | e
  · omega
  · have g := hK.2.1 e
    exact ⟨⟨g.1, g.2.1⟩, g.2.2.1⟩
  · have g := hK.2.2 e
    exact ⟨⟨g.1, g.2.1⟩, g.2.2.1⟩
theorem xv_K_A {n : Nat} (hK : xv_K n rce bkn sfo sff slf sgf) (h : 2 ≤ bkn) : (0 ≤ sfo ∧ sfo ≤ 923521) ∧ xm_A (xr_P n rce) 923521 sfo slf sgf := by
  have e : bkn = 2 := by have := hK.1; omega
  have g := hK.2.2 e
  exact ⟨⟨g.1, g.2.1⟩, g.2.2.2 rfl⟩
theorem sp3_decide {post : Int → Int → Int → Int → Int → (Nat → Int) → (Nat → Int) → (Nat → Int) → (Nat → Int) → (Nat → Int) → (Nat → Int) → (Nat → Int) → (Nat → Int) → (Nat → Int) → (Nat → Int) → (Nat → Int) → Prop} {n : Nat} (hok : xr_ok n rce) (hK : xv_K n rce bkn sfo sff slf sgf)
    (k : ∀ r kn sid fo oe fa re le pe pc fr to_ va ff lf gf, xm_F (xr_P n rce) 923521 fo ff → r = (if 0 < fo then 1 else 0) → xv_K n rce kn fo ff lf gf → post r kn sid fo oe fa re le pe pc fr to_ va ff lf gf) :
    wp_X3_decide post bkn (n : Int) rly rce rst lnc lsc lcl lwh lce lsp ldr sid sfo soe sfa sre sle spe spc sfr sto sva sff slf sgf := by
  unfold wp_X3_decide wp_X2_found
  refine sp3_learn hok (Or.inl rfl) hK (fun kn sid fo oe fa re le pe pc fr to_ va ff lf gf h1 hk => ?_)
  obtain ⟨f1, f2⟩ := xv_K_F hk h1
  refine ⟨⟨by omega, by omega⟩, fun h => k _ _ _ _ _ _ _ _ _ _ _ _ _ _ _ _ f2 (by rw [if_neg (by omega)]) hk, fun h => k _ _ _ _ _ _ _ _ _ _ _ _ _ _ _ _ f2 (by rw [if_pos (by omega)]) hk⟩
theorem sp_isWord {post : Int → Prop} {p : Int} (hp : xw_r p) (k0 : ¬ (0 ≤ p ∧ p < 4) → post 0) (k1 : ∀ w : Nat, p = (w : Int) → w < 4 → post 1) : wp_X3_isWord post p := by
  unfold wp_X3_isWord
  exact ⟨hp, fun h => k0 (by omega), fun h => ⟨fun h2 => k0 (by omega), fun h2 => k1 p.toNat (by omega) (by omega)⟩⟩
theorem sp3_first {post : Int → Int → Int → Int → Int → (Nat → Int) → (Nat → Int) → (Nat → Int) → (Nat → Int) → (Nat → Int) → (Nat → Int) → (Nat → Int) → (Nat → Int) → (Nat → Int) → (Nat → Int) → (Nat → Int) → Prop} {n : Nat} {p : Int} (hp : xw_r p) (hok : xr_ok n rce) (hK : xv_K n rce bkn sfo sff slf sgf)
    (kn : ¬ (0 ≤ p ∧ p < 4) → post (-100) bkn sid sfo soe sfa sre sle spe spc sfr sto sva sff slf sgf)
    (k : ∀ w : Nat, p = (w : Int) → w < 4 → ∀ r kn sid fo oe fa re le pe pc fr to_ va ff lf gf, xm_F (xr_P n rce) 923521 fo ff → r = (if 0 < fo then ff w else -100) → xv_K n rce kn fo ff lf gf → post r kn sid fo oe fa re le pe pc fr to_ va ff lf gf) :
    wp_X3_first post bkn (n : Int) rly rce rst lnc lsc lcl lwh lce lsp ldr sid sfo soe sfa sre sle spe spc sfr sto sva sff slf sgf p := by
  unfold wp_X3_first wp_X2_found wp_X2_firstValue
  refine sp_isWord hp (fun h => ⟨⟨by omega, by omega⟩, fun _ => kn h, fun q => absurd rfl q⟩) (fun w ew hw => ⟨⟨by omega, by omega⟩, fun q => absurd q (by omega), fun _ => ?_⟩)
  refine sp3_learn hok (Or.inl rfl) hK (fun kn sid fo oe fa re le pe pc fr to_ va ff lf gf h1 hk => ?_)
  obtain ⟨f1, f2⟩ := xv_K_F hk h1
  refine ⟨⟨by omega, by omega⟩, fun h => k w ew hw _ _ _ _ _ _ _ _ _ _ _ _ _ _ _ _ f2 (by rw [if_neg (by omega)]) hk, fun h => ⟨by omega, k w ew hw _ _ _ _ _ _ _ _ _ _ _ _ _ _ _ _ f2 (by rw [if_pos (by omega), ew, Int.toNat_natCast]) hk⟩⟩
theorem sp3_solutions {post : Int → Int → Int → Int → Int → (Nat → Int) → (Nat → Int) → (Nat → Int) → (Nat → Int) → (Nat → Int) → (Nat → Int) → (Nat → Int) → (Nat → Int) → (Nat → Int) → (Nat → Int) → (Nat → Int) → Prop} {n : Nat} (hok : xr_ok n rce) (hK : xv_K n rce bkn sfo sff slf sgf)
    (k : ∀ kn sid fo oe fa re le pe pc fr to_ va ff lf gf, (0 ≤ fo ∧ fo ≤ 923521) → xm_A (xr_P n rce) 923521 fo lf gf → xv_K n rce kn fo ff lf gf → post fo kn sid fo oe fa re le pe pc fr to_ va ff lf gf) :
    wp_X3_solutions post bkn (n : Int) rly rce rst lnc lsc lcl lwh lce lsp ldr sid sfo soe sfa sre sle spe spc sfr sto sva sff slf sgf := by
  unfold wp_X3_solutions wp_X2_found
  refine sp3_learn hok (Or.inr rfl) hK (fun kn sid fo oe fa re le pe pc fr to_ va ff lf gf h1 hk => ?_)
  obtain ⟨f1, f2⟩ := xv_K_A hk h1
  exact k _ _ _ _ _ _ _ _ _ _ _ _ _ _ _ f1 f2 hk
theorem sp3_range {post : Int → Int → Int → Int → Int → (Nat → Int) → (Nat → Int) → (Nat → Int) → (Nat → Int) → (Nat → Int) → (Nat → Int) → (Nat → Int) → (Nat → Int) → (Nat → Int) → (Nat → Int) → (Nat → Int) → Prop} {n : Nat} {p b : Int} (hp : xw_r p) (hb : b = 0 ∨ b = 1) (hok : xr_ok n rce) (hK : xv_K n rce bkn sfo sff slf sgf)
    (kn : ¬ (0 ≤ p ∧ p < 4) → post (-100) bkn sid sfo soe sfa sre sle spe spc sfr sto sva sff slf sgf)
    (k : ∀ w : Nat, p = (w : Int) → w < 4 → ∀ r kn sid fo oe fa re le pe pc fr to_ va ff lf gf, (0 ≤ fo ∧ fo ≤ 923521) → xm_A (xr_P n rce) 923521 fo lf gf → r = (if fo = 0 then -100 else if b = 0 then lf w else gf w) → xv_K n rce kn fo ff lf gf → post r kn sid fo oe fa re le pe pc fr to_ va ff lf gf) :
    wp_X3_range post bkn (n : Int) rly rce rst lnc lsc lcl lwh lce lsp ldr sid sfo soe sfa sre sle spe spc sfr sto sva sff slf sgf p b := by
  unfold wp_X3_range wp_X2_found wp_X2_leastValue wp_X2_greatestValue
  refine sp_isWord hp (fun h => ⟨⟨by omega, by omega⟩, fun _ => kn h, fun q => absurd rfl q⟩) (fun w ew hw => ⟨⟨by omega, by omega⟩, fun q => absurd q (by omega), fun _ => ?_⟩)
  refine sp3_learn hok (Or.inr rfl) hK (fun kn sid fo oe fa re le pe pc fr to_ va ff lf gf h1 hk => ?_)
  obtain ⟨f1, f2⟩ := xv_K_A hk h1
  refine ⟨⟨by omega, by omega⟩, fun h => k w ew hw _ _ _ _ _ _ _ _ _ _ _ _ _ _ _ _ f1 f2 (by rw [if_pos h]) hk, fun h => ⟨⟨by omega, by omega⟩, fun h2 => ⟨by omega, k w ew hw _ _ _ _ _ _ _ _ _ _ _ _ _ _ _ _ f1 f2 (by rw [if_neg h, if_pos h2, ew, Int.toNat_natCast]) hk⟩, fun h2 => ⟨by omega, k w ew hw _ _ _ _ _ _ _ _ _ _ _ _ _ _ _ _ f1 f2 (by rw [if_neg h, if_neg h2, ew, Int.toNat_natCast]) hk⟩⟩⟩
end LE
section LM
variable {mrw mly mln msp mwh mcl mtr mfo : Int} {mki mro mlf mli msw msa msc msl mff mlt mgr mxx msu rce : Nat → Int}
theorem sp4_try {post : Int → Int → (Nat → Int) → (Nat → Int) → (Nat → Int) → (Nat → Int) → (Nat → Int) → Prop} {n : Nat} (hok : xr_ok n rce) (he : ∀ i, i < 6 * n → xr_M mki mro i = rce i) (hK : xv_Km n rce mtr mfo mff mlt mgr)
    (k : ∀ fo ff lf gf xx su, xm_G (xr_P n rce) 923521 0 fo ff lf gf → xv_Km n rce 1 fo ff lf gf → post 1 fo ff lf gf xx su) : wp_X4_tryAll post (n : Int) mly mln msp mwh mcl mtr mfo mki mro mlf mli msw msa msc msl mff mlt mgr mxx msu := by
  have e := xr_P_eq he
  refine sp_tryAll (xr_ok_eq (fun i hi => (he i hi).symm) hok) hK.1 (fun h => ?_) (fun fo ff lf gf xx su g => ?_)
  · show xm_G _ _ _ _ _ _ _
    rw [e]; exact hK.2 h
  · have g : xm_G (xr_P n (xr_M mki mro)) 923521 0 fo ff lf gf := g
    rw [e] at g
    exact k fo ff lf gf xx su g ⟨Or.inr rfl, fun _ => g⟩
theorem sp4_decide {post : Int → Int → Int → (Nat → Int) → (Nat → Int) → (Nat → Int) → (Nat → Int) → (Nat → Int) → Prop} {n : Nat} (hok : xr_ok n rce) (he : ∀ i, i < 6 * n → xr_M mki mro i = rce i) (hK : xv_Km n rce mtr mfo mff mlt mgr)
    (k : ∀ r fo ff lf gf xx su, xm_G (xr_P n rce) 923521 0 fo ff lf gf → r = (if 0 < fo then 1 else 0) → xv_Km n rce 1 fo ff lf gf → post r 1 fo ff lf gf xx su) : wp_X4_decide post (n : Int) mly mln msp mwh mcl mtr mfo mki mro mlf mli msw msa msc msl mff mlt mgr mxx msu := by
  unfold wp_X4_decide
  refine sp4_try hok he hK (fun fo ff lf gf xx su g hk => ?_)
  have g1 := g.1
  have g2 := g.2.1
  exact ⟨⟨by omega, by omega⟩, fun h => k _ _ _ _ _ _ _ g (by rw [if_neg (by omega)]) hk, fun h => k _ _ _ _ _ _ _ g (by rw [if_pos (by omega)]) hk⟩
theorem sp4_first {post : Int → Int → Int → (Nat → Int) → (Nat → Int) → (Nat → Int) → (Nat → Int) → (Nat → Int) → Prop} {n : Nat} {p : Int} (hp : xw_r p) (hok : xr_ok n rce) (he : ∀ i, i < 6 * n → xr_M mki mro i = rce i) (hK : xv_Km n rce mtr mfo mff mlt mgr)
    (kn : ¬ (0 ≤ p ∧ p < 4) → ∀ fo ff lf gf xx su, xv_Km n rce 1 fo ff lf gf → post (-100) 1 fo ff lf gf xx su)
    (k : ∀ w : Nat, p = (w : Int) → w < 4 → ∀ r fo ff lf gf xx su, xm_G (xr_P n rce) 923521 0 fo ff lf gf → r = (if 0 < fo then ff w else -100) → xv_Km n rce 1 fo ff lf gf → post r 1 fo ff lf gf xx su) : wp_X4_first post (n : Int) mly mln msp mwh mcl mtr mfo mki mro mlf mli msw msa msc msl mff mlt mgr mxx msu p := by
  unfold wp_X4_first
  refine sp4_try hok he hK (fun fo ff lf gf xx su g hk => ?_)
  have g1 := g.1
  have g2 := g.2.1
  refine ⟨⟨by omega, by omega⟩, fun h => ?_, fun h => ⟨hp, fun h2 => kn (by omega) _ _ _ _ _ _ hk, fun h2 => ⟨fun h3 => ⟨by omega, k p.toNat (by omega) (by omega) _ _ _ _ _ _ _ g (by rw [if_pos (by omega)]) hk⟩, fun h3 => kn (by omega) _ _ _ _ _ _ hk⟩⟩⟩
  by_cases q : 0 ≤ p ∧ p < 4
  · exact k p.toNat (by omega) (by omega) _ _ _ _ _ _ _ g (by rw [if_neg (by omega)]) hk
  · exact kn q _ _ _ _ _ _ hk
theorem sp4_solutions {post : Int → Int → Int → (Nat → Int) → (Nat → Int) → (Nat → Int) → (Nat → Int) → (Nat → Int) → Prop} {n : Nat} (hok : xr_ok n rce) (he : ∀ i, i < 6 * n → xr_M mki mro i = rce i) (hK : xv_Km n rce mtr mfo mff mlt mgr)
    (k : ∀ fo ff lf gf xx su, xm_G (xr_P n rce) 923521 0 fo ff lf gf → xv_Km n rce 1 fo ff lf gf → post fo 1 fo ff lf gf xx su) : wp_X4_solutions post (n : Int) mly mln msp mwh mcl mtr mfo mki mro mlf mli msw msa msc msl mff mlt mgr mxx msu := by
  unfold wp_X4_solutions
  exact sp4_try hok he hK (fun fo ff lf gf xx su g hk => k _ _ _ _ _ _ g hk)
theorem sp4_range {post : Int → Int → Int → (Nat → Int) → (Nat → Int) → (Nat → Int) → (Nat → Int) → (Nat → Int) → Prop} {n : Nat} {p b : Int} (hp : xw_r p) (hb : b = 0 ∨ b = 1) (hok : xr_ok n rce) (he : ∀ i, i < 6 * n → xr_M mki mro i = rce i) (hK : xv_Km n rce mtr mfo mff mlt mgr)
    (kn : ¬ (0 ≤ p ∧ p < 4) → ∀ fo ff lf gf xx su, xv_Km n rce 1 fo ff lf gf → post (-100) 1 fo ff lf gf xx su)
    (k : ∀ w : Nat, p = (w : Int) → w < 4 → ∀ r fo ff lf gf xx su, xm_G (xr_P n rce) 923521 0 fo ff lf gf → r = (if fo = 0 then -100 else if b = 0 then lf w else gf w) → xv_Km n rce 1 fo ff lf gf → post r 1 fo ff lf gf xx su) : wp_X4_range post (n : Int) mly mln msp mwh mcl mtr mfo mki mro mlf mli msw msa msc msl mff mlt mgr mxx msu p b := by
  unfold wp_X4_range
  refine sp4_try hok he hK (fun fo ff lf gf xx su g hk => ?_)
  have g1 := g.1
  have g2 := g.2.1
  refine ⟨⟨by omega, by omega⟩, fun h => ?_, fun h => ⟨hp, fun h2 => kn (by omega) _ _ _ _ _ _ hk, fun h2 => ⟨fun h3 => ⟨⟨by omega, by omega⟩, fun h4 => ⟨by omega, k p.toNat (by omega) (by omega) _ _ _ _ _ _ _ g (by rw [if_neg h, if_pos h4]) hk⟩, fun h4 => ⟨by omega, k p.toNat (by omega) (by omega) _ _ _ _ _ _ _ g (by rw [if_neg h, if_neg h4]) hk⟩⟩, fun h3 => kn (by omega) _ _ _ _ _ _ hk⟩⟩⟩
  by_cases q : 0 ≤ p ∧ p < 4
  · exact k p.toNat (by omega) (by omega) _ _ _ _ _ _ _ g (by rw [if_pos h]) hk
  · exact kn q _ _ _ _ _ _ hk
end LM
