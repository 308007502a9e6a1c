/-! THE LAW'S LOOP: every answer is the reference's. -/
def xv_I (c : Int) (bkn : Int) (rsz : Int) (rly : Int) (rce : Nat → Int) (rst : Nat → Int) (lnc : Int) (lsc : Int) (lcl : Int) (lwh : Int) (lce : Nat → Int) (lsp : Nat → Int) (sfo : Int) (sff : Nat → Int) (slf : Nat → Int) (sgf : Nat → Int) (mrw : Int) (mly : Int) (mln : Int) (msp : Int) (mwh : Int) (mcl : Int) (mtr : Int) (mfo : Int) (mki : Nat → Int) (mro : Nat → Int) (mlf : Nat → Int) (mli : Nat → Int) (msw : Nat → Int) (msa : Nat → Int) (msc : Nat → Int) (msl : Nat → Int) (mff : Nat → Int) (mlt : Nat → Int) (mgr : Nat → Int) : Prop := ∃ n ly nl ns : Nat, (rsz = (n : Int) ∧ rly = (ly : Int) ∧ lnc = (nl : Int) ∧ lsc = (ns : Int)) ∧ (mrw = (n : Int) ∧ mly = (ly : Int) ∧ mln = (nl : Int) ∧ msp = (ns : Int)) ∧ xv_R n ly rce rst mki mro mlf ∧ xv_L nl ns lce lsp mli msw msa msc msl ∧ (lwh = mwh ∧ (lwh = 0 ∨ lwh = 1) ∧ lcl = mcl ∧ 0 ≤ lcl ∧ lcl ≤ c) ∧ (lwh = 0 → xv_S n rce nl ns lce lsp) ∧ xv_K n rce bkn sfo sff slf sgf ∧ xv_Km n rce mtr mfo mff mlt mgr
theorem law_fin {r s : Int} {A : Prop} (hr : xw_r r) (e : r = s) (h : A) : xw_r r ∧ (xw_r s ∧ ((r = s → A) ∧ (¬ r = s → False))) := by
  subst e; exact ⟨hr, hr, fun _ => h, fun q => q rfl⟩
theorem law_finL {r s : Int} {A : Prop} (hr : xw_l r) (e : r = s) (h : A) : xw_l r ∧ (xw_l s ∧ ((r = s → A) ∧ (¬ r = s → False))) := by
  subst e; exact ⟨hr, hr, fun _ => h, fun q => q rfl⟩
theorem xv_K_0 (n : Nat) (rce : Nat → Int) (sfo : Int) (sff slf sgf : Nat → Int) : xv_K n rce 0 sfo sff slf sgf := ⟨Or.inl rfl, fun h => absurd h (by omega), fun h => absurd h (by omega)⟩
theorem xv_Km_0 (n : Nat) (rce : Nat → Int) (mfo : Int) (mff mlt mgr : Nat → Int) : xv_Km n rce 0 mfo mff mlt mgr := ⟨Or.inl rfl, fun h => absurd rfl h⟩
theorem xv_R_row {n ly : Nat} {rce rst mki mro mlf rc ki ro : Nat → Int} {p1 p2 p3 p4 p5 p6 : Int} (h : xv_R n ly rce rst mki mro mlf) (ha : xv_arg p1 p2 p3 p4 p5 p6) (hlt : n < 16) (c : ∀ i, i < 6 * n → rc i = rce i) (c0 : rc (6 * n) = p1) (c1 : rc (6 * n + 1) = p2) (c2 : rc (6 * n + 2) = p3) (c3 : rc (6 * n + 3) = p4) (c4 : rc (6 * n + 4) = p5) (c5 : rc (6 * n + 5) = p6)
    (m : ∀ i, i < 6 * n → xr_M ki ro i = xr_M mki mro i) (m0 : xr_M ki ro (6 * n) = p1) (m1 : xr_M ki ro (6 * n + 1) = p2) (m2 : xr_M ki ro (6 * n + 2) = p3) (m3 : xr_M ki ro (6 * n + 3) = p4) (m4 : xr_M ki ro (6 * n + 4) = p5) (m5 : xr_M ki ro (6 * n + 5) = p6) : xv_R (n + 1) ly rc rst ki ro mlf := by
  obtain ⟨a1, a2, a3, a4, a5⟩ := h
  obtain ⟨b1, b2, b3, b4, b5, b6⟩ := ha
  refine ⟨⟨by omega, fun r hr => ?_⟩, a2, fun i hi => ?_, fun i hi => by have := a4 i hi; omega, a5⟩
  · by_cases e : r = n
    · subst e
      refine ⟨by omega, fun w hw => ?_, by omega⟩
      match w, hw with
      | 0, _ => show -99 ≤ rc (6 * r + 1) ∧ rc (6 * r + 1) ≤ 99; omega
      | 1, _ => show -99 ≤ rc (6 * r + 2) ∧ rc (6 * r + 2) ≤ 99; omega
      | 2, _ => show -99 ≤ rc (6 * r + 3) ∧ rc (6 * r + 3) ≤ 99; omega
      | 3, _ => show -99 ≤ rc (6 * r + 4) ∧ rc (6 * r + 4) ≤ 99; omega
    · obtain ⟨o1, o2, o3⟩ := a1.2 r (by omega)
      rw [c _ (by omega), c _ (by omega)]
      exact ⟨o1, fun w hw => by rw [c _ (by omega)]; exact o2 w hw, o3⟩
  · rcases Nat.lt_or_ge i (6 * n) with q | q
    · rw [m i q, c i q, a3 i q]
    · obtain ⟨d, ed⟩ : ∃ d, i = 6 * n + d := ⟨i - 6 * n, by omega⟩
      have hd : d < 6 := by omega
      subst ed
      match d, hd with
      | 0, _ => exact m0.trans c0.symm
      | 1, _ => exact m1.trans c1.symm
      | 2, _ => exact m2.trans c2.symm
      | 3, _ => exact m3.trans c3.symm
      | 4, _ => exact m4.trans c4.symm
      | 5, _ => exact m5.trans c5.symm
theorem xv_R_push {n ly : Nat} {rce rst mki mro mlf st lf : Nat → Int} (h : xv_R n ly rce rst mki mro mlf) (hlt : ly < 8) (s0 : ∀ i, i ≠ ly → st i = rst i) (s1 : st ly = (n : Int)) (l0 : ∀ i, i ≠ ly → lf i = mlf i) (l1 : lf ly = (n : Int)) : xv_R n (ly + 1) rce st mki mro lf := by
  obtain ⟨a1, a2, a3, a4, a5⟩ := h
  refine ⟨a1, by omega, a3, fun i hi => ?_, fun i j hij hj => ?_⟩
  · by_cases e : i = ly
    · subst e; rw [s1, l1]; omega
    · rw [s0 i e, l0 i e]; exact a4 i (by omega)
  · rw [s0 i (by omega)]
    by_cases e : j = ly
    · subst e; rw [s1]; exact (a4 i hij).2.2
    · rw [s0 j e]; exact a5 i j hij (by omega)
theorem xv_R_pop {n q m : Nat} {rce rst mki mro mlf : Nat → Int} (h : xv_R n (q + 1) rce rst mki mro mlf) (hm : rst q = (m : Int)) : xv_R m q rce rst mki mro mlf := by
  obtain ⟨a1, a2, a3, a4, a5⟩ := h
  have hq := a4 q (by omega)
  have hmn : m ≤ n := by omega
  refine ⟨⟨by have := a1.1; omega, fun r hr => a1.2 r (by omega)⟩, by omega, fun i hi => a3 i (by omega), fun i hi => ⟨(a4 i (by omega)).1, (a4 i (by omega)).2.1, by rw [← hm]; exact a5 i q hi (by omega)⟩, fun i j hij hj => a5 i j hij (by omega)⟩
theorem xl_in_cg {f g : Nat → Int} (h : ∀ c, c < 5 → f c = g c) : xl_in f ↔ xl_in g := by
  unfold xl_in
  rw [h 4 (by omega)]
  exact ⟨fun z => ⟨fun c hc => by rw [← h c (by omega)]; exact z.1 c hc, z.2⟩, fun z => ⟨fun c hc => by rw [h c (by omega)]; exact z.1 c hc, z.2⟩⟩
theorem xl_add_cg {nl a b : Nat} {lce mli : Nat → Int} {m k : Int} (h : ∀ j, j < 5 * nl → mli j = lce j) (ha : a < nl) (hb : b < nl) : ∀ c, c < 5 → xl_add mli a m b k c = xl_add lce a m b k c := fun c hc => by
  unfold xl_add; rw [h _ (by omega), h _ (by omega)]
theorem xl_div_cg {nl a : Nat} {lce mli : Nat → Int} {d : Int} (h : ∀ j, j < 5 * nl → mli j = lce j) (ha : a < nl) : ∀ c, c < 5 → xl_div mli a d c = xl_div lce a d c := fun c hc => by
  unfold xl_div; rw [h _ (by omega), h _ (by omega)]
theorem xl_dvd_cg {nl a : Nat} {lce mli : Nat → Int} {d : Int} (h : ∀ j, j < 5 * nl → mli j = lce j) (ha : a < nl) : xl_dvd mli a d ↔ xl_dvd lce a d := by
  unfold xl_dvd
  exact ⟨fun z c hc => by rw [← h _ (by omega)]; exact z c hc, fun z c hc => by rw [h _ (by omega)]; exact z c hc⟩
theorem xl_con_cg {nl a : Nat} {lce mli : Nat → Int} (h : ∀ j, j < 5 * nl → mli j = lce j) (ha : a < nl) : xl_con mli a ↔ xl_con lce a := by
  unfold xl_con
  rw [h (5 * a + 4) (by omega)]
  exact ⟨fun z => ⟨fun c hc => by rw [← h _ (by omega)]; exact z.1 c hc, z.2⟩, fun z => ⟨fun c hc => by rw [h _ (by omega)]; exact z.1 c hc, z.2⟩⟩
theorem xl_row_cg {n i : Nat} {rce R : Nat → Int} {sg : Int} (h : ∀ j, j < 6 * n → R j = rce j) (hi : i < n) : ∀ c, c < 5 → xl_row R i sg c = xl_row rce i sg c := fun c hc => by
  unfold xl_row; rw [h _ (by omega)]
/-- the first found is in range -/
theorem xm_F_r {P : Nat → Bool} {fo : Int} {ff : Nat → Int} (h : xm_F P 923521 fo ff) (hp : 0 < fo) {w : Nat} (hw : w < 4) : -15 ≤ ff w ∧ ff w ≤ 15 := by
  rcases h with ⟨a, -⟩ | ⟨-, M, -, -, -, e⟩
  · omega
  · rw [e w hw]; exact xm_p_in M w
theorem xm_A_r {P : Nat → Bool} {N : Nat} {fo : Int} {lf gf : Nat → Int} (h : xm_A P N fo lf gf) (hp : 0 < fo) {w : Nat} (hw : w < 4) : (-15 ≤ lf w ∧ lf w ≤ 15) ∧ -15 ≤ gf w ∧ gf w ≤ 15 := by
  obtain ⟨⟨M1, -, -, e1⟩, ⟨M2, -, -, e2⟩, -⟩ := h.2 hp w hw
  rw [← e1, ← e2]
  exact ⟨xm_p_in M1 w, xm_p_in M2 w⟩
theorem xv_O {n nl ns : Nat} {rce lce lsp mli msw msa msc msl x : Nat → Int} (hL : xv_L nl ns lce lsp mli msw msa msc msl) (hS : xv_S n rce nl ns lce lsp) (hx : xv_So n rce x) : xl_O ns msw msa msc x := by
  have e := hL.2.2.2.2.2.2
  have c : ∀ s, s < ns → (xl_ca (msw s) (msa s) (msc s) x ↔ xl_cs lsp s x) := fun s hs => by
    obtain ⟨e1, e2, e3, -⟩ := e s hs
    unfold xl_cs
    rw [e1, e2, e3]
  intro s hs hall hno
  rw [(e s hs).2.2.1]
  exact hS.2 x hx s hs (fun z hz => (c z (by omega)).mp (hall z hz)) (fun z => hno ((c s hs).mpr z))

set_option maxHeartbeats 4000000 in
set_option maxRecDepth 100000 in
theorem law_loop {L : Nat} (hL : L ≤ 3584) {zs : Nat → Int} (hz : ∀ j, xw_r (zs j)) : ∀ (t i : Nat) (bkn : Int) (rsz : Int) (rly : Int) (rce : Nat → Int) (rst : Nat → Int) (lnc : Int) (lsc : Int) (lcl : Int) (lwh : Int) (lce : Nat → Int) (lsp : Nat → Int) (ldr : Nat → Int) (sid : Int) (sfo : Int) (soe : Int) (sfa : Nat → Int) (sre : Nat → Int) (sle : Nat → Int) (spe : Nat → Int) (spc : Nat → Int) (sfr : Nat → Int) (sto : Nat → Int) (sva : Nat → Int) (sff : Nat → Int) (slf : Nat → Int) (sgf : Nat → Int) (mrw : Int) (mly : Int) (mln : Int) (msp : Int) (mwh : Int) (mcl : Int) (mtr : Int) (mfo : Int) (mki : Nat → Int) (mro : Nat → Int) (mlf : Nat → Int) (mli : Nat → Int) (msw : Nat → Int) (msa : Nat → Int) (msc : Nat → Int) (msl : Nat → Int) (mff : Nat → Int) (mlt : Nat → Int) (mgr : Nat → Int) (mxx : Nat → Int) (msu : Nat → Int), L ≤ 7 * i + 7 * t + 6 → 7 * i ≤ L → xv_I (i : Int) bkn rsz rly rce rst lnc lsc lcl lwh lce lsp sfo sff slf sgf mrw mly mln msp mwh mcl mtr mfo mki mro mlf mli msw msa msc msl mff mlt mgr → wp_L_law_18 L zs (t + 1) bkn rsz rly rce rst lnc lsc lcl lwh lce lsp ldr sid sfo soe sfa sre sle spe spc sfr sto sva sff slf sgf mrw mly mln msp mwh mcl mtr mfo mki mro mlf mli msw msa msc msl mff mlt mgr mxx msu (7 * (i : Int)) := by
  intro t
  induction t with
  | zero =>
    intro i bkn rsz rly rce rst lnc lsc lcl lwh lce lsp ldr sid sfo soe sfa sre sle spe spc sfr sto sva sff slf sgf mrw mly mln msp mwh mcl mtr mfo mki mro mlf mli msw msa msc msl mff mlt mgr mxx msu h1 h2 hI
    rw [wp_L_law_18]
    unfold wl_L_law_18
    exact ⟨⟨by omega, by omega⟩, ⟨by omega, by omega⟩, fun _ => trivial, fun h => absurd (show (L : Int) - 7 < 7 * (i : Int) by omega) h⟩
  | succ t ih =>
    intro i bkn rsz rly rce rst lnc lsc lcl lwh lce lsp ldr sid sfo soe sfa sre sle spe spc sfr sto sva sff slf sgf mrw mly mln msp mwh mcl mtr mfo mki mro mlf mli msw msa msc msl mff mlt mgr mxx msu h1 h2 hI
    rw [wp_L_law_18]
    unfold wl_L_law_18
    obtain ⟨n, ly, nl, ns, ⟨rfl, rfl, rfl, rfl⟩, ⟨rfl, rfl, rfl, rfl⟩, hR, hLi, ⟨w1, hw, w3, hc0, hc1⟩, hS, hK, hKm⟩ := hI
    subst w1
    subst w3
    have hok := hR.1
    have hn16 := hok.1
    have hly := hR.2.1
    have he := hR.2.2.1
    have hokM : xr_ok n (xr_M mki mro) := xr_ok_eq (fun i hi => (he i hi).symm) hok
    have hnl := hLi.1
    have big := (xv_L_big hLi).1
    have bigM := (xv_L_big hLi).2
    have okm := xv_L_okm hLi
    have hns : ns ≤ 10 := hLi.2.2.1.1
    have hbf := hLi.2.2.2.1
    have hml := hLi.2.2.2.2.2.1
    have hsp := hLi.2.2.2.2.2.2
    refine ⟨⟨by omega, by omega⟩, ⟨by omega, by omega⟩, fun _ => trivial, fun hgo => ⟨by omega, fun zx hzx => ?_⟩⟩
    have nx : ∀ {bkn : Int} {rsz : Int} {rly : Int} {rce : Nat → Int} {rst : Nat → Int} {lnc : Int} {lsc : Int} {lcl : Int} {lwh : Int} {lce : Nat → Int} {lsp : Nat → Int} {ldr : Nat → Int} {sid : Int} {sfo : Int} {soe : Int} {sfa : Nat → Int} {sre : Nat → Int} {sle : Nat → Int} {spe : Nat → Int} {spc : Nat → Int} {sfr : Nat → Int} {sto : Nat → Int} {sva : Nat → Int} {sff : Nat → Int} {slf : Nat → Int} {sgf : Nat → Int} {mrw : Int} {mly : Int} {mln : Int} {msp : Int} {mwh : Int} {mcl : Int} {mtr : Int} {mfo : Int} {mki : Nat → Int} {mro : Nat → Int} {mlf : Nat → Int} {mli : Nat → Int} {msw : Nat → Int} {msa : Nat → Int} {msc : Nat → Int} {msl : Nat → Int} {mff : Nat → Int} {mlt : Nat → Int} {mgr : Nat → Int} {mxx : Nat → Int} {msu : Nat → Int}, xv_I ((i + 1 : Nat) : Int) bkn rsz rly rce rst lnc lsc lcl lwh lce lsp sfo sff slf sgf mrw mly mln msp mwh mcl mtr mfo mki mro mlf mli msw msa msc msl mff mlt mgr → wp_L_law_712 (wp_L_law_18 L zs (t + 1)) bkn rsz rly rce rst lnc lsc lcl lwh lce lsp ldr sid sfo soe sfa sre sle spe spc sfr sto sva sff slf sgf mrw mly mln msp mwh mcl mtr mfo mki mro mlf mli msw msa msc msl mff mlt mgr mxx msu (7 * (i : Int)) := by
      intro bkn rsz rly rce rst lnc lsc lcl lwh lce lsp ldr sid sfo soe sfa sre sle spe spc sfr sto sva sff slf sgf mrw mly mln msp mwh mcl mtr mfo mki mro mlf mli msw msa msc msl mff mlt mgr mxx msu hI
      unfold wp_L_law_712
      intro y hy
      rw [hy, show 7 * (i : Int) + 7 = 7 * ((i + 1 : Nat) : Int) by omega]
      exact ih (i + 1) bkn rsz rly rce rst lnc lsc lcl lwh lce lsp ldr sid sfo soe sfa sre sle spe spc sfr sto sva sff slf sgf mrw mly mln msp mwh mcl mtr mfo mki mro mlf mli msw msa msc msl mff mlt mgr mxx msu (by omega) (by omega) hI
    refine ⟨⟨by omega, by omega⟩, fun _ => ?_, fun _ => ?_, fun _ => ?_, fun _ => ?_, fun _ => ?_, fun _ => ?_, fun _ => ?_, fun _ => ?_, fun _ => ?_, fun _ => ?_, fun _ => ?_, fun _ => ?_, fun _ => ?_, fun _ => ?_, fun _ => ?_, fun _ => ?_, fun _ => ?_, fun _ => ?_, fun _ => ?_, fun _ => ?_, trivial⟩
    · exact nx ⟨n, ly, nl, ns, ⟨rfl, rfl, rfl, rfl⟩, ⟨rfl, rfl, rfl, rfl⟩, hR, hLi, ⟨rfl, hw, rfl, hc0, by omega⟩, hS, hK, hKm⟩
    -- row
    · refine ⟨by omega, by omega, by omega, by omega, by omega, by omega, sp3_row hn16 (hz _) (hz _) (hz _) (hz _) (hz _) (hz _) (fun hno => ⟨by omega, by omega, by omega, by omega, by omega, by omega, sp4_row hn16 (hz _) (hz _) (hz _) (hz _) (hz _) (hz _) (fun _ => ?_) (fun ha hlt => absurd ⟨ha, hlt⟩ hno)⟩) (fun ha hlt rc c c0 c1 c2 c3 c4 c5 => ⟨by omega, by omega, by omega, by omega, by omega, by omega, sp4_row hn16 (hz _) (hz _) (hz _) (hz _) (hz _) (hz _) (fun hno => absurd ⟨ha, hlt⟩ hno) (fun _ _ ki ro m m0 m1 m2 m3 m4 m5 => ?_)⟩)⟩
      · exact law_fin ⟨by omega, by omega⟩ rfl (nx ⟨n, ly, nl, ns, ⟨rfl, rfl, rfl, rfl⟩, ⟨rfl, rfl, rfl, rfl⟩, hR, hLi, ⟨rfl, hw, rfl, hc0, by omega⟩, hS, hK, hKm⟩)
      · exact law_fin ⟨by omega, by omega⟩ rfl (nx ⟨n + 1, ly, 0, 0, ⟨rfl, rfl, rfl, rfl⟩, ⟨rfl, rfl, rfl, rfl⟩, xv_R_row hR ha hlt c c0 c1 c2 c3 c4 c5 m m0 m1 m2 m3 m4 m5, xv_L_0 _ _ _ _ _ _ _, ⟨rfl, Or.inl rfl, rfl, by omega, by omega⟩, fun _ => xv_S_0 _ _ _ _, xv_K_0 _ _ _ _ _ _, xv_Km_0 _ _ _ _ _ _⟩)
    -- push
    · refine sp3_push hly (fun h8 => sp4_push hly (fun _ => ?_) (fun h => absurd h (by omega))) (fun hlt st s0 s1 => sp4_push hly (fun h => absurd h (by omega)) (fun _ lf l0 l1 => ?_))
      · exact law_fin ⟨by omega, by omega⟩ rfl (nx ⟨n, ly, nl, ns, ⟨rfl, rfl, rfl, rfl⟩, ⟨rfl, rfl, rfl, rfl⟩, hR, hLi, ⟨rfl, hw, rfl, hc0, by omega⟩, hS, hK, hKm⟩)
      · exact law_fin ⟨by omega, by omega⟩ rfl (nx ⟨n, ly + 1, 0, 0, ⟨rfl, rfl, rfl, rfl⟩, ⟨rfl, rfl, rfl, rfl⟩, xv_R_push hR hlt s0 s1 l0 l1, xv_L_0 _ _ _ _ _ _ _, ⟨rfl, Or.inl rfl, rfl, by omega, by omega⟩, fun _ => xv_S_0 _ _ _ _, xv_K_0 _ _ _ _ _ _, xv_Km_0 _ _ _ _ _ _⟩)
    -- pop
    · refine sp3_pop hn16 hly (fun i hi => (hR.2.2.2.1 i hi).2) (fun h0 => sp4_pop hly (fun _ => ?_) (fun q hq => absurd hq (by omega))) (fun q hq => sp4_pop hly (fun h => absurd h (by omega)) (fun q2 hq2 => ?_))
      · exact law_fin ⟨by omega, by omega⟩ rfl (nx ⟨n, ly, nl, ns, ⟨rfl, rfl, rfl, rfl⟩, ⟨rfl, rfl, rfl, rfl⟩, hR, hLi, ⟨rfl, hw, rfl, hc0, by omega⟩, hS, hK, hKm⟩)
      · have eq : q2 = q := by omega
        subst eq
        subst hq
        have h4 := hR.2.2.2.1 q2 (by omega)
        obtain ⟨m, em⟩ : ∃ m : Nat, rst q2 = (m : Int) := ⟨(rst q2).toNat, by omega⟩
        rw [h4.1]
        exact law_fin ⟨by omega, by omega⟩ rfl (nx ⟨m, q2, 0, 0, ⟨em, rfl, rfl, rfl⟩, ⟨em, rfl, rfl, rfl⟩, xv_R_pop hR em, xv_L_0 _ _ _ _ _ _ _, ⟨rfl, Or.inl rfl, rfl, by omega, by omega⟩, fun _ => xv_S_0 _ _ _ _, xv_K_0 _ _ _ _ _ _, xv_Km_0 _ _ _ _ _ _⟩)
    -- ofRow
    · refine ⟨by omega, by omega, sp3_ofRow hn16 (hz _) (hz _) (fun hno => ⟨by omega, by omega, sp4_ofRow hn16 (hz _) (hz _) (fun _ => ?_) (fun a w ea ew ha hw6 => absurd ⟨by omega, by omega, by omega, by omega⟩ hno)⟩) (fun a w ea ew ha hw6 => ⟨by omega, by omega, sp4_ofRow hn16 (hz _) (hz _) (fun hno => absurd ⟨by omega, by omega, by omega, by omega⟩ hno) (fun a2 w2 ea2 ew2 _ _ => ?_)⟩)⟩
      · exact law_fin ⟨by omega, by omega⟩ rfl (nx ⟨n, ly, nl, ns, ⟨rfl, rfl, rfl, rfl⟩, ⟨rfl, rfl, rfl, rfl⟩, hR, hLi, ⟨rfl, hw, rfl, hc0, by omega⟩, hS, hK, hKm⟩)
      · have e1 : a2 = a := by omega
        have e2 : w2 = w := by omega
        subst e1; subst e2
        obtain ⟨o1, o2, o3⟩ := hok.2 a2 ha
        refine law_fin ?_ (he _ (by omega)).symm (nx ⟨n, ly, nl, ns, ⟨rfl, rfl, rfl, rfl⟩, ⟨rfl, rfl, rfl, rfl⟩, hR, hLi, ⟨rfl, hw, rfl, hc0, by omega⟩, hS, hK, hKm⟩)
        rcases (show w2 = 0 ∨ w2 = 5 ∨ ∃ v, w2 = 1 + v ∧ v < 4 by
          rcases (show w2 = 0 ∨ w2 = 5 ∨ (1 ≤ w2 ∧ w2 < 5) by omega) with q | q | q
          · exact Or.inl q
          · exact Or.inr (Or.inl q)
          · exact Or.inr (Or.inr ⟨w2 - 1, by omega, by omega⟩)) with q | q | ⟨v, q, hv⟩
        · rw [q, Nat.add_zero]; exact ⟨by omega, by omega⟩
        · rw [q]; exact ⟨by omega, by omega⟩
        · have := o2 v hv
          rw [q, ← Nat.add_assoc]
          exact ⟨by omega, by omega⟩
    -- decide
    · refine sp3_decide hok hK (fun r kn sid fo oe fa re le pe pc fr to_ va ff lf gf hF er hK2 => sp4_decide hok he hKm (fun r2 fo2 ff2 lf2 gf2 xx su g er2 hKm2 => ?_))
      have hcmp := xm_F_cmp (Nat.le_refl 923521) hF g.2.2.1
      refine law_fin ?_ ?_ (nx ⟨n, ly, nl, ns, ⟨rfl, rfl, rfl, rfl⟩, ⟨rfl, rfl, rfl, rfl⟩, hR, hLi, ⟨rfl, hw, rfl, hc0, by omega⟩, hS, hK2, hKm2⟩)
      · rw [er]; split <;> exact ⟨by omega, by omega⟩
      · rw [er, er2]
        by_cases q : 0 < fo
        · rw [if_pos q, if_pos (hcmp.2.1.mp q)]
        · rw [if_neg q, if_neg (fun z => q (hcmp.2.1.mpr z))]
    -- first
    · refine ⟨by omega, sp3_first (hz _) hok hK (fun hno => ⟨by omega, sp4_first (hz _) hok he hKm (fun _ fo2 ff2 lf2 gf2 xx su hKm2 => ?_) (fun w ew hw4 => absurd ⟨by omega, by omega⟩ hno)⟩) (fun w ew hw4 r kn sid fo oe fa re le pe pc fr to_ va ff lf gf hF er hK2 => ⟨by omega, sp4_first (hz _) hok he hKm (fun hno => absurd ⟨by omega, by omega⟩ hno) (fun w2 ew2 _ r2 fo2 ff2 lf2 gf2 xx su g er2 hKm2 => ?_)⟩)⟩
      · exact law_fin ⟨by omega, by omega⟩ rfl (nx ⟨n, ly, nl, ns, ⟨rfl, rfl, rfl, rfl⟩, ⟨rfl, rfl, rfl, rfl⟩, hR, hLi, ⟨rfl, hw, rfl, hc0, by omega⟩, hS, hK, hKm2⟩)
      · have e1 : w2 = w := by omega
        subst e1
        have hcmp := xm_F_cmp (Nat.le_refl 923521) hF g.2.2.1
        refine law_fin ?_ ?_ (nx ⟨n, ly, nl, ns, ⟨rfl, rfl, rfl, rfl⟩, ⟨rfl, rfl, rfl, rfl⟩, hR, hLi, ⟨rfl, hw, rfl, hc0, by omega⟩, hS, hK2, hKm2⟩)
        · rw [er]
          by_cases q : 0 < fo
          · have := xm_F_r hF q hw4
            rw [if_pos q]; exact ⟨by omega, by omega⟩
          · rw [if_neg q]; exact ⟨by omega, by omega⟩
        · rw [er, er2]
          by_cases q : 0 < fo
          · rw [if_pos q, if_pos (hcmp.2.1.mp q)]; exact hcmp.2.2 q w2 hw4
          · rw [if_neg q, if_neg (fun z => q (hcmp.2.1.mpr z))]
    -- solutions
    · refine sp3_solutions hok hK (fun kn sid fo oe fa re le pe pc fr to_ va ff lf gf hf hA hK2 => sp4_solutions hok he hKm (fun fo2 ff2 lf2 gf2 xx su g hKm2 => ?_))
      exact law_fin ⟨by omega, by omega⟩ (xm_A_cmp hA (g.2.2.2 rfl)).1 (nx ⟨n, ly, nl, ns, ⟨rfl, rfl, rfl, rfl⟩, ⟨rfl, rfl, rfl, rfl⟩, hR, hLi, ⟨rfl, hw, rfl, hc0, by omega⟩, hS, hK2, hKm2⟩)
    -- range
    · have hfin : ∀ (b : Int) (w : Nat), w < 4 → ∀ r fo lf gf r2 fo2 ff2 lf2 gf2, (0 ≤ fo ∧ fo ≤ 923521) → xm_A (xr_P n rce) 923521 fo lf gf → xm_G (xr_P n rce) 923521 0 fo2 ff2 lf2 gf2 → r = (if fo = 0 then -100 else if b = 0 then lf w else gf w) → r2 = (if fo2 = 0 then -100 else if b = 0 then lf2 w else gf2 w) → xw_r r ∧ r = r2 := by
        intro b w hw4 r fo lf gf r2 fo2 ff2 lf2 gf2 hf hA g er er2
        obtain ⟨c1, c2⟩ := xm_A_cmp hA (g.2.2.2 rfl)
        subst c1
        rw [er, er2]
        by_cases q : fo = 0
        · rw [if_pos q, if_pos q]; exact ⟨⟨by omega, by omega⟩, rfl⟩
        · rw [if_neg q, if_neg q, (c2 (by omega) w hw4).1, (c2 (by omega) w hw4).2]
          have := xm_A_r (g.2.2.2 rfl) (by omega) hw4
          refine ⟨?_, rfl⟩
          split <;> exact ⟨by omega, by omega⟩
      refine ⟨by omega, by omega, hz _, fun hb => ?_, fun hb => ?_⟩
      · refine sp3_range (hz _) (Or.inl rfl) hok hK (fun hno => ⟨by omega, by omega, fun _ => sp4_range (hz _) (Or.inl rfl) hok he hKm (fun _ fo2 ff2 lf2 gf2 xx su hKm2 => ?_) (fun w ew hw4 => absurd ⟨by omega, by omega⟩ hno), fun q => absurd hb q⟩) (fun w ew hw4 r kn sid fo oe fa re le pe pc fr to_ va ff lf gf hf hA er hK2 => ⟨by omega, by omega, fun _ => sp4_range (hz _) (Or.inl rfl) hok he hKm (fun hno => absurd ⟨by omega, by omega⟩ hno) (fun w2 ew2 _ r2 fo2 ff2 lf2 gf2 xx su g er2 hKm2 => ?_), fun q => absurd hb q⟩)
        · exact law_fin ⟨by omega, by omega⟩ rfl (nx ⟨n, ly, nl, ns, ⟨rfl, rfl, rfl, rfl⟩, ⟨rfl, rfl, rfl, rfl⟩, hR, hLi, ⟨rfl, hw, rfl, hc0, by omega⟩, hS, hK, hKm2⟩)
        · have e1 : w2 = w := by omega
          subst e1
          have hh := hfin 0 w2 hw4 r fo lf gf r2 fo2 ff2 lf2 gf2 hf hA g er er2
          exact law_fin hh.1 hh.2 (nx ⟨n, ly, nl, ns, ⟨rfl, rfl, rfl, rfl⟩, ⟨rfl, rfl, rfl, rfl⟩, hR, hLi, ⟨rfl, hw, rfl, hc0, by omega⟩, hS, hK2, hKm2⟩)
      · refine sp3_range (hz _) (Or.inr rfl) hok hK (fun hno => ⟨by omega, by omega, fun q => absurd q hb, fun _ => sp4_range (hz _) (Or.inr rfl) hok he hKm (fun _ fo2 ff2 lf2 gf2 xx su hKm2 => ?_) (fun w ew hw4 => absurd ⟨by omega, by omega⟩ hno)⟩) (fun w ew hw4 r kn sid fo oe fa re le pe pc fr to_ va ff lf gf hf hA er hK2 => ⟨by omega, by omega, fun q => absurd q hb, fun _ => sp4_range (hz _) (Or.inr rfl) hok he hKm (fun hno => absurd ⟨by omega, by omega⟩ hno) (fun w2 ew2 _ r2 fo2 ff2 lf2 gf2 xx su g er2 hKm2 => ?_)⟩)
        · exact law_fin ⟨by omega, by omega⟩ rfl (nx ⟨n, ly, nl, ns, ⟨rfl, rfl, rfl, rfl⟩, ⟨rfl, rfl, rfl, rfl⟩, hR, hLi, ⟨rfl, hw, rfl, hc0, by omega⟩, hS, hK, hKm2⟩)
        · have e1 : w2 = w := by omega
          subst e1
          have hh := hfin 1 w2 hw4 r fo lf gf r2 fo2 ff2 lf2 gf2 hf hA g er er2
          exact law_fin hh.1 hh.2 (nx ⟨n, ly, nl, ns, ⟨rfl, rfl, rfl, rfl⟩, ⟨rfl, rfl, rfl, rfl⟩, hR, hLi, ⟨rfl, hw, rfl, hc0, by omega⟩, hS, hK2, hKm2⟩)
    -- assume
    · have yes : ∀ (b : Int) (a : Nat), a < n → (b = 0 ∨ rce (6 * a) = 0) → lwh = 0 → nl < 200 → ∀ ce li, xl_new nl lce ce (xl_row rce a (if b = 0 then 1 else -1)) → xl_new nl mli li (xl_row (xr_M mki mro) a (if b = 0 then 1 else -1)) → xv_L (nl + 1) ns ce lsp li msw msa msc msl ∧ xv_S n rce (nl + 1) ns ce lsp := by
        intro b a ha hb h0 hlt ce li n1 n2
        obtain ⟨o1, o2⟩ := xl_row_ok hok ha hb
        have n2' := xl_new_cg n2 (xl_row_cg he ha)
        exact ⟨xv_L_new hLi hlt n1 n2' o1, xv_S_new hbf (hS h0) n1 (fun x hx _ => o2 x hx)⟩
      refine ⟨by omega, by omega, hz _, fun hb => ?_, fun hb => ?_⟩
      · refine sp3_assume (hz _) (Or.inl rfl) hok hnl hw (fun hno dr => ⟨by omega, by omega, fun _ => sp4_assume (hz _) (Or.inl rfl) hokM hnl hw (fun _ => ?_) (fun a ea ha hor g0 g1 => absurd ⟨by omega, by omega, Or.inl rfl, g0, g1⟩ hno), fun q => absurd hb q⟩) (fun a ea ha hor g0 g1 ce dr n1 => ⟨by omega, by omega, fun _ => sp4_assume (hz _) (Or.inl rfl) hokM hnl hw (fun hno => absurd ⟨by omega, by omega, Or.inl rfl, g0, g1⟩ hno) (fun a2 ea2 ha2 hor2 _ _ li n2 => ?_), fun q => absurd hb q⟩)
        · exact law_fin ⟨by omega, by omega⟩ rfl (nx ⟨n, ly, nl, ns, ⟨rfl, rfl, rfl, rfl⟩, ⟨rfl, rfl, rfl, rfl⟩, hR, hLi, ⟨rfl, hw, rfl, hc0, by omega⟩, hS, hK, hKm⟩)
        · have e1 : a2 = a := by omega
          subst e1
          have hh := yes 0 a2 ha (Or.inl rfl) g0 g1 ce li n1 n2
          exact law_fin ⟨by omega, by omega⟩ rfl (nx ⟨n, ly, nl + 1, ns, ⟨rfl, rfl, rfl, rfl⟩, ⟨rfl, rfl, rfl, rfl⟩, hR, hh.1, ⟨rfl, hw, rfl, hc0, by omega⟩, fun _ => hh.2, hK, hKm⟩)
      · refine sp3_assume (hz _) (Or.inr rfl) hok hnl hw (fun hno dr => ⟨by omega, by omega, fun q => absurd q hb, fun _ => sp4_assume (hz _) (Or.inr rfl) hokM hnl hw (fun _ => ?_) (fun a ea ha hor g0 g1 => absurd ⟨by omega, by omega, Or.inr (by rw [ea, Int.toNat_natCast, ← he _ (by omega)]; exact hor.resolve_left (by omega)), g0, g1⟩ hno)⟩) (fun a ea ha hor g0 g1 ce dr n1 => ⟨by omega, by omega, fun q => absurd q hb, fun _ => sp4_assume (hz _) (Or.inr rfl) hokM hnl hw (fun hno => absurd ⟨by omega, by omega, Or.inr (by rw [ea, Int.toNat_natCast, he _ (by omega)]; exact hor.resolve_left (by omega)), g0, g1⟩ hno) (fun a2 ea2 ha2 hor2 _ _ li n2 => ?_)⟩)
        · exact law_fin ⟨by omega, by omega⟩ rfl (nx ⟨n, ly, nl, ns, ⟨rfl, rfl, rfl, rfl⟩, ⟨rfl, rfl, rfl, rfl⟩, hR, hLi, ⟨rfl, hw, rfl, hc0, by omega⟩, hS, hK, hKm⟩)
        · have e1 : a2 = a := by omega
          subst e1
          have hh := yes 1 a2 ha hor g0 g1 ce li n1 n2
          exact law_fin ⟨by omega, by omega⟩ rfl (nx ⟨n, ly, nl + 1, ns, ⟨rfl, rfl, rfl, rfl⟩, ⟨rfl, rfl, rfl, rfl⟩, hR, hh.1, ⟨rfl, hw, rfl, hc0, by omega⟩, fun _ => hh.2, hK, hKm⟩)
    -- bound
    · have yes : ∀ (b : Int) (w : Nat), w < 4 → lwh = 0 → nl < 200 → ∀ ce li, xl_new nl lce ce (xl_word w (if b = 0 then 1 else -1) 15) → xl_new nl mli li (xl_word w (if b = 0 then 1 else -1) 15) → xv_L (nl + 1) ns ce lsp li msw msa msc msl ∧ xv_S n rce (nl + 1) ns ce lsp := by
        intro b w hw4 h0 hlt ce li n1 n2
        obtain ⟨sg, es⟩ : ∃ sg : Int, sg = (if b = 0 then 1 else -1) := ⟨_, rfl⟩
        have hs : sg = 1 ∨ sg = -1 := by rw [es]; split <;> omega
        rw [← es] at n1 n2
        refine ⟨xv_L_new hLi hlt n1 n2 (xl_word_in hw4 hs ⟨by omega, by omega⟩), xv_S_new hbf (hS h0) n1 (fun x hx _ => ?_)⟩
        have := hx.1 w hw4
        rw [(xl_word_sum hw4 sg 15 x).1, (xl_word_sum hw4 sg 15 x).2]
        rcases hs with e | e <;> rw [e] <;> omega
      refine ⟨by omega, by omega, hz _, fun hb => ?_, fun hb => ?_⟩
      · refine sp3_bound (hz _) (Or.inl rfl) hnl hw (fun hno dr => ⟨by omega, by omega, fun _ => sp4_bound (hz _) (Or.inl rfl) hnl hw (fun _ => ?_) (fun w ew hw4 g0 g1 => absurd ⟨by omega, by omega, g0, g1⟩ hno), fun q => absurd hb q⟩) (fun w ew hw4 g0 g1 ce dr n1 => ⟨by omega, by omega, fun _ => sp4_bound (hz _) (Or.inl rfl) hnl hw (fun hno => absurd ⟨by omega, by omega, g0, g1⟩ hno) (fun w2 ew2 _ _ _ li n2 => ?_), fun q => absurd hb q⟩)
        · exact law_fin ⟨by omega, by omega⟩ rfl (nx ⟨n, ly, nl, ns, ⟨rfl, rfl, rfl, rfl⟩, ⟨rfl, rfl, rfl, rfl⟩, hR, hLi, ⟨rfl, hw, rfl, hc0, by omega⟩, hS, hK, hKm⟩)
        · have e1 : w2 = w := by omega
          subst e1
          have hh := yes 0 w2 hw4 g0 g1 ce li n1 n2
          exact law_fin ⟨by omega, by omega⟩ rfl (nx ⟨n, ly, nl + 1, ns, ⟨rfl, rfl, rfl, rfl⟩, ⟨rfl, rfl, rfl, rfl⟩, hR, hh.1, ⟨rfl, hw, rfl, hc0, by omega⟩, fun _ => hh.2, hK, hKm⟩)
      · refine sp3_bound (hz _) (Or.inr rfl) hnl hw (fun hno dr => ⟨by omega, by omega, fun q => absurd q hb, fun _ => sp4_bound (hz _) (Or.inr rfl) hnl hw (fun _ => ?_) (fun w ew hw4 g0 g1 => absurd ⟨by omega, by omega, g0, g1⟩ hno)⟩) (fun w ew hw4 g0 g1 ce dr n1 => ⟨by omega, by omega, fun q => absurd q hb, fun _ => sp4_bound (hz _) (Or.inr rfl) hnl hw (fun hno => absurd ⟨by omega, by omega, g0, g1⟩ hno) (fun w2 ew2 _ _ _ li n2 => ?_)⟩)
        · exact law_fin ⟨by omega, by omega⟩ rfl (nx ⟨n, ly, nl, ns, ⟨rfl, rfl, rfl, rfl⟩, ⟨rfl, rfl, rfl, rfl⟩, hR, hLi, ⟨rfl, hw, rfl, hc0, by omega⟩, hS, hK, hKm⟩)
        · have e1 : w2 = w := by omega
          subst e1
          have hh := yes 1 w2 hw4 g0 g1 ce li n1 n2
          exact law_fin ⟨by omega, by omega⟩ rfl (nx ⟨n, ly, nl + 1, ns, ⟨rfl, rfl, rfl, rfl⟩, ⟨rfl, rfl, rfl, rfl⟩, hR, hh.1, ⟨rfl, hw, rfl, hc0, by omega⟩, fun _ => hh.2, hK, hKm⟩)
    -- add
    · refine ⟨by omega, by omega, by omega, by omega, sp3_add (hz _) (hz _) (hz _) (hz _) hnl hw big (fun hno dr => ⟨by omega, by omega, by omega, by omega, sp4_add (hz _) (hz _) (hz _) (hz _) hnl hw bigM (fun _ li hli => ?_) (fun a b ea eb ha hb hm hk hin g0 g1 => absurd ⟨⟨by omega, by omega⟩, ⟨by omega, by omega⟩, hm, hk, (by rw [ea, eb, Int.toNat_natCast, Int.toNat_natCast]; exact (xl_in_cg (xl_add_cg hml ha hb)).mp hin), g0, g1⟩ hno)⟩) (fun a b ea eb ha hb hm hk hin g0 g1 ce dr n1 => ⟨by omega, by omega, by omega, by omega, sp4_add (hz _) (hz _) (hz _) (hz _) hnl hw bigM (fun hno => absurd ⟨⟨by omega, by omega⟩, ⟨by omega, by omega⟩, hm, hk, (by rw [ea, eb, Int.toNat_natCast, Int.toNat_natCast]; exact (xl_in_cg (xl_add_cg hml ha hb)).mpr hin), g0, g1⟩ hno) (fun a2 b2 ea2 eb2 _ _ _ _ _ _ _ li n2 => ?_)⟩)⟩
      · exact law_fin ⟨by omega, by omega⟩ rfl (nx ⟨n, ly, nl, ns, ⟨rfl, rfl, rfl, rfl⟩, ⟨rfl, rfl, rfl, rfl⟩, hR, ⟨hLi.1, hLi.2.1, hLi.2.2.1, hLi.2.2.2.1, hLi.2.2.2.2.1, fun j hj => by rw [hli j hj]; exact hml j hj, hsp⟩, ⟨rfl, hw, rfl, hc0, by omega⟩, hS, hK, hKm⟩)
      · have e1 : a2 = a := by omega
        have e2 : b2 = b := by omega
        subst e1; subst e2
        have n2' := xl_new_cg n2 (xl_add_cg hml ha hb)
        refine law_fin ⟨by omega, by omega⟩ rfl (nx ⟨n, ly, nl + 1, ns, ⟨rfl, rfl, rfl, rfl⟩, ⟨rfl, rfl, rfl, rfl⟩, hR, xv_L_new hLi g1 n1 n2' hin, ⟨rfl, hw, rfl, hc0, by omega⟩, fun _ => xv_S_new hbf (hS g0) n1 (fun x hx hall => ?_), hK, hKm⟩)
        have s1 := (hS g0).1 x hx a2 ha (fun s hs _ => hall s hs)
        have s2 := (hS g0).1 x hx b2 hb (fun s hs _ => hall s hs)
        rw [(xl_add_sum _ _ _ _ _ x).1, (xl_add_sum _ _ _ _ _ x).2]
        have t1 := Int.mul_le_mul_of_nonneg_left s1 hm.1
        have t2 := Int.mul_le_mul_of_nonneg_left s2 hk.1
        omega
    -- divide
    · refine ⟨by omega, by omega, sp3_divide (hz _) (hz _) hnl hw big (fun hno dr => ⟨by omega, by omega, sp4_divide (hz _) (hz _) hnl hw bigM (fun _ li hli => ?_) (fun a ea ha hd hv g0 g1 => absurd ⟨⟨by omega, by omega⟩, hd, (by rw [ea, Int.toNat_natCast]; exact (xl_dvd_cg hml ha).mp hv), g0, g1⟩ hno)⟩) (fun a ea ha hd hv g0 g1 ce dr n1 => ⟨by omega, by omega, sp4_divide (hz _) (hz _) hnl hw bigM (fun hno => absurd ⟨⟨by omega, by omega⟩, hd, (by rw [ea, Int.toNat_natCast]; exact (xl_dvd_cg hml ha).mpr hv), g0, g1⟩ hno) (fun a2 ea2 _ _ _ _ _ li n2 => ?_)⟩)⟩
      · exact law_fin ⟨by omega, by omega⟩ rfl (nx ⟨n, ly, nl, ns, ⟨rfl, rfl, rfl, rfl⟩, ⟨rfl, rfl, rfl, rfl⟩, hR, ⟨hLi.1, hLi.2.1, hLi.2.2.1, hLi.2.2.2.1, hLi.2.2.2.2.1, fun j hj => by rw [hli j hj]; exact hml j hj, hsp⟩, ⟨rfl, hw, rfl, hc0, by omega⟩, hS, hK, hKm⟩)
      · have e1 : a2 = a := by omega
        subst e1
        have n2' := xl_new_cg n2 (xl_div_cg hml ha)
        obtain ⟨o1, o2⟩ := xl_div_ok hd (hLi.2.1 a2 ha) hv
        refine law_fin ⟨by omega, by omega⟩ rfl (nx ⟨n, ly, nl + 1, ns, ⟨rfl, rfl, rfl, rfl⟩, ⟨rfl, rfl, rfl, rfl⟩, hR, xv_L_new hLi g1 n1 n2' o1, ⟨rfl, hw, rfl, hc0, by omega⟩, fun _ => xv_S_new hbf (hS g0) n1 (fun x hx hall => o2 x ((hS g0).1 x hx a2 ha (fun s hs _ => hall s hs))), hK, hKm⟩)
    -- split
    · refine ⟨by omega, by omega, sp3_split (hz _) (hz _) hnl hns hw (fun hno dr => ⟨by omega, by omega, sp4_split (hz _) (hz _) hnl hns hw (fun _ => ?_) (fun w ew hw4 hq hn10 g0 g1 => absurd ⟨⟨by omega, by omega⟩, hq, hn10, g0, g1⟩ hno)⟩) (fun w ew hw4 hq hn10 g0 g1 ce sp dr n1 s0 s1 s2 s3 s4 => ⟨by omega, by omega, sp4_split (hz _) (hz _) hnl hns hw (fun hno => absurd ⟨⟨by omega, by omega⟩, hq, hn10, g0, g1⟩ hno) (fun w2 ew2 _ _ _ _ _ li sw sa sc sl n2 t0 t1 t2 t3 t4 => ?_)⟩)⟩
      · exact law_fin ⟨by omega, by omega⟩ rfl (nx ⟨n, ly, nl, ns, ⟨rfl, rfl, rfl, rfl⟩, ⟨rfl, rfl, rfl, rfl⟩, hR, hLi, ⟨rfl, hw, rfl, hc0, by omega⟩, hS, hK, hKm⟩)
      · have e1 : w2 = w := by omega
        subst e1
        have hh := xv_split hLi (hS g0) hw4 hq hn10 g1 n1 n2 s0 s1 s2 s3 s4 t0 t1 t2 t3 t4
        exact law_fin ⟨by omega, by omega⟩ rfl (nx ⟨n, ly, nl + 1, ns + 1, ⟨rfl, rfl, rfl, rfl⟩, ⟨rfl, rfl, rfl, rfl⟩, hR, hh.1, ⟨rfl, hw, rfl, hc0, by omega⟩, fun _ => hh.2, hK, hKm⟩)
    -- close
    · have ho := hLi.2.2.1
      obtain ⟨mc, hmc, ec1, ec2, hcut⟩ := xv_L_cut hLi
      refine ⟨by omega, sp3_close (hz _) hnl ho hw big (fun hno => ⟨by omega, sp4_close (hz _) hnl okm hw bigM (fun _ => ?_) (fun g0 a ea ha hcon hall => absurd ⟨g0, ⟨by omega, by omega⟩, (by rw [ea, Int.toNat_natCast]; exact (xl_con_cg hml ha).mp hcon)⟩ hno) (fun g0 a ea ha hcon s bf w hs _ _ _ _ li sc _ _ _ => absurd ⟨g0, ⟨by omega, by omega⟩, (by rw [ea, Int.toNat_natCast]; exact (xl_con_cg hml ha).mp hcon)⟩ hno)⟩)
        (fun g0 a ea ha hcon hall => ⟨by omega, sp4_close (hz _) hnl okm hw bigM (fun hno => absurd ⟨g0, ⟨by omega, by omega⟩, (by rw [ea, Int.toNat_natCast]; exact (xl_con_cg hml ha).mpr hcon)⟩ hno) (fun _ a2 ea2 _ _ _ => ?_) (fun _ a2 ea2 _ _ s bf w hs h1 _ _ _ li sc _ _ _ => ?_)⟩)
        (fun g0 a ea ha hcon s bf w hs h1 hlast hbf2 hw2 ce sp dr n1 p0 p1 => ⟨by omega, sp4_close (hz _) hnl okm hw bigM (fun hno => absurd ⟨g0, ⟨by omega, by omega⟩, (by rw [ea, Int.toNat_natCast]; exact (xl_con_cg hml ha).mpr hcon)⟩ hno) (fun _ a2 ea2 _ _ hall2 => ?_) (fun _ a2 ea2 _ _ s2 bf2 w2 hs2 h12 hlast2 hbf22 hw22 li sc n2 q0 q1 => ?_)⟩)⟩
      · exact law_fin ⟨by omega, by omega⟩ rfl (nx ⟨n, ly, nl, ns, ⟨rfl, rfl, rfl, rfl⟩, ⟨rfl, rfl, rfl, rfl⟩, hR, hLi, ⟨rfl, hw, rfl, hc0, by omega⟩, hS, hK, hKm⟩)
      · exact law_fin ⟨by omega, by omega⟩ rfl (nx ⟨n, ly, mc, 0, ⟨rfl, rfl, ec1, rfl⟩, ⟨rfl, rfl, ec2, rfl⟩, hR, hcut, ⟨rfl, Or.inr rfl, rfl, by omega, by omega⟩, fun q => absurd q (by omega), hK, hKm⟩)
      · have := hall s hs
        rw [(hsp s hs).2.2.1] at h1
        omega
      · have := hall2 s hs
        rw [(hsp s hs).2.2.1] at this
        omega
      · have e1 : s2 = s := by
          rcases Nat.lt_trichotomy s2 s with q | q | q
          · have := hlast2 s q hs
            rw [(hsp s hs).2.2.1] at this
            omega
          · exact q
          · have := hlast s2 q hs2
            rw [(hsp s2 hs2).2.2.1] at h12
            omega
        subst e1
        obtain ⟨e1, e2, e3, e4⟩ := hsp s2 hs2
        have e5 : bf2 = bf := by omega
        have e6 : w2 = w := by omega
        subst e5; subst e6
        rw [e2] at n2
        have hh := xv_case hLi (hS g0) ha hcon hs2 h1 hlast hbf2 hw2 n1 n2 p0 p1 q0 q1
        exact law_fin ⟨by omega, by omega⟩ rfl (nx ⟨n, ly, bf2 + 1, s2 + 1, ⟨rfl, rfl, rfl, rfl⟩, ⟨rfl, rfl, rfl, rfl⟩, hR, hh.1, ⟨rfl, Or.inl rfl, rfl, by omega, by omega⟩, fun _ => hh.2, hK, hKm⟩)
    -- finish
    · have eP : xr_P n (xr_M mki mro) = xr_P n rce := xr_P_eq he
      obtain ⟨mc, hmc, ec1, ec2, hcut⟩ := xv_L_cut hLi
      refine sp3_finish hok hns hw hK (fun g1 => sp4_finish hokM okm hw (fun _ => ?_) (fun g0 => absurd g0 (by omega)) (fun g0 => absurd g0 (by omega)))
        (fun g0 kn sid fo oe fa re le pe pc fr to_ va ff lf gf hF hp hK2 => sp4_finish hokM okm hw (fun g1 => absurd g1 (by omega)) (fun _ _ xx su => ?_) (fun _ hno xx su => ?_))
        (fun g0 kn sid fo oe fa re le pe pc fr to_ va ff lf gf hF hp hK2 => sp4_finish hokM okm hw (fun g1 => absurd g1 (by omega)) (fun _ hex xx su => ?_) (fun _ _ xx su => ?_))
      · exact law_fin ⟨by omega, by omega⟩ rfl (nx ⟨n, ly, nl, ns, ⟨rfl, rfl, rfl, rfl⟩, ⟨rfl, rfl, rfl, rfl⟩, hR, hLi, ⟨rfl, hw, rfl, hc0, by omega⟩, hS, hK, hKm⟩)
      · exact law_fin ⟨by omega, by omega⟩ rfl (nx ⟨n, ly, nl, ns, ⟨rfl, rfl, rfl, rfl⟩, ⟨rfl, rfl, rfl, rfl⟩, hR, hLi, ⟨rfl, hw, rfl, hc0, by omega⟩, hS, hK2, hKm⟩)
      · exfalso
        rcases hF with ⟨q, -⟩ | ⟨-, M, m1, m2, -, -⟩
        · omega
        · refine hno M m1 (by rw [eP]; exact m2) (xv_O hLi (hS g0) ⟨fun w _ => xm_p_in M w, (xr_P_iff _ _ _).mp m2⟩)
      · exfalso
        obtain ⟨N, h1, h2, -⟩ := hex
        rw [eP] at h2
        rcases hF with ⟨-, q⟩ | ⟨q, -⟩
        · rw [q N h1] at h2; cases h2
        · omega
      · exact law_fin ⟨by omega, by omega⟩ rfl (nx ⟨n, ly, mc, 0, ⟨rfl, rfl, ec1, rfl⟩, ⟨rfl, rfl, ec2, rfl⟩, hR, hcut, ⟨rfl, Or.inr rfl, rfl, hc0, by omega⟩, fun q => absurd q (by omega), hK2, hKm⟩)
    -- lines
    · unfold wp_X3_lines wp_X0_lineCount wp_X4_lines
      exact law_fin ⟨by omega, by omega⟩ rfl (nx ⟨n, ly, nl, ns, ⟨rfl, rfl, rfl, rfl⟩, ⟨rfl, rfl, rfl, rfl⟩, hR, hLi, ⟨rfl, hw, rfl, hc0, by omega⟩, hS, hK, hKm⟩)
    -- line
    · refine ⟨by omega, by omega, sp3_line (hz _) (hz _) hnl (fun hno => ⟨by omega, by omega, sp4_line (hz _) (hz _) hnl (fun _ => ?_) (fun a w ea ew ha hw5 => absurd ⟨by omega, by omega, by omega, by omega⟩ hno)⟩) (fun a w ea ew ha hw5 => ⟨by omega, by omega, sp4_line (hz _) (hz _) hnl (fun hno => absurd ⟨by omega, by omega, by omega, by omega⟩ hno) (fun a2 w2 ea2 ew2 _ _ => ?_)⟩)⟩
      · exact law_finL ⟨by omega, by omega⟩ rfl (nx ⟨n, ly, nl, ns, ⟨rfl, rfl, rfl, rfl⟩, ⟨rfl, rfl, rfl, rfl⟩, hR, hLi, ⟨rfl, hw, rfl, hc0, by omega⟩, hS, hK, hKm⟩)
      · have e1 : a2 = a := by omega
        have e2 : w2 = w := by omega
        subst e1; subst e2
        have hb := big a2 ha w2 hw5
        exact law_finL ⟨by omega, by omega⟩ (hml _ (by omega)).symm (nx ⟨n, ly, nl, ns, ⟨rfl, rfl, rfl, rfl⟩, ⟨rfl, rfl, rfl, rfl⟩, hR, hLi, ⟨rfl, hw, rfl, hc0, by omega⟩, hS, hK, hKm⟩)
    -- ofSplit
    · refine ⟨by omega, by omega, sp3_ofSplit (hz _) (hz _) hns (fun hno => ⟨by omega, by omega, sp4_ofSplit (hz _) (hz _) hns (fun _ => ?_) (fun a ea ha ew => absurd ⟨by omega, by omega, by omega, by omega⟩ hno) (fun a ea ha ew => absurd ⟨by omega, by omega, by omega, by omega⟩ hno) (fun a ea ha ew => absurd ⟨by omega, by omega, by omega, by omega⟩ hno) (fun a ea ha ew => absurd ⟨by omega, by omega, by omega, by omega⟩ hno)⟩) (fun a w ea ew ha hw4 => ⟨by omega, by omega, sp4_ofSplit (hz _) (hz _) hns (fun hno => absurd ⟨by omega, by omega, by omega, by omega⟩ hno) (fun a2 ea2 _ ew2 => ?_) (fun a2 ea2 _ ew2 => ?_) (fun a2 ea2 _ ew2 => ?_) (fun a2 ea2 _ ew2 => ?_)⟩)⟩
      · exact law_fin ⟨by omega, by omega⟩ rfl (nx ⟨n, ly, nl, ns, ⟨rfl, rfl, rfl, rfl⟩, ⟨rfl, rfl, rfl, rfl⟩, hR, hLi, ⟨rfl, hw, rfl, hc0, by omega⟩, hS, hK, hKm⟩)
      all_goals
        have e1 : a2 = a := by omega
        subst e1
        obtain ⟨f1, f2, f3, f4⟩ := hsp a2 ha
        obtain ⟨o1, o2, o3, o4⟩ := hLi.2.2.1.2 a2 ha
      · have e2 : w = 0 := by omega
        rw [e2, Nat.add_zero]
        exact law_fin ⟨by omega, by omega⟩ f1.symm (nx ⟨n, ly, nl, ns, ⟨rfl, rfl, rfl, rfl⟩, ⟨rfl, rfl, rfl, rfl⟩, hR, hLi, ⟨rfl, hw, rfl, hc0, by omega⟩, hS, hK, hKm⟩)
      · have e2 : w = 1 := by omega
        rw [e2]
        exact law_fin ⟨by omega, by omega⟩ f2.symm (nx ⟨n, ly, nl, ns, ⟨rfl, rfl, rfl, rfl⟩, ⟨rfl, rfl, rfl, rfl⟩, hR, hLi, ⟨rfl, hw, rfl, hc0, by omega⟩, hS, hK, hKm⟩)
      · have e2 : w = 2 := by omega
        rw [e2]
        exact law_fin ⟨by omega, by omega⟩ f3.symm (nx ⟨n, ly, nl, ns, ⟨rfl, rfl, rfl, rfl⟩, ⟨rfl, rfl, rfl, rfl⟩, hR, hLi, ⟨rfl, hw, rfl, hc0, by omega⟩, hS, hK, hKm⟩)
      · have e2 : w = 3 := by omega
        rw [e2]
        exact law_fin ⟨by omega, by omega⟩ f4.symm (nx ⟨n, ly, nl, ns, ⟨rfl, rfl, rfl, rfl⟩, ⟨rfl, rfl, rfl, rfl⟩, hR, hLi, ⟨rfl, hw, rfl, hc0, by omega⟩, hS, hK, hKm⟩)
    -- count
    · have same : ∀ r : Int, xw_r r → xw_r r ∧ (xw_r r ∧ ((r = r → wp_L_law_712 (wp_L_law_18 L zs (t + 1)) bkn (n : Int) (ly : Int) rce rst (nl : Int) (ns : Int) lcl lwh lce lsp ldr sid sfo soe sfa sre sle spe spc sfr sto sva sff slf sgf (n : Int) (ly : Int) (nl : Int) (ns : Int) lwh lcl mtr mfo mki mro mlf mli msw msa msc msl mff mlt mgr mxx msu (7 * (i : Int))) ∧ (¬ r = r → False))) := fun r hr => law_fin hr rfl (nx ⟨n, ly, nl, ns, ⟨rfl, rfl, rfl, rfl⟩, ⟨rfl, rfl, rfl, rfl⟩, hR, hLi, ⟨rfl, hw, rfl, hc0, by omega⟩, hS, hK, hKm⟩)
      refine ⟨by omega, sp3_count (hz _) hw (fun h => ⟨by omega, sp4_count (hz _) hw (fun _ => same _ ⟨by omega, by omega⟩) (fun q => absurd h (by omega)) (fun q => absurd h (by omega)) (fun q => absurd h (by omega)) (fun q => absurd h (by omega)) (fun q => absurd h (by omega))⟩)
        (fun h => ⟨by omega, sp4_count (hz _) hw (fun q => absurd q (by omega)) (fun _ => same _ ⟨by omega, by omega⟩) (fun q => absurd h (by omega)) (fun q => absurd h (by omega)) (fun q => absurd h (by omega)) (fun q => absurd h (by omega))⟩)
        (fun h => ⟨by omega, sp4_count (hz _) hw (fun q => absurd q (by omega)) (fun q => absurd h (by omega)) (fun _ => same _ ⟨by omega, by omega⟩) (fun q => absurd h (by omega)) (fun q => absurd h (by omega)) (fun q => absurd h (by omega))⟩)
        (fun h => ⟨by omega, sp4_count (hz _) hw (fun q => absurd q (by omega)) (fun q => absurd h (by omega)) (fun q => absurd h (by omega)) (fun _ => same _ ⟨by omega, by omega⟩) (fun q => absurd h (by omega)) (fun q => absurd h (by omega))⟩)
        (fun h => ⟨by omega, sp4_count (hz _) hw (fun q => absurd q (by omega)) (fun q => absurd h (by omega)) (fun q => absurd h (by omega)) (fun q => absurd h (by omega)) (fun _ => same _ ⟨by omega, by omega⟩) (fun q => absurd h (by omega))⟩)
        (fun h => ⟨by omega, sp4_count (hz _) hw (fun q => absurd q (by omega)) (fun q => absurd h (by omega)) (fun q => absurd h (by omega)) (fun q => absurd h (by omega)) (fun q => absurd h (by omega)) (fun _ => same _ ⟨by omega, by omega⟩)⟩)⟩
theorem law_math {L : Nat} (hL : L ≤ 3584) {zs : Nat → Int} (hz : ∀ j, xw_r (zs j)) : wp_L_law L zs := by
  unfold wp_L_law
  refine ⟨L + 1, ?_⟩
  exact law_loop hL hz L 0 _ _ _ _ _ _ _ _ _ _ _ _ _ _ _ _ _ _ _ _ _ _ _ _ _ _ _ _ _ _ _ _ _ _ _ _ _ _ _ _ _ _ _ _ _ _ _ (by omega) (by omega) ⟨0, 0, 0, 0, ⟨rfl, rfl, rfl, rfl⟩, ⟨rfl, rfl, rfl, rfl⟩, ⟨⟨by omega, fun r hr => absurd hr (by omega)⟩, by omega, fun i hi => absurd hi (by omega), fun i hi => absurd hi (by omega), fun i j _ hj => absurd hj (by omega)⟩, xv_L_0 _ _ _ _ _ _ _, ⟨rfl, Or.inl rfl, rfl, by omega, by omega⟩, fun _ => xv_S_0 _ _ _ _, xv_K_0 _ _ _ _ _ _, xv_Km_0 _ _ _ _ _ _⟩

