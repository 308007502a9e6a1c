def wp_X4_changed (post : Int → Int → Int → Int → Int → Prop) (mrw : Int) (mly : Int) (mln : Int) (msp : Int) (mwh : Int) (mcl : Int) (mtr : Int) (mfo : Int) (mki : Nat → Int) (mro : Nat → Int) (mlf : Nat → Int) (mli : Nat → Int) (msw : Nat → Int) (msa : Nat → Int) (msc : Nat → Int) (msl : Nat → Int) (mff : Nat → Int) (mlt : Nat → Int) (mgr : Nat → Int) (mxx : Nat → Int) (msu : Nat → Int) : Prop := post 0 0 0 0 0
def wp_X4_isIn (post : Int → Prop) (p1 : Int) (p2 : Int) : Prop := xw_l p1 ∧ (xw_l (-p2) ∧ ((p1 < -p2 → (post 0)) ∧ (¬ p1 < -p2 → (xw_l p2 ∧ ((p2 < p1 → (post 0)) ∧ (¬ p2 < p1 → (post 1)))))))
def wp_X4_row_72 (p1 : Int) (p2 : Int) (p3 : Int) (p4 : Int) (p5 : Int) (p6 : Int) (mly : Int) (mfo : Int) (mlf : Nat → Int) (mli : Nat → Int) (msw : Nat → Int) (msa : Nat → Int) (msc : Nat → Int) (msl : Nat → Int) (mff : Nat → Int) (mlt : Nat → Int) (mgr : Nat → Int) (mxx : Nat → Int) (msu : Nat → Int) (post : Int → Int → Int → Int → Int → Int → Int → (Nat → Int) → (Nat → Int) → Prop) (mrw_1 : Int) (mln_1 : Int) (msp_1 : Int) (mwh_1 : Int) (mcl_1 : Int) (mtr_1 : Int) (mki_1 : Nat → Int) (mro_1 : Nat → Int) (z0 : Int) : Prop := xw_r z0 ∧ ((z0 = 0 → (post (-1) mrw_1 mln_1 msp_1 mwh_1 mcl_1 mtr_1 mki_1 mro_1)) ∧ (¬ z0 = 0 → (xw_r mrw_1 ∧ ((mrw_1 = 16 → (post (-1) mrw_1 mln_1 msp_1 mwh_1 mcl_1 mtr_1 mki_1 mro_1)) ∧ (¬ mrw_1 = 16 → (∀ x8 : Int, x8 = 5 * mrw_1 → ((0 ≤ mrw_1 ∧ mrw_1 < 16) ∧ (∀ mki_2 : Nat → Int, mki_2 = xw_u mki_1 mrw_1 p1 → ((0 ≤ x8 ∧ x8 < 80) ∧ (∀ mro_2 : Nat → Int, mro_2 = xw_u mro_1 x8 p2 → ((0 ≤ x8 + 1 ∧ x8 + 1 < 80) ∧ (∀ mro_3 : Nat → Int, mro_3 = xw_u mro_2 (x8 + 1) p3 → ((0 ≤ x8 + 2 ∧ x8 + 2 < 80) ∧ (∀ mro_4 : Nat → Int, mro_4 = xw_u mro_3 (x8 + 2) p4 → ((0 ≤ x8 + 3 ∧ x8 + 3 < 80) ∧ (∀ mro_5 : Nat → Int, mro_5 = xw_u mro_4 (x8 + 3) p5 → ((0 ≤ x8 + 4 ∧ x8 + 4 < 80) ∧ (∀ mro_6 : Nat → Int, mro_6 = xw_u mro_5 (x8 + 4) p6 → (∀ rf : Int, rf = mrw_1 + 1 → (wp_X4_changed (fun mln_2 msp_2 mwh_2 mcl_2 mtr_2 => (post (rf - 1) rf mln_2 msp_2 mwh_2 mcl_2 mtr_2 mki_2 mro_6)) rf mly mln_1 msp_1 mwh_1 mcl_1 mtr_1 mfo mki_2 mro_6 mlf mli msw msa msc msl mff mlt mgr mxx msu))))))))))))))))))))
def wp_X4_row_71 (p1 : Int) (p2 : Int) (p3 : Int) (p4 : Int) (p5 : Int) (p6 : Int) (mly : Int) (mfo : Int) (mlf : Nat → Int) (mli : Nat → Int) (msw : Nat → Int) (msa : Nat → Int) (msc : Nat → Int) (msl : Nat → Int) (mff : Nat → Int) (mlt : Nat → Int) (mgr : Nat → Int) (mxx : Nat → Int) (msu : Nat → Int) (post : Int → Int → Int → Int → Int → Int → Int → (Nat → Int) → (Nat → Int) → Prop) (mrw_2 : Int) (mln_3 : Int) (msp_3 : Int) (mwh_3 : Int) (mcl_3 : Int) (mtr_3 : Int) (mki_3 : Nat → Int) (mro_7 : Nat → Int) : Prop := wp_X4_row_72 p1 p2 p3 p4 p5 p6 mly mfo mlf mli msw msa msc msl mff mlt mgr mxx msu post mrw_2 mln_3 msp_3 mwh_3 mcl_3 mtr_3 mki_3 mro_7 0
def wp_X4_row (post : Int → Int → Int → Int → Int → Int → Int → (Nat → Int) → (Nat → Int) → Prop) (mrw : Int) (mly : Int) (mln : Int) (msp : Int) (mwh : Int) (mcl : Int) (mtr : Int) (mfo : Int) (mki : Nat → Int) (mro : Nat → Int) (mlf : Nat → Int) (mli : Nat → Int) (msw : Nat → Int) (msa : Nat → Int) (msc : Nat → Int) (msl : Nat → Int) (mff : Nat → Int) (mlt : Nat → Int) (mgr : Nat → Int) (mxx : Nat → Int) (msu : Nat → Int) (p1 : Int) (p2 : Int) (p3 : Int) (p4 : Int) (p5 : Int) (p6 : Int) : Prop := xw_r p1 ∧ ((p1 < 0 → (wp_X4_row_71 p1 p2 p3 p4 p5 p6 mly mfo mlf mli msw msa msc msl mff mlt mgr mxx msu post mrw mln msp mwh mcl mtr mki mro)) ∧ (¬ p1 < 0 → ((1 < p1 → (wp_X4_row_71 p1 p2 p3 p4 p5 p6 mly mfo mlf mli msw msa msc msl mff mlt mgr mxx msu post mrw mln msp mwh mcl mtr mki mro)) ∧ (¬ 1 < p1 → (xw_r p2 ∧ (wp_X4_isIn (fun r => (xw_r r ∧ ((r = 0 → (wp_X4_row_71 p1 p2 p3 p4 p5 p6 mly mfo mlf mli msw msa msc msl mff mlt mgr mxx msu post mrw mln msp mwh mcl mtr mki mro)) ∧ (¬ r = 0 → (xw_r p3 ∧ (wp_X4_isIn (fun r_1 => (xw_r r_1 ∧ ((r_1 = 0 → (wp_X4_row_71 p1 p2 p3 p4 p5 p6 mly mfo mlf mli msw msa msc msl mff mlt mgr mxx msu post mrw mln msp mwh mcl mtr mki mro)) ∧ (¬ r_1 = 0 → (xw_r p4 ∧ (wp_X4_isIn (fun r_2 => (xw_r r_2 ∧ ((r_2 = 0 → (wp_X4_row_71 p1 p2 p3 p4 p5 p6 mly mfo mlf mli msw msa msc msl mff mlt mgr mxx msu post mrw mln msp mwh mcl mtr mki mro)) ∧ (¬ r_2 = 0 → (xw_r p5 ∧ (wp_X4_isIn (fun r_3 => (xw_r r_3 ∧ ((r_3 = 0 → (wp_X4_row_71 p1 p2 p3 p4 p5 p6 mly mfo mlf mli msw msa msc msl mff mlt mgr mxx msu post mrw mln msp mwh mcl mtr mki mro)) ∧ (¬ r_3 = 0 → (xw_r p6 ∧ (wp_X4_isIn (fun r_4 => (xw_r r_4 ∧ ((r_4 = 0 → (wp_X4_row_71 p1 p2 p3 p4 p5 p6 mly mfo mlf mli msw msa msc msl mff mlt mgr mxx msu post mrw mln msp mwh mcl mtr mki mro)) ∧ (¬ r_4 = 0 → (wp_X4_row_72 p1 p2 p3 p4 p5 p6 mly mfo mlf mli msw msa msc msl mff mlt mgr mxx msu post mrw mln msp mwh mcl mtr mki mro 1))))) p6 9999)))))) p5 99)))))) p4 99)))))) p3 99)))))) p2 99))))))
def wp_X4_push (post : Int → Int → Int → Int → Int → Int → Int → (Nat → Int) → Prop) (mrw : Int) (mly : Int) (mln : Int) (msp : Int) (mwh : Int) (mcl : Int) (mtr : Int) (mfo : Int) (mki : Nat → Int) (mro : Nat → Int) (mlf : Nat → Int) (mli : Nat → Int) (msw : Nat → Int) (msa : Nat → Int) (msc : Nat → Int) (msl : Nat → Int) (mff : Nat → Int) (mlt : Nat → Int) (mgr : Nat → Int) (mxx : Nat → Int) (msu : Nat → Int) : Prop := xw_r mly ∧ ((mly = 8 → (post (-1) mly mln msp mwh mcl mtr mlf)) ∧ (¬ mly = 8 → ((0 ≤ mly ∧ mly < 8) ∧ (∀ mlf_1 : Nat → Int, mlf_1 = xw_u mlf mly mrw → (∀ lf : Int, lf = mly + 1 → (wp_X4_changed (fun mln_1 msp_1 mwh_1 mcl_1 mtr_1 => (post lf lf mln_1 msp_1 mwh_1 mcl_1 mtr_1 mlf_1)) mrw lf mln msp mwh mcl mtr mfo mki mro mlf_1 mli msw msa msc msl mff mlt mgr mxx msu))))))
def wp_X4_pop (post : Int → Int → Int → Int → Int → Int → Int → Int → Prop) (mrw : Int) (mly : Int) (mln : Int) (msp : Int) (mwh : Int) (mcl : Int) (mtr : Int) (mfo : Int) (mki : Nat → Int) (mro : Nat → Int) (mlf : Nat → Int) (mli : Nat → Int) (msw : Nat → Int) (msa : Nat → Int) (msc : Nat → Int) (msl : Nat → Int) (mff : Nat → Int) (mlt : Nat → Int) (mgr : Nat → Int) (mxx : Nat → Int) (msu : Nat → Int) : Prop := xw_r mly ∧ ((mly = 0 → (post (-1) mrw mly mln msp mwh mcl mtr)) ∧ (¬ mly = 0 → (∀ lf : Int, lf = mly - 1 → ((0 ≤ lf ∧ lf < 8) ∧ (∀ x1 : Int, x1 = mrw - (mlf lf.toNat) → ((0 ≤ lf ∧ lf < 8) ∧ (∀ rf : Int, rf = mlf lf.toNat → (wp_X4_changed (fun mln_1 msp_1 mwh_1 mcl_1 mtr_1 => (post x1 rf lf mln_1 msp_1 mwh_1 mcl_1 mtr_1)) rf lf mln msp mwh mcl mtr mfo mki mro mlf mli msw msa msc msl mff mlt mgr mxx msu))))))))
def wp_X4_ofRow (post : Int → Prop) (mrw : Int) (mly : Int) (mln : Int) (msp : Int) (mwh : Int) (mcl : Int) (mtr : Int) (mfo : Int) (mki : Nat → Int) (mro : Nat → Int) (mlf : Nat → Int) (mli : Nat → Int) (msw : Nat → Int) (msa : Nat → Int) (msc : Nat → Int) (msl : Nat → Int) (mff : Nat → Int) (mlt : Nat → Int) (mgr : Nat → Int) (mxx : Nat → Int) (msu : Nat → Int) (p1 : Int) (p2 : Int) : Prop := xw_r p1 ∧ ((p1 < 0 → (post (-2147483648))) ∧ (¬ p1 < 0 → (xw_r mrw ∧ ((mrw ≤ p1 → (post (-2147483648))) ∧ (¬ mrw ≤ p1 → (xw_r p2 ∧ ((p2 < 0 → (post (-2147483648))) ∧ (¬ p2 < 0 → ((p2 ≤ 5 → ((p2 = 0 → ((0 ≤ p1 ∧ p1 < 16) ∧ (post (mki p1.toNat)))) ∧ (¬ p2 = 0 → ((0 ≤ ((5 * p1) + p2) - 1 ∧ ((5 * p1) + p2) - 1 < 80) ∧ (post (mro (((5 * p1) + p2) - 1).toNat)))))) ∧ (¬ p2 ≤ 5 → (post (-2147483648))))))))))))
def wp_X4_holds_89 (J_4 : Int → Int → Prop) (x3 : Int) (z0 : Int) : Prop := ∀ x3_1 : Int, x3_1 = x3 + 1 → (J_4 x3_1 z0)
def wl_X4_holds_4 (p1 : Int) (mrw : Int) (mki : Nat → Int) (mro : Nat → Int) (msu : Nat → Int) (post : Int → Prop) (J_4 : Int → Int → Prop) (x3 : Int) (x2 : Int) : Prop := xw_r x3 ∧ (xw_r mrw ∧ ((mrw ≤ x3 → ((x2 = 0 ∨ x2 = 1) ∧ post x2)) ∧ (¬ mrw ≤ x3 → (xw_r x2 ∧ ((x2 = 0 → ((x2 = 0 ∨ x2 = 1) ∧ post x2)) ∧ (¬ x2 = 0 → ((0 ≤ x3 ∧ x3 < 16) ∧ ((0 ≤ (5 * x3) + 3 ∧ (5 * x3) + 3 < 80) ∧ (∀ x4 : Int, x4 = (msu x3.toNat) + ((mro ((5 * x3) + 3).toNat) * p1) → ((0 ≤ x3 ∧ x3 < 16) ∧ (xw_r (mki x3.toNat) ∧ ((mki x3.toNat = 0 → ((0 ≤ (5 * x3) + 4 ∧ (5 * x3) + 4 < 80) ∧ (xw_r x4 ∧ (xw_r (mro ((5 * x3) + 4).toNat) ∧ ((x4 = mro ((5 * x3) + 4).toNat → (wp_X4_holds_89 J_4 x3 1)) ∧ (¬ x4 = mro ((5 * x3) + 4).toNat → (wp_X4_holds_89 J_4 x3 0))))))) ∧ (¬ mki x3.toNat = 0 → ((0 ≤ (5 * x3) + 4 ∧ (5 * x3) + 4 < 80) ∧ (xw_r x4 ∧ (xw_r (mro ((5 * x3) + 4).toNat) ∧ ((mro ((5 * x3) + 4).toNat < x4 → (wp_X4_holds_89 J_4 x3 0)) ∧ (¬ mro ((5 * x3) + 4).toNat < x4 → (wp_X4_holds_89 J_4 x3 1)))))))))))))))))))
def wp_X4_holds_4 (p1 : Int) (mrw : Int) (mki : Nat → Int) (mro : Nat → Int) (msu : Nat → Int) (post : Int → Prop) : Nat → Int → Int → Prop
  | 0 => fun _ _ => False
  | n + 1 => fun x3 x2 => wl_X4_holds_4 p1 mrw mki mro msu post (wp_X4_holds_4 p1 mrw mki mro msu post n) x3 x2
def wp_X4_holds (post : Int → Prop) (mrw : Int) (mly : Int) (mln : Int) (msp : Int) (mwh : Int) (mcl : Int) (mtr : Int) (mfo : Int) (mki : Nat → Int) (mro : Nat → Int) (mlf : Nat → Int) (mli : Nat → Int) (msw : Nat → Int) (msa : Nat → Int) (msc : Nat → Int) (msl : Nat → Int) (mff : Nat → Int) (mlt : Nat → Int) (mgr : Nat → Int) (mxx : Nat → Int) (msu : Nat → Int) (p1 : Int) : Prop := ∃ fu : Nat, wp_X4_holds_4 p1 mrw mki mro msu post fu 0 1
def wl_X4_addUp_2 (mrw : Int) (mro : Nat → Int) (mxx : Nat → Int) (post : (Nat → Int) → Prop) (J_2 : (Nat → Int) → Int → Prop) (msu_1 : Nat → Int) (x1 : Int) : Prop := xw_r x1 ∧ (xw_r mrw ∧ ((mrw ≤ x1 → (post msu_1)) ∧ (¬ mrw ≤ x1 → ((0 ≤ 5 * x1 ∧ 5 * x1 < 80) ∧ ((0 ≤ (0 : Int) ∧ (0 : Int) < 4) ∧ ((0 ≤ (5 * x1) + 1 ∧ (5 * x1) + 1 < 80) ∧ ((0 ≤ (1 : Int) ∧ (1 : Int) < 4) ∧ ((0 ≤ (5 * x1) + 2 ∧ (5 * x1) + 2 < 80) ∧ ((0 ≤ (2 : Int) ∧ (2 : Int) < 4) ∧ ((0 ≤ x1 ∧ x1 < 16) ∧ (∀ msu_2 : Nat → Int, msu_2 = xw_u msu_1 x1 ((((mro (5 * x1).toNat) * (mxx (0 : Int).toNat)) + ((mro ((5 * x1) + 1).toNat) * (mxx (1 : Int).toNat))) + ((mro ((5 * x1) + 2).toNat) * (mxx (2 : Int).toNat))) → (∀ x1_1 : Int, x1_1 = x1 + 1 → (J_2 msu_2 x1_1)))))))))))))
def wp_X4_addUp_2 (mrw : Int) (mro : Nat → Int) (mxx : Nat → Int) (post : (Nat → Int) → Prop) : Nat → (Nat → Int) → Int → Prop
  | 0 => fun _ _ => False
  | n + 1 => fun msu_1 x1 => wl_X4_addUp_2 mrw mro mxx post (wp_X4_addUp_2 mrw mro mxx post n) msu_1 x1
def wp_X4_addUp (post : (Nat → Int) → Prop) (mrw : Int) (mly : Int) (mln : Int) (msp : Int) (mwh : Int) (mcl : Int) (mtr : Int) (mfo : Int) (mki : Nat → Int) (mro : Nat → Int) (mlf : Nat → Int) (mli : Nat → Int) (msw : Nat → Int) (msa : Nat → Int) (msc : Nat → Int) (msl : Nat → Int) (mff : Nat → Int) (mlt : Nat → Int) (mgr : Nat → Int) (mxx : Nat → Int) (msu : Nat → Int) : Prop := ∃ fu : Nat, wp_X4_addUp_2 mrw mro mxx post fu msu 0
def wp_X4_take_120 (J_2 : Int → (Nat → Int) → (Nat → Int) → (Nat → Int) → Int → Prop) (x1 : Int) (mfo_4 : Int) (mff_5 : Nat → Int) (mlt_5 : Nat → Int) (mgr_4 : Nat → Int) (z0_2 : Int) (z1_2 : Int) : Prop := (0 ≤ z1_2 ∧ z1_2 < 4) ∧ (∀ mgr_5 : Nat → Int, mgr_5 = xw_u mgr_4 z1_2 z0_2 → (∀ x1_1 : Int, x1_1 = x1 + 1 → (J_2 mfo_4 mff_5 mlt_5 mgr_5 x1_1)))
def wp_X4_take_105 (J_2 : Int → (Nat → Int) → (Nat → Int) → (Nat → Int) → Int → Prop) (mxx : Nat → Int) (x1 : Int) (mfo_5 : Int) (mff_6 : Nat → Int) (mlt_6 : Nat → Int) (mgr_6 : Nat → Int) (z0_3 : Int) : Prop := (0 ≤ x1 ∧ x1 < 4) ∧ (wp_X4_take_120 J_2 x1 mfo_5 mff_6 mlt_6 mgr_6 (mxx x1.toNat) z0_3)
def wp_X4_take_77 (J_2 : Int → (Nat → Int) → (Nat → Int) → (Nat → Int) → Int → Prop) (mxx : Nat → Int) (x1 : Int) (mfo_3 : Int) (mff_4 : Nat → Int) (mlt_3 : Nat → Int) (mgr_3 : Nat → Int) (z0_1 : Int) (z1_1 : Int) : Prop := (0 ≤ z1_1 ∧ z1_1 < 4) ∧ (∀ mlt_4 : Nat → Int, mlt_4 = xw_u mlt_3 z1_1 z0_1 → (xw_r mfo_3 ∧ ((mfo_3 = 0 → (wp_X4_take_105 J_2 mxx x1 mfo_3 mff_4 mlt_4 mgr_3 x1)) ∧ (¬ mfo_3 = 0 → ((0 ≤ x1 ∧ x1 < 4) ∧ ((0 ≤ x1 ∧ x1 < 4) ∧ (xw_r (mxx x1.toNat) ∧ (xw_r (mgr_3 x1.toNat) ∧ ((mxx x1.toNat ≤ mgr_3 x1.toNat → ((0 ≤ x1 ∧ x1 < 4) ∧ (wp_X4_take_120 J_2 x1 mfo_3 mff_4 mlt_4 mgr_3 (mgr_3 x1.toNat) x1))) ∧ (¬ mxx x1.toNat ≤ mgr_3 x1.toNat → (wp_X4_take_105 J_2 mxx x1 mfo_3 mff_4 mlt_4 mgr_3 x1)))))))))))
def wp_X4_take_62 (J_2 : Int → (Nat → Int) → (Nat → Int) → (Nat → Int) → Int → Prop) (mxx : Nat → Int) (x1 : Int) (mfo_6 : Int) (mff_7 : Nat → Int) (mlt_7 : Nat → Int) (mgr_7 : Nat → Int) (z0_4 : Int) : Prop := (0 ≤ x1 ∧ x1 < 4) ∧ (wp_X4_take_77 J_2 mxx x1 mfo_6 mff_7 mlt_7 mgr_7 (mxx x1.toNat) z0_4)
def wp_X4_take_34 (J_2 : Int → (Nat → Int) → (Nat → Int) → (Nat → Int) → Int → Prop) (mxx : Nat → Int) (x1 : Int) (mfo_2 : Int) (mff_2 : Nat → Int) (mlt_2 : Nat → Int) (mgr_2 : Nat → Int) (z0 : Int) (z1 : Int) : Prop := (0 ≤ z1 ∧ z1 < 4) ∧ (∀ mff_3 : Nat → Int, mff_3 = xw_u mff_2 z1 z0 → (xw_r mfo_2 ∧ ((mfo_2 = 0 → (wp_X4_take_62 J_2 mxx x1 mfo_2 mff_3 mlt_2 mgr_2 x1)) ∧ (¬ mfo_2 = 0 → ((0 ≤ x1 ∧ x1 < 4) ∧ ((0 ≤ x1 ∧ x1 < 4) ∧ (xw_r (mxx x1.toNat) ∧ (xw_r (mlt_2 x1.toNat) ∧ ((mlt_2 x1.toNat ≤ mxx x1.toNat → ((0 ≤ x1 ∧ x1 < 4) ∧ (wp_X4_take_77 J_2 mxx x1 mfo_2 mff_3 mlt_2 mgr_2 (mlt_2 x1.toNat) x1))) ∧ (¬ mlt_2 x1.toNat ≤ mxx x1.toNat → (wp_X4_take_62 J_2 mxx x1 mfo_2 mff_3 mlt_2 mgr_2 x1)))))))))))
def wl_X4_take_2 (mxx : Nat → Int) (post : Int → (Nat → Int) → (Nat → Int) → (Nat → Int) → Prop) (J_2 : Int → (Nat → Int) → (Nat → Int) → (Nat → Int) → Int → Prop) (mfo_1 : Int) (mff_1 : Nat → Int) (mlt_1 : Nat → Int) (mgr_1 : Nat → Int) (x1 : Int) : Prop := xw_r x1 ∧ ((4 ≤ x1 → (∀ ff : Int, ff = mfo_1 + 1 → (post ff mff_1 mlt_1 mgr_1))) ∧ (¬ 4 ≤ x1 → (xw_r mfo_1 ∧ ((mfo_1 = 0 → ((0 ≤ x1 ∧ x1 < 4) ∧ (wp_X4_take_34 J_2 mxx x1 mfo_1 mff_1 mlt_1 mgr_1 (mxx x1.toNat) x1))) ∧ (¬ mfo_1 = 0 → ((0 ≤ x1 ∧ x1 < 4) ∧ (wp_X4_take_34 J_2 mxx x1 mfo_1 mff_1 mlt_1 mgr_1 (mff_1 x1.toNat) x1)))))))
def wp_X4_take_2 (mxx : Nat → Int) (post : Int → (Nat → Int) → (Nat → Int) → (Nat → Int) → Prop) : Nat → Int → (Nat → Int) → (Nat → Int) → (Nat → Int) → Int → Prop
  | 0 => fun _ _ _ _ _ => False
  | n + 1 => fun mfo_1 mff_1 mlt_1 mgr_1 x1 => wl_X4_take_2 mxx post (wp_X4_take_2 mxx post n) mfo_1 mff_1 mlt_1 mgr_1 x1
def wp_X4_take (post : Int → (Nat → Int) → (Nat → Int) → (Nat → Int) → Prop) (mrw : Int) (mly : Int) (mln : Int) (msp : Int) (mwh : Int) (mcl : Int) (mtr : Int) (mfo : Int) (mki : Nat → Int) (mro : Nat → Int) (mlf : Nat → Int) (mli : Nat → Int) (msw : Nat → Int) (msa : Nat → Int) (msc : Nat → Int) (msl : Nat → Int) (mff : Nat → Int) (mlt : Nat → Int) (mgr : Nat → Int) (mxx : Nat → Int) (msu : Nat → Int) : Prop := ∃ fu : Nat, wp_X4_take_2 mxx post fu mfo mff mlt mgr 0
def wp_X4_tryAll_102 (J_74 : Int → Int → (Nat → Int) → (Nat → Int) → (Nat → Int) → (Nat → Int) → (Nat → Int) → Int → Prop) (mtr_5 : Int) (mfo_5 : Int) (mff_5 : Nat → Int) (mlt_5 : Nat → Int) (mgr_5 : Nat → Int) (mxx_8 : Nat → Int) (msu_6 : Nat → Int) (x4_1 : Int) : Prop := ∀ x4_2 : Int, x4_2 = x4_1 + 1 → (J_74 mtr_5 mfo_5 mff_5 mlt_5 mgr_5 mxx_8 msu_6 x4_2)
def wl_X4_tryAll_74 (J_39 : Int → Int → (Nat → Int) → (Nat → Int) → (Nat → Int) → (Nat → Int) → (Nat → Int) → Int → Prop) (mrw : Int) (mly : Int) (mln : Int) (msp : Int) (mwh : Int) (mcl : Int) (mki : Nat → Int) (mro : Nat → Int) (mlf : Nat → Int) (mli : Nat → Int) (msw : Nat → Int) (msa : Nat → Int) (msc : Nat → Int) (msl : Nat → Int) (x3 : Int) (J_74 : Int → Int → (Nat → Int) → (Nat → Int) → (Nat → Int) → (Nat → Int) → (Nat → Int) → Int → Prop) (mtr_4 : Int) (mfo_4 : Int) (mff_4 : Nat → Int) (mlt_4 : Nat → Int) (mgr_4 : Nat → Int) (mxx_7 : Nat → Int) (msu_5 : Nat → Int) (x4 : Int) : Prop := xw_r x4 ∧ ((15 < x4 → (∀ x3_1 : Int, x3_1 = x3 + 1 → (J_39 mtr_4 mfo_4 mff_4 mlt_4 mgr_4 mxx_7 msu_5 x3_1))) ∧ (¬ 15 < x4 → (wp_X4_holds (fun r => (xw_r r ∧ ((r = 0 → (wp_X4_tryAll_102 J_74 mtr_4 mfo_4 mff_4 mlt_4 mgr_4 mxx_7 msu_5 x4)) ∧ (¬ r = 0 → ((0 ≤ (3 : Int) ∧ (3 : Int) < 4) ∧ (∀ mxx_9 : Nat → Int, mxx_9 = xw_u mxx_7 3 x4 → (wp_X4_take (fun mfo_6 mff_6 mlt_6 mgr_6 => (wp_X4_tryAll_102 J_74 mtr_4 mfo_6 mff_6 mlt_6 mgr_6 mxx_9 msu_5 x4)) mrw mly mln msp mwh mcl mtr_4 mfo_4 mki mro mlf mli msw msa msc msl mff_4 mlt_4 mgr_4 mxx_9 msu_5))))))) mrw mly mln msp mwh mcl mtr_4 mfo_4 mki mro mlf mli msw msa msc msl mff_4 mlt_4 mgr_4 mxx_7 msu_5 x4)))
def wp_X4_tryAll_74 (J_39 : Int → Int → (Nat → Int) → (Nat → Int) → (Nat → Int) → (Nat → Int) → (Nat → Int) → Int → Prop) (mrw : Int) (mly : Int) (mln : Int) (msp : Int) (mwh : Int) (mcl : Int) (mki : Nat → Int) (mro : Nat → Int) (mlf : Nat → Int) (mli : Nat → Int) (msw : Nat → Int) (msa : Nat → Int) (msc : Nat → Int) (msl : Nat → Int) (x3 : Int) : Nat → Int → Int → (Nat → Int) → (Nat → Int) → (Nat → Int) → (Nat → Int) → (Nat → Int) → Int → Prop
  | 0 => fun _ _ _ _ _ _ _ _ => False
  | n + 1 => fun mtr_4 mfo_4 mff_4 mlt_4 mgr_4 mxx_7 msu_5 x4 => wl_X4_tryAll_74 J_39 mrw mly mln msp mwh mcl mki mro mlf mli msw msa msc msl x3 (wp_X4_tryAll_74 J_39 mrw mly mln msp mwh mcl mki mro mlf mli msw msa msc msl x3 n) mtr_4 mfo_4 mff_4 mlt_4 mgr_4 mxx_7 msu_5 x4
def wl_X4_tryAll_39 (J_30 : Int → Int → (Nat → Int) → (Nat → Int) → (Nat → Int) → (Nat → Int) → (Nat → Int) → Int → Prop) (mrw : Int) (mly : Int) (mln : Int) (msp : Int) (mwh : Int) (mcl : Int) (mki : Nat → Int) (mro : Nat → Int) (mlf : Nat → Int) (mli : Nat → Int) (msw : Nat → Int) (msa : Nat → Int) (msc : Nat → Int) (msl : Nat → Int) (x1 : Int) (x2 : Int) (J_39 : Int → Int → (Nat → Int) → (Nat → Int) → (Nat → Int) → (Nat → Int) → (Nat → Int) → Int → Prop) (mtr_3 : Int) (mfo_3 : Int) (mff_3 : Nat → Int) (mlt_3 : Nat → Int) (mgr_3 : Nat → Int) (mxx_3 : Nat → Int) (msu_3 : Nat → Int) (x3 : Int) : Prop := xw_r x3 ∧ ((15 < x3 → (∀ x2_1 : Int, x2_1 = x2 + 1 → (J_30 mtr_3 mfo_3 mff_3 mlt_3 mgr_3 mxx_3 msu_3 x2_1))) ∧ (¬ 15 < x3 → ((0 ≤ (0 : Int) ∧ (0 : Int) < 4) ∧ (∀ mxx_4 : Nat → Int, mxx_4 = xw_u mxx_3 0 x1 → ((0 ≤ (1 : Int) ∧ (1 : Int) < 4) ∧ (∀ mxx_5 : Nat → Int, mxx_5 = xw_u mxx_4 1 x2 → ((0 ≤ (2 : Int) ∧ (2 : Int) < 4) ∧ (∀ mxx_6 : Nat → Int, mxx_6 = xw_u mxx_5 2 x3 → (wp_X4_addUp (fun msu_4 => (∃ fu : Nat, wp_X4_tryAll_74 J_39 mrw mly mln msp mwh mcl mki mro mlf mli msw msa msc msl x3 fu mtr_3 mfo_3 mff_3 mlt_3 mgr_3 mxx_6 msu_4 (-15))) mrw mly mln msp mwh mcl mtr_3 mfo_3 mki mro mlf mli msw msa msc msl mff_3 mlt_3 mgr_3 mxx_6 msu_3)))))))))
def wp_X4_tryAll_39 (J_30 : Int → Int → (Nat → Int) → (Nat → Int) → (Nat → Int) → (Nat → Int) → (Nat → Int) → Int → Prop) (mrw : Int) (mly : Int) (mln : Int) (msp : Int) (mwh : Int) (mcl : Int) (mki : Nat → Int) (mro : Nat → Int) (mlf : Nat → Int) (mli : Nat → Int) (msw : Nat → Int) (msa : Nat → Int) (msc : Nat → Int) (msl : Nat → Int) (x1 : Int) (x2 : Int) : Nat → Int → Int → (Nat → Int) → (Nat → Int) → (Nat → Int) → (Nat → Int) → (Nat → Int) → Int → Prop
  | 0 => fun _ _ _ _ _ _ _ _ => False
  | n + 1 => fun mtr_3 mfo_3 mff_3 mlt_3 mgr_3 mxx_3 msu_3 x3 => wl_X4_tryAll_39 J_30 mrw mly mln msp mwh mcl mki mro mlf mli msw msa msc msl x1 x2 (wp_X4_tryAll_39 J_30 mrw mly mln msp mwh mcl mki mro mlf mli msw msa msc msl x1 x2 n) mtr_3 mfo_3 mff_3 mlt_3 mgr_3 mxx_3 msu_3 x3
def wl_X4_tryAll_30 (J_21 : Int → Int → (Nat → Int) → (Nat → Int) → (Nat → Int) → (Nat → Int) → (Nat → Int) → Int → Prop) (mrw : Int) (mly : Int) (mln : Int) (msp : Int) (mwh : Int) (mcl : Int) (mki : Nat → Int) (mro : Nat → Int) (mlf : Nat → Int) (mli : Nat → Int) (msw : Nat → Int) (msa : Nat → Int) (msc : Nat → Int) (msl : Nat → Int) (x1 : Int) (J_30 : Int → Int → (Nat → Int) → (Nat → Int) → (Nat → Int) → (Nat → Int) → (Nat → Int) → Int → Prop) (mtr_2 : Int) (mfo_2 : Int) (mff_2 : Nat → Int) (mlt_2 : Nat → Int) (mgr_2 : Nat → Int) (mxx_2 : Nat → Int) (msu_2 : Nat → Int) (x2 : Int) : Prop := xw_r x2 ∧ ((15 < x2 → (∀ x1_1 : Int, x1_1 = x1 + 1 → (J_21 mtr_2 mfo_2 mff_2 mlt_2 mgr_2 mxx_2 msu_2 x1_1))) ∧ (¬ 15 < x2 → (∃ fu : Nat, wp_X4_tryAll_39 J_30 mrw mly mln msp mwh mcl mki mro mlf mli msw msa msc msl x1 x2 fu mtr_2 mfo_2 mff_2 mlt_2 mgr_2 mxx_2 msu_2 (-15))))
def wp_X4_tryAll_30 (J_21 : Int → Int → (Nat → Int) → (Nat → Int) → (Nat → Int) → (Nat → Int) → (Nat → Int) → Int → Prop) (mrw : Int) (mly : Int) (mln : Int) (msp : Int) (mwh : Int) (mcl : Int) (mki : Nat → Int) (mro : Nat → Int) (mlf : Nat → Int) (mli : Nat → Int) (msw : Nat → Int) (msa : Nat → Int) (msc : Nat → Int) (msl : Nat → Int) (x1 : Int) : Nat → Int → Int → (Nat → Int) → (Nat → Int) → (Nat → Int) → (Nat → Int) → (Nat → Int) → Int → Prop
  | 0 => fun _ _ _ _ _ _ _ _ => False
  | n + 1 => fun mtr_2 mfo_2 mff_2 mlt_2 mgr_2 mxx_2 msu_2 x2 => wl_X4_tryAll_30 J_21 mrw mly mln msp mwh mcl mki mro mlf mli msw msa msc msl x1 (wp_X4_tryAll_30 J_21 mrw mly mln msp mwh mcl mki mro mlf mli msw msa msc msl x1 n) mtr_2 mfo_2 mff_2 mlt_2 mgr_2 mxx_2 msu_2 x2
def wl_X4_tryAll_21 (mrw : Int) (mly : Int) (mln : Int) (msp : Int) (mwh : Int) (mcl : Int) (mki : Nat → Int) (mro : Nat → Int) (mlf : Nat → Int) (mli : Nat → Int) (msw : Nat → Int) (msa : Nat → Int) (msc : Nat → Int) (msl : Nat → Int) (post : Int → Int → (Nat → Int) → (Nat → Int) → (Nat → Int) → (Nat → Int) → (Nat → Int) → Prop) (J_21 : Int → Int → (Nat → Int) → (Nat → Int) → (Nat → Int) → (Nat → Int) → (Nat → Int) → Int → Prop) (mtr_1 : Int) (mfo_1 : Int) (mff_1 : Nat → Int) (mlt_1 : Nat → Int) (mgr_1 : Nat → Int) (mxx_1 : Nat → Int) (msu_1 : Nat → Int) (x1 : Int) : Prop := xw_r x1 ∧ ((15 < x1 → (post mtr_1 mfo_1 mff_1 mlt_1 mgr_1 mxx_1 msu_1)) ∧ (¬ 15 < x1 → (∃ fu : Nat, wp_X4_tryAll_30 J_21 mrw mly mln msp mwh mcl mki mro mlf mli msw msa msc msl x1 fu mtr_1 mfo_1 mff_1 mlt_1 mgr_1 mxx_1 msu_1 (-15))))
def wp_X4_tryAll_21 (mrw : Int) (mly : Int) (mln : Int) (msp : Int) (mwh : Int) (mcl : Int) (mki : Nat → Int) (mro : Nat → Int) (mlf : Nat → Int) (mli : Nat → Int) (msw : Nat → Int) (msa : Nat → Int) (msc : Nat → Int) (msl : Nat → Int) (post : Int → Int → (Nat → Int) → (Nat → Int) → (Nat → Int) → (Nat → Int) → (Nat → Int) → Prop) : Nat → Int → Int → (Nat → Int) → (Nat → Int) → (Nat → Int) → (Nat → Int) → (Nat → Int) → Int → Prop
  | 0 => fun _ _ _ _ _ _ _ _ => False
  | n + 1 => fun mtr_1 mfo_1 mff_1 mlt_1 mgr_1 mxx_1 msu_1 x1 => wl_X4_tryAll_21 mrw mly mln msp mwh mcl mki mro mlf mli msw msa msc msl post (wp_X4_tryAll_21 mrw mly mln msp mwh mcl mki mro mlf mli msw msa msc msl post n) mtr_1 mfo_1 mff_1 mlt_1 mgr_1 mxx_1 msu_1 x1
def wp_X4_tryAll (post : Int → Int → (Nat → Int) → (Nat → Int) → (Nat → Int) → (Nat → Int) → (Nat → Int) → Prop) (mrw : Int) (mly : Int) (mln : Int) (msp : Int) (mwh : Int) (mcl : Int) (mtr : Int) (mfo : Int) (mki : Nat → Int) (mro : Nat → Int) (mlf : Nat → Int) (mli : Nat → Int) (msw : Nat → Int) (msa : Nat → Int) (msc : Nat → Int) (msl : Nat → Int) (mff : Nat → Int) (mlt : Nat → Int) (mgr : Nat → Int) (mxx : Nat → Int) (msu : Nat → Int) : Prop := xw_r mtr ∧ ((mtr = 0 → (∃ fu : Nat, wp_X4_tryAll_21 mrw mly mln msp mwh mcl mki mro mlf mli msw msa msc msl post fu 1 0 mff mlt mgr mxx msu (-15))) ∧ (¬ mtr = 0 → (post mtr mfo mff mlt mgr mxx msu)))
def wp_X4_decide (post : Int → Int → Int → (Nat → Int) → (Nat → Int) → (Nat → Int) → (Nat → Int) → (Nat → Int) → Prop) (mrw : Int) (mly : Int) (mln : Int) (msp : Int) (mwh : Int) (mcl : Int) (mtr : Int) (mfo : Int) (mki : Nat → Int) (mro : Nat → Int) (mlf : Nat → Int) (mli : Nat → Int) (msw : Nat → Int) (msa : Nat → Int) (msc : Nat → Int) (msl : Nat → Int) (mff : Nat → Int) (mlt : Nat → Int) (mgr : Nat → Int) (mxx : Nat → Int) (msu : Nat → Int) : Prop := wp_X4_tryAll (fun mtr_1 mfo_1 mff_1 mlt_1 mgr_1 mxx_1 msu_1 => (xw_r mfo_1 ∧ ((mfo_1 ≤ 0 → (post 0 mtr_1 mfo_1 mff_1 mlt_1 mgr_1 mxx_1 msu_1)) ∧ (¬ mfo_1 ≤ 0 → (post 1 mtr_1 mfo_1 mff_1 mlt_1 mgr_1 mxx_1 msu_1))))) mrw mly mln msp mwh mcl mtr mfo mki mro mlf mli msw msa msc msl mff mlt mgr mxx msu
def wp_X4_first (post : Int → Int → Int → (Nat → Int) → (Nat → Int) → (Nat → Int) → (Nat → Int) → (Nat → Int) → Prop) (mrw : Int) (mly : Int) (mln : Int) (msp : Int) (mwh : Int) (mcl : Int) (mtr : Int) (mfo : Int) (mki : Nat → Int) (mro : Nat → Int) (mlf : Nat → Int) (mli : Nat → Int) (msw : Nat → Int) (msa : Nat → Int) (msc : Nat → Int) (msl : Nat → Int) (mff : Nat → Int) (mlt : Nat → Int) (mgr : Nat → Int) (mxx : Nat → Int) (msu : Nat → Int) (p1 : Int) : Prop := wp_X4_tryAll (fun mtr_1 mfo_1 mff_1 mlt_1 mgr_1 mxx_1 msu_1 => (xw_r mfo_1 ∧ ((mfo_1 = 0 → (post (-100) mtr_1 mfo_1 mff_1 mlt_1 mgr_1 mxx_1 msu_1)) ∧ (¬ mfo_1 = 0 → (xw_r p1 ∧ ((p1 < 0 → (post (-100) mtr_1 mfo_1 mff_1 mlt_1 mgr_1 mxx_1 msu_1)) ∧ (¬ p1 < 0 → ((p1 ≤ 3 → ((0 ≤ p1 ∧ p1 < 4) ∧ (post (mff_1 p1.toNat) mtr_1 mfo_1 mff_1 mlt_1 mgr_1 mxx_1 msu_1))) ∧ (¬ p1 ≤ 3 → (post (-100) mtr_1 mfo_1 mff_1 mlt_1 mgr_1 mxx_1 msu_1)))))))))) mrw mly mln msp mwh mcl mtr mfo mki mro mlf mli msw msa msc msl mff mlt mgr mxx msu
def wp_X4_solutions (post : Int → Int → Int → (Nat → Int) → (Nat → Int) → (Nat → Int) → (Nat → Int) → (Nat → Int) → Prop) (mrw : Int) (mly : Int) (mln : Int) (msp : Int) (mwh : Int) (mcl : Int) (mtr : Int) (mfo : Int) (mki : Nat → Int) (mro : Nat → Int) (mlf : Nat → Int) (mli : Nat → Int) (msw : Nat → Int) (msa : Nat → Int) (msc : Nat → Int) (msl : Nat → Int) (mff : Nat → Int) (mlt : Nat → Int) (mgr : Nat → Int) (mxx : Nat → Int) (msu : Nat → Int) : Prop := wp_X4_tryAll (fun mtr_1 mfo_1 mff_1 mlt_1 mgr_1 mxx_1 msu_1 => (post mfo_1 mtr_1 mfo_1 mff_1 mlt_1 mgr_1 mxx_1 msu_1)) mrw mly mln msp mwh mcl mtr mfo mki mro mlf mli msw msa msc msl mff mlt mgr mxx msu
def wp_X4_range (post : Int → Int → Int → (Nat → Int) → (Nat → Int) → (Nat → Int) → (Nat → Int) → (Nat → Int) → Prop) (mrw : Int) (mly : Int) (mln : Int) (msp : Int) (mwh : Int) (mcl : Int) (mtr : Int) (mfo : Int) (mki : Nat → Int) (mro : Nat → Int) (mlf : Nat → Int) (mli : Nat → Int) (msw : Nat → Int) (msa : Nat → Int) (msc : Nat → Int) (msl : Nat → Int) (mff : Nat → Int) (mlt : Nat → Int) (mgr : Nat → Int) (mxx : Nat → Int) (msu : Nat → Int) (p1 : Int) (p2 : Int) : Prop := wp_X4_tryAll (fun mtr_1 mfo_1 mff_1 mlt_1 mgr_1 mxx_1 msu_1 => (xw_r mfo_1 ∧ ((mfo_1 = 0 → (post (-100) mtr_1 mfo_1 mff_1 mlt_1 mgr_1 mxx_1 msu_1)) ∧ (¬ mfo_1 = 0 → (xw_r p1 ∧ ((p1 < 0 → (post (-100) mtr_1 mfo_1 mff_1 mlt_1 mgr_1 mxx_1 msu_1)) ∧ (¬ p1 < 0 → ((p1 ≤ 3 → (xw_r p2 ∧ ((p2 = 0 → ((0 ≤ p1 ∧ p1 < 4) ∧ (post (mlt_1 p1.toNat) mtr_1 mfo_1 mff_1 mlt_1 mgr_1 mxx_1 msu_1))) ∧ (¬ p2 = 0 → ((0 ≤ p1 ∧ p1 < 4) ∧ (post (mgr_1 p1.toNat) mtr_1 mfo_1 mff_1 mlt_1 mgr_1 mxx_1 msu_1)))))) ∧ (¬ p1 ≤ 3 → (post (-100) mtr_1 mfo_1 mff_1 mlt_1 mgr_1 mxx_1 msu_1)))))))))) mrw mly mln msp mwh mcl mtr mfo mki mro mlf mli msw msa msc msl mff mlt mgr mxx msu
def wp_X4_isLine (post : Int → Prop) (mrw : Int) (mly : Int) (mln : Int) (msp : Int) (mwh : Int) (mcl : Int) (mtr : Int) (mfo : Int) (mki : Nat → Int) (mro : Nat → Int) (mlf : Nat → Int) (mli : Nat → Int) (msw : Nat → Int) (msa : Nat → Int) (msc : Nat → Int) (msl : Nat → Int) (mff : Nat → Int) (mlt : Nat → Int) (mgr : Nat → Int) (mxx : Nat → Int) (msu : Nat → Int) (p1 : Int) : Prop := xw_r p1 ∧ ((p1 < 0 → (post 0)) ∧ (¬ p1 < 0 → (xw_r mln ∧ ((mln ≤ p1 → (post 0)) ∧ (¬ mln ≤ p1 → (post 1))))))
def wp_X4_isFull (post : Int → Prop) (mrw : Int) (mly : Int) (mln : Int) (msp : Int) (mwh : Int) (mcl : Int) (mtr : Int) (mfo : Int) (mki : Nat → Int) (mro : Nat → Int) (mlf : Nat → Int) (mli : Nat → Int) (msw : Nat → Int) (msa : Nat → Int) (msc : Nat → Int) (msl : Nat → Int) (mff : Nat → Int) (mlt : Nat → Int) (mgr : Nat → Int) (mxx : Nat → Int) (msu : Nat → Int) : Prop := xw_r mwh ∧ ((mwh = 0 → (xw_r mln ∧ ((mln = 200 → (post 1)) ∧ (¬ mln = 200 → (post 0))))) ∧ (¬ mwh = 0 → (post 1)))
def wp_X4_put (post : Int → Int → (Nat → Int) → Prop) (mrw : Int) (mly : Int) (mln : Int) (msp : Int) (mwh : Int) (mcl : Int) (mtr : Int) (mfo : Int) (mki : Nat → Int) (mro : Nat → Int) (mlf : Nat → Int) (mli : Nat → Int) (msw : Nat → Int) (msa : Nat → Int) (msc : Nat → Int) (msl : Nat → Int) (mff : Nat → Int) (mlt : Nat → Int) (mgr : Nat → Int) (mxx : Nat → Int) (msu : Nat → Int) (p1 : Int) (p2 : Int) (p3 : Int) (p4 : Int) (p5 : Int) : Prop := ∀ x11 : Int, x11 = 5 * mln → ((0 ≤ x11 ∧ x11 < 1000) ∧ (∀ mli_1 : Nat → Int, mli_1 = xw_u mli x11 p1 → ((0 ≤ x11 + 1 ∧ x11 + 1 < 1000) ∧ (∀ mli_2 : Nat → Int, mli_2 = xw_u mli_1 (x11 + 1) p2 → ((0 ≤ x11 + 2 ∧ x11 + 2 < 1000) ∧ (∀ mli_3 : Nat → Int, mli_3 = xw_u mli_2 (x11 + 2) p3 → ((0 ≤ x11 + 3 ∧ x11 + 3 < 1000) ∧ (∀ mli_4 : Nat → Int, mli_4 = xw_u mli_3 (x11 + 3) p4 → ((0 ≤ x11 + 4 ∧ x11 + 4 < 1000) ∧ (∀ mli_5 : Nat → Int, mli_5 = xw_u mli_4 (x11 + 4) p5 → (∀ lf : Int, lf = mln + 1 → (post (lf - 1) lf mli_5))))))))))))
def wp_X4_putWord_20 (p1 : Int) (p2 : Int) (p3 : Int) (mrw : Int) (mly : Int) (msp : Int) (mwh : Int) (mcl : Int) (mtr : Int) (mfo : Int) (mki : Nat → Int) (mro : Nat → Int) (mlf : Nat → Int) (msw : Nat → Int) (msa : Nat → Int) (msc : Nat → Int) (msl : Nat → Int) (mff : Nat → Int) (mlt : Nat → Int) (mgr : Nat → Int) (mxx : Nat → Int) (msu : Nat → Int) (post : Int → Int → (Nat → Int) → Prop) (mln_2 : Int) (mli_2 : Nat → Int) (z0_1 : Int) (z1 : Int) : Prop := xw_r p1 ∧ ((p1 = 2 → ((p1 = 3 → (wp_X4_put (fun r_3 mln_6 mli_6 => (post r_3 mln_6 mli_6)) mrw mly mln_2 msp mwh mcl mtr mfo mki mro mlf mli_2 msw msa msc msl mff mlt mgr mxx msu z1 z0_1 p2 p2 p3)) ∧ (¬ p1 = 3 → (wp_X4_put (fun r_2 mln_5 mli_5 => (post r_2 mln_5 mli_5)) mrw mly mln_2 msp mwh mcl mtr mfo mki mro mlf mli_2 msw msa msc msl mff mlt mgr mxx msu z1 z0_1 p2 0 p3)))) ∧ (¬ p1 = 2 → ((p1 = 3 → (wp_X4_put (fun r_1 mln_4 mli_4 => (post r_1 mln_4 mli_4)) mrw mly mln_2 msp mwh mcl mtr mfo mki mro mlf mli_2 msw msa msc msl mff mlt mgr mxx msu z1 z0_1 0 p2 p3)) ∧ (¬ p1 = 3 → (wp_X4_put (fun r mln_3 mli_3 => (post r mln_3 mli_3)) mrw mly mln_2 msp mwh mcl mtr mfo mki mro mlf mli_2 msw msa msc msl mff mlt mgr mxx msu z1 z0_1 0 0 p3)))))
def wp_X4_putWord_10 (p1 : Int) (p2 : Int) (p3 : Int) (mrw : Int) (mly : Int) (msp : Int) (mwh : Int) (mcl : Int) (mtr : Int) (mfo : Int) (mki : Nat → Int) (mro : Nat → Int) (mlf : Nat → Int) (msw : Nat → Int) (msa : Nat → Int) (msc : Nat → Int) (msl : Nat → Int) (mff : Nat → Int) (mlt : Nat → Int) (mgr : Nat → Int) (mxx : Nat → Int) (msu : Nat → Int) (post : Int → Int → (Nat → Int) → Prop) (mln_1 : Int) (mli_1 : Nat → Int) (z0 : Int) : Prop := xw_r p1 ∧ ((p1 = 1 → (wp_X4_putWord_20 p1 p2 p3 mrw mly msp mwh mcl mtr mfo mki mro mlf msw msa msc msl mff mlt mgr mxx msu post mln_1 mli_1 p2 z0)) ∧ (¬ p1 = 1 → (wp_X4_putWord_20 p1 p2 p3 mrw mly msp mwh mcl mtr mfo mki mro mlf msw msa msc msl mff mlt mgr mxx msu post mln_1 mli_1 0 z0)))
def wp_X4_putWord (post : Int → Int → (Nat → Int) → Prop) (mrw : Int) (mly : Int) (mln : Int) (msp : Int) (mwh : Int) (mcl : Int) (mtr : Int) (mfo : Int) (mki : Nat → Int) (mro : Nat → Int) (mlf : Nat → Int) (mli : Nat → Int) (msw : Nat → Int) (msa : Nat → Int) (msc : Nat → Int) (msl : Nat → Int) (mff : Nat → Int) (mlt : Nat → Int) (mgr : Nat → Int) (mxx : Nat → Int) (msu : Nat → Int) (p1 : Int) (p2 : Int) (p3 : Int) : Prop := xw_r p1 ∧ ((p1 = 0 → (wp_X4_putWord_10 p1 p2 p3 mrw mly msp mwh mcl mtr mfo mki mro mlf msw msa msc msl mff mlt mgr mxx msu post mln mli p2)) ∧ (¬ p1 = 0 → (wp_X4_putWord_10 p1 p2 p3 mrw mly msp mwh mcl mtr mfo mki mro mlf msw msa msc msl mff mlt mgr mxx msu post mln mli 0)))
def wp_X4_assume_50 (mrw : Int) (mly : Int) (msp : Int) (mwh : Int) (mcl : Int) (mtr : Int) (mfo : Int) (mki : Nat → Int) (mro : Nat → Int) (mlf : Nat → Int) (msw : Nat → Int) (msa : Nat → Int) (msc : Nat → Int) (msl : Nat → Int) (mff : Nat → Int) (mlt : Nat → Int) (mgr : Nat → Int) (mxx : Nat → Int) (msu : Nat → Int) (post : Int → Int → (Nat → Int) → Prop) (x3 : Int) (mln_2 : Int) (mli_2 : Nat → Int) (z0 : Int) : Prop := (0 ≤ x3 ∧ x3 < 80) ∧ (xw_r (mro x3.toNat) ∧ ((0 ≤ x3 + 1 ∧ x3 + 1 < 80) ∧ (xw_r (mro (x3 + 1).toNat) ∧ ((0 ≤ x3 + 2 ∧ x3 + 2 < 80) ∧ (xw_r (mro (x3 + 2).toNat) ∧ ((0 ≤ x3 + 3 ∧ x3 + 3 < 80) ∧ (xw_r (mro (x3 + 3).toNat) ∧ ((0 ≤ x3 + 4 ∧ x3 + 4 < 80) ∧ (xw_r (mro (x3 + 4).toNat) ∧ (wp_X4_put (fun r_1 mln_3 mli_3 => (post r_1 mln_3 mli_3)) mrw mly mln_2 msp mwh mcl mtr mfo mki mro mlf mli_2 msw msa msc msl mff mlt mgr mxx msu (z0 * (mro x3.toNat)) (z0 * (mro (x3 + 1).toNat)) (z0 * (mro (x3 + 2).toNat)) (z0 * (mro (x3 + 3).toNat)) (z0 * (mro (x3 + 4).toNat))))))))))))
def wp_X4_assume_26 (p1 : Int) (p2 : Int) (mrw : Int) (mly : Int) (msp : Int) (mwh : Int) (mcl : Int) (mtr : Int) (mfo : Int) (mki : Nat → Int) (mro : Nat → Int) (mlf : Nat → Int) (msw : Nat → Int) (msa : Nat → Int) (msc : Nat → Int) (msl : Nat → Int) (mff : Nat → Int) (mlt : Nat → Int) (mgr : Nat → Int) (mxx : Nat → Int) (msu : Nat → Int) (post : Int → Int → (Nat → Int) → Prop) (mln_1 : Int) (mli_1 : Nat → Int) : Prop := wp_X4_isFull (fun r => (xw_r r ∧ ((r = 0 → (∀ x3 : Int, x3 = 5 * p1 → (xw_r p2 ∧ ((p2 = 0 → (wp_X4_assume_50 mrw mly msp mwh mcl mtr mfo mki mro mlf msw msa msc msl mff mlt mgr mxx msu post x3 mln_1 mli_1 1)) ∧ (¬ p2 = 0 → (wp_X4_assume_50 mrw mly msp mwh mcl mtr mfo mki mro mlf msw msa msc msl mff mlt mgr mxx msu post x3 mln_1 mli_1 (-1))))))) ∧ (¬ r = 0 → (post (-1) mln_1 mli_1))))) mrw mly mln_1 msp mwh mcl mtr mfo mki mro mlf mli_1 msw msa msc msl mff mlt mgr mxx msu
def wp_X4_assume (post : Int → Int → (Nat → Int) → Prop) (mrw : Int) (mly : Int) (mln : Int) (msp : Int) (mwh : Int) (mcl : Int) (mtr : Int) (mfo : Int) (mki : Nat → Int) (mro : Nat → Int) (mlf : Nat → Int) (mli : Nat → Int) (msw : Nat → Int) (msa : Nat → Int) (msc : Nat → Int) (msl : Nat → Int) (mff : Nat → Int) (mlt : Nat → Int) (mgr : Nat → Int) (mxx : Nat → Int) (msu : Nat → Int) (p1 : Int) (p2 : Int) : Prop := xw_r p1 ∧ ((p1 < 0 → (post (-1) mln mli)) ∧ (¬ p1 < 0 → (xw_r mrw ∧ ((mrw ≤ p1 → (post (-1) mln mli)) ∧ (¬ mrw ≤ p1 → (xw_r p2 ∧ ((p2 = 0 → (wp_X4_assume_26 p1 p2 mrw mly msp mwh mcl mtr mfo mki mro mlf msw msa msc msl mff mlt mgr mxx msu post mln mli)) ∧ (¬ p2 = 0 → ((0 ≤ p1 ∧ p1 < 16) ∧ (xw_r (mki p1.toNat) ∧ ((mki p1.toNat = 1 → (post (-1) mln mli)) ∧ (¬ mki p1.toNat = 1 → (wp_X4_assume_26 p1 p2 mrw mly msp mwh mcl mtr mfo mki mro mlf msw msa msc msl mff mlt mgr mxx msu post mln mli)))))))))))))
def wp_X4_bound (post : Int → Int → (Nat → Int) → Prop) (mrw : Int) (mly : Int) (mln : Int) (msp : Int) (mwh : Int) (mcl : Int) (mtr : Int) (mfo : Int) (mki : Nat → Int) (mro : Nat → Int) (mlf : Nat → Int) (mli : Nat → Int) (msw : Nat → Int) (msa : Nat → Int) (msc : Nat → Int) (msl : Nat → Int) (mff : Nat → Int) (mlt : Nat → Int) (mgr : Nat → Int) (mxx : Nat → Int) (msu : Nat → Int) (p1 : Int) (p2 : Int) : Prop := xw_r p1 ∧ ((p1 < 0 → (post (-1) mln mli)) ∧ (¬ p1 < 0 → ((3 < p1 → (post (-1) mln mli)) ∧ (¬ 3 < p1 → (wp_X4_isFull (fun r => (xw_r r ∧ ((r = 0 → (xw_r p2 ∧ ((p2 = 0 → (wp_X4_putWord (fun r_1 mln_1 mli_1 => (post r_1 mln_1 mli_1)) mrw mly mln msp mwh mcl mtr mfo mki mro mlf mli msw msa msc msl mff mlt mgr mxx msu p1 1 15)) ∧ (¬ p2 = 0 → (wp_X4_putWord (fun r_2 mln_2 mli_2 => (post r_2 mln_2 mli_2)) mrw mly mln msp mwh mcl mtr mfo mki mro mlf mli msw msa msc msl mff mlt mgr mxx msu p1 (-1) 15))))) ∧ (¬ r = 0 → (post (-1) mln mli))))) mrw mly mln msp mwh mcl mtr mfo mki mro mlf mli msw msa msc msl mff mlt mgr mxx msu)))))
def wp_X4_add_136 (J_63 : Int → (Nat → Int) → Int → Int → Prop) (x7 : Int) (mln_2 : Int) (mli_3 : Nat → Int) (z0 : Int) (z1 : Int) (z2 : Int) : Prop := wp_X4_isIn (fun r_3 => (((z2 = 0 ∨ z2 = 1) ∧ (r_3 = 0 ∨ r_3 = 1)) ∧ (∀ x6_1 : Int, x6_1 = z2 * r_3 → (∀ x7_1 : Int, x7_1 = x7 + 1 → (J_63 mln_2 mli_3 x7_1 x6_1))))) z1 z0
def wl_X4_add_63 (p1 : Int) (p2 : Int) (p3 : Int) (p4 : Int) (post : Int → Int → (Nat → Int) → Prop) (x5 : Int) (J_63 : Int → (Nat → Int) → Int → Int → Prop) (mln_1 : Int) (mli_1 : Nat → Int) (x7 : Int) (x6 : Int) : Prop := xw_r x7 ∧ ((5 ≤ x7 → (xw_r x6 ∧ ((x6 = 0 → (post (-1) mln_1 mli_1)) ∧ (¬ x6 = 0 → (∀ lf : Int, lf = mln_1 + 1 → (post (lf - 1) lf mli_1)))))) ∧ (¬ 5 ≤ x7 → ((0 ≤ (5 * p1) + x7 ∧ (5 * p1) + x7 < 1000) ∧ ((0 ≤ (5 * p3) + x7 ∧ (5 * p3) + x7 < 1000) ∧ ((0 ≤ x5 + x7 ∧ x5 + x7 < 1000) ∧ (∀ mli_2 : Nat → Int, mli_2 = xw_u mli_1 (x5 + x7) ((p2 * (mli_1 ((5 * p1) + x7).toNat)) + (p4 * (mli_1 ((5 * p3) + x7).toNat))) → ((0 ≤ x5 + x7 ∧ x5 + x7 < 1000) ∧ ((4 ≤ x7 → (wp_X4_add_136 J_63 x7 mln_1 mli_2 1000000000000 (mli_2 (x5 + x7).toNat) x6)) ∧ (¬ 4 ≤ x7 → (wp_X4_add_136 J_63 x7 mln_1 mli_2 1000000000 (mli_2 (x5 + x7).toNat) x6))))))))))
def wp_X4_add_63 (p1 : Int) (p2 : Int) (p3 : Int) (p4 : Int) (post : Int → Int → (Nat → Int) → Prop) (x5 : Int) : Nat → Int → (Nat → Int) → Int → Int → Prop
  | 0 => fun _ _ _ _ => False
  | n + 1 => fun mln_1 mli_1 x7 x6 => wl_X4_add_63 p1 p2 p3 p4 post x5 (wp_X4_add_63 p1 p2 p3 p4 post x5 n) mln_1 mli_1 x7 x6
def wp_X4_add (post : Int → Int → (Nat → Int) → Prop) (mrw : Int) (mly : Int) (mln : Int) (msp : Int) (mwh : Int) (mcl : Int) (mtr : Int) (mfo : Int) (mki : Nat → Int) (mro : Nat → Int) (mlf : Nat → Int) (mli : Nat → Int) (msw : Nat → Int) (msa : Nat → Int) (msc : Nat → Int) (msl : Nat → Int) (mff : Nat → Int) (mlt : Nat → Int) (mgr : Nat → Int) (mxx : Nat → Int) (msu : Nat → Int) (p1 : Int) (p2 : Int) (p3 : Int) (p4 : Int) : Prop := wp_X4_isLine (fun r => (xw_r r ∧ ((r = 0 → (post (-1) mln mli)) ∧ (¬ r = 0 → (wp_X4_isLine (fun r_1 => (xw_r r_1 ∧ ((r_1 = 0 → (post (-1) mln mli)) ∧ (¬ r_1 = 0 → (xw_r p2 ∧ ((p2 < 0 → (post (-1) mln mli)) ∧ (¬ p2 < 0 → ((1000 < p2 → (post (-1) mln mli)) ∧ (¬ 1000 < p2 → (xw_r p4 ∧ ((p4 < 0 → (post (-1) mln mli)) ∧ (¬ p4 < 0 → ((1000 < p4 → (post (-1) mln mli)) ∧ (¬ 1000 < p4 → (wp_X4_isFull (fun r_2 => (xw_r r_2 ∧ ((r_2 = 0 → (∀ x5 : Int, x5 = 5 * mln → (∃ fu : Nat, wp_X4_add_63 p1 p2 p3 p4 post x5 fu mln mli 0 1))) ∧ (¬ r_2 = 0 → (post (-1) mln mli))))) mrw mly mln msp mwh mcl mtr mfo mki mro mlf mli msw msa msc msl mff mlt mgr mxx msu))))))))))))))) mrw mly mln msp mwh mcl mtr mfo mki mro mlf mli msw msa msc msl mff mlt mgr mxx msu p3))))) mrw mly mln msp mwh mcl mtr mfo mki mro mlf mli msw msa msc msl mff mlt mgr mxx msu p1
def wp_X4_divide_114 (J_41 : Int → (Nat → Int) → Int → Int → Prop) (x5 : Int) (x4_1 : Int) (mln_3 : Int) (mli_3 : Nat → Int) (z0_1 : Int) (z1_1 : Int) (z2 : Int) : Prop := (0 ≤ z2 ∧ z2 < 1000) ∧ (∀ mli_4 : Nat → Int, mli_4 = xw_u mli_3 z2 (z1_1 - z0_1) → (∀ x5_1 : Int, x5_1 = x5 + 1 → (J_41 mln_3 mli_4 x5_1 x4_1)))
def wp_X4_divide_83 (J_41 : Int → (Nat → Int) → Int → Int → Prop) (p2 : Int) (x3 : Int) (x5 : Int) (x6 : Int) (mln_2 : Int) (mli_2 : Nat → Int) (z0 : Int) (z1 : Int) : Prop := ((z1 = 0 ∨ z1 = 1) ∧ (z0 = 0 ∨ z0 = 1)) ∧ (∀ x4_1 : Int, x4_1 = z1 * z0 → (xw_l x6 ∧ (xw_l p2 ∧ ((¬ p2 = 0) ∧ ((¬ p2 = 0) ∧ (xw_l (x6 - Int.tdiv x6 p2 * p2) ∧ ((0 ≤ x6 - Int.tdiv x6 p2 * p2 → (wp_X4_divide_114 J_41 x5 x4_1 mln_2 mli_2 0 (Int.tdiv x6 p2) (x3 + x5))) ∧ (¬ 0 ≤ x6 - Int.tdiv x6 p2 * p2 → (wp_X4_divide_114 J_41 x5 x4_1 mln_2 mli_2 1 (Int.tdiv x6 p2) (x3 + x5))))))))))
def wp_X4_divide_78 (J_41 : Int → (Nat → Int) → Int → Int → Prop) (p2 : Int) (x3 : Int) (x5 : Int) (x6 : Int) (mln_4 : Int) (mli_5 : Nat → Int) (z0_2 : Int) : Prop := wp_X4_divide_83 J_41 p2 x3 x5 x6 mln_4 mli_5 1 z0_2
def wl_X4_divide_41 (p1 : Int) (p2 : Int) (post : Int → Int → (Nat → Int) → Prop) (x3 : Int) (J_41 : Int → (Nat → Int) → Int → Int → Prop) (mln_1 : Int) (mli_1 : Nat → Int) (x5 : Int) (x4 : Int) : Prop := xw_r x5 ∧ ((5 ≤ x5 → (xw_r x4 ∧ ((x4 = 0 → (post (-1) mln_1 mli_1)) ∧ (¬ x4 = 0 → (∀ lf : Int, lf = mln_1 + 1 → (post (lf - 1) lf mli_1)))))) ∧ (¬ 5 ≤ x5 → ((0 ≤ (5 * p1) + x5 ∧ (5 * p1) + x5 < 1000) ∧ (∀ x6 : Int, x6 = mli_1 ((5 * p1) + x5).toNat → ((x5 = 4 → (wp_X4_divide_78 J_41 p2 x3 x5 x6 mln_1 mli_1 x4)) ∧ (¬ x5 = 4 → (xw_l x6 ∧ (xw_l p2 ∧ ((¬ p2 = 0) ∧ (xw_l (x6 - Int.tdiv x6 p2 * p2) ∧ ((x6 - Int.tdiv x6 p2 * p2 = 0 → (wp_X4_divide_78 J_41 p2 x3 x5 x6 mln_1 mli_1 x4)) ∧ (¬ x6 - Int.tdiv x6 p2 * p2 = 0 → (wp_X4_divide_83 J_41 p2 x3 x5 x6 mln_1 mli_1 0 x4)))))))))))))
def wp_X4_divide_41 (p1 : Int) (p2 : Int) (post : Int → Int → (Nat → Int) → Prop) (x3 : Int) : Nat → Int → (Nat → Int) → Int → Int → Prop
  | 0 => fun _ _ _ _ => False
  | n + 1 => fun mln_1 mli_1 x5 x4 => wl_X4_divide_41 p1 p2 post x3 (wp_X4_divide_41 p1 p2 post x3 n) mln_1 mli_1 x5 x4
def wp_X4_divide (post : Int → Int → (Nat → Int) → Prop) (mrw : Int) (mly : Int) (mln : Int) (msp : Int) (mwh : Int) (mcl : Int) (mtr : Int) (mfo : Int) (mki : Nat → Int) (mro : Nat → Int) (mlf : Nat → Int) (mli : Nat → Int) (msw : Nat → Int) (msa : Nat → Int) (msc : Nat → Int) (msl : Nat → Int) (mff : Nat → Int) (mlt : Nat → Int) (mgr : Nat → Int) (mxx : Nat → Int) (msu : Nat → Int) (p1 : Int) (p2 : Int) : Prop := wp_X4_isLine (fun r => (xw_r r ∧ ((r = 0 → (post (-1) mln mli)) ∧ (¬ r = 0 → (xw_r p2 ∧ ((p2 < 1 → (post (-1) mln mli)) ∧ (¬ p2 < 1 → ((1000000000 < p2 → (post (-1) mln mli)) ∧ (¬ 1000000000 < p2 → (wp_X4_isFull (fun r_1 => (xw_r r_1 ∧ ((r_1 = 0 → (∀ x3 : Int, x3 = 5 * mln → (∃ fu : Nat, wp_X4_divide_41 p1 p2 post x3 fu mln mli 0 1))) ∧ (¬ r_1 = 0 → (post (-1) mln mli))))) mrw mly mln msp mwh mcl mtr mfo mki mro mlf mli msw msa msc msl mff mlt mgr mxx msu)))))))))) mrw mly mln msp mwh mcl mtr mfo mki mro mlf mli msw msa msc msl mff mlt mgr mxx msu p1
def wp_X4_split (post : Int → Int → Int → (Nat → Int) → (Nat → Int) → (Nat → Int) → (Nat → Int) → (Nat → Int) → Prop) (mrw : Int) (mly : Int) (mln : Int) (msp : Int) (mwh : Int) (mcl : Int) (mtr : Int) (mfo : Int) (mki : Nat → Int) (mro : Nat → Int) (mlf : Nat → Int) (mli : Nat → Int) (msw : Nat → Int) (msa : Nat → Int) (msc : Nat → Int) (msl : Nat → Int) (mff : Nat → Int) (mlt : Nat → Int) (mgr : Nat → Int) (mxx : Nat → Int) (msu : Nat → Int) (p1 : Int) (p2 : Int) : Prop := xw_r p1 ∧ ((p1 < 0 → (post (-1) mln msp mli msw msa msc msl)) ∧ (¬ p1 < 0 → ((3 < p1 → (post (-1) mln msp mli msw msa msc msl)) ∧ (¬ 3 < p1 → (xw_r p2 ∧ ((p2 < (-16) → (post (-1) mln msp mli msw msa msc msl)) ∧ (¬ p2 < (-16) → ((15 < p2 → (post (-1) mln msp mli msw msa msc msl)) ∧ (¬ 15 < p2 → (xw_r msp ∧ ((msp = 10 → (post (-1) mln msp mli msw msa msc msl)) ∧ (¬ msp = 10 → (wp_X4_isFull (fun r => (xw_r r ∧ ((r = 0 → ((0 ≤ msp ∧ msp < 10) ∧ (∀ msw_1 : Nat → Int, msw_1 = xw_u msw msp p1 → ((0 ≤ msp ∧ msp < 10) ∧ (∀ msa_1 : Nat → Int, msa_1 = xw_u msa msp p2 → ((0 ≤ msp ∧ msp < 10) ∧ (∀ msc_1 : Nat → Int, msc_1 = xw_u msc msp 1 → ((0 ≤ msp ∧ msp < 10) ∧ (∀ msl_1 : Nat → Int, msl_1 = xw_u msl msp mln → (∀ sf : Int, sf = msp + 1 → (wp_X4_putWord (fun r_1 mln_1 mli_1 => (post r_1 mln_1 sf mli_1 msw_1 msa_1 msc_1 msl_1)) mrw mly mln sf mwh mcl mtr mfo mki mro mlf mli msw_1 msa_1 msc_1 msl_1 mff mlt mgr mxx msu p1 1 p2))))))))))) ∧ (¬ r = 0 → (post (-1) mln msp mli msw msa msc msl))))) mrw mly mln msp mwh mcl mtr mfo mki mro mlf mli msw msa msc msl mff mlt mgr mxx msu)))))))))))))
def wp_X4_close_144 (mrw : Int) (mly : Int) (mtr : Int) (mfo : Int) (mki : Nat → Int) (mro : Nat → Int) (mlf : Nat → Int) (msw : Nat → Int) (msa : Nat → Int) (msl : Nat → Int) (mff : Nat → Int) (mlt : Nat → Int) (mgr : Nat → Int) (mxx : Nat → Int) (msu : Nat → Int) (post : Int → Int → Int → Int → Int → (Nat → Int) → (Nat → Int) → Prop) (mln_2 : Int) (msp_2 : Int) (mwh_2 : Int) (mcl_2 : Int) (mli_2 : Nat → Int) (msc_2 : Nat → Int) : Prop := xw_r msp_2 ∧ ((msp_2 = 0 → (post msp_2 mln_2 msp_2 1 mcl_2 mli_2 msc_2)) ∧ (¬ msp_2 = 0 → (∀ x3 : Int, x3 = msp_2 - 1 → ((0 ≤ x3 ∧ x3 < 10) ∧ (∀ lf : Int, lf = msl x3.toNat → ((0 ≤ x3 ∧ x3 < 10) ∧ (∀ msc_3 : Nat → Int, msc_3 = xw_u msc_2 x3 2 → ((0 ≤ x3 ∧ x3 < 10) ∧ ((0 ≤ x3 ∧ x3 < 10) ∧ (xw_r (-(msa x3.toNat)) ∧ (wp_X4_putWord (fun r_1 lf_1 mli_3 => (post msp_2 lf_1 msp_2 mwh_2 mcl_2 mli_3 msc_3)) mrw mly lf msp_2 mwh_2 mcl_2 mtr mfo mki mro mlf mli_2 msw msa msc_3 msl mff mlt mgr mxx msu (msw x3.toNat) (-1) ((-(msa x3.toNat)) - 1))))))))))))
def wl_X4_close_96 (mrw : Int) (mly : Int) (mtr : Int) (mfo : Int) (mki : Nat → Int) (mro : Nat → Int) (mlf : Nat → Int) (msw : Nat → Int) (msa : Nat → Int) (msl : Nat → Int) (mff : Nat → Int) (mlt : Nat → Int) (mgr : Nat → Int) (mxx : Nat → Int) (msu : Nat → Int) (post : Int → Int → Int → Int → Int → (Nat → Int) → (Nat → Int) → Prop) (J_96 : Int → Int → Int → Int → (Nat → Int) → (Nat → Int) → Prop) (mln_1 : Int) (msp_1 : Int) (mwh_1 : Int) (mcl_1 : Int) (mli_1 : Nat → Int) (msc_1 : Nat → Int) : Prop := xw_r msp_1 ∧ ((msp_1 ≤ 0 → (wp_X4_close_144 mrw mly mtr mfo mki mro mlf msw msa msl mff mlt mgr mxx msu post mln_1 msp_1 mwh_1 mcl_1 mli_1 msc_1)) ∧ (¬ msp_1 ≤ 0 → ((0 ≤ msp_1 - 1 ∧ msp_1 - 1 < 10) ∧ (xw_r (msc_1 (msp_1 - 1).toNat) ∧ ((msc_1 (msp_1 - 1).toNat = 2 → (∀ sf : Int, sf = msp_1 - 1 → ((0 ≤ sf ∧ sf < 10) ∧ (∀ lf_2 : Int, lf_2 = msl sf.toNat → (J_96 lf_2 sf mwh_1 mcl_1 mli_1 msc_1))))) ∧ (¬ msc_1 (msp_1 - 1).toNat = 2 → (wp_X4_close_144 mrw mly mtr mfo mki mro mlf msw msa msl mff mlt mgr mxx msu post mln_1 msp_1 mwh_1 mcl_1 mli_1 msc_1)))))))
def wp_X4_close_96 (mrw : Int) (mly : Int) (mtr : Int) (mfo : Int) (mki : Nat → Int) (mro : Nat → Int) (mlf : Nat → Int) (msw : Nat → Int) (msa : Nat → Int) (msl : Nat → Int) (mff : Nat → Int) (mlt : Nat → Int) (mgr : Nat → Int) (mxx : Nat → Int) (msu : Nat → Int) (post : Int → Int → Int → Int → Int → (Nat → Int) → (Nat → Int) → Prop) : Nat → Int → Int → Int → Int → (Nat → Int) → (Nat → Int) → Prop
  | 0 => fun _ _ _ _ _ _ => False
  | n + 1 => fun mln_1 msp_1 mwh_1 mcl_1 mli_1 msc_1 => wl_X4_close_96 mrw mly mtr mfo mki mro mlf msw msa msl mff mlt mgr mxx msu post (wp_X4_close_96 mrw mly mtr mfo mki mro mlf msw msa msl mff mlt mgr mxx msu post n) mln_1 msp_1 mwh_1 mcl_1 mli_1 msc_1
def wp_X4_close (post : Int → Int → Int → Int → Int → (Nat → Int) → (Nat → Int) → Prop) (mrw : Int) (mly : Int) (mln : Int) (msp : Int) (mwh : Int) (mcl : Int) (mtr : Int) (mfo : Int) (mki : Nat → Int) (mro : Nat → Int) (mlf : Nat → Int) (mli : Nat → Int) (msw : Nat → Int) (msa : Nat → Int) (msc : Nat → Int) (msl : Nat → Int) (mff : Nat → Int) (mlt : Nat → Int) (mgr : Nat → Int) (mxx : Nat → Int) (msu : Nat → Int) (p1 : Int) : Prop := xw_r mwh ∧ ((mwh = 0 → (wp_X4_isLine (fun r => (xw_r r ∧ ((r = 0 → (post (-1) mln msp mwh mcl mli msc)) ∧ (¬ r = 0 → (∀ x2 : Int, x2 = 5 * p1 → ((0 ≤ x2 ∧ x2 < 1000) ∧ (xw_l (mli x2.toNat) ∧ ((mli x2.toNat = 0 → ((0 ≤ x2 + 1 ∧ x2 + 1 < 1000) ∧ (xw_l (mli (x2 + 1).toNat) ∧ ((mli (x2 + 1).toNat = 0 → ((0 ≤ x2 + 2 ∧ x2 + 2 < 1000) ∧ (xw_l (mli (x2 + 2).toNat) ∧ ((mli (x2 + 2).toNat = 0 → ((0 ≤ x2 + 3 ∧ x2 + 3 < 1000) ∧ (xw_l (mli (x2 + 3).toNat) ∧ ((mli (x2 + 3).toNat = 0 → ((0 ≤ x2 + 4 ∧ x2 + 4 < 1000) ∧ (xw_l (mli (x2 + 4).toNat) ∧ ((mli (x2 + 4).toNat < 0 → (∀ cf : Int, cf = mcl + 1 → (∃ fu : Nat, wp_X4_close_96 mrw mly mtr mfo mki mro mlf msw msa msl mff mlt mgr mxx msu post fu mln msp mwh cf mli msc))) ∧ (¬ mli (x2 + 4).toNat < 0 → (post (-1) mln msp mwh mcl mli msc)))))) ∧ (¬ mli (x2 + 3).toNat = 0 → (post (-1) mln msp mwh mcl mli msc)))))) ∧ (¬ mli (x2 + 2).toNat = 0 → (post (-1) mln msp mwh mcl mli msc)))))) ∧ (¬ mli (x2 + 1).toNat = 0 → (post (-1) mln msp mwh mcl mli msc)))))) ∧ (¬ mli x2.toNat = 0 → (post (-1) mln msp mwh mcl mli msc)))))))))) mrw mly mln msp mwh mcl mtr mfo mki mro mlf mli msw msa msc msl mff mlt mgr mxx msu p1)) ∧ (¬ mwh = 0 → (post (-1) mln msp mwh mcl mli msc)))
def wp_X4_isInCase (post : Int → Prop) (mrw : Int) (mly : Int) (mln : Int) (msp : Int) (mwh : Int) (mcl : Int) (mtr : Int) (mfo : Int) (mki : Nat → Int) (mro : Nat → Int) (mlf : Nat → Int) (mli : Nat → Int) (msw : Nat → Int) (msa : Nat → Int) (msc : Nat → Int) (msl : Nat → Int) (mff : Nat → Int) (mlt : Nat → Int) (mgr : Nat → Int) (mxx : Nat → Int) (msu : Nat → Int) (p1 : Int) (p2 : Int) : Prop := (0 ≤ p1 ∧ p1 < 10) ∧ ((0 ≤ msw p1.toNat ∧ msw p1.toNat < 4) ∧ ((0 ≤ p1 ∧ p1 < 10) ∧ (xw_r (mxx (msw p1.toNat).toNat) ∧ (xw_r (msa p1.toNat) ∧ ((msa p1.toNat < mxx (msw p1.toNat).toNat → (xw_r p2 ∧ ((p2 = 1 → (((0 : Int) = 1 → (post 1)) ∧ (¬ (0 : Int) = 1 → (post 0)))) ∧ (¬ p2 = 1 → (((0 : Int) = 0 → (post 1)) ∧ (¬ (0 : Int) = 0 → (post 0))))))) ∧ (¬ msa p1.toNat < mxx (msw p1.toNat).toNat → (xw_r p2 ∧ ((p2 = 1 → (((1 : Int) = 1 → (post 1)) ∧ (¬ (1 : Int) = 1 → (post 0)))) ∧ (¬ p2 = 1 → (((1 : Int) = 0 → (post 1)) ∧ (¬ (1 : Int) = 0 → (post 0))))))))))))
def wl_X4_isOpen_2 (mrw : Int) (mly : Int) (mln : Int) (msp : Int) (mwh : Int) (mcl : Int) (mtr : Int) (mfo : Int) (mki : Nat → Int) (mro : Nat → Int) (mlf : Nat → Int) (mli : Nat → Int) (msw : Nat → Int) (msa : Nat → Int) (msc : Nat → Int) (msl : Nat → Int) (mff : Nat → Int) (mlt : Nat → Int) (mgr : Nat → Int) (mxx : Nat → Int) (msu : Nat → Int) (post : Int → Prop) (J_2 : Int → Prop) (x1 : Int) : Prop := xw_r x1 ∧ (xw_r msp ∧ ((msp ≤ x1 → (post 1)) ∧ (¬ msp ≤ x1 → ((0 ≤ x1 ∧ x1 < 10) ∧ (wp_X4_isInCase (fun r => (xw_r r ∧ ((r = 0 → ((0 ≤ x1 ∧ x1 < 10) ∧ (xw_r (msc x1.toNat) ∧ ((msc x1.toNat = 1 → (post 1)) ∧ (¬ msc x1.toNat = 1 → (post 0)))))) ∧ (¬ r = 0 → (∀ x1_1 : Int, x1_1 = x1 + 1 → (J_2 x1_1)))))) mrw mly mln msp mwh mcl mtr mfo mki mro mlf mli msw msa msc msl mff mlt mgr mxx msu x1 (msc x1.toNat))))))
def wp_X4_isOpen_2 (mrw : Int) (mly : Int) (mln : Int) (msp : Int) (mwh : Int) (mcl : Int) (mtr : Int) (mfo : Int) (mki : Nat → Int) (mro : Nat → Int) (mlf : Nat → Int) (mli : Nat → Int) (msw : Nat → Int) (msa : Nat → Int) (msc : Nat → Int) (msl : Nat → Int) (mff : Nat → Int) (mlt : Nat → Int) (mgr : Nat → Int) (mxx : Nat → Int) (msu : Nat → Int) (post : Int → Prop) : Nat → Int → Prop
  | 0 => fun _ => False
  | n + 1 => fun x1 => wl_X4_isOpen_2 mrw mly mln msp mwh mcl mtr mfo mki mro mlf mli msw msa msc msl mff mlt mgr mxx msu post (wp_X4_isOpen_2 mrw mly mln msp mwh mcl mtr mfo mki mro mlf mli msw msa msc msl mff mlt mgr mxx msu post n) x1
def wp_X4_isOpen (post : Int → Prop) (mrw : Int) (mly : Int) (mln : Int) (msp : Int) (mwh : Int) (mcl : Int) (mtr : Int) (mfo : Int) (mki : Nat → Int) (mro : Nat → Int) (mlf : Nat → Int) (mli : Nat → Int) (msw : Nat → Int) (msa : Nat → Int) (msc : Nat → Int) (msl : Nat → Int) (mff : Nat → Int) (mlt : Nat → Int) (mgr : Nat → Int) (mxx : Nat → Int) (msu : Nat → Int) : Prop := ∃ fu : Nat, wp_X4_isOpen_2 mrw mly mln msp mwh mcl mtr mfo mki mro mlf mli msw msa msc msl mff mlt mgr mxx msu post fu 0
def wp_X4_finish_98 (J_65 : Int → Int → Int → (Nat → Int) → (Nat → Int) → Int → Prop) (mln_5 : Int) (msp_5 : Int) (mwh_5 : Int) (mxx_9 : Nat → Int) (msu_6 : Nat → Int) (x4_1 : Int) : Prop := ∀ x4_2 : Int, x4_2 = x4_1 + 1 → (J_65 mln_5 msp_5 mwh_5 mxx_9 msu_6 x4_2)
def wl_X4_finish_65 (J_30 : Int → Int → Int → (Nat → Int) → (Nat → Int) → Int → Prop) (mrw : Int) (mly : Int) (mcl : Int) (mtr : Int) (mfo : Int) (mki : Nat → Int) (mro : Nat → Int) (mlf : Nat → Int) (mli : Nat → Int) (msw : Nat → Int) (msa : Nat → Int) (msc : Nat → Int) (msl : Nat → Int) (mff : Nat → Int) (mlt : Nat → Int) (mgr : Nat → Int) (post : Int → Int → Int → Int → (Nat → Int) → (Nat → Int) → Prop) (x3 : Int) (J_65 : Int → Int → Int → (Nat → Int) → (Nat → Int) → Int → Prop) (mln_4 : Int) (msp_4 : Int) (mwh_4 : Int) (mxx_7 : Nat → Int) (msu_5 : Nat → Int) (x4 : Int) : Prop := xw_r x4 ∧ ((15 < x4 → (∀ x3_1 : Int, x3_1 = x3 + 1 → (J_30 mln_4 msp_4 mwh_4 mxx_7 msu_5 x3_1))) ∧ (¬ 15 < x4 → ((0 ≤ (3 : Int) ∧ (3 : Int) < 4) ∧ (∀ mxx_8 : Nat → Int, mxx_8 = xw_u mxx_7 3 x4 → (wp_X4_holds (fun r => (xw_r r ∧ ((r = 0 → (wp_X4_finish_98 J_65 mln_4 msp_4 mwh_4 mxx_8 msu_5 x4)) ∧ (¬ r = 0 → (wp_X4_isOpen (fun r_1 => (xw_r r_1 ∧ ((r_1 = 0 → (wp_X4_finish_98 J_65 mln_4 msp_4 mwh_4 mxx_8 msu_5 x4)) ∧ (¬ r_1 = 0 → (post 0 mln_4 msp_4 mwh_4 mxx_8 msu_5))))) mrw mly mln_4 msp_4 mwh_4 mcl mtr mfo mki mro mlf mli msw msa msc msl mff mlt mgr mxx_8 msu_5))))) mrw mly mln_4 msp_4 mwh_4 mcl mtr mfo mki mro mlf mli msw msa msc msl mff mlt mgr mxx_8 msu_5 x4)))))
def wp_X4_finish_65 (J_30 : Int → Int → Int → (Nat → Int) → (Nat → Int) → Int → Prop) (mrw : Int) (mly : Int) (mcl : Int) (mtr : Int) (mfo : Int) (mki : Nat → Int) (mro : Nat → Int) (mlf : Nat → Int) (mli : Nat → Int) (msw : Nat → Int) (msa : Nat → Int) (msc : Nat → Int) (msl : Nat → Int) (mff : Nat → Int) (mlt : Nat → Int) (mgr : Nat → Int) (post : Int → Int → Int → Int → (Nat → Int) → (Nat → Int) → Prop) (x3 : Int) : Nat → Int → Int → Int → (Nat → Int) → (Nat → Int) → Int → Prop
  | 0 => fun _ _ _ _ _ _ => False
  | n + 1 => fun mln_4 msp_4 mwh_4 mxx_7 msu_5 x4 => wl_X4_finish_65 J_30 mrw mly mcl mtr mfo mki mro mlf mli msw msa msc msl mff mlt mgr post x3 (wp_X4_finish_65 J_30 mrw mly mcl mtr mfo mki mro mlf mli msw msa msc msl mff mlt mgr post x3 n) mln_4 msp_4 mwh_4 mxx_7 msu_5 x4
def wl_X4_finish_30 (J_21 : Int → Int → Int → (Nat → Int) → (Nat → Int) → Int → Prop) (mrw : Int) (mly : Int) (mcl : Int) (mtr : Int) (mfo : Int) (mki : Nat → Int) (mro : Nat → Int) (mlf : Nat → Int) (mli : Nat → Int) (msw : Nat → Int) (msa : Nat → Int) (msc : Nat → Int) (msl : Nat → Int) (mff : Nat → Int) (mlt : Nat → Int) (mgr : Nat → Int) (post : Int → Int → Int → Int → (Nat → Int) → (Nat → Int) → Prop) (x1 : Int) (x2 : Int) (J_30 : Int → Int → Int → (Nat → Int) → (Nat → Int) → Int → Prop) (mln_3 : Int) (msp_3 : Int) (mwh_3 : Int) (mxx_3 : Nat → Int) (msu_3 : Nat → Int) (x3 : Int) : Prop := xw_r x3 ∧ ((15 < x3 → (∀ x2_1 : Int, x2_1 = x2 + 1 → (J_21 mln_3 msp_3 mwh_3 mxx_3 msu_3 x2_1))) ∧ (¬ 15 < x3 → ((0 ≤ (0 : Int) ∧ (0 : Int) < 4) ∧ (∀ mxx_4 : Nat → Int, mxx_4 = xw_u mxx_3 0 x1 → ((0 ≤ (1 : Int) ∧ (1 : Int) < 4) ∧ (∀ mxx_5 : Nat → Int, mxx_5 = xw_u mxx_4 1 x2 → ((0 ≤ (2 : Int) ∧ (2 : Int) < 4) ∧ (∀ mxx_6 : Nat → Int, mxx_6 = xw_u mxx_5 2 x3 → (wp_X4_addUp (fun msu_4 => (∃ fu : Nat, wp_X4_finish_65 J_30 mrw mly mcl mtr mfo mki mro mlf mli msw msa msc msl mff mlt mgr post x3 fu mln_3 msp_3 mwh_3 mxx_6 msu_4 (-15))) mrw mly mln_3 msp_3 mwh_3 mcl mtr mfo mki mro mlf mli msw msa msc msl mff mlt mgr mxx_6 msu_3)))))))))
def wp_X4_finish_30 (J_21 : Int → Int → Int → (Nat → Int) → (Nat → Int) → Int → Prop) (mrw : Int) (mly : Int) (mcl : Int) (mtr : Int) (mfo : Int) (mki : Nat → Int) (mro : Nat → Int) (mlf : Nat → Int) (mli : Nat → Int) (msw : Nat → Int) (msa : Nat → Int) (msc : Nat → Int) (msl : Nat → Int) (mff : Nat → Int) (mlt : Nat → Int) (mgr : Nat → Int) (post : Int → Int → Int → Int → (Nat → Int) → (Nat → Int) → Prop) (x1 : Int) (x2 : Int) : Nat → Int → Int → Int → (Nat → Int) → (Nat → Int) → Int → Prop
  | 0 => fun _ _ _ _ _ _ => False
  | n + 1 => fun mln_3 msp_3 mwh_3 mxx_3 msu_3 x3 => wl_X4_finish_30 J_21 mrw mly mcl mtr mfo mki mro mlf mli msw msa msc msl mff mlt mgr post x1 x2 (wp_X4_finish_30 J_21 mrw mly mcl mtr mfo mki mro mlf mli msw msa msc msl mff mlt mgr post x1 x2 n) mln_3 msp_3 mwh_3 mxx_3 msu_3 x3
def wl_X4_finish_21 (J_12 : Int → Int → Int → (Nat → Int) → (Nat → Int) → Int → Prop) (mrw : Int) (mly : Int) (mcl : Int) (mtr : Int) (mfo : Int) (mki : Nat → Int) (mro : Nat → Int) (mlf : Nat → Int) (mli : Nat → Int) (msw : Nat → Int) (msa : Nat → Int) (msc : Nat → Int) (msl : Nat → Int) (mff : Nat → Int) (mlt : Nat → Int) (mgr : Nat → Int) (post : Int → Int → Int → Int → (Nat → Int) → (Nat → Int) → Prop) (x1 : Int) (J_21 : Int → Int → Int → (Nat → Int) → (Nat → Int) → Int → Prop) (mln_2 : Int) (msp_2 : Int) (mwh_2 : Int) (mxx_2 : Nat → Int) (msu_2 : Nat → Int) (x2 : Int) : Prop := xw_r x2 ∧ ((15 < x2 → (∀ x1_1 : Int, x1_1 = x1 + 1 → (J_12 mln_2 msp_2 mwh_2 mxx_2 msu_2 x1_1))) ∧ (¬ 15 < x2 → (∃ fu : Nat, wp_X4_finish_30 J_21 mrw mly mcl mtr mfo mki mro mlf mli msw msa msc msl mff mlt mgr post x1 x2 fu mln_2 msp_2 mwh_2 mxx_2 msu_2 (-15))))
def wp_X4_finish_21 (J_12 : Int → Int → Int → (Nat → Int) → (Nat → Int) → Int → Prop) (mrw : Int) (mly : Int) (mcl : Int) (mtr : Int) (mfo : Int) (mki : Nat → Int) (mro : Nat → Int) (mlf : Nat → Int) (mli : Nat → Int) (msw : Nat → Int) (msa : Nat → Int) (msc : Nat → Int) (msl : Nat → Int) (mff : Nat → Int) (mlt : Nat → Int) (mgr : Nat → Int) (post : Int → Int → Int → Int → (Nat → Int) → (Nat → Int) → Prop) (x1 : Int) : Nat → Int → Int → Int → (Nat → Int) → (Nat → Int) → Int → Prop
  | 0 => fun _ _ _ _ _ _ => False
  | n + 1 => fun mln_2 msp_2 mwh_2 mxx_2 msu_2 x2 => wl_X4_finish_21 J_12 mrw mly mcl mtr mfo mki mro mlf mli msw msa msc msl mff mlt mgr post x1 (wp_X4_finish_21 J_12 mrw mly mcl mtr mfo mki mro mlf mli msw msa msc msl mff mlt mgr post x1 n) mln_2 msp_2 mwh_2 mxx_2 msu_2 x2
def wl_X4_finish_12 (mrw : Int) (mly : Int) (mcl : Int) (mtr : Int) (mfo : Int) (mki : Nat → Int) (mro : Nat → Int) (mlf : Nat → Int) (mli : Nat → Int) (msw : Nat → Int) (msa : Nat → Int) (msc : Nat → Int) (msl : Nat → Int) (mff : Nat → Int) (mlt : Nat → Int) (mgr : Nat → Int) (post : Int → Int → Int → Int → (Nat → Int) → (Nat → Int) → Prop) (J_12 : Int → Int → Int → (Nat → Int) → (Nat → Int) → Int → Prop) (mln_1 : Int) (msp_1 : Int) (mwh_1 : Int) (mxx_1 : Nat → Int) (msu_1 : Nat → Int) (x1 : Int) : Prop := xw_r x1 ∧ ((15 < x1 → (xw_r msp_1 ∧ ((msp_1 ≤ 0 → (post 1 mln_1 0 1 mxx_1 msu_1)) ∧ (¬ msp_1 ≤ 0 → ((0 ≤ (0 : Int) ∧ (0 : Int) < 10) ∧ (∀ lf : Int, lf = msl (0 : Int).toNat → (post 1 lf 0 1 mxx_1 msu_1))))))) ∧ (¬ 15 < x1 → (∃ fu : Nat, wp_X4_finish_21 J_12 mrw mly mcl mtr mfo mki mro mlf mli msw msa msc msl mff mlt mgr post x1 fu mln_1 msp_1 mwh_1 mxx_1 msu_1 (-15))))
def wp_X4_finish_12 (mrw : Int) (mly : Int) (mcl : Int) (mtr : Int) (mfo : Int) (mki : Nat → Int) (mro : Nat → Int) (mlf : Nat → Int) (mli : Nat → Int) (msw : Nat → Int) (msa : Nat → Int) (msc : Nat → Int) (msl : Nat → Int) (mff : Nat → Int) (mlt : Nat → Int) (mgr : Nat → Int) (post : Int → Int → Int → Int → (Nat → Int) → (Nat → Int) → Prop) : Nat → Int → Int → Int → (Nat → Int) → (Nat → Int) → Int → Prop
  | 0 => fun _ _ _ _ _ _ => False
  | n + 1 => fun mln_1 msp_1 mwh_1 mxx_1 msu_1 x1 => wl_X4_finish_12 mrw mly mcl mtr mfo mki mro mlf mli msw msa msc msl mff mlt mgr post (wp_X4_finish_12 mrw mly mcl mtr mfo mki mro mlf mli msw msa msc msl mff mlt mgr post n) mln_1 msp_1 mwh_1 mxx_1 msu_1 x1
def wp_X4_finish (post : Int → Int → Int → Int → (Nat → Int) → (Nat → Int) → Prop) (mrw : Int) (mly : Int) (mln : Int) (msp : Int) (mwh : Int) (mcl : Int) (mtr : Int) (mfo : Int) (mki : Nat → Int) (mro : Nat → Int) (mlf : Nat → Int) (mli : Nat → Int) (msw : Nat → Int) (msa : Nat → Int) (msc : Nat → Int) (msl : Nat → Int) (mff : Nat → Int) (mlt : Nat → Int) (mgr : Nat → Int) (mxx : Nat → Int) (msu : Nat → Int) : Prop := xw_r mwh ∧ ((mwh = 0 → (∃ fu : Nat, wp_X4_finish_12 mrw mly mcl mtr mfo mki mro mlf mli msw msa msc msl mff mlt mgr post fu mln msp mwh mxx msu (-15))) ∧ (¬ mwh = 0 → (post (-1) mln msp mwh mxx msu)))
def wp_X4_lines (post : Int → Prop) (mrw : Int) (mly : Int) (mln : Int) (msp : Int) (mwh : Int) (mcl : Int) (mtr : Int) (mfo : Int) (mki : Nat → Int) (mro : Nat → Int) (mlf : Nat → Int) (mli : Nat → Int) (msw : Nat → Int) (msa : Nat → Int) (msc : Nat → Int) (msl : Nat → Int) (mff : Nat → Int) (mlt : Nat → Int) (mgr : Nat → Int) (mxx : Nat → Int) (msu : Nat → Int) : Prop := post mln
def wp_X4_line (post : Int → Prop) (mrw : Int) (mly : Int) (mln : Int) (msp : Int) (mwh : Int) (mcl : Int) (mtr : Int) (mfo : Int) (mki : Nat → Int) (mro : Nat → Int) (mlf : Nat → Int) (mli : Nat → Int) (msw : Nat → Int) (msa : Nat → Int) (msc : Nat → Int) (msl : Nat → Int) (mff : Nat → Int) (mlt : Nat → Int) (mgr : Nat → Int) (mxx : Nat → Int) (msu : Nat → Int) (p1 : Int) (p2 : Int) : Prop := wp_X4_isLine (fun r => (xw_r r ∧ ((r = 0 → (post (-9223372036854775808))) ∧ (¬ r = 0 → (xw_r p2 ∧ ((p2 < 0 → (post (-9223372036854775808))) ∧ (¬ p2 < 0 → ((4 < p2 → (post (-9223372036854775808))) ∧ (¬ 4 < p2 → ((0 ≤ (5 * p1) + p2 ∧ (5 * p1) + p2 < 1000) ∧ (post (mli ((5 * p1) + p2).toNat)))))))))))) mrw mly mln msp mwh mcl mtr mfo mki mro mlf mli msw msa msc msl mff mlt mgr mxx msu p1
def wp_X4_ofSplit (post : Int → Prop) (mrw : Int) (mly : Int) (mln : Int) (msp : Int) (mwh : Int) (mcl : Int) (mtr : Int) (mfo : Int) (mki : Nat → Int) (mro : Nat → Int) (mlf : Nat → Int) (mli : Nat → Int) (msw : Nat → Int) (msa : Nat → Int) (msc : Nat → Int) (msl : Nat → Int) (mff : Nat → Int) (mlt : Nat → Int) (mgr : Nat → Int) (mxx : Nat → Int) (msu : Nat → Int) (p1 : Int) (p2 : Int) : Prop := xw_r p1 ∧ ((p1 < 0 → (post (-2147483648))) ∧ (¬ p1 < 0 → (xw_r msp ∧ ((p1 < msp → (xw_r p2 ∧ ((p2 = 0 → ((0 ≤ p1 ∧ p1 < 10) ∧ (post (msw p1.toNat)))) ∧ (¬ p2 = 0 → ((p2 = 1 → ((0 ≤ p1 ∧ p1 < 10) ∧ (post (msa p1.toNat)))) ∧ (¬ p2 = 1 → ((p2 = 2 → ((0 ≤ p1 ∧ p1 < 10) ∧ (post (msc p1.toNat)))) ∧ (¬ p2 = 2 → ((p2 = 3 → ((0 ≤ p1 ∧ p1 < 10) ∧ (post (msl p1.toNat)))) ∧ (¬ p2 = 3 → (post (-2147483648)))))))))))) ∧ (¬ p1 < msp → (post (-2147483648)))))))
def wp_X4_count (post : Int → Prop) (mrw : Int) (mly : Int) (mln : Int) (msp : Int) (mwh : Int) (mcl : Int) (mtr : Int) (mfo : Int) (mki : Nat → Int) (mro : Nat → Int) (mlf : Nat → Int) (mli : Nat → Int) (msw : Nat → Int) (msa : Nat → Int) (msc : Nat → Int) (msl : Nat → Int) (mff : Nat → Int) (mlt : Nat → Int) (mgr : Nat → Int) (mxx : Nat → Int) (msu : Nat → Int) (p1 : Int) : Prop := xw_r p1 ∧ (((p1 < 0 ∨ 4 < p1) → (post (-1))) ∧ (p1 = 0 → (post mrw)) ∧ (p1 = 1 → (post mly)) ∧ (p1 = 2 → (xw_r mwh ∧ ((mwh = 0 → (post 0)) ∧ (¬ mwh = 0 → (post 1))))) ∧ (p1 = 3 → (post msp)) ∧ (p1 = 4 → (post mcl)) ∧ True)
set_option maxHeartbeats 4000000 in
set_option maxRecDepth 100000 in
theorem c_X4_init (l : Launch) (dC : Nat → ClassId) (dI : Nat → Nat → Nat) (sz : Nat) (qM : Nat) : Met l yX4_init wsX4_init ({ frames := 1, cells := 13, slots := 1176, locals := 12 }) (va_Pc [.ref qM] (xw_Pre (dC, dI) vwCl [(qM, .inr (4, [.int (xw_i 0), .null, .null, .int (xw_i 0), .null, .int (xw_i 0), .null, .int (xw_i 0), .null, .null, .null, .null, .int (xw_i 0), .int (xw_i 0), .int (xw_i 0), .int (xw_i 0), .null, .null, .null, .null, .null]))] [] sz)) (va_Qv (fun (_ : Nat × ClassId × Nat × ClassId × Nat × ClassId × Nat × ClassId × Nat × ClassId × Nat × ClassId × Nat × ClassId × Nat × ClassId × Nat × ClassId × Nat × ClassId × Nat × ClassId × Nat × ClassId × Nat × ClassId) => True) (xw_B (dC, dI) vwCl (fun (u : Nat × ClassId × Nat × ClassId × Nat × ClassId × Nat × ClassId × Nat × ClassId × Nat × ClassId × Nat × ClassId × Nat × ClassId × Nat × ClassId × Nat × ClassId × Nat × ClassId × Nat × ClassId × Nat × ClassId) => [(u.2.1, .int), (u.2.2.2.1, .int), (u.2.2.2.2.2.1, .int), (u.2.2.2.2.2.2.2.1, .long), (u.2.2.2.2.2.2.2.2.2.1, .int), (u.2.2.2.2.2.2.2.2.2.2.2.1, .int), (u.2.2.2.2.2.2.2.2.2.2.2.2.2.1, .int), (u.2.2.2.2.2.2.2.2.2.2.2.2.2.2.2.1, .int), (u.2.2.2.2.2.2.2.2.2.2.2.2.2.2.2.2.2.1, .int), (u.2.2.2.2.2.2.2.2.2.2.2.2.2.2.2.2.2.2.2.1, .int), (u.2.2.2.2.2.2.2.2.2.2.2.2.2.2.2.2.2.2.2.2.2.1, .int), (u.2.2.2.2.2.2.2.2.2.2.2.2.2.2.2.2.2.2.2.2.2.2.2.1, .int), (u.2.2.2.2.2.2.2.2.2.2.2.2.2.2.2.2.2.2.2.2.2.2.2.2.2, .int)]) (va_A [(qM, .inr (4, [.int (xw_i 0), .null, .null, .int (xw_i 0), .null, .int (xw_i 0), .null, .int (xw_i 0), .null, .null, .null, .null, .int (xw_i 0), .int (xw_i 0), .int (xw_i 0), .int (xw_i 0), .null, .null, .null, .null, .null]))] sz) (fun (u : Nat × ClassId × Nat × ClassId × Nat × ClassId × Nat × ClassId × Nat × ClassId × Nat × ClassId × Nat × ClassId × Nat × ClassId × Nat × ClassId × Nat × ClassId × Nat × ClassId × Nat × ClassId × Nat × ClassId) => [(qM, .inr (4, [.int (xw_i 0), .ref u.1, .ref u.2.2.1, .int (xw_i 0), .ref u.2.2.2.2.1, .int (xw_i 0), .ref u.2.2.2.2.2.2.1, .int (xw_i 0), .ref u.2.2.2.2.2.2.2.2.1, .ref u.2.2.2.2.2.2.2.2.2.2.1, .ref u.2.2.2.2.2.2.2.2.2.2.2.2.1, .ref u.2.2.2.2.2.2.2.2.2.2.2.2.2.2.1, .int (xw_i 0), .int (xw_i 0), .int (xw_i 0), .int (xw_i 0), .ref u.2.2.2.2.2.2.2.2.2.2.2.2.2.2.2.2.1, .ref u.2.2.2.2.2.2.2.2.2.2.2.2.2.2.2.2.2.2.1, .ref u.2.2.2.2.2.2.2.2.2.2.2.2.2.2.2.2.2.2.2.2.1, .ref u.2.2.2.2.2.2.2.2.2.2.2.2.2.2.2.2.2.2.2.2.2.2.1, .ref u.2.2.2.2.2.2.2.2.2.2.2.2.2.2.2.2.2.2.2.2.2.2.2.2.1])), (u.1, .inl (u.2.1, 16, .inl (xw_a (fun _ => 0)))), (u.2.2.1, .inl (u.2.2.2.1, 80, .inl (xw_a (fun _ => 0)))), (u.2.2.2.2.1, .inl (u.2.2.2.2.2.1, 8, .inl (xw_a (fun _ => 0)))), (u.2.2.2.2.2.2.1, .inl (u.2.2.2.2.2.2.2.1, 1000, .inr (.inl (xw_b (fun _ => 0))))), (u.2.2.2.2.2.2.2.2.1, .inl (u.2.2.2.2.2.2.2.2.2.1, 10, .inl (xw_a (fun _ => 0)))), (u.2.2.2.2.2.2.2.2.2.2.1, .inl (u.2.2.2.2.2.2.2.2.2.2.2.1, 10, .inl (xw_a (fun _ => 0)))), (u.2.2.2.2.2.2.2.2.2.2.2.2.1, .inl (u.2.2.2.2.2.2.2.2.2.2.2.2.2.1, 10, .inl (xw_a (fun _ => 0)))), (u.2.2.2.2.2.2.2.2.2.2.2.2.2.2.1, .inl (u.2.2.2.2.2.2.2.2.2.2.2.2.2.2.2.1, 10, .inl (xw_a (fun _ => 0)))), (u.2.2.2.2.2.2.2.2.2.2.2.2.2.2.2.2.1, .inl (u.2.2.2.2.2.2.2.2.2.2.2.2.2.2.2.2.2.1, 4, .inl (xw_a (fun _ => 0)))), (u.2.2.2.2.2.2.2.2.2.2.2.2.2.2.2.2.2.2.1, .inl (u.2.2.2.2.2.2.2.2.2.2.2.2.2.2.2.2.2.2.2.1, 4, .inl (xw_a (fun _ => 0)))), (u.2.2.2.2.2.2.2.2.2.2.2.2.2.2.2.2.2.2.2.2.1, .inl (u.2.2.2.2.2.2.2.2.2.2.2.2.2.2.2.2.2.2.2.2.2.1, 4, .inl (xw_a (fun _ => 0)))), (u.2.2.2.2.2.2.2.2.2.2.2.2.2.2.2.2.2.2.2.2.2.2.1, .inl (u.2.2.2.2.2.2.2.2.2.2.2.2.2.2.2.2.2.2.2.2.2.2.2.1, 4, .inl (xw_a (fun _ => 0)))), (u.2.2.2.2.2.2.2.2.2.2.2.2.2.2.2.2.2.2.2.2.2.2.2.2.1, .inl (u.2.2.2.2.2.2.2.2.2.2.2.2.2.2.2.2.2.2.2.2.2.2.2.2.2, 16, .inl (xw_a (fun _ => 0))))])) (va_A [(qM, .inr (4, [.int (xw_i 0), .null, .null, .int (xw_i 0), .null, .int (xw_i 0), .null, .int (xw_i 0), .null, .null, .null, .null, .int (xw_i 0), .int (xw_i 0), .int (xw_i 0), .int (xw_i 0), .null, .null, .null, .null, .null]))] sz)) 13 1176 (va_A [(qM, .inr (4, [.int (xw_i 0), .null, .null, .int (xw_i 0), .null, .int (xw_i 0), .null, .int (xw_i 0), .null, .null, .null, .null, .int (xw_i 0), .int (xw_i 0), .int (xw_i 0), .int (xw_i 0), .null, .null, .null, .null, .null]))] sz) := by
  refine xw_ofV (cc := cX4_init) (maxL := 1) (by decide +kernel) rfl (Nat.le_of_ble_eq_true rfl) ?_
  intro p e s m args below meth c hx hb hml hown hts hin A hA hP hD hK Q hret ls hl hS
  have hl : lv_has ls 1 [(0, .ref qM)] := hl
  have hwsX40 : ∀ w ∈ wsX40, w ∈ wsX4_init := fun _ h => List.mem_cons_of_mem _ (List.mem_append_right _ h)
  refine lv_aload_n hx hb dX4_init_0 rfl (lv_at hl 0 rfl) ?_
  refine W.objInit hx hb hown (hts (.methodLink RX4 1 objectInit) (by decide +kernel)) (hts (.instanceMethod objectInit) (by decide +kernel)) (hts (.code objectInit ⟨#[0xb1]⟩ 1 none) (by decide +kernel)) rfl (by rw [hml]; exact hl.1) rfl dX4_init_1 (Nat.le_of_ble_eq_true rfl) (Nat.le_of_ble_eq_true rfl) ?_
  refine W.eq (g2 := F0 m 4 ls []) rfl ?_
  refine lv_aload_n hx hb dX4_init_4 rfl (lv_at hl 0 rfl) ?_
  refine lv_bipush (v := xw_i 16) hx hb dX4_init_5 (by decide) ?_
  refine xw_newi (N' := 16) hx hb (hts (.arrayClass .int) (by decide +kernel)) hK hP hD hS hA rfl (by decide) (Nat.le_of_ble_eq_true rfl) (Nat.le_of_ble_eq_true rfl) dX4_init_7 (fun qn kn H hK hP hD hS => ?_)
  have hP : va_P (dC, dI) vwCl [(qM, .inr (4, [.int (xw_i 0), .null, .null, .int (xw_i 0), .null, .int (xw_i 0), .null, .int (xw_i 0), .null, .null, .null, .null, .int (xw_i 0), .int (xw_i 0), .int (xw_i 0), .int (xw_i 0), .null, .null, .null, .null, .null])), (qn, .inl (kn, 16, .inl (xw_a (fun _ => 0))))] H := hP
  have hD : va_D A [(qM, .inr (4, [.int (xw_i 0), .null, .null, .int (xw_i 0), .null, .int (xw_i 0), .null, .int (xw_i 0), .null, .null, .null, .null, .int (xw_i 0), .int (xw_i 0), .int (xw_i 0), .int (xw_i 0), .null, .null, .null, .null, .null])), (qn, .inl (kn, 16, .inl (xw_a (fun _ => 0))))] := hD
  have hK : va_K (dC, dI) vwCl [(kn, .int)] s := hK
  refine W.widen (k := 1) (n := 16) (by decide) (by decide) ?_
  refine va_putF (D := (dC, dI)) (ci := 4) (v := .ref qn) (ty := (.array .int)) (C := RX4) (T := TX4) (N := 21) hx hb hts hwsX40 tyX4 tyX4_ok nmX4 hown hK hP hD hS 0 rfl rfl 1 (by decide) (hts (.fieldLink RX4 7 "BoxProverModel" "kind" "[I") (by decide +kernel)) (fun _ h9 => h9) rfl hin rfl (by decide +kernel) rfl rfl (Nat.le_of_ble_eq_true rfl) dX4_init_9 (fun H locs hP hD hS => ?_)
  have hP : va_P (dC, dI) vwCl [(qM, .inr (4, [.int (xw_i 0), .ref qn, .null, .int (xw_i 0), .null, .int (xw_i 0), .null, .int (xw_i 0), .null, .null, .null, .null, .int (xw_i 0), .int (xw_i 0), .int (xw_i 0), .int (xw_i 0), .null, .null, .null, .null, .null])), (qn, .inl (kn, 16, .inl (xw_a (fun _ => 0))))] H := hP
  have hD : va_D A [(qM, .inr (4, [.int (xw_i 0), .ref qn, .null, .int (xw_i 0), .null, .int (xw_i 0), .null, .int (xw_i 0), .null, .null, .null, .null, .int (xw_i 0), .int (xw_i 0), .int (xw_i 0), .int (xw_i 0), .null, .null, .null, .null, .null])), (qn, .inl (kn, 16, .inl (xw_a (fun _ => 0))))] := hD
  refine lv_aload_n hx hb dX4_init_12 rfl (lv_at hl 0 rfl) ?_
  refine lv_bipush (v := xw_i 80) hx hb dX4_init_13 (by decide) ?_
  refine xw_newi (N' := 80) hx hb (hts (.arrayClass .int) (by decide +kernel)) hK hP hD hS hA rfl (by decide) (Nat.le_of_ble_eq_true rfl) (Nat.le_of_ble_eq_true rfl) dX4_init_15 (fun qn_1 kn_1 H hK hP hD hS => ?_)
  have hP : va_P (dC, dI) vwCl [(qM, .inr (4, [.int (xw_i 0), .ref qn, .null, .int (xw_i 0), .null, .int (xw_i 0), .null, .int (xw_i 0), .null, .null, .null, .null, .int (xw_i 0), .int (xw_i 0), .int (xw_i 0), .int (xw_i 0), .null, .null, .null, .null, .null])), (qn, .inl (kn, 16, .inl (xw_a (fun _ => 0)))), (qn_1, .inl (kn_1, 80, .inl (xw_a (fun _ => 0))))] H := hP
  have hD : va_D A [(qM, .inr (4, [.int (xw_i 0), .ref qn, .null, .int (xw_i 0), .null, .int (xw_i 0), .null, .int (xw_i 0), .null, .null, .null, .null, .int (xw_i 0), .int (xw_i 0), .int (xw_i 0), .int (xw_i 0), .null, .null, .null, .null, .null])), (qn, .inl (kn, 16, .inl (xw_a (fun _ => 0)))), (qn_1, .inl (kn_1, 80, .inl (xw_a (fun _ => 0))))] := hD
  have hK : va_K (dC, dI) vwCl [(kn, .int), (kn_1, .int)] s := hK
  refine W.widen (k := 2) (n := 96) (by decide) (by decide) ?_
  refine va_putF (D := (dC, dI)) (ci := 4) (v := .ref qn_1) (ty := (.array .int)) (C := RX4) (T := TX4) (N := 21) hx hb hts hwsX40 tyX4 tyX4_ok nmX4 hown hK hP hD hS 0 rfl rfl 2 (by decide) (hts (.fieldLink RX4 13 "BoxProverModel" "row" "[I") (by decide +kernel)) (fun _ h9 => h9) rfl hin rfl (by decide +kernel) rfl rfl (Nat.le_of_ble_eq_true rfl) dX4_init_17 (fun H locs hP hD hS => ?_)
  have hP : va_P (dC, dI) vwCl [(qM, .inr (4, [.int (xw_i 0), .ref qn, .ref qn_1, .int (xw_i 0), .null, .int (xw_i 0), .null, .int (xw_i 0), .null, .null, .null, .null, .int (xw_i 0), .int (xw_i 0), .int (xw_i 0), .int (xw_i 0), .null, .null, .null, .null, .null])), (qn, .inl (kn, 16, .inl (xw_a (fun _ => 0)))), (qn_1, .inl (kn_1, 80, .inl (xw_a (fun _ => 0))))] H := hP
  have hD : va_D A [(qM, .inr (4, [.int (xw_i 0), .ref qn, .ref qn_1, .int (xw_i 0), .null, .int (xw_i 0), .null, .int (xw_i 0), .null, .null, .null, .null, .int (xw_i 0), .int (xw_i 0), .int (xw_i 0), .int (xw_i 0), .null, .null, .null, .null, .null])), (qn, .inl (kn, 16, .inl (xw_a (fun _ => 0)))), (qn_1, .inl (kn_1, 80, .inl (xw_a (fun _ => 0))))] := hD
  refine lv_aload_n hx hb dX4_init_20 rfl (lv_at hl 0 rfl) ?_
  refine lv_bipush (v := xw_i 8) hx hb dX4_init_21 (by decide) ?_
  refine xw_newi (N' := 8) hx hb (hts (.arrayClass .int) (by decide +kernel)) hK hP hD hS hA rfl (by decide) (Nat.le_of_ble_eq_true rfl) (Nat.le_of_ble_eq_true rfl) dX4_init_23 (fun qn_2 kn_2 H hK hP hD hS => ?_)
  have hP : va_P (dC, dI) vwCl [(qM, .inr (4, [.int (xw_i 0), .ref qn, .ref qn_1, .int (xw_i 0), .null, .int (xw_i 0), .null, .int (xw_i 0), .null, .null, .null, .null, .int (xw_i 0), .int (xw_i 0), .int (xw_i 0), .int (xw_i 0), .null, .null, .null, .null, .null])), (qn, .inl (kn, 16, .inl (xw_a (fun _ => 0)))), (qn_1, .inl (kn_1, 80, .inl (xw_a (fun _ => 0)))), (qn_2, .inl (kn_2, 8, .inl (xw_a (fun _ => 0))))] H := hP
  have hD : va_D A [(qM, .inr (4, [.int (xw_i 0), .ref qn, .ref qn_1, .int (xw_i 0), .null, .int (xw_i 0), .null, .int (xw_i 0), .null, .null, .null, .null, .int (xw_i 0), .int (xw_i 0), .int (xw_i 0), .int (xw_i 0), .null, .null, .null, .null, .null])), (qn, .inl (kn, 16, .inl (xw_a (fun _ => 0)))), (qn_1, .inl (kn_1, 80, .inl (xw_a (fun _ => 0)))), (qn_2, .inl (kn_2, 8, .inl (xw_a (fun _ => 0))))] := hD
  have hK : va_K (dC, dI) vwCl [(kn, .int), (kn_1, .int), (kn_2, .int)] s := hK
  refine W.widen (k := 3) (n := 104) (by decide) (by decide) ?_
  refine va_putF (D := (dC, dI)) (ci := 4) (v := .ref qn_2) (ty := (.array .int)) (C := RX4) (T := TX4) (N := 21) hx hb hts hwsX40 tyX4 tyX4_ok nmX4 hown hK hP hD hS 0 rfl rfl 4 (by decide) (hts (.fieldLink RX4 16 "BoxProverModel" "layerFrom" "[I") (by decide +kernel)) (fun _ h9 => h9) rfl hin rfl (by decide +kernel) rfl rfl (Nat.le_of_ble_eq_true rfl) dX4_init_25 (fun H locs hP hD hS => ?_)
  have hP : va_P (dC, dI) vwCl [(qM, .inr (4, [.int (xw_i 0), .ref qn, .ref qn_1, .int (xw_i 0), .ref qn_2, .int (xw_i 0), .null, .int (xw_i 0), .null, .null, .null, .null, .int (xw_i 0), .int (xw_i 0), .int (xw_i 0), .int (xw_i 0), .null, .null, .null, .null, .null])), (qn, .inl (kn, 16, .inl (xw_a (fun _ => 0)))), (qn_1, .inl (kn_1, 80, .inl (xw_a (fun _ => 0)))), (qn_2, .inl (kn_2, 8, .inl (xw_a (fun _ => 0))))] H := hP
  have hD : va_D A [(qM, .inr (4, [.int (xw_i 0), .ref qn, .ref qn_1, .int (xw_i 0), .ref qn_2, .int (xw_i 0), .null, .int (xw_i 0), .null, .null, .null, .null, .int (xw_i 0), .int (xw_i 0), .int (xw_i 0), .int (xw_i 0), .null, .null, .null, .null, .null])), (qn, .inl (kn, 16, .inl (xw_a (fun _ => 0)))), (qn_1, .inl (kn_1, 80, .inl (xw_a (fun _ => 0)))), (qn_2, .inl (kn_2, 8, .inl (xw_a (fun _ => 0))))] := hD
  refine lv_aload_n hx hb dX4_init_28 rfl (lv_at hl 0 rfl) ?_
  refine lv_sipush (v := xw_i 1000) hx hb dX4_init_29 (by decide) ?_
  refine xw_newl (N' := 1000) hx hb (hts (.arrayClass .long) (by decide +kernel)) hK hP hD hS hA rfl (by decide) (Nat.le_of_ble_eq_true rfl) (Nat.le_of_ble_eq_true rfl) dX4_init_32 (fun qn_3 kn_3 H hK hP hD hS => ?_)
  have hP : va_P (dC, dI) vwCl [(qM, .inr (4, [.int (xw_i 0), .ref qn, .ref qn_1, .int (xw_i 0), .ref qn_2, .int (xw_i 0), .null, .int (xw_i 0), .null, .null, .null, .null, .int (xw_i 0), .int (xw_i 0), .int (xw_i 0), .int (xw_i 0), .null, .null, .null, .null, .null])), (qn, .inl (kn, 16, .inl (xw_a (fun _ => 0)))), (qn_1, .inl (kn_1, 80, .inl (xw_a (fun _ => 0)))), (qn_2, .inl (kn_2, 8, .inl (xw_a (fun _ => 0)))), (qn_3, .inl (kn_3, 1000, .inr (.inl (xw_b (fun _ => 0)))))] H := hP
  have hD : va_D A [(qM, .inr (4, [.int (xw_i 0), .ref qn, .ref qn_1, .int (xw_i 0), .ref qn_2, .int (xw_i 0), .null, .int (xw_i 0), .null, .null, .null, .null, .int (xw_i 0), .int (xw_i 0), .int (xw_i 0), .int (xw_i 0), .null, .null, .null, .null, .null])), (qn, .inl (kn, 16, .inl (xw_a (fun _ => 0)))), (qn_1, .inl (kn_1, 80, .inl (xw_a (fun _ => 0)))), (qn_2, .inl (kn_2, 8, .inl (xw_a (fun _ => 0)))), (qn_3, .inl (kn_3, 1000, .inr (.inl (xw_b (fun _ => 0)))))] := hD
  have hK : va_K (dC, dI) vwCl [(kn, .int), (kn_1, .int), (kn_2, .int), (kn_3, .long)] s := hK
  refine W.widen (k := 4) (n := 1104) (by decide) (by decide) ?_
  refine va_putF (D := (dC, dI)) (ci := 4) (v := .ref qn_3) (ty := (.array .long)) (C := RX4) (T := TX4) (N := 21) hx hb hts hwsX40 tyX4 tyX4_ok nmX4 hown hK hP hD hS 0 rfl rfl 6 (by decide) (hts (.fieldLink RX4 19 "BoxProverModel" "line" "[J") (by decide +kernel)) (fun _ h9 => h9) rfl hin rfl (by decide +kernel) rfl rfl (Nat.le_of_ble_eq_true rfl) dX4_init_34 (fun H locs hP hD hS => ?_)
  have hP : va_P (dC, dI) vwCl [(qM, .inr (4, [.int (xw_i 0), .ref qn, .ref qn_1, .int (xw_i 0), .ref qn_2, .int (xw_i 0), .ref qn_3, .int (xw_i 0), .null, .null, .null, .null, .int (xw_i 0), .int (xw_i 0), .int (xw_i 0), .int (xw_i 0), .null, .null, .null, .null, .null])), (qn, .inl (kn, 16, .inl (xw_a (fun _ => 0)))), (qn_1, .inl (kn_1, 80, .inl (xw_a (fun _ => 0)))), (qn_2, .inl (kn_2, 8, .inl (xw_a (fun _ => 0)))), (qn_3, .inl (kn_3, 1000, .inr (.inl (xw_b (fun _ => 0)))))] H := hP
  have hD : va_D A [(qM, .inr (4, [.int (xw_i 0), .ref qn, .ref qn_1, .int (xw_i 0), .ref qn_2, .int (xw_i 0), .ref qn_3, .int (xw_i 0), .null, .null, .null, .null, .int (xw_i 0), .int (xw_i 0), .int (xw_i 0), .int (xw_i 0), .null, .null, .null, .null, .null])), (qn, .inl (kn, 16, .inl (xw_a (fun _ => 0)))), (qn_1, .inl (kn_1, 80, .inl (xw_a (fun _ => 0)))), (qn_2, .inl (kn_2, 8, .inl (xw_a (fun _ => 0)))), (qn_3, .inl (kn_3, 1000, .inr (.inl (xw_b (fun _ => 0)))))] := hD
  refine lv_aload_n hx hb dX4_init_37 rfl (lv_at hl 0 rfl) ?_
  refine lv_bipush (v := xw_i 10) hx hb dX4_init_38 (by decide) ?_
  refine xw_newi (N' := 10) hx hb (hts (.arrayClass .int) (by decide +kernel)) hK hP hD hS hA rfl (by decide) (Nat.le_of_ble_eq_true rfl) (Nat.le_of_ble_eq_true rfl) dX4_init_40 (fun qn_4 kn_4 H hK hP hD hS => ?_)
  have hP : va_P (dC, dI) vwCl [(qM, .inr (4, [.int (xw_i 0), .ref qn, .ref qn_1, .int (xw_i 0), .ref qn_2, .int (xw_i 0), .ref qn_3, .int (xw_i 0), .null, .null, .null, .null, .int (xw_i 0), .int (xw_i 0), .int (xw_i 0), .int (xw_i 0), .null, .null, .null, .null, .null])), (qn, .inl (kn, 16, .inl (xw_a (fun _ => 0)))), (qn_1, .inl (kn_1, 80, .inl (xw_a (fun _ => 0)))), (qn_2, .inl (kn_2, 8, .inl (xw_a (fun _ => 0)))), (qn_3, .inl (kn_3, 1000, .inr (.inl (xw_b (fun _ => 0))))), (qn_4, .inl (kn_4, 10, .inl (xw_a (fun _ => 0))))] H := hP
  have hD : va_D A [(qM, .inr (4, [.int (xw_i 0), .ref qn, .ref qn_1, .int (xw_i 0), .ref qn_2, .int (xw_i 0), .ref qn_3, .int (xw_i 0), .null, .null, .null, .null, .int (xw_i 0), .int (xw_i 0), .int (xw_i 0), .int (xw_i 0), .null, .null, .null, .null, .null])), (qn, .inl (kn, 16, .inl (xw_a (fun _ => 0)))), (qn_1, .inl (kn_1, 80, .inl (xw_a (fun _ => 0)))), (qn_2, .inl (kn_2, 8, .inl (xw_a (fun _ => 0)))), (qn_3, .inl (kn_3, 1000, .inr (.inl (xw_b (fun _ => 0))))), (qn_4, .inl (kn_4, 10, .inl (xw_a (fun _ => 0))))] := hD
  have hK : va_K (dC, dI) vwCl [(kn, .int), (kn_1, .int), (kn_2, .int), (kn_3, .long), (kn_4, .int)] s := hK
  refine W.widen (k := 5) (n := 1114) (by decide) (by decide) ?_
  refine va_putF (D := (dC, dI)) (ci := 4) (v := .ref qn_4) (ty := (.array .int)) (C := RX4) (T := TX4) (N := 21) hx hb hts hwsX40 tyX4 tyX4_ok nmX4 hown hK hP hD hS 0 rfl rfl 8 (by decide) (hts (.fieldLink RX4 23 "BoxProverModel" "splitWord" "[I") (by decide +kernel)) (fun _ h9 => h9) rfl hin rfl (by decide +kernel) rfl rfl (Nat.le_of_ble_eq_true rfl) dX4_init_42 (fun H locs hP hD hS => ?_)
  have hP : va_P (dC, dI) vwCl [(qM, .inr (4, [.int (xw_i 0), .ref qn, .ref qn_1, .int (xw_i 0), .ref qn_2, .int (xw_i 0), .ref qn_3, .int (xw_i 0), .ref qn_4, .null, .null, .null, .int (xw_i 0), .int (xw_i 0), .int (xw_i 0), .int (xw_i 0), .null, .null, .null, .null, .null])), (qn, .inl (kn, 16, .inl (xw_a (fun _ => 0)))), (qn_1, .inl (kn_1, 80, .inl (xw_a (fun _ => 0)))), (qn_2, .inl (kn_2, 8, .inl (xw_a (fun _ => 0)))), (qn_3, .inl (kn_3, 1000, .inr (.inl (xw_b (fun _ => 0))))), (qn_4, .inl (kn_4, 10, .inl (xw_a (fun _ => 0))))] H := hP
  have hD : va_D A [(qM, .inr (4, [.int (xw_i 0), .ref qn, .ref qn_1, .int (xw_i 0), .ref qn_2, .int (xw_i 0), .ref qn_3, .int (xw_i 0), .ref qn_4, .null, .null, .null, .int (xw_i 0), .int (xw_i 0), .int (xw_i 0), .int (xw_i 0), .null, .null, .null, .null, .null])), (qn, .inl (kn, 16, .inl (xw_a (fun _ => 0)))), (qn_1, .inl (kn_1, 80, .inl (xw_a (fun _ => 0)))), (qn_2, .inl (kn_2, 8, .inl (xw_a (fun _ => 0)))), (qn_3, .inl (kn_3, 1000, .inr (.inl (xw_b (fun _ => 0))))), (qn_4, .inl (kn_4, 10, .inl (xw_a (fun _ => 0))))] := hD
  refine lv_aload_n hx hb dX4_init_45 rfl (lv_at hl 0 rfl) ?_
  refine lv_bipush (v := xw_i 10) hx hb dX4_init_46 (by decide) ?_
  refine xw_newi (N' := 10) hx hb (hts (.arrayClass .int) (by decide +kernel)) hK hP hD hS hA rfl (by decide) (Nat.le_of_ble_eq_true rfl) (Nat.le_of_ble_eq_true rfl) dX4_init_48 (fun qn_5 kn_5 H hK hP hD hS => ?_)
  have hP : va_P (dC, dI) vwCl [(qM, .inr (4, [.int (xw_i 0), .ref qn, .ref qn_1, .int (xw_i 0), .ref qn_2, .int (xw_i 0), .ref qn_3, .int (xw_i 0), .ref qn_4, .null, .null, .null, .int (xw_i 0), .int (xw_i 0), .int (xw_i 0), .int (xw_i 0), .null, .null, .null, .null, .null])), (qn, .inl (kn, 16, .inl (xw_a (fun _ => 0)))), (qn_1, .inl (kn_1, 80, .inl (xw_a (fun _ => 0)))), (qn_2, .inl (kn_2, 8, .inl (xw_a (fun _ => 0)))), (qn_3, .inl (kn_3, 1000, .inr (.inl (xw_b (fun _ => 0))))), (qn_4, .inl (kn_4, 10, .inl (xw_a (fun _ => 0)))), (qn_5, .inl (kn_5, 10, .inl (xw_a (fun _ => 0))))] H := hP
  have hD : va_D A [(qM, .inr (4, [.int (xw_i 0), .ref qn, .ref qn_1, .int (xw_i 0), .ref qn_2, .int (xw_i 0), .ref qn_3, .int (xw_i 0), .ref qn_4, .null, .null, .null, .int (xw_i 0), .int (xw_i 0), .int (xw_i 0), .int (xw_i 0), .null, .null, .null, .null, .null])), (qn, .inl (kn, 16, .inl (xw_a (fun _ => 0)))), (qn_1, .inl (kn_1, 80, .inl (xw_a (fun _ => 0)))), (qn_2, .inl (kn_2, 8, .inl (xw_a (fun _ => 0)))), (qn_3, .inl (kn_3, 1000, .inr (.inl (xw_b (fun _ => 0))))), (qn_4, .inl (kn_4, 10, .inl (xw_a (fun _ => 0)))), (qn_5, .inl (kn_5, 10, .inl (xw_a (fun _ => 0))))] := hD
  have hK : va_K (dC, dI) vwCl [(kn, .int), (kn_1, .int), (kn_2, .int), (kn_3, .long), (kn_4, .int), (kn_5, .int)] s := hK
  refine W.widen (k := 6) (n := 1124) (by decide) (by decide) ?_
  refine va_putF (D := (dC, dI)) (ci := 4) (v := .ref qn_5) (ty := (.array .int)) (C := RX4) (T := TX4) (N := 21) hx hb hts hwsX40 tyX4 tyX4_ok nmX4 hown hK hP hD hS 0 rfl rfl 9 (by decide) (hts (.fieldLink RX4 26 "BoxProverModel" "splitAt" "[I") (by decide +kernel)) (fun _ h9 => h9) rfl hin rfl (by decide +kernel) rfl rfl (Nat.le_of_ble_eq_true rfl) dX4_init_50 (fun H locs hP hD hS => ?_)
  have hP : va_P (dC, dI) vwCl [(qM, .inr (4, [.int (xw_i 0), .ref qn, .ref qn_1, .int (xw_i 0), .ref qn_2, .int (xw_i 0), .ref qn_3, .int (xw_i 0), .ref qn_4, .ref qn_5, .null, .null, .int (xw_i 0), .int (xw_i 0), .int (xw_i 0), .int (xw_i 0), .null, .null, .null, .null, .null])), (qn, .inl (kn, 16, .inl (xw_a (fun _ => 0)))), (qn_1, .inl (kn_1, 80, .inl (xw_a (fun _ => 0)))), (qn_2, .inl (kn_2, 8, .inl (xw_a (fun _ => 0)))), (qn_3, .inl (kn_3, 1000, .inr (.inl (xw_b (fun _ => 0))))), (qn_4, .inl (kn_4, 10, .inl (xw_a (fun _ => 0)))), (qn_5, .inl (kn_5, 10, .inl (xw_a (fun _ => 0))))] H := hP
  have hD : va_D A [(qM, .inr (4, [.int (xw_i 0), .ref qn, .ref qn_1, .int (xw_i 0), .ref qn_2, .int (xw_i 0), .ref qn_3, .int (xw_i 0), .ref qn_4, .ref qn_5, .null, .null, .int (xw_i 0), .int (xw_i 0), .int (xw_i 0), .int (xw_i 0), .null, .null, .null, .null, .null])), (qn, .inl (kn, 16, .inl (xw_a (fun _ => 0)))), (qn_1, .inl (kn_1, 80, .inl (xw_a (fun _ => 0)))), (qn_2, .inl (kn_2, 8, .inl (xw_a (fun _ => 0)))), (qn_3, .inl (kn_3, 1000, .inr (.inl (xw_b (fun _ => 0))))), (qn_4, .inl (kn_4, 10, .inl (xw_a (fun _ => 0)))), (qn_5, .inl (kn_5, 10, .inl (xw_a (fun _ => 0))))] := hD
  refine lv_aload_n hx hb dX4_init_53 rfl (lv_at hl 0 rfl) ?_
  refine lv_bipush (v := xw_i 10) hx hb dX4_init_54 (by decide) ?_
  refine xw_newi (N' := 10) hx hb (hts (.arrayClass .int) (by decide +kernel)) hK hP hD hS hA rfl (by decide) (Nat.le_of_ble_eq_true rfl) (Nat.le_of_ble_eq_true rfl) dX4_init_56 (fun qn_6 kn_6 H hK hP hD hS => ?_)
  have hP : va_P (dC, dI) vwCl [(qM, .inr (4, [.int (xw_i 0), .ref qn, .ref qn_1, .int (xw_i 0), .ref qn_2, .int (xw_i 0), .ref qn_3, .int (xw_i 0), .ref qn_4, .ref qn_5, .null, .null, .int (xw_i 0), .int (xw_i 0), .int (xw_i 0), .int (xw_i 0), .null, .null, .null, .null, .null])), (qn, .inl (kn, 16, .inl (xw_a (fun _ => 0)))), (qn_1, .inl (kn_1, 80, .inl (xw_a (fun _ => 0)))), (qn_2, .inl (kn_2, 8, .inl (xw_a (fun _ => 0)))), (qn_3, .inl (kn_3, 1000, .inr (.inl (xw_b (fun _ => 0))))), (qn_4, .inl (kn_4, 10, .inl (xw_a (fun _ => 0)))), (qn_5, .inl (kn_5, 10, .inl (xw_a (fun _ => 0)))), (qn_6, .inl (kn_6, 10, .inl (xw_a (fun _ => 0))))] H := hP
  have hD : va_D A [(qM, .inr (4, [.int (xw_i 0), .ref qn, .ref qn_1, .int (xw_i 0), .ref qn_2, .int (xw_i 0), .ref qn_3, .int (xw_i 0), .ref qn_4, .ref qn_5, .null, .null, .int (xw_i 0), .int (xw_i 0), .int (xw_i 0), .int (xw_i 0), .null, .null, .null, .null, .null])), (qn, .inl (kn, 16, .inl (xw_a (fun _ => 0)))), (qn_1, .inl (kn_1, 80, .inl (xw_a (fun _ => 0)))), (qn_2, .inl (kn_2, 8, .inl (xw_a (fun _ => 0)))), (qn_3, .inl (kn_3, 1000, .inr (.inl (xw_b (fun _ => 0))))), (qn_4, .inl (kn_4, 10, .inl (xw_a (fun _ => 0)))), (qn_5, .inl (kn_5, 10, .inl (xw_a (fun _ => 0)))), (qn_6, .inl (kn_6, 10, .inl (xw_a (fun _ => 0))))] := hD
  have hK : va_K (dC, dI) vwCl [(kn, .int), (kn_1, .int), (kn_2, .int), (kn_3, .long), (kn_4, .int), (kn_5, .int), (kn_6, .int)] s := hK
  refine W.widen (k := 7) (n := 1134) (by decide) (by decide) ?_
  refine va_putF (D := (dC, dI)) (ci := 4) (v := .ref qn_6) (ty := (.array .int)) (C := RX4) (T := TX4) (N := 21) hx hb hts hwsX40 tyX4 tyX4_ok nmX4 hown hK hP hD hS 0 rfl rfl 10 (by decide) (hts (.fieldLink RX4 29 "BoxProverModel" "splitCase" "[I") (by decide +kernel)) (fun _ h9 => h9) rfl hin rfl (by decide +kernel) rfl rfl (Nat.le_of_ble_eq_true rfl) dX4_init_58 (fun H locs hP hD hS => ?_)
  have hP : va_P (dC, dI) vwCl [(qM, .inr (4, [.int (xw_i 0), .ref qn, .ref qn_1, .int (xw_i 0), .ref qn_2, .int (xw_i 0), .ref qn_3, .int (xw_i 0), .ref qn_4, .ref qn_5, .ref qn_6, .null, .int (xw_i 0), .int (xw_i 0), .int (xw_i 0), .int (xw_i 0), .null, .null, .null, .null, .null])), (qn, .inl (kn, 16, .inl (xw_a (fun _ => 0)))), (qn_1, .inl (kn_1, 80, .inl (xw_a (fun _ => 0)))), (qn_2, .inl (kn_2, 8, .inl (xw_a (fun _ => 0)))), (qn_3, .inl (kn_3, 1000, .inr (.inl (xw_b (fun _ => 0))))), (qn_4, .inl (kn_4, 10, .inl (xw_a (fun _ => 0)))), (qn_5, .inl (kn_5, 10, .inl (xw_a (fun _ => 0)))), (qn_6, .inl (kn_6, 10, .inl (xw_a (fun _ => 0))))] H := hP
  have hD : va_D A [(qM, .inr (4, [.int (xw_i 0), .ref qn, .ref qn_1, .int (xw_i 0), .ref qn_2, .int (xw_i 0), .ref qn_3, .int (xw_i 0), .ref qn_4, .ref qn_5, .ref qn_6, .null, .int (xw_i 0), .int (xw_i 0), .int (xw_i 0), .int (xw_i 0), .null, .null, .null, .null, .null])), (qn, .inl (kn, 16, .inl (xw_a (fun _ => 0)))), (qn_1, .inl (kn_1, 80, .inl (xw_a (fun _ => 0)))), (qn_2, .inl (kn_2, 8, .inl (xw_a (fun _ => 0)))), (qn_3, .inl (kn_3, 1000, .inr (.inl (xw_b (fun _ => 0))))), (qn_4, .inl (kn_4, 10, .inl (xw_a (fun _ => 0)))), (qn_5, .inl (kn_5, 10, .inl (xw_a (fun _ => 0)))), (qn_6, .inl (kn_6, 10, .inl (xw_a (fun _ => 0))))] := hD
  refine lv_aload_n hx hb dX4_init_61 rfl (lv_at hl 0 rfl) ?_
  refine lv_bipush (v := xw_i 10) hx hb dX4_init_62 (by decide) ?_
  refine xw_newi (N' := 10) hx hb (hts (.arrayClass .int) (by decide +kernel)) hK hP hD hS hA rfl (by decide) (Nat.le_of_ble_eq_true rfl) (Nat.le_of_ble_eq_true rfl) dX4_init_64 (fun qn_7 kn_7 H hK hP hD hS => ?_)
  have hP : va_P (dC, dI) vwCl [(qM, .inr (4, [.int (xw_i 0), .ref qn, .ref qn_1, .int (xw_i 0), .ref qn_2, .int (xw_i 0), .ref qn_3, .int (xw_i 0), .ref qn_4, .ref qn_5, .ref qn_6, .null, .int (xw_i 0), .int (xw_i 0), .int (xw_i 0), .int (xw_i 0), .null, .null, .null, .null, .null])), (qn, .inl (kn, 16, .inl (xw_a (fun _ => 0)))), (qn_1, .inl (kn_1, 80, .inl (xw_a (fun _ => 0)))), (qn_2, .inl (kn_2, 8, .inl (xw_a (fun _ => 0)))), (qn_3, .inl (kn_3, 1000, .inr (.inl (xw_b (fun _ => 0))))), (qn_4, .inl (kn_4, 10, .inl (xw_a (fun _ => 0)))), (qn_5, .inl (kn_5, 10, .inl (xw_a (fun _ => 0)))), (qn_6, .inl (kn_6, 10, .inl (xw_a (fun _ => 0)))), (qn_7, .inl (kn_7, 10, .inl (xw_a (fun _ => 0))))] H := hP
  have hD : va_D A [(qM, .inr (4, [.int (xw_i 0), .ref qn, .ref qn_1, .int (xw_i 0), .ref qn_2, .int (xw_i 0), .ref qn_3, .int (xw_i 0), .ref qn_4, .ref qn_5, .ref qn_6, .null, .int (xw_i 0), .int (xw_i 0), .int (xw_i 0), .int (xw_i 0), .null, .null, .null, .null, .null])), (qn, .inl (kn, 16, .inl (xw_a (fun _ => 0)))), (qn_1, .inl (kn_1, 80, .inl (xw_a (fun _ => 0)))), (qn_2, .inl (kn_2, 8, .inl (xw_a (fun _ => 0)))), (qn_3, .inl (kn_3, 1000, .inr (.inl (xw_b (fun _ => 0))))), (qn_4, .inl (kn_4, 10, .inl (xw_a (fun _ => 0)))), (qn_5, .inl (kn_5, 10, .inl (xw_a (fun _ => 0)))), (qn_6, .inl (kn_6, 10, .inl (xw_a (fun _ => 0)))), (qn_7, .inl (kn_7, 10, .inl (xw_a (fun _ => 0))))] := hD
  have hK : va_K (dC, dI) vwCl [(kn, .int), (kn_1, .int), (kn_2, .int), (kn_3, .long), (kn_4, .int), (kn_5, .int), (kn_6, .int), (kn_7, .int)] s := hK
  refine W.widen (k := 8) (n := 1144) (by decide) (by decide) ?_
  refine va_putF (D := (dC, dI)) (ci := 4) (v := .ref qn_7) (ty := (.array .int)) (C := RX4) (T := TX4) (N := 21) hx hb hts hwsX40 tyX4 tyX4_ok nmX4 hown hK hP hD hS 0 rfl rfl 11 (by decide) (hts (.fieldLink RX4 32 "BoxProverModel" "splitLines" "[I") (by decide +kernel)) (fun _ h9 => h9) rfl hin rfl (by decide +kernel) rfl rfl (Nat.le_of_ble_eq_true rfl) dX4_init_66 (fun H locs hP hD hS => ?_)
  have hP : va_P (dC, dI) vwCl [(qM, .inr (4, [.int (xw_i 0), .ref qn, .ref qn_1, .int (xw_i 0), .ref qn_2, .int (xw_i 0), .ref qn_3, .int (xw_i 0), .ref qn_4, .ref qn_5, .ref qn_6, .ref qn_7, .int (xw_i 0), .int (xw_i 0), .int (xw_i 0), .int (xw_i 0), .null, .null, .null, .null, .null])), (qn, .inl (kn, 16, .inl (xw_a (fun _ => 0)))), (qn_1, .inl (kn_1, 80, .inl (xw_a (fun _ => 0)))), (qn_2, .inl (kn_2, 8, .inl (xw_a (fun _ => 0)))), (qn_3, .inl (kn_3, 1000, .inr (.inl (xw_b (fun _ => 0))))), (qn_4, .inl (kn_4, 10, .inl (xw_a (fun _ => 0)))), (qn_5, .inl (kn_5, 10, .inl (xw_a (fun _ => 0)))), (qn_6, .inl (kn_6, 10, .inl (xw_a (fun _ => 0)))), (qn_7, .inl (kn_7, 10, .inl (xw_a (fun _ => 0))))] H := hP
  have hD : va_D A [(qM, .inr (4, [.int (xw_i 0), .ref qn, .ref qn_1, .int (xw_i 0), .ref qn_2, .int (xw_i 0), .ref qn_3, .int (xw_i 0), .ref qn_4, .ref qn_5, .ref qn_6, .ref qn_7, .int (xw_i 0), .int (xw_i 0), .int (xw_i 0), .int (xw_i 0), .null, .null, .null, .null, .null])), (qn, .inl (kn, 16, .inl (xw_a (fun _ => 0)))), (qn_1, .inl (kn_1, 80, .inl (xw_a (fun _ => 0)))), (qn_2, .inl (kn_2, 8, .inl (xw_a (fun _ => 0)))), (qn_3, .inl (kn_3, 1000, .inr (.inl (xw_b (fun _ => 0))))), (qn_4, .inl (kn_4, 10, .inl (xw_a (fun _ => 0)))), (qn_5, .inl (kn_5, 10, .inl (xw_a (fun _ => 0)))), (qn_6, .inl (kn_6, 10, .inl (xw_a (fun _ => 0)))), (qn_7, .inl (kn_7, 10, .inl (xw_a (fun _ => 0))))] := hD
  refine lv_aload_n hx hb dX4_init_69 rfl (lv_at hl 0 rfl) ?_
  refine lv_iconst (v := xw_i 4) hx hb dX4_init_70 (by decide) ?_
  refine xw_newi (N' := 4) hx hb (hts (.arrayClass .int) (by decide +kernel)) hK hP hD hS hA rfl (by decide) (Nat.le_of_ble_eq_true rfl) (Nat.le_of_ble_eq_true rfl) dX4_init_71 (fun qn_8 kn_8 H hK hP hD hS => ?_)
  have hP : va_P (dC, dI) vwCl [(qM, .inr (4, [.int (xw_i 0), .ref qn, .ref qn_1, .int (xw_i 0), .ref qn_2, .int (xw_i 0), .ref qn_3, .int (xw_i 0), .ref qn_4, .ref qn_5, .ref qn_6, .ref qn_7, .int (xw_i 0), .int (xw_i 0), .int (xw_i 0), .int (xw_i 0), .null, .null, .null, .null, .null])), (qn, .inl (kn, 16, .inl (xw_a (fun _ => 0)))), (qn_1, .inl (kn_1, 80, .inl (xw_a (fun _ => 0)))), (qn_2, .inl (kn_2, 8, .inl (xw_a (fun _ => 0)))), (qn_3, .inl (kn_3, 1000, .inr (.inl (xw_b (fun _ => 0))))), (qn_4, .inl (kn_4, 10, .inl (xw_a (fun _ => 0)))), (qn_5, .inl (kn_5, 10, .inl (xw_a (fun _ => 0)))), (qn_6, .inl (kn_6, 10, .inl (xw_a (fun _ => 0)))), (qn_7, .inl (kn_7, 10, .inl (xw_a (fun _ => 0)))), (qn_8, .inl (kn_8, 4, .inl (xw_a (fun _ => 0))))] H := hP
  have hD : va_D A [(qM, .inr (4, [.int (xw_i 0), .ref qn, .ref qn_1, .int (xw_i 0), .ref qn_2, .int (xw_i 0), .ref qn_3, .int (xw_i 0), .ref qn_4, .ref qn_5, .ref qn_6, .ref qn_7, .int (xw_i 0), .int (xw_i 0), .int (xw_i 0), .int (xw_i 0), .null, .null, .null, .null, .null])), (qn, .inl (kn, 16, .inl (xw_a (fun _ => 0)))), (qn_1, .inl (kn_1, 80, .inl (xw_a (fun _ => 0)))), (qn_2, .inl (kn_2, 8, .inl (xw_a (fun _ => 0)))), (qn_3, .inl (kn_3, 1000, .inr (.inl (xw_b (fun _ => 0))))), (qn_4, .inl (kn_4, 10, .inl (xw_a (fun _ => 0)))), (qn_5, .inl (kn_5, 10, .inl (xw_a (fun _ => 0)))), (qn_6, .inl (kn_6, 10, .inl (xw_a (fun _ => 0)))), (qn_7, .inl (kn_7, 10, .inl (xw_a (fun _ => 0)))), (qn_8, .inl (kn_8, 4, .inl (xw_a (fun _ => 0))))] := hD
  have hK : va_K (dC, dI) vwCl [(kn, .int), (kn_1, .int), (kn_2, .int), (kn_3, .long), (kn_4, .int), (kn_5, .int), (kn_6, .int), (kn_7, .int), (kn_8, .int)] s := hK
  refine W.widen (k := 9) (n := 1148) (by decide) (by decide) ?_
  refine va_putF (D := (dC, dI)) (ci := 4) (v := .ref qn_8) (ty := (.array .int)) (C := RX4) (T := TX4) (N := 21) hx hb hts hwsX40 tyX4 tyX4_ok nmX4 hown hK hP hD hS 0 rfl rfl 16 (by decide) (hts (.fieldLink RX4 35 "BoxProverModel" "first" "[I") (by decide +kernel)) (fun _ h9 => h9) rfl hin rfl (by decide +kernel) rfl rfl (Nat.le_of_ble_eq_true rfl) dX4_init_73 (fun H locs hP hD hS => ?_)
  have hP : va_P (dC, dI) vwCl [(qM, .inr (4, [.int (xw_i 0), .ref qn, .ref qn_1, .int (xw_i 0), .ref qn_2, .int (xw_i 0), .ref qn_3, .int (xw_i 0), .ref qn_4, .ref qn_5, .ref qn_6, .ref qn_7, .int (xw_i 0), .int (xw_i 0), .int (xw_i 0), .int (xw_i 0), .ref qn_8, .null, .null, .null, .null])), (qn, .inl (kn, 16, .inl (xw_a (fun _ => 0)))), (qn_1, .inl (kn_1, 80, .inl (xw_a (fun _ => 0)))), (qn_2, .inl (kn_2, 8, .inl (xw_a (fun _ => 0)))), (qn_3, .inl (kn_3, 1000, .inr (.inl (xw_b (fun _ => 0))))), (qn_4, .inl (kn_4, 10, .inl (xw_a (fun _ => 0)))), (qn_5, .inl (kn_5, 10, .inl (xw_a (fun _ => 0)))), (qn_6, .inl (kn_6, 10, .inl (xw_a (fun _ => 0)))), (qn_7, .inl (kn_7, 10, .inl (xw_a (fun _ => 0)))), (qn_8, .inl (kn_8, 4, .inl (xw_a (fun _ => 0))))] H := hP
  have hD : va_D A [(qM, .inr (4, [.int (xw_i 0), .ref qn, .ref qn_1, .int (xw_i 0), .ref qn_2, .int (xw_i 0), .ref qn_3, .int (xw_i 0), .ref qn_4, .ref qn_5, .ref qn_6, .ref qn_7, .int (xw_i 0), .int (xw_i 0), .int (xw_i 0), .int (xw_i 0), .ref qn_8, .null, .null, .null, .null])), (qn, .inl (kn, 16, .inl (xw_a (fun _ => 0)))), (qn_1, .inl (kn_1, 80, .inl (xw_a (fun _ => 0)))), (qn_2, .inl (kn_2, 8, .inl (xw_a (fun _ => 0)))), (qn_3, .inl (kn_3, 1000, .inr (.inl (xw_b (fun _ => 0))))), (qn_4, .inl (kn_4, 10, .inl (xw_a (fun _ => 0)))), (qn_5, .inl (kn_5, 10, .inl (xw_a (fun _ => 0)))), (qn_6, .inl (kn_6, 10, .inl (xw_a (fun _ => 0)))), (qn_7, .inl (kn_7, 10, .inl (xw_a (fun _ => 0)))), (qn_8, .inl (kn_8, 4, .inl (xw_a (fun _ => 0))))] := hD
  refine lv_aload_n hx hb dX4_init_76 rfl (lv_at hl 0 rfl) ?_
  refine lv_iconst (v := xw_i 4) hx hb dX4_init_77 (by decide) ?_
  refine xw_newi (N' := 4) hx hb (hts (.arrayClass .int) (by decide +kernel)) hK hP hD hS hA rfl (by decide) (Nat.le_of_ble_eq_true rfl) (Nat.le_of_ble_eq_true rfl) dX4_init_78 (fun qn_9 kn_9 H hK hP hD hS => ?_)
  have hP : va_P (dC, dI) vwCl [(qM, .inr (4, [.int (xw_i 0), .ref qn, .ref qn_1, .int (xw_i 0), .ref qn_2, .int (xw_i 0), .ref qn_3, .int (xw_i 0), .ref qn_4, .ref qn_5, .ref qn_6, .ref qn_7, .int (xw_i 0), .int (xw_i 0), .int (xw_i 0), .int (xw_i 0), .ref qn_8, .null, .null, .null, .null])), (qn, .inl (kn, 16, .inl (xw_a (fun _ => 0)))), (qn_1, .inl (kn_1, 80, .inl (xw_a (fun _ => 0)))), (qn_2, .inl (kn_2, 8, .inl (xw_a (fun _ => 0)))), (qn_3, .inl (kn_3, 1000, .inr (.inl (xw_b (fun _ => 0))))), (qn_4, .inl (kn_4, 10, .inl (xw_a (fun _ => 0)))), (qn_5, .inl (kn_5, 10, .inl (xw_a (fun _ => 0)))), (qn_6, .inl (kn_6, 10, .inl (xw_a (fun _ => 0)))), (qn_7, .inl (kn_7, 10, .inl (xw_a (fun _ => 0)))), (qn_8, .inl (kn_8, 4, .inl (xw_a (fun _ => 0)))), (qn_9, .inl (kn_9, 4, .inl (xw_a (fun _ => 0))))] H := hP
  have hD : va_D A [(qM, .inr (4, [.int (xw_i 0), .ref qn, .ref qn_1, .int (xw_i 0), .ref qn_2, .int (xw_i 0), .ref qn_3, .int (xw_i 0), .ref qn_4, .ref qn_5, .ref qn_6, .ref qn_7, .int (xw_i 0), .int (xw_i 0), .int (xw_i 0), .int (xw_i 0), .ref qn_8, .null, .null, .null, .null])), (qn, .inl (kn, 16, .inl (xw_a (fun _ => 0)))), (qn_1, .inl (kn_1, 80, .inl (xw_a (fun _ => 0)))), (qn_2, .inl (kn_2, 8, .inl (xw_a (fun _ => 0)))), (qn_3, .inl (kn_3, 1000, .inr (.inl (xw_b (fun _ => 0))))), (qn_4, .inl (kn_4, 10, .inl (xw_a (fun _ => 0)))), (qn_5, .inl (kn_5, 10, .inl (xw_a (fun _ => 0)))), (qn_6, .inl (kn_6, 10, .inl (xw_a (fun _ => 0)))), (qn_7, .inl (kn_7, 10, .inl (xw_a (fun _ => 0)))), (qn_8, .inl (kn_8, 4, .inl (xw_a (fun _ => 0)))), (qn_9, .inl (kn_9, 4, .inl (xw_a (fun _ => 0))))] := hD
  have hK : va_K (dC, dI) vwCl [(kn, .int), (kn_1, .int), (kn_2, .int), (kn_3, .long), (kn_4, .int), (kn_5, .int), (kn_6, .int), (kn_7, .int), (kn_8, .int), (kn_9, .int)] s := hK
  refine W.widen (k := 10) (n := 1152) (by decide) (by decide) ?_
  refine va_putF (D := (dC, dI)) (ci := 4) (v := .ref qn_9) (ty := (.array .int)) (C := RX4) (T := TX4) (N := 21) hx hb hts hwsX40 tyX4 tyX4_ok nmX4 hown hK hP hD hS 0 rfl rfl 17 (by decide) (hts (.fieldLink RX4 38 "BoxProverModel" "least" "[I") (by decide +kernel)) (fun _ h9 => h9) rfl hin rfl (by decide +kernel) rfl rfl (Nat.le_of_ble_eq_true rfl) dX4_init_80 (fun H locs hP hD hS => ?_)
  have hP : va_P (dC, dI) vwCl [(qM, .inr (4, [.int (xw_i 0), .ref qn, .ref qn_1, .int (xw_i 0), .ref qn_2, .int (xw_i 0), .ref qn_3, .int (xw_i 0), .ref qn_4, .ref qn_5, .ref qn_6, .ref qn_7, .int (xw_i 0), .int (xw_i 0), .int (xw_i 0), .int (xw_i 0), .ref qn_8, .ref qn_9, .null, .null, .null])), (qn, .inl (kn, 16, .inl (xw_a (fun _ => 0)))), (qn_1, .inl (kn_1, 80, .inl (xw_a (fun _ => 0)))), (qn_2, .inl (kn_2, 8, .inl (xw_a (fun _ => 0)))), (qn_3, .inl (kn_3, 1000, .inr (.inl (xw_b (fun _ => 0))))), (qn_4, .inl (kn_4, 10, .inl (xw_a (fun _ => 0)))), (qn_5, .inl (kn_5, 10, .inl (xw_a (fun _ => 0)))), (qn_6, .inl (kn_6, 10, .inl (xw_a (fun _ => 0)))), (qn_7, .inl (kn_7, 10, .inl (xw_a (fun _ => 0)))), (qn_8, .inl (kn_8, 4, .inl (xw_a (fun _ => 0)))), (qn_9, .inl (kn_9, 4, .inl (xw_a (fun _ => 0))))] H := hP
  have hD : va_D A [(qM, .inr (4, [.int (xw_i 0), .ref qn, .ref qn_1, .int (xw_i 0), .ref qn_2, .int (xw_i 0), .ref qn_3, .int (xw_i 0), .ref qn_4, .ref qn_5, .ref qn_6, .ref qn_7, .int (xw_i 0), .int (xw_i 0), .int (xw_i 0), .int (xw_i 0), .ref qn_8, .ref qn_9, .null, .null, .null])), (qn, .inl (kn, 16, .inl (xw_a (fun _ => 0)))), (qn_1, .inl (kn_1, 80, .inl (xw_a (fun _ => 0)))), (qn_2, .inl (kn_2, 8, .inl (xw_a (fun _ => 0)))), (qn_3, .inl (kn_3, 1000, .inr (.inl (xw_b (fun _ => 0))))), (qn_4, .inl (kn_4, 10, .inl (xw_a (fun _ => 0)))), (qn_5, .inl (kn_5, 10, .inl (xw_a (fun _ => 0)))), (qn_6, .inl (kn_6, 10, .inl (xw_a (fun _ => 0)))), (qn_7, .inl (kn_7, 10, .inl (xw_a (fun _ => 0)))), (qn_8, .inl (kn_8, 4, .inl (xw_a (fun _ => 0)))), (qn_9, .inl (kn_9, 4, .inl (xw_a (fun _ => 0))))] := hD
  refine lv_aload_n hx hb dX4_init_83 rfl (lv_at hl 0 rfl) ?_
  refine lv_iconst (v := xw_i 4) hx hb dX4_init_84 (by decide) ?_
  refine xw_newi (N' := 4) hx hb (hts (.arrayClass .int) (by decide +kernel)) hK hP hD hS hA rfl (by decide) (Nat.le_of_ble_eq_true rfl) (Nat.le_of_ble_eq_true rfl) dX4_init_85 (fun qn_10 kn_10 H hK hP hD hS => ?_)
  have hP : va_P (dC, dI) vwCl [(qM, .inr (4, [.int (xw_i 0), .ref qn, .ref qn_1, .int (xw_i 0), .ref qn_2, .int (xw_i 0), .ref qn_3, .int (xw_i 0), .ref qn_4, .ref qn_5, .ref qn_6, .ref qn_7, .int (xw_i 0), .int (xw_i 0), .int (xw_i 0), .int (xw_i 0), .ref qn_8, .ref qn_9, .null, .null, .null])), (qn, .inl (kn, 16, .inl (xw_a (fun _ => 0)))), (qn_1, .inl (kn_1, 80, .inl (xw_a (fun _ => 0)))), (qn_2, .inl (kn_2, 8, .inl (xw_a (fun _ => 0)))), (qn_3, .inl (kn_3, 1000, .inr (.inl (xw_b (fun _ => 0))))), (qn_4, .inl (kn_4, 10, .inl (xw_a (fun _ => 0)))), (qn_5, .inl (kn_5, 10, .inl (xw_a (fun _ => 0)))), (qn_6, .inl (kn_6, 10, .inl (xw_a (fun _ => 0)))), (qn_7, .inl (kn_7, 10, .inl (xw_a (fun _ => 0)))), (qn_8, .inl (kn_8, 4, .inl (xw_a (fun _ => 0)))), (qn_9, .inl (kn_9, 4, .inl (xw_a (fun _ => 0)))), (qn_10, .inl (kn_10, 4, .inl (xw_a (fun _ => 0))))] H := hP
  have hD : va_D A [(qM, .inr (4, [.int (xw_i 0), .ref qn, .ref qn_1, .int (xw_i 0), .ref qn_2, .int (xw_i 0), .ref qn_3, .int (xw_i 0), .ref qn_4, .ref qn_5, .ref qn_6, .ref qn_7, .int (xw_i 0), .int (xw_i 0), .int (xw_i 0), .int (xw_i 0), .ref qn_8, .ref qn_9, .null, .null, .null])), (qn, .inl (kn, 16, .inl (xw_a (fun _ => 0)))), (qn_1, .inl (kn_1, 80, .inl (xw_a (fun _ => 0)))), (qn_2, .inl (kn_2, 8, .inl (xw_a (fun _ => 0)))), (qn_3, .inl (kn_3, 1000, .inr (.inl (xw_b (fun _ => 0))))), (qn_4, .inl (kn_4, 10, .inl (xw_a (fun _ => 0)))), (qn_5, .inl (kn_5, 10, .inl (xw_a (fun _ => 0)))), (qn_6, .inl (kn_6, 10, .inl (xw_a (fun _ => 0)))), (qn_7, .inl (kn_7, 10, .inl (xw_a (fun _ => 0)))), (qn_8, .inl (kn_8, 4, .inl (xw_a (fun _ => 0)))), (qn_9, .inl (kn_9, 4, .inl (xw_a (fun _ => 0)))), (qn_10, .inl (kn_10, 4, .inl (xw_a (fun _ => 0))))] := hD
  have hK : va_K (dC, dI) vwCl [(kn, .int), (kn_1, .int), (kn_2, .int), (kn_3, .long), (kn_4, .int), (kn_5, .int), (kn_6, .int), (kn_7, .int), (kn_8, .int), (kn_9, .int), (kn_10, .int)] s := hK
  refine W.widen (k := 11) (n := 1156) (by decide) (by decide) ?_
  refine va_putF (D := (dC, dI)) (ci := 4) (v := .ref qn_10) (ty := (.array .int)) (C := RX4) (T := TX4) (N := 21) hx hb hts hwsX40 tyX4 tyX4_ok nmX4 hown hK hP hD hS 0 rfl rfl 18 (by decide) (hts (.fieldLink RX4 41 "BoxProverModel" "greatest" "[I") (by decide +kernel)) (fun _ h9 => h9) rfl hin rfl (by decide +kernel) rfl rfl (Nat.le_of_ble_eq_true rfl) dX4_init_87 (fun H locs hP hD hS => ?_)
  have hP : va_P (dC, dI) vwCl [(qM, .inr (4, [.int (xw_i 0), .ref qn, .ref qn_1, .int (xw_i 0), .ref qn_2, .int (xw_i 0), .ref qn_3, .int (xw_i 0), .ref qn_4, .ref qn_5, .ref qn_6, .ref qn_7, .int (xw_i 0), .int (xw_i 0), .int (xw_i 0), .int (xw_i 0), .ref qn_8, .ref qn_9, .ref qn_10, .null, .null])), (qn, .inl (kn, 16, .inl (xw_a (fun _ => 0)))), (qn_1, .inl (kn_1, 80, .inl (xw_a (fun _ => 0)))), (qn_2, .inl (kn_2, 8, .inl (xw_a (fun _ => 0)))), (qn_3, .inl (kn_3, 1000, .inr (.inl (xw_b (fun _ => 0))))), (qn_4, .inl (kn_4, 10, .inl (xw_a (fun _ => 0)))), (qn_5, .inl (kn_5, 10, .inl (xw_a (fun _ => 0)))), (qn_6, .inl (kn_6, 10, .inl (xw_a (fun _ => 0)))), (qn_7, .inl (kn_7, 10, .inl (xw_a (fun _ => 0)))), (qn_8, .inl (kn_8, 4, .inl (xw_a (fun _ => 0)))), (qn_9, .inl (kn_9, 4, .inl (xw_a (fun _ => 0)))), (qn_10, .inl (kn_10, 4, .inl (xw_a (fun _ => 0))))] H := hP
  have hD : va_D A [(qM, .inr (4, [.int (xw_i 0), .ref qn, .ref qn_1, .int (xw_i 0), .ref qn_2, .int (xw_i 0), .ref qn_3, .int (xw_i 0), .ref qn_4, .ref qn_5, .ref qn_6, .ref qn_7, .int (xw_i 0), .int (xw_i 0), .int (xw_i 0), .int (xw_i 0), .ref qn_8, .ref qn_9, .ref qn_10, .null, .null])), (qn, .inl (kn, 16, .inl (xw_a (fun _ => 0)))), (qn_1, .inl (kn_1, 80, .inl (xw_a (fun _ => 0)))), (qn_2, .inl (kn_2, 8, .inl (xw_a (fun _ => 0)))), (qn_3, .inl (kn_3, 1000, .inr (.inl (xw_b (fun _ => 0))))), (qn_4, .inl (kn_4, 10, .inl (xw_a (fun _ => 0)))), (qn_5, .inl (kn_5, 10, .inl (xw_a (fun _ => 0)))), (qn_6, .inl (kn_6, 10, .inl (xw_a (fun _ => 0)))), (qn_7, .inl (kn_7, 10, .inl (xw_a (fun _ => 0)))), (qn_8, .inl (kn_8, 4, .inl (xw_a (fun _ => 0)))), (qn_9, .inl (kn_9, 4, .inl (xw_a (fun _ => 0)))), (qn_10, .inl (kn_10, 4, .inl (xw_a (fun _ => 0))))] := hD
  refine lv_aload_n hx hb dX4_init_90 rfl (lv_at hl 0 rfl) ?_
  refine lv_iconst (v := xw_i 4) hx hb dX4_init_91 (by decide) ?_
  refine xw_newi (N' := 4) hx hb (hts (.arrayClass .int) (by decide +kernel)) hK hP hD hS hA rfl (by decide) (Nat.le_of_ble_eq_true rfl) (Nat.le_of_ble_eq_true rfl) dX4_init_92 (fun qn_11 kn_11 H hK hP hD hS => ?_)
  have hP : va_P (dC, dI) vwCl [(qM, .inr (4, [.int (xw_i 0), .ref qn, .ref qn_1, .int (xw_i 0), .ref qn_2, .int (xw_i 0), .ref qn_3, .int (xw_i 0), .ref qn_4, .ref qn_5, .ref qn_6, .ref qn_7, .int (xw_i 0), .int (xw_i 0), .int (xw_i 0), .int (xw_i 0), .ref qn_8, .ref qn_9, .ref qn_10, .null, .null])), (qn, .inl (kn, 16, .inl (xw_a (fun _ => 0)))), (qn_1, .inl (kn_1, 80, .inl (xw_a (fun _ => 0)))), (qn_2, .inl (kn_2, 8, .inl (xw_a (fun _ => 0)))), (qn_3, .inl (kn_3, 1000, .inr (.inl (xw_b (fun _ => 0))))), (qn_4, .inl (kn_4, 10, .inl (xw_a (fun _ => 0)))), (qn_5, .inl (kn_5, 10, .inl (xw_a (fun _ => 0)))), (qn_6, .inl (kn_6, 10, .inl (xw_a (fun _ => 0)))), (qn_7, .inl (kn_7, 10, .inl (xw_a (fun _ => 0)))), (qn_8, .inl (kn_8, 4, .inl (xw_a (fun _ => 0)))), (qn_9, .inl (kn_9, 4, .inl (xw_a (fun _ => 0)))), (qn_10, .inl (kn_10, 4, .inl (xw_a (fun _ => 0)))), (qn_11, .inl (kn_11, 4, .inl (xw_a (fun _ => 0))))] H := hP
  have hD : va_D A [(qM, .inr (4, [.int (xw_i 0), .ref qn, .ref qn_1, .int (xw_i 0), .ref qn_2, .int (xw_i 0), .ref qn_3, .int (xw_i 0), .ref qn_4, .ref qn_5, .ref qn_6, .ref qn_7, .int (xw_i 0), .int (xw_i 0), .int (xw_i 0), .int (xw_i 0), .ref qn_8, .ref qn_9, .ref qn_10, .null, .null])), (qn, .inl (kn, 16, .inl (xw_a (fun _ => 0)))), (qn_1, .inl (kn_1, 80, .inl (xw_a (fun _ => 0)))), (qn_2, .inl (kn_2, 8, .inl (xw_a (fun _ => 0)))), (qn_3, .inl (kn_3, 1000, .inr (.inl (xw_b (fun _ => 0))))), (qn_4, .inl (kn_4, 10, .inl (xw_a (fun _ => 0)))), (qn_5, .inl (kn_5, 10, .inl (xw_a (fun _ => 0)))), (qn_6, .inl (kn_6, 10, .inl (xw_a (fun _ => 0)))), (qn_7, .inl (kn_7, 10, .inl (xw_a (fun _ => 0)))), (qn_8, .inl (kn_8, 4, .inl (xw_a (fun _ => 0)))), (qn_9, .inl (kn_9, 4, .inl (xw_a (fun _ => 0)))), (qn_10, .inl (kn_10, 4, .inl (xw_a (fun _ => 0)))), (qn_11, .inl (kn_11, 4, .inl (xw_a (fun _ => 0))))] := hD
  have hK : va_K (dC, dI) vwCl [(kn, .int), (kn_1, .int), (kn_2, .int), (kn_3, .long), (kn_4, .int), (kn_5, .int), (kn_6, .int), (kn_7, .int), (kn_8, .int), (kn_9, .int), (kn_10, .int), (kn_11, .int)] s := hK
  refine W.widen (k := 12) (n := 1160) (by decide) (by decide) ?_
  refine va_putF (D := (dC, dI)) (ci := 4) (v := .ref qn_11) (ty := (.array .int)) (C := RX4) (T := TX4) (N := 21) hx hb hts hwsX40 tyX4 tyX4_ok nmX4 hown hK hP hD hS 0 rfl rfl 19 (by decide) (hts (.fieldLink RX4 44 "BoxProverModel" "x" "[I") (by decide +kernel)) (fun _ h9 => h9) rfl hin rfl (by decide +kernel) rfl rfl (Nat.le_of_ble_eq_true rfl) dX4_init_94 (fun H locs hP hD hS => ?_)
  have hP : va_P (dC, dI) vwCl [(qM, .inr (4, [.int (xw_i 0), .ref qn, .ref qn_1, .int (xw_i 0), .ref qn_2, .int (xw_i 0), .ref qn_3, .int (xw_i 0), .ref qn_4, .ref qn_5, .ref qn_6, .ref qn_7, .int (xw_i 0), .int (xw_i 0), .int (xw_i 0), .int (xw_i 0), .ref qn_8, .ref qn_9, .ref qn_10, .ref qn_11, .null])), (qn, .inl (kn, 16, .inl (xw_a (fun _ => 0)))), (qn_1, .inl (kn_1, 80, .inl (xw_a (fun _ => 0)))), (qn_2, .inl (kn_2, 8, .inl (xw_a (fun _ => 0)))), (qn_3, .inl (kn_3, 1000, .inr (.inl (xw_b (fun _ => 0))))), (qn_4, .inl (kn_4, 10, .inl (xw_a (fun _ => 0)))), (qn_5, .inl (kn_5, 10, .inl (xw_a (fun _ => 0)))), (qn_6, .inl (kn_6, 10, .inl (xw_a (fun _ => 0)))), (qn_7, .inl (kn_7, 10, .inl (xw_a (fun _ => 0)))), (qn_8, .inl (kn_8, 4, .inl (xw_a (fun _ => 0)))), (qn_9, .inl (kn_9, 4, .inl (xw_a (fun _ => 0)))), (qn_10, .inl (kn_10, 4, .inl (xw_a (fun _ => 0)))), (qn_11, .inl (kn_11, 4, .inl (xw_a (fun _ => 0))))] H := hP
  have hD : va_D A [(qM, .inr (4, [.int (xw_i 0), .ref qn, .ref qn_1, .int (xw_i 0), .ref qn_2, .int (xw_i 0), .ref qn_3, .int (xw_i 0), .ref qn_4, .ref qn_5, .ref qn_6, .ref qn_7, .int (xw_i 0), .int (xw_i 0), .int (xw_i 0), .int (xw_i 0), .ref qn_8, .ref qn_9, .ref qn_10, .ref qn_11, .null])), (qn, .inl (kn, 16, .inl (xw_a (fun _ => 0)))), (qn_1, .inl (kn_1, 80, .inl (xw_a (fun _ => 0)))), (qn_2, .inl (kn_2, 8, .inl (xw_a (fun _ => 0)))), (qn_3, .inl (kn_3, 1000, .inr (.inl (xw_b (fun _ => 0))))), (qn_4, .inl (kn_4, 10, .inl (xw_a (fun _ => 0)))), (qn_5, .inl (kn_5, 10, .inl (xw_a (fun _ => 0)))), (qn_6, .inl (kn_6, 10, .inl (xw_a (fun _ => 0)))), (qn_7, .inl (kn_7, 10, .inl (xw_a (fun _ => 0)))), (qn_8, .inl (kn_8, 4, .inl (xw_a (fun _ => 0)))), (qn_9, .inl (kn_9, 4, .inl (xw_a (fun _ => 0)))), (qn_10, .inl (kn_10, 4, .inl (xw_a (fun _ => 0)))), (qn_11, .inl (kn_11, 4, .inl (xw_a (fun _ => 0))))] := hD
  refine lv_aload_n hx hb dX4_init_97 rfl (lv_at hl 0 rfl) ?_
  refine lv_bipush (v := xw_i 16) hx hb dX4_init_98 (by decide) ?_
  refine xw_newi (N' := 16) hx hb (hts (.arrayClass .int) (by decide +kernel)) hK hP hD hS hA rfl (by decide) (Nat.le_of_ble_eq_true rfl) (Nat.le_of_ble_eq_true rfl) dX4_init_100 (fun qn_12 kn_12 H hK hP hD hS => ?_)
  have hP : va_P (dC, dI) vwCl [(qM, .inr (4, [.int (xw_i 0), .ref qn, .ref qn_1, .int (xw_i 0), .ref qn_2, .int (xw_i 0), .ref qn_3, .int (xw_i 0), .ref qn_4, .ref qn_5, .ref qn_6, .ref qn_7, .int (xw_i 0), .int (xw_i 0), .int (xw_i 0), .int (xw_i 0), .ref qn_8, .ref qn_9, .ref qn_10, .ref qn_11, .null])), (qn, .inl (kn, 16, .inl (xw_a (fun _ => 0)))), (qn_1, .inl (kn_1, 80, .inl (xw_a (fun _ => 0)))), (qn_2, .inl (kn_2, 8, .inl (xw_a (fun _ => 0)))), (qn_3, .inl (kn_3, 1000, .inr (.inl (xw_b (fun _ => 0))))), (qn_4, .inl (kn_4, 10, .inl (xw_a (fun _ => 0)))), (qn_5, .inl (kn_5, 10, .inl (xw_a (fun _ => 0)))), (qn_6, .inl (kn_6, 10, .inl (xw_a (fun _ => 0)))), (qn_7, .inl (kn_7, 10, .inl (xw_a (fun _ => 0)))), (qn_8, .inl (kn_8, 4, .inl (xw_a (fun _ => 0)))), (qn_9, .inl (kn_9, 4, .inl (xw_a (fun _ => 0)))), (qn_10, .inl (kn_10, 4, .inl (xw_a (fun _ => 0)))), (qn_11, .inl (kn_11, 4, .inl (xw_a (fun _ => 0)))), (qn_12, .inl (kn_12, 16, .inl (xw_a (fun _ => 0))))] H := hP
  have hD : va_D A [(qM, .inr (4, [.int (xw_i 0), .ref qn, .ref qn_1, .int (xw_i 0), .ref qn_2, .int (xw_i 0), .ref qn_3, .int (xw_i 0), .ref qn_4, .ref qn_5, .ref qn_6, .ref qn_7, .int (xw_i 0), .int (xw_i 0), .int (xw_i 0), .int (xw_i 0), .ref qn_8, .ref qn_9, .ref qn_10, .ref qn_11, .null])), (qn, .inl (kn, 16, .inl (xw_a (fun _ => 0)))), (qn_1, .inl (kn_1, 80, .inl (xw_a (fun _ => 0)))), (qn_2, .inl (kn_2, 8, .inl (xw_a (fun _ => 0)))), (qn_3, .inl (kn_3, 1000, .inr (.inl (xw_b (fun _ => 0))))), (qn_4, .inl (kn_4, 10, .inl (xw_a (fun _ => 0)))), (qn_5, .inl (kn_5, 10, .inl (xw_a (fun _ => 0)))), (qn_6, .inl (kn_6, 10, .inl (xw_a (fun _ => 0)))), (qn_7, .inl (kn_7, 10, .inl (xw_a (fun _ => 0)))), (qn_8, .inl (kn_8, 4, .inl (xw_a (fun _ => 0)))), (qn_9, .inl (kn_9, 4, .inl (xw_a (fun _ => 0)))), (qn_10, .inl (kn_10, 4, .inl (xw_a (fun _ => 0)))), (qn_11, .inl (kn_11, 4, .inl (xw_a (fun _ => 0)))), (qn_12, .inl (kn_12, 16, .inl (xw_a (fun _ => 0))))] := hD
  have hK : va_K (dC, dI) vwCl [(kn, .int), (kn_1, .int), (kn_2, .int), (kn_3, .long), (kn_4, .int), (kn_5, .int), (kn_6, .int), (kn_7, .int), (kn_8, .int), (kn_9, .int), (kn_10, .int), (kn_11, .int), (kn_12, .int)] s := hK
  refine W.widen (k := 13) (n := 1176) (by decide) (by decide) ?_
  refine va_putF (D := (dC, dI)) (ci := 4) (v := .ref qn_12) (ty := (.array .int)) (C := RX4) (T := TX4) (N := 21) hx hb hts hwsX40 tyX4 tyX4_ok nmX4 hown hK hP hD hS 0 rfl rfl 20 (by decide) (hts (.fieldLink RX4 47 "BoxProverModel" "sums" "[I") (by decide +kernel)) (fun _ h9 => h9) rfl hin rfl (by decide +kernel) rfl rfl (Nat.le_of_ble_eq_true rfl) dX4_init_102 (fun H locs hP hD hS => ?_)
  have hP : va_P (dC, dI) vwCl [(qM, .inr (4, [.int (xw_i 0), .ref qn, .ref qn_1, .int (xw_i 0), .ref qn_2, .int (xw_i 0), .ref qn_3, .int (xw_i 0), .ref qn_4, .ref qn_5, .ref qn_6, .ref qn_7, .int (xw_i 0), .int (xw_i 0), .int (xw_i 0), .int (xw_i 0), .ref qn_8, .ref qn_9, .ref qn_10, .ref qn_11, .ref qn_12])), (qn, .inl (kn, 16, .inl (xw_a (fun _ => 0)))), (qn_1, .inl (kn_1, 80, .inl (xw_a (fun _ => 0)))), (qn_2, .inl (kn_2, 8, .inl (xw_a (fun _ => 0)))), (qn_3, .inl (kn_3, 1000, .inr (.inl (xw_b (fun _ => 0))))), (qn_4, .inl (kn_4, 10, .inl (xw_a (fun _ => 0)))), (qn_5, .inl (kn_5, 10, .inl (xw_a (fun _ => 0)))), (qn_6, .inl (kn_6, 10, .inl (xw_a (fun _ => 0)))), (qn_7, .inl (kn_7, 10, .inl (xw_a (fun _ => 0)))), (qn_8, .inl (kn_8, 4, .inl (xw_a (fun _ => 0)))), (qn_9, .inl (kn_9, 4, .inl (xw_a (fun _ => 0)))), (qn_10, .inl (kn_10, 4, .inl (xw_a (fun _ => 0)))), (qn_11, .inl (kn_11, 4, .inl (xw_a (fun _ => 0)))), (qn_12, .inl (kn_12, 16, .inl (xw_a (fun _ => 0))))] H := hP
  have hD : va_D A [(qM, .inr (4, [.int (xw_i 0), .ref qn, .ref qn_1, .int (xw_i 0), .ref qn_2, .int (xw_i 0), .ref qn_3, .int (xw_i 0), .ref qn_4, .ref qn_5, .ref qn_6, .ref qn_7, .int (xw_i 0), .int (xw_i 0), .int (xw_i 0), .int (xw_i 0), .ref qn_8, .ref qn_9, .ref qn_10, .ref qn_11, .ref qn_12])), (qn, .inl (kn, 16, .inl (xw_a (fun _ => 0)))), (qn_1, .inl (kn_1, 80, .inl (xw_a (fun _ => 0)))), (qn_2, .inl (kn_2, 8, .inl (xw_a (fun _ => 0)))), (qn_3, .inl (kn_3, 1000, .inr (.inl (xw_b (fun _ => 0))))), (qn_4, .inl (kn_4, 10, .inl (xw_a (fun _ => 0)))), (qn_5, .inl (kn_5, 10, .inl (xw_a (fun _ => 0)))), (qn_6, .inl (kn_6, 10, .inl (xw_a (fun _ => 0)))), (qn_7, .inl (kn_7, 10, .inl (xw_a (fun _ => 0)))), (qn_8, .inl (kn_8, 4, .inl (xw_a (fun _ => 0)))), (qn_9, .inl (kn_9, 4, .inl (xw_a (fun _ => 0)))), (qn_10, .inl (kn_10, 4, .inl (xw_a (fun _ => 0)))), (qn_11, .inl (kn_11, 4, .inl (xw_a (fun _ => 0)))), (qn_12, .inl (kn_12, 16, .inl (xw_a (fun _ => 0))))] := hD
  refine lv_aload_n hx hb dX4_init_105 rfl (lv_at hl 0 rfl) ?_
  refine lv_iconst (v := xw_i 0) hx hb dX4_init_106 (by decide) ?_
  refine va_put (D := (dC, dI)) (ci := 4) (v := .int (xw_i 0)) (ty := .int) (C := RX4) (T := TX4) (N := 21) hx hb hts hwsX40 tyX4 tyX4_ok nmX4 hown hK hP hD hS 0 rfl rfl 0 (by decide) (hts (.fieldLink RX4 50 "BoxProverModel" "rows" "I") (by decide +kernel)) (fun _ h9 => h9) rfl (by decide +kernel) rfl rfl (Nat.le_of_ble_eq_true rfl) dX4_init_107 (fun H locs hP hD hS => ?_)
  have hP : va_P (dC, dI) vwCl [(qM, .inr (4, [.int (xw_i 0), .ref qn, .ref qn_1, .int (xw_i 0), .ref qn_2, .int (xw_i 0), .ref qn_3, .int (xw_i 0), .ref qn_4, .ref qn_5, .ref qn_6, .ref qn_7, .int (xw_i 0), .int (xw_i 0), .int (xw_i 0), .int (xw_i 0), .ref qn_8, .ref qn_9, .ref qn_10, .ref qn_11, .ref qn_12])), (qn, .inl (kn, 16, .inl (xw_a (fun _ => 0)))), (qn_1, .inl (kn_1, 80, .inl (xw_a (fun _ => 0)))), (qn_2, .inl (kn_2, 8, .inl (xw_a (fun _ => 0)))), (qn_3, .inl (kn_3, 1000, .inr (.inl (xw_b (fun _ => 0))))), (qn_4, .inl (kn_4, 10, .inl (xw_a (fun _ => 0)))), (qn_5, .inl (kn_5, 10, .inl (xw_a (fun _ => 0)))), (qn_6, .inl (kn_6, 10, .inl (xw_a (fun _ => 0)))), (qn_7, .inl (kn_7, 10, .inl (xw_a (fun _ => 0)))), (qn_8, .inl (kn_8, 4, .inl (xw_a (fun _ => 0)))), (qn_9, .inl (kn_9, 4, .inl (xw_a (fun _ => 0)))), (qn_10, .inl (kn_10, 4, .inl (xw_a (fun _ => 0)))), (qn_11, .inl (kn_11, 4, .inl (xw_a (fun _ => 0)))), (qn_12, .inl (kn_12, 16, .inl (xw_a (fun _ => 0))))] H := hP
  have hD : va_D A [(qM, .inr (4, [.int (xw_i 0), .ref qn, .ref qn_1, .int (xw_i 0), .ref qn_2, .int (xw_i 0), .ref qn_3, .int (xw_i 0), .ref qn_4, .ref qn_5, .ref qn_6, .ref qn_7, .int (xw_i 0), .int (xw_i 0), .int (xw_i 0), .int (xw_i 0), .ref qn_8, .ref qn_9, .ref qn_10, .ref qn_11, .ref qn_12])), (qn, .inl (kn, 16, .inl (xw_a (fun _ => 0)))), (qn_1, .inl (kn_1, 80, .inl (xw_a (fun _ => 0)))), (qn_2, .inl (kn_2, 8, .inl (xw_a (fun _ => 0)))), (qn_3, .inl (kn_3, 1000, .inr (.inl (xw_b (fun _ => 0))))), (qn_4, .inl (kn_4, 10, .inl (xw_a (fun _ => 0)))), (qn_5, .inl (kn_5, 10, .inl (xw_a (fun _ => 0)))), (qn_6, .inl (kn_6, 10, .inl (xw_a (fun _ => 0)))), (qn_7, .inl (kn_7, 10, .inl (xw_a (fun _ => 0)))), (qn_8, .inl (kn_8, 4, .inl (xw_a (fun _ => 0)))), (qn_9, .inl (kn_9, 4, .inl (xw_a (fun _ => 0)))), (qn_10, .inl (kn_10, 4, .inl (xw_a (fun _ => 0)))), (qn_11, .inl (kn_11, 4, .inl (xw_a (fun _ => 0)))), (qn_12, .inl (kn_12, 16, .inl (xw_a (fun _ => 0))))] := hD
  exact hret _ _ _ _ (qn, kn, qn_1, kn_1, qn_2, kn_2, qn_3, kn_3, qn_4, kn_4, qn_5, kn_5, qn_6, kn_6, qn_7, kn_7, qn_8, kn_8, qn_9, kn_9, qn_10, kn_10, qn_11, kn_11, qn_12, kn_12) dX4_init_110 trivial hP hD hK hS
set_option maxHeartbeats 4000000 in
set_option maxRecDepth 100000 in
theorem c_X4_changed (l : Launch) (dC : Nat → ClassId) (dI : Nat → Nat → Nat) (qM aM0 aM1 aM2 aM3 aM4 aM5 aM6 aM7 aM8 aM9 aM10 aM11 aM12 : Nat) (kM0 kM1 kM2 kM3 kM4 kM5 kM6 kM7 kM8 kM9 kM10 kM11 kM12 : ClassId) (sz : Nat) (mrw : Int) (mly : Int) (mln : Int) (msp : Int) (mwh : Int) (mcl : Int) (mtr : Int) (mfo : Int) (mki : Nat → Int) (mro : Nat → Int) (mlf : Nat → Int) (mli : Nat → Int) (msw : Nat → Int) (msa : Nat → Int) (msc : Nat → Int) (msl : Nat → Int) (mff : Nat → Int) (mlt : Nat → Int) (mgr : Nat → Int) (mxx : Nat → Int) (msu : Nat → Int) (post : Int → Int → Int → Int → Int → Prop) (h : wp_X4_changed post mrw mly mln msp mwh mcl mtr mfo mki mro mlf mli msw msa msc msl mff mlt mgr mxx msu) : Met l yX4_changed wsX4_changed ({ frames := 0, cells := 0, slots := 0, locals := 0 }) (va_Pc [.ref qM] (xw_Pre (dC, dI) vwCl (wd_X4 qM aM0 aM1 aM2 aM3 aM4 aM5 aM6 aM7 aM8 aM9 aM10 aM11 aM12 kM0 kM1 kM2 kM3 kM4 kM5 kM6 kM7 kM8 kM9 kM10 kM11 kM12 mrw mly mln msp mwh mcl mtr mfo mki mro mlf mli msw msa msc msl mff mlt mgr mxx msu) [(kM0, .int), (kM1, .int), (kM2, .int), (kM3, .long), (kM4, .int), (kM5, .int), (kM6, .int), (kM7, .int), (kM8, .int), (kM9, .int), (kM10, .int), (kM11, .int), (kM12, .int)] sz)) (va_Qv (fun (u : Int × Int × Int × Int × Int) => post u.1 u.2.1 u.2.2.1 u.2.2.2.1 u.2.2.2.2) (xw_B (dC, dI) vwCl (fun (_ : Int × Int × Int × Int × Int) => [(kM0, .int), (kM1, .int), (kM2, .int), (kM3, .long), (kM4, .int), (kM5, .int), (kM6, .int), (kM7, .int), (kM8, .int), (kM9, .int), (kM10, .int), (kM11, .int), (kM12, .int)]) (va_A (wd_X4 qM aM0 aM1 aM2 aM3 aM4 aM5 aM6 aM7 aM8 aM9 aM10 aM11 aM12 kM0 kM1 kM2 kM3 kM4 kM5 kM6 kM7 kM8 kM9 kM10 kM11 kM12 mrw mly mln msp mwh mcl mtr mfo mki mro mlf mli msw msa msc msl mff mlt mgr mxx msu) sz) (fun (u : Int × Int × Int × Int × Int) => (wd_X4 qM aM0 aM1 aM2 aM3 aM4 aM5 aM6 aM7 aM8 aM9 aM10 aM11 aM12 kM0 kM1 kM2 kM3 kM4 kM5 kM6 kM7 kM8 kM9 kM10 kM11 kM12 mrw mly u.1 u.2.1 u.2.2.1 u.2.2.2.1 u.2.2.2.2 mfo mki mro mlf mli msw msa msc msl mff mlt mgr mxx msu))) (va_A (wd_X4 qM aM0 aM1 aM2 aM3 aM4 aM5 aM6 aM7 aM8 aM9 aM10 aM11 aM12 kM0 kM1 kM2 kM3 kM4 kM5 kM6 kM7 kM8 kM9 kM10 kM11 kM12 mrw mly mln msp mwh mcl mtr mfo mki mro mlf mli msw msa msc msl mff mlt mgr mxx msu) sz)) 0 0 (va_A (wd_X4 qM aM0 aM1 aM2 aM3 aM4 aM5 aM6 aM7 aM8 aM9 aM10 aM11 aM12 kM0 kM1 kM2 kM3 kM4 kM5 kM6 kM7 kM8 kM9 kM10 kM11 kM12 mrw mly mln msp mwh mcl mtr mfo mki mro mlf mli msw msa msc msl mff mlt mgr mxx msu) sz) := by
  refine xw_ofV (cc := cX4_changed) (maxL := 1) (by decide +kernel) rfl (Nat.le_of_ble_eq_true rfl) ?_
  intro p e s m args below meth c hx hb hml hown hts hin A hA hP hD hK Q hret ls hl hS
  have hl : lv_has ls 1 [(0, .ref qM)] := hl
  have hwsX40 : ∀ w ∈ wsX40, w ∈ wsX4_changed := fun _ h => List.mem_cons_of_mem _ (List.mem_append_right _ h)
  unfold wp_X4_changed at h
  refine lv_aload_n hx hb dX4_changed_0 rfl (lv_at hl 0 rfl) ?_
  refine lv_iconst (v := xw_i 0) hx hb dX4_changed_1 (by decide) ?_
  refine va_put (D := (dC, dI)) (ci := 4) (v := .int (xw_i 0)) (ty := .boolean) (C := RX4) (T := TX4) (N := 21) hx hb hts hwsX40 tyX4 tyX4_ok nmX4 hown hK hP hD hS 0 rfl rfl 14 (by decide) (hts (.fieldLink RX4 54 "BoxProverModel" "isTried" "Z") (by decide +kernel)) (fun _ h9 => h9) rfl (by decide +kernel) rfl rfl (Nat.le_of_ble_eq_true rfl) dX4_changed_2 (fun H locs hP hD hS => ?_)
  have hP : va_P (dC, dI) vwCl (wd_X4 qM aM0 aM1 aM2 aM3 aM4 aM5 aM6 aM7 aM8 aM9 aM10 aM11 aM12 kM0 kM1 kM2 kM3 kM4 kM5 kM6 kM7 kM8 kM9 kM10 kM11 kM12 mrw mly mln msp mwh mcl 0 mfo mki mro mlf mli msw msa msc msl mff mlt mgr mxx msu) H := hP
  have hD : va_D A (wd_X4 qM aM0 aM1 aM2 aM3 aM4 aM5 aM6 aM7 aM8 aM9 aM10 aM11 aM12 kM0 kM1 kM2 kM3 kM4 kM5 kM6 kM7 kM8 kM9 kM10 kM11 kM12 mrw mly mln msp mwh mcl 0 mfo mki mro mlf mli msw msa msc msl mff mlt mgr mxx msu) := hD
  refine lv_aload_n hx hb dX4_changed_5 rfl (lv_at hl 0 rfl) ?_
  refine lv_iconst (v := xw_i 0) hx hb dX4_changed_6 (by decide) ?_
  refine va_put (D := (dC, dI)) (ci := 4) (v := .int (xw_i 0)) (ty := .int) (C := RX4) (T := TX4) (N := 21) hx hb hts hwsX40 tyX4 tyX4_ok nmX4 hown hK hP hD hS 0 rfl rfl 5 (by decide) (hts (.fieldLink RX4 58 "BoxProverModel" "lines" "I") (by decide +kernel)) (fun _ h9 => h9) rfl (by decide +kernel) rfl rfl (Nat.le_of_ble_eq_true rfl) dX4_changed_7 (fun H locs hP hD hS => ?_)
  have hP : va_P (dC, dI) vwCl (wd_X4 qM aM0 aM1 aM2 aM3 aM4 aM5 aM6 aM7 aM8 aM9 aM10 aM11 aM12 kM0 kM1 kM2 kM3 kM4 kM5 kM6 kM7 kM8 kM9 kM10 kM11 kM12 mrw mly 0 msp mwh mcl 0 mfo mki mro mlf mli msw msa msc msl mff mlt mgr mxx msu) H := hP
  have hD : va_D A (wd_X4 qM aM0 aM1 aM2 aM3 aM4 aM5 aM6 aM7 aM8 aM9 aM10 aM11 aM12 kM0 kM1 kM2 kM3 kM4 kM5 kM6 kM7 kM8 kM9 kM10 kM11 kM12 mrw mly 0 msp mwh mcl 0 mfo mki mro mlf mli msw msa msc msl mff mlt mgr mxx msu) := hD
  refine lv_aload_n hx hb dX4_changed_10 rfl (lv_at hl 0 rfl) ?_
  refine lv_iconst (v := xw_i 0) hx hb dX4_changed_11 (by decide) ?_
  refine va_put (D := (dC, dI)) (ci := 4) (v := .int (xw_i 0)) (ty := .int) (C := RX4) (T := TX4) (N := 21) hx hb hts hwsX40 tyX4 tyX4_ok nmX4 hown hK hP hD hS 0 rfl rfl 7 (by decide) (hts (.fieldLink RX4 61 "BoxProverModel" "splits" "I") (by decide +kernel)) (fun _ h9 => h9) rfl (by decide +kernel) rfl rfl (Nat.le_of_ble_eq_true rfl) dX4_changed_12 (fun H locs hP hD hS => ?_)
  have hP : va_P (dC, dI) vwCl (wd_X4 qM aM0 aM1 aM2 aM3 aM4 aM5 aM6 aM7 aM8 aM9 aM10 aM11 aM12 kM0 kM1 kM2 kM3 kM4 kM5 kM6 kM7 kM8 kM9 kM10 kM11 kM12 mrw mly 0 0 mwh mcl 0 mfo mki mro mlf mli msw msa msc msl mff mlt mgr mxx msu) H := hP
  have hD : va_D A (wd_X4 qM aM0 aM1 aM2 aM3 aM4 aM5 aM6 aM7 aM8 aM9 aM10 aM11 aM12 kM0 kM1 kM2 kM3 kM4 kM5 kM6 kM7 kM8 kM9 kM10 kM11 kM12 mrw mly 0 0 mwh mcl 0 mfo mki mro mlf mli msw msa msc msl mff mlt mgr mxx msu) := hD
  refine lv_aload_n hx hb dX4_changed_15 rfl (lv_at hl 0 rfl) ?_
  refine lv_iconst (v := xw_i 0) hx hb dX4_changed_16 (by decide) ?_
  refine va_put (D := (dC, dI)) (ci := 4) (v := .int (xw_i 0)) (ty := .boolean) (C := RX4) (T := TX4) (N := 21) hx hb hts hwsX40 tyX4 tyX4_ok nmX4 hown hK hP hD hS 0 rfl rfl 12 (by decide) (hts (.fieldLink RX4 64 "BoxProverModel" "isWhole" "Z") (by decide +kernel)) (fun _ h9 => h9) rfl (by decide +kernel) rfl rfl (Nat.le_of_ble_eq_true rfl) dX4_changed_17 (fun H locs hP hD hS => ?_)
  have hP : va_P (dC, dI) vwCl (wd_X4 qM aM0 aM1 aM2 aM3 aM4 aM5 aM6 aM7 aM8 aM9 aM10 aM11 aM12 kM0 kM1 kM2 kM3 kM4 kM5 kM6 kM7 kM8 kM9 kM10 kM11 kM12 mrw mly 0 0 0 mcl 0 mfo mki mro mlf mli msw msa msc msl mff mlt mgr mxx msu) H := hP
  have hD : va_D A (wd_X4 qM aM0 aM1 aM2 aM3 aM4 aM5 aM6 aM7 aM8 aM9 aM10 aM11 aM12 kM0 kM1 kM2 kM3 kM4 kM5 kM6 kM7 kM8 kM9 kM10 kM11 kM12 mrw mly 0 0 0 mcl 0 mfo mki mro mlf mli msw msa msc msl mff mlt mgr mxx msu) := hD
  refine lv_aload_n hx hb dX4_changed_20 rfl (lv_at hl 0 rfl) ?_
  refine lv_iconst (v := xw_i 0) hx hb dX4_changed_21 (by decide) ?_
  refine va_put (D := (dC, dI)) (ci := 4) (v := .int (xw_i 0)) (ty := .int) (C := RX4) (T := TX4) (N := 21) hx hb hts hwsX40 tyX4 tyX4_ok nmX4 hown hK hP hD hS 0 rfl rfl 13 (by decide) (hts (.fieldLink RX4 67 "BoxProverModel" "closings" "I") (by decide +kernel)) (fun _ h9 => h9) rfl (by decide +kernel) rfl rfl (Nat.le_of_ble_eq_true rfl) dX4_changed_22 (fun H locs hP hD hS => ?_)
  have hP : va_P (dC, dI) vwCl (wd_X4 qM aM0 aM1 aM2 aM3 aM4 aM5 aM6 aM7 aM8 aM9 aM10 aM11 aM12 kM0 kM1 kM2 kM3 kM4 kM5 kM6 kM7 kM8 kM9 kM10 kM11 kM12 mrw mly 0 0 0 0 0 mfo mki mro mlf mli msw msa msc msl mff mlt mgr mxx msu) H := hP
  have hD : va_D A (wd_X4 qM aM0 aM1 aM2 aM3 aM4 aM5 aM6 aM7 aM8 aM9 aM10 aM11 aM12 kM0 kM1 kM2 kM3 kM4 kM5 kM6 kM7 kM8 kM9 kM10 kM11 kM12 mrw mly 0 0 0 0 0 mfo mki mro mlf mli msw msa msc msl mff mlt mgr mxx msu) := hD
  exact hret _ _ _ _ (0, 0, 0, 0, 0) dX4_changed_25 h hP hD hK hS
set_option maxHeartbeats 4000000 in
set_option maxRecDepth 100000 in
theorem c_X4_isIn (l : Launch) (dC : Nat → ClassId) (dI : Nat → Nat → Nat)  (sz : Nat) (p1 : Int) (p2 : Int) (post : Int → Prop) (h : wp_X4_isIn post p1 p2) : Met l yX4_isIn wsX4_isIn ({ frames := 0, cells := 0, slots := 0, locals := 0 }) (va_Pc [.long (xw_j p1), .long (xw_j p2)] (xw_Pre (dC, dI) vwCl [] [] sz)) (va_Qi (xw_pi (fun v (u : Unit) => post v)) (xw_B (dC, dI) vwCl (fun (_ : Unit) => []) (va_A [] sz) (fun (u : Unit) => [])) (va_A [] sz)) 0 0 (va_A [] sz) := by
  refine xw_ofZ (cc := cX4_isIn) (maxL := 4) (by decide +kernel) rfl (Nat.le_of_ble_eq_true rfl) ?_
  intro p e s m args below meth c hx hb hml hown hts A hA hP hD hK Q hret ls hl hS
  have hl : lv_has ls 4 [(0, .long (xw_j p1)), (2, .long (xw_j p2))] := hl
  unfold wp_X4_isIn at h
  refine lv_lload_n hx hb dX4_isIn_0 rfl (lv_at hl 0 rfl) ?_
  refine lv_lload_n hx hb dX4_isIn_1 rfl (lv_at hl 1 rfl) ?_
  refine xw_lneg hx hb dX4_isIn_2 ?_
  refine W.lcmp hx hb dX4_isIn_3 ?_
  obtain ⟨hr1, h⟩ := h
  obtain ⟨hr2, h⟩ := h
  refine xw_lif_lt (tgt := 17) hx hb ⟨hr1, hr2⟩ dX4_isIn_4 (by decide) (fun hcd => ?_) (fun hcd => ?_)
  · have h := h.1 hcd
    refine lv_iconst (v := xw_i 0) hx hb dX4_isIn_17 (by decide) ?_
    exact hret _ _ _ _ 0 () dX4_isIn_18 (by decide) h hP hD hK hS
  · have h := h.2 hcd
    refine lv_lload_n hx hb dX4_isIn_7 rfl (lv_at hl 0 rfl) ?_
    refine lv_lload_n hx hb dX4_isIn_8 rfl (lv_at hl 1 rfl) ?_
    refine W.lcmp hx hb dX4_isIn_9 ?_
    obtain ⟨hr3, h⟩ := h
    refine xw_lif_gt (tgt := 17) hx hb ⟨hr1, hr3⟩ dX4_isIn_10 (by decide) (fun hcd => ?_) (fun hcd => ?_)
    · have h := h.1 hcd
      refine lv_iconst (v := xw_i 0) hx hb dX4_isIn_17 (by decide) ?_
      exact hret _ _ _ _ 0 () dX4_isIn_18 (by decide) h hP hD hK hS
    · have h := h.2 hcd
      refine lv_iconst (v := xw_i 1) hx hb dX4_isIn_13 (by decide) ?_
      refine lv_goto (tgt := 18) hx hb dX4_isIn_14 (by decide) ?_
      exact hret _ _ _ _ 1 () dX4_isIn_18 (by decide) h hP hD hK hS
set_option maxHeartbeats 4000000 in
set_option maxRecDepth 100000 in
theorem c_X4_row (l : Launch) (dC : Nat → ClassId) (dI : Nat → Nat → Nat) (qM aM0 aM1 aM2 aM3 aM4 aM5 aM6 aM7 aM8 aM9 aM10 aM11 aM12 : Nat) (kM0 kM1 kM2 kM3 kM4 kM5 kM6 kM7 kM8 kM9 kM10 kM11 kM12 : ClassId) (sz : Nat) (mrw : Int) (mly : Int) (mln : Int) (msp : Int) (mwh : Int) (mcl : Int) (mtr : Int) (mfo : Int) (mki : Nat → Int) (mro : Nat → Int) (mlf : Nat → Int) (mli : Nat → Int) (msw : Nat → Int) (msa : Nat → Int) (msc : Nat → Int) (msl : Nat → Int) (mff : Nat → Int) (mlt : Nat → Int) (mgr : Nat → Int) (mxx : Nat → Int) (msu : Nat → Int) (p1 : Int) (p2 : Int) (p3 : Int) (p4 : Int) (p5 : Int) (p6 : Int) (post : Int → Int → Int → Int → Int → Int → Int → (Nat → Int) → (Nat → Int) → Prop) (h : wp_X4_row post mrw mly mln msp mwh mcl mtr mfo mki mro mlf mli msw msa msc msl mff mlt mgr mxx msu p1 p2 p3 p4 p5 p6) : Met l yX4_row wsX4_row ({ frames := 1, cells := 0, slots := 0, locals := 23 }) (va_Pc [.ref qM, .int (xw_i p1), .int (xw_i p2), .int (xw_i p3), .int (xw_i p4), .int (xw_i p5), .int (xw_i p6)] (xw_Pre (dC, dI) vwCl (wd_X4 qM aM0 aM1 aM2 aM3 aM4 aM5 aM6 aM7 aM8 aM9 aM10 aM11 aM12 kM0 kM1 kM2 kM3 kM4 kM5 kM6 kM7 kM8 kM9 kM10 kM11 kM12 mrw mly mln msp mwh mcl mtr mfo mki mro mlf mli msw msa msc msl mff mlt mgr mxx msu) [(kM0, .int), (kM1, .int), (kM2, .int), (kM3, .long), (kM4, .int), (kM5, .int), (kM6, .int), (kM7, .int), (kM8, .int), (kM9, .int), (kM10, .int), (kM11, .int), (kM12, .int)] sz)) (va_Qi (xw_pi (fun v (u : Int × Int × Int × Int × Int × Int × (Nat → Int) × (Nat → Int)) => post v u.1 u.2.1 u.2.2.1 u.2.2.2.1 u.2.2.2.2.1 u.2.2.2.2.2.1 u.2.2.2.2.2.2.1 u.2.2.2.2.2.2.2)) (xw_B (dC, dI) vwCl (fun (_ : Int × Int × Int × Int × Int × Int × (Nat → Int) × (Nat → Int)) => [(kM0, .int), (kM1, .int), (kM2, .int), (kM3, .long), (kM4, .int), (kM5, .int), (kM6, .int), (kM7, .int), (kM8, .int), (kM9, .int), (kM10, .int), (kM11, .int), (kM12, .int)]) (va_A (wd_X4 qM aM0 aM1 aM2 aM3 aM4 aM5 aM6 aM7 aM8 aM9 aM10 aM11 aM12 kM0 kM1 kM2 kM3 kM4 kM5 kM6 kM7 kM8 kM9 kM10 kM11 kM12 mrw mly mln msp mwh mcl mtr mfo mki mro mlf mli msw msa msc msl mff mlt mgr mxx msu) sz) (fun (u : Int × Int × Int × Int × Int × Int × (Nat → Int) × (Nat → Int)) => (wd_X4 qM aM0 aM1 aM2 aM3 aM4 aM5 aM6 aM7 aM8 aM9 aM10 aM11 aM12 kM0 kM1 kM2 kM3 kM4 kM5 kM6 kM7 kM8 kM9 kM10 kM11 kM12 u.1 mly u.2.1 u.2.2.1 u.2.2.2.1 u.2.2.2.2.1 u.2.2.2.2.2.1 mfo u.2.2.2.2.2.2.1 u.2.2.2.2.2.2.2 mlf mli msw msa msc msl mff mlt mgr mxx msu))) (va_A (wd_X4 qM aM0 aM1 aM2 aM3 aM4 aM5 aM6 aM7 aM8 aM9 aM10 aM11 aM12 kM0 kM1 kM2 kM3 kM4 kM5 kM6 kM7 kM8 kM9 kM10 kM11 kM12 mrw mly mln msp mwh mcl mtr mfo mki mro mlf mli msw msa msc msl mff mlt mgr mxx msu) sz)) 0 0 (va_A (wd_X4 qM aM0 aM1 aM2 aM3 aM4 aM5 aM6 aM7 aM8 aM9 aM10 aM11 aM12 kM0 kM1 kM2 kM3 kM4 kM5 kM6 kM7 kM8 kM9 kM10 kM11 kM12 mrw mly mln msp mwh mcl mtr mfo mki mro mlf mli msw msa msc msl mff mlt mgr mxx msu) sz) := by
  refine xw_ofI (cc := cX4_row) (maxL := 9) (by decide +kernel) rfl (Nat.le_of_ble_eq_true rfl) ?_
  intro p e s m args below meth c hx hb hml hown hts A hA hP hD hK Q hret ls hl hS
  have hl : lv_has ls 9 [(0, .ref qM), (1, .int (xw_i p1)), (2, .int (xw_i p2)), (3, .int (xw_i p3)), (4, .int (xw_i p4)), (5, .int (xw_i p5)), (6, .int (xw_i p6))] := hl
  have hwsX40 : ∀ w ∈ wsX40, w ∈ wsX4_row := fun _ h => List.mem_cons_of_mem _ (List.mem_append_right _ h)
  unfold wp_X4_row at h
  refine lv_iload_n hx hb dX4_row_0 rfl (lv_at hl 1 rfl) ?_
  have k_72 : ∀ (mrw_1 : Int) (mln_1 : Int) (msp_1 : Int) (mwh_1 : Int) (mcl_1 : Int) (mtr_1 : Int) (mki_1 : Nat → Int) (mro_1 : Nat → Int) (z0 : Int) (H : Heap) (locs : List Loc) (ls : Array Slot), wp_X4_row_72 p1 p2 p3 p4 p5 p6 mly mfo mlf mli msw msa msc msl mff mlt mgr mxx msu post mrw_1 mln_1 msp_1 mwh_1 mcl_1 mtr_1 mki_1 mro_1 z0 → va_P (dC, dI) vwCl (wd_X4 qM aM0 aM1 aM2 aM3 aM4 aM5 aM6 aM7 aM8 aM9 aM10 aM11 aM12 kM0 kM1 kM2 kM3 kM4 kM5 kM6 kM7 kM8 kM9 kM10 kM11 kM12 mrw_1 mly mln_1 msp_1 mwh_1 mcl_1 mtr_1 mfo mki_1 mro_1 mlf mli msw msa msc msl mff mlt mgr mxx msu) H → va_D A (wd_X4 qM aM0 aM1 aM2 aM3 aM4 aM5 aM6 aM7 aM8 aM9 aM10 aM11 aM12 kM0 kM1 kM2 kM3 kM4 kM5 kM6 kM7 kM8 kM9 kM10 kM11 kM12 mrw_1 mly mln_1 msp_1 mwh_1 mcl_1 mtr_1 mfo mki_1 mro_1 mlf mli msw msa msc msl mff mlt mgr mxx msu) → va_S A s.heap H locs → lv_has ls 9 [(0, .ref qM), (1, .int (xw_i p1)), (2, .int (xw_i p2)), (3, .int (xw_i p3)), (4, .int (xw_i p4)), (5, .int (xw_i p5)), (6, .int (xw_i p6))] → W p l e ({ frames := 1, cells := 0, slots := 0, locals := 23 } : Room) s m args below meth c H locs 0 0 Q (F0 m 72 ls [.int (xw_i z0)]) := by
    intro mrw_1 mln_1 msp_1 mwh_1 mcl_1 mtr_1 mki_1 mro_1 z0 H locs ls h hP hD hS hl
    unfold wp_X4_row_72 at h
    refine lv_istore (lv' := [(7, .int (xw_i z0)), (0, .ref qM), (1, .int (xw_i p1)), (2, .int (xw_i p2)), (3, .int (xw_i p3)), (4, .int (xw_i p4)), (5, .int (xw_i p5)), (6, .int (xw_i p6))]) hx hb dX4_row_72 hl (by decide) rfl (fun ls hl => ?_)
    refine lv_iload hx hb dX4_row_74 (lv_at hl 0 rfl) ?_
    obtain ⟨hr1, h⟩ := h
    refine xw_if_eq (tgt := 88) hx hb hr1 dX4_row_76 (by decide) (fun hcd => ?_) (fun hcd => ?_)
    · have h := h.1 hcd
      refine lv_iconst (v := xw_i (-1)) hx hb dX4_row_88 (by decide) ?_
      exact hret _ _ _ _ (-1) (mrw_1, mln_1, msp_1, mwh_1, mcl_1, mtr_1, mki_1, mro_1) dX4_row_89 h hP hD hK hS
    · have h := h.2 hcd
      refine lv_aload_n hx hb dX4_row_79 rfl (lv_at hl 1 rfl) ?_
      refine va_get (D := (dC, dI)) (ci := 4) (v := .int (xw_i mrw_1)) (C := RX4) (T := TX4) (N := 21) hx hb hts hwsX40 hown hK hP 0 rfl rfl 0 (by decide) (hts (.fieldLink RX4 50 "BoxProverModel" "rows" "I") (by decide +kernel)) (fun _ h9 => h9) rfl dX4_row_80 ?_
      refine lv_bipush (v := xw_i 16) hx hb dX4_row_83 (by decide) ?_
      obtain ⟨hr2, h⟩ := h
      refine xw_icmp_ne (tgt := 90) hx hb ⟨hr2, ⟨by decide, by decide⟩⟩ dX4_row_85 (by decide) (fun hcd => ?_) (fun hcd => ?_)
      · have h := h.2 hcd
        refine lv_iconst (v := xw_i 5) hx hb dX4_row_90 (by decide) ?_
        refine lv_aload_n hx hb dX4_row_91 rfl (lv_at hl 1 rfl) ?_
        refine va_get (D := (dC, dI)) (ci := 4) (v := .int (xw_i mrw_1)) (C := RX4) (T := TX4) (N := 21) hx hb hts hwsX40 hown hK hP 0 rfl rfl 0 (by decide) (hts (.fieldLink RX4 50 "BoxProverModel" "rows" "I") (by decide +kernel)) (fun _ h9 => h9) rfl dX4_row_92 ?_
        refine xw_imul hx hb dX4_row_95 ?_
        refine xw_topi (fun x8 ex8 => ?_)
        have h := h x8 ex8
        refine lv_istore (lv' := [(8, .int (xw_i x8)), (7, .int (xw_i z0)), (0, .ref qM), (1, .int (xw_i p1)), (2, .int (xw_i p2)), (3, .int (xw_i p3)), (4, .int (xw_i p4)), (5, .int (xw_i p5)), (6, .int (xw_i p6))]) hx hb dX4_row_96 hl (by decide) rfl (fun ls hl => ?_)
        refine lv_aload_n hx hb dX4_row_98 rfl (lv_at hl 2 rfl) ?_
        refine va_get (D := (dC, dI)) (ci := 4) (v := .ref aM0) (C := RX4) (T := TX4) (N := 21) hx hb hts hwsX40 hown hK hP 0 rfl rfl 1 (by decide) (hts (.fieldLink RX4 7 "BoxProverModel" "kind" "[I") (by decide +kernel)) (fun _ h9 => h9) rfl dX4_row_99 ?_
        refine lv_aload_n hx hb dX4_row_102 rfl (lv_at hl 2 rfl) ?_
        refine va_get (D := (dC, dI)) (ci := 4) (v := .int (xw_i mrw_1)) (C := RX4) (T := TX4) (N := 21) hx hb hts hwsX40 hown hK hP 0 rfl rfl 0 (by decide) (hts (.fieldLink RX4 50 "BoxProverModel" "rows" "I") (by decide +kernel)) (fun _ h9 => h9) rfl dX4_row_103 ?_
        refine lv_iload_n hx hb dX4_row_106 rfl (lv_at hl 3 rfl) ?_
        obtain ⟨hin, h⟩ := h
        obtain ⟨mki_2, emki_2⟩ : ∃ z : Nat → Int, z = xw_u mki_1 mrw_1 p1 := ⟨_, rfl⟩
        have h := h mki_2 emki_2
        refine xw_iast (n := 16) hx hb hK hP hD hS 1 0 rfl rfl (by decide) hin emki_2 dX4_row_107 (fun H locs hP hD hS => ?_)
        have hP : va_P (dC, dI) vwCl (wd_X4 qM aM0 aM1 aM2 aM3 aM4 aM5 aM6 aM7 aM8 aM9 aM10 aM11 aM12 kM0 kM1 kM2 kM3 kM4 kM5 kM6 kM7 kM8 kM9 kM10 kM11 kM12 mrw_1 mly mln_1 msp_1 mwh_1 mcl_1 mtr_1 mfo mki_2 mro_1 mlf mli msw msa msc msl mff mlt mgr mxx msu) H := hP
        have hD : va_D A (wd_X4 qM aM0 aM1 aM2 aM3 aM4 aM5 aM6 aM7 aM8 aM9 aM10 aM11 aM12 kM0 kM1 kM2 kM3 kM4 kM5 kM6 kM7 kM8 kM9 kM10 kM11 kM12 mrw_1 mly mln_1 msp_1 mwh_1 mcl_1 mtr_1 mfo mki_2 mro_1 mlf mli msw msa msc msl mff mlt mgr mxx msu) := hD
        refine lv_aload_n hx hb dX4_row_108 rfl (lv_at hl 2 rfl) ?_
        refine va_get (D := (dC, dI)) (ci := 4) (v := .ref aM1) (C := RX4) (T := TX4) (N := 21) hx hb hts hwsX40 hown hK hP 0 rfl rfl 2 (by decide) (hts (.fieldLink RX4 13 "BoxProverModel" "row" "[I") (by decide +kernel)) (fun _ h9 => h9) rfl dX4_row_109 ?_
        refine lv_iload hx hb dX4_row_112 (lv_at hl 0 rfl) ?_
        refine lv_iload_n hx hb dX4_row_114 rfl (lv_at hl 4 rfl) ?_
        obtain ⟨hin, h⟩ := h
        obtain ⟨mro_2, emro_2⟩ : ∃ z : Nat → Int, z = xw_u mro_1 x8 p2 := ⟨_, rfl⟩
        have h := h mro_2 emro_2
        refine xw_iast (n := 80) hx hb hK hP hD hS 2 1 rfl rfl (by decide) hin emro_2 dX4_row_115 (fun H locs hP hD hS => ?_)
        have hP : va_P (dC, dI) vwCl (wd_X4 qM aM0 aM1 aM2 aM3 aM4 aM5 aM6 aM7 aM8 aM9 aM10 aM11 aM12 kM0 kM1 kM2 kM3 kM4 kM5 kM6 kM7 kM8 kM9 kM10 kM11 kM12 mrw_1 mly mln_1 msp_1 mwh_1 mcl_1 mtr_1 mfo mki_2 mro_2 mlf mli msw msa msc msl mff mlt mgr mxx msu) H := hP
        have hD : va_D A (wd_X4 qM aM0 aM1 aM2 aM3 aM4 aM5 aM6 aM7 aM8 aM9 aM10 aM11 aM12 kM0 kM1 kM2 kM3 kM4 kM5 kM6 kM7 kM8 kM9 kM10 kM11 kM12 mrw_1 mly mln_1 msp_1 mwh_1 mcl_1 mtr_1 mfo mki_2 mro_2 mlf mli msw msa msc msl mff mlt mgr mxx msu) := hD
        refine lv_aload_n hx hb dX4_row_116 rfl (lv_at hl 2 rfl) ?_
        refine va_get (D := (dC, dI)) (ci := 4) (v := .ref aM1) (C := RX4) (T := TX4) (N := 21) hx hb hts hwsX40 hown hK hP 0 rfl rfl 2 (by decide) (hts (.fieldLink RX4 13 "BoxProverModel" "row" "[I") (by decide +kernel)) (fun _ h9 => h9) rfl dX4_row_117 ?_
        refine lv_iload hx hb dX4_row_120 (lv_at hl 0 rfl) ?_
        refine lv_iconst (v := xw_i 1) hx hb dX4_row_122 (by decide) ?_
        refine xw_iadd hx hb dX4_row_123 ?_
        refine lv_iload_n hx hb dX4_row_124 rfl (lv_at hl 5 rfl) ?_
        obtain ⟨hin, h⟩ := h
        obtain ⟨mro_3, emro_3⟩ : ∃ z : Nat → Int, z = xw_u mro_2 (x8 + 1) p3 := ⟨_, rfl⟩
        have h := h mro_3 emro_3
        refine xw_iast (n := 80) hx hb hK hP hD hS 2 1 rfl rfl (by decide) hin emro_3 dX4_row_125 (fun H locs hP hD hS => ?_)
        have hP : va_P (dC, dI) vwCl (wd_X4 qM aM0 aM1 aM2 aM3 aM4 aM5 aM6 aM7 aM8 aM9 aM10 aM11 aM12 kM0 kM1 kM2 kM3 kM4 kM5 kM6 kM7 kM8 kM9 kM10 kM11 kM12 mrw_1 mly mln_1 msp_1 mwh_1 mcl_1 mtr_1 mfo mki_2 mro_3 mlf mli msw msa msc msl mff mlt mgr mxx msu) H := hP
        have hD : va_D A (wd_X4 qM aM0 aM1 aM2 aM3 aM4 aM5 aM6 aM7 aM8 aM9 aM10 aM11 aM12 kM0 kM1 kM2 kM3 kM4 kM5 kM6 kM7 kM8 kM9 kM10 kM11 kM12 mrw_1 mly mln_1 msp_1 mwh_1 mcl_1 mtr_1 mfo mki_2 mro_3 mlf mli msw msa msc msl mff mlt mgr mxx msu) := hD
        refine lv_aload_n hx hb dX4_row_126 rfl (lv_at hl 2 rfl) ?_
        refine va_get (D := (dC, dI)) (ci := 4) (v := .ref aM1) (C := RX4) (T := TX4) (N := 21) hx hb hts hwsX40 hown hK hP 0 rfl rfl 2 (by decide) (hts (.fieldLink RX4 13 "BoxProverModel" "row" "[I") (by decide +kernel)) (fun _ h9 => h9) rfl dX4_row_127 ?_
        refine lv_iload hx hb dX4_row_130 (lv_at hl 0 rfl) ?_
        refine lv_iconst (v := xw_i 2) hx hb dX4_row_132 (by decide) ?_
        refine xw_iadd hx hb dX4_row_133 ?_
        refine lv_iload hx hb dX4_row_134 (lv_at hl 6 rfl) ?_
        obtain ⟨hin, h⟩ := h
        obtain ⟨mro_4, emro_4⟩ : ∃ z : Nat → Int, z = xw_u mro_3 (x8 + 2) p4 := ⟨_, rfl⟩
        have h := h mro_4 emro_4
        refine xw_iast (n := 80) hx hb hK hP hD hS 2 1 rfl rfl (by decide) hin emro_4 dX4_row_136 (fun H locs hP hD hS => ?_)
        have hP : va_P (dC, dI) vwCl (wd_X4 qM aM0 aM1 aM2 aM3 aM4 aM5 aM6 aM7 aM8 aM9 aM10 aM11 aM12 kM0 kM1 kM2 kM3 kM4 kM5 kM6 kM7 kM8 kM9 kM10 kM11 kM12 mrw_1 mly mln_1 msp_1 mwh_1 mcl_1 mtr_1 mfo mki_2 mro_4 mlf mli msw msa msc msl mff mlt mgr mxx msu) H := hP
        have hD : va_D A (wd_X4 qM aM0 aM1 aM2 aM3 aM4 aM5 aM6 aM7 aM8 aM9 aM10 aM11 aM12 kM0 kM1 kM2 kM3 kM4 kM5 kM6 kM7 kM8 kM9 kM10 kM11 kM12 mrw_1 mly mln_1 msp_1 mwh_1 mcl_1 mtr_1 mfo mki_2 mro_4 mlf mli msw msa msc msl mff mlt mgr mxx msu) := hD
        refine lv_aload_n hx hb dX4_row_137 rfl (lv_at hl 2 rfl) ?_
        refine va_get (D := (dC, dI)) (ci := 4) (v := .ref aM1) (C := RX4) (T := TX4) (N := 21) hx hb hts hwsX40 hown hK hP 0 rfl rfl 2 (by decide) (hts (.fieldLink RX4 13 "BoxProverModel" "row" "[I") (by decide +kernel)) (fun _ h9 => h9) rfl dX4_row_138 ?_
        refine lv_iload hx hb dX4_row_141 (lv_at hl 0 rfl) ?_
        refine lv_iconst (v := xw_i 3) hx hb dX4_row_143 (by decide) ?_
        refine xw_iadd hx hb dX4_row_144 ?_
        refine lv_iload hx hb dX4_row_145 (lv_at hl 7 rfl) ?_
        obtain ⟨hin, h⟩ := h
        obtain ⟨mro_5, emro_5⟩ : ∃ z : Nat → Int, z = xw_u mro_4 (x8 + 3) p5 := ⟨_, rfl⟩
        have h := h mro_5 emro_5
        refine xw_iast (n := 80) hx hb hK hP hD hS 2 1 rfl rfl (by decide) hin emro_5 dX4_row_147 (fun H locs hP hD hS => ?_)
        have hP : va_P (dC, dI) vwCl (wd_X4 qM aM0 aM1 aM2 aM3 aM4 aM5 aM6 aM7 aM8 aM9 aM10 aM11 aM12 kM0 kM1 kM2 kM3 kM4 kM5 kM6 kM7 kM8 kM9 kM10 kM11 kM12 mrw_1 mly mln_1 msp_1 mwh_1 mcl_1 mtr_1 mfo mki_2 mro_5 mlf mli msw msa msc msl mff mlt mgr mxx msu) H := hP
        have hD : va_D A (wd_X4 qM aM0 aM1 aM2 aM3 aM4 aM5 aM6 aM7 aM8 aM9 aM10 aM11 aM12 kM0 kM1 kM2 kM3 kM4 kM5 kM6 kM7 kM8 kM9 kM10 kM11 kM12 mrw_1 mly mln_1 msp_1 mwh_1 mcl_1 mtr_1 mfo mki_2 mro_5 mlf mli msw msa msc msl mff mlt mgr mxx msu) := hD
        refine lv_aload_n hx hb dX4_row_148 rfl (lv_at hl 2 rfl) ?_
        refine va_get (D := (dC, dI)) (ci := 4) (v := .ref aM1) (C := RX4) (T := TX4) (N := 21) hx hb hts hwsX40 hown hK hP 0 rfl rfl 2 (by decide) (hts (.fieldLink RX4 13 "BoxProverModel" "row" "[I") (by decide +kernel)) (fun _ h9 => h9) rfl dX4_row_149 ?_
        refine lv_iload hx hb dX4_row_152 (lv_at hl 0 rfl) ?_
        refine lv_iconst (v := xw_i 4) hx hb dX4_row_154 (by decide) ?_
        refine xw_iadd hx hb dX4_row_155 ?_
        refine lv_iload hx hb dX4_row_156 (lv_at hl 8 rfl) ?_
        obtain ⟨hin, h⟩ := h
        obtain ⟨mro_6, emro_6⟩ : ∃ z : Nat → Int, z = xw_u mro_5 (x8 + 4) p6 := ⟨_, rfl⟩
        have h := h mro_6 emro_6
        refine xw_iast (n := 80) hx hb hK hP hD hS 2 1 rfl rfl (by decide) hin emro_6 dX4_row_158 (fun H locs hP hD hS => ?_)
        have hP : va_P (dC, dI) vwCl (wd_X4 qM aM0 aM1 aM2 aM3 aM4 aM5 aM6 aM7 aM8 aM9 aM10 aM11 aM12 kM0 kM1 kM2 kM3 kM4 kM5 kM6 kM7 kM8 kM9 kM10 kM11 kM12 mrw_1 mly mln_1 msp_1 mwh_1 mcl_1 mtr_1 mfo mki_2 mro_6 mlf mli msw msa msc msl mff mlt mgr mxx msu) H := hP
        have hD : va_D A (wd_X4 qM aM0 aM1 aM2 aM3 aM4 aM5 aM6 aM7 aM8 aM9 aM10 aM11 aM12 kM0 kM1 kM2 kM3 kM4 kM5 kM6 kM7 kM8 kM9 kM10 kM11 kM12 mrw_1 mly mln_1 msp_1 mwh_1 mcl_1 mtr_1 mfo mki_2 mro_6 mlf mli msw msa msc msl mff mlt mgr mxx msu) := hD
        refine lv_aload_n hx hb dX4_row_159 rfl (lv_at hl 2 rfl) ?_
        refine lv_dup hx hb dX4_row_160 rfl ?_
        refine va_get (D := (dC, dI)) (ci := 4) (v := .int (xw_i mrw_1)) (C := RX4) (T := TX4) (N := 21) hx hb hts hwsX40 hown hK hP 0 rfl rfl 0 (by decide) (hts (.fieldLink RX4 50 "BoxProverModel" "rows" "I") (by decide +kernel)) (fun _ h9 => h9) rfl dX4_row_161 ?_
        refine lv_iconst (v := xw_i 1) hx hb dX4_row_164 (by decide) ?_
        refine xw_iadd hx hb dX4_row_165 ?_
        refine xw_topi (fun rf erf => ?_)
        have h := h rf erf
        refine va_put (D := (dC, dI)) (ci := 4) (v := .int (xw_i rf)) (ty := .int) (C := RX4) (T := TX4) (N := 21) hx hb hts hwsX40 tyX4 tyX4_ok nmX4 hown hK hP hD hS 0 rfl rfl 0 (by decide) (hts (.fieldLink RX4 50 "BoxProverModel" "rows" "I") (by decide +kernel)) (fun _ h9 => h9) rfl (by decide +kernel) rfl rfl (Nat.le_of_ble_eq_true rfl) dX4_row_166 (fun H locs hP hD hS => ?_)
        have hP : va_P (dC, dI) vwCl (wd_X4 qM aM0 aM1 aM2 aM3 aM4 aM5 aM6 aM7 aM8 aM9 aM10 aM11 aM12 kM0 kM1 kM2 kM3 kM4 kM5 kM6 kM7 kM8 kM9 kM10 kM11 kM12 rf mly mln_1 msp_1 mwh_1 mcl_1 mtr_1 mfo mki_2 mro_6 mlf mli msw msa msc msl mff mlt mgr mxx msu) H := hP
        have hD : va_D A (wd_X4 qM aM0 aM1 aM2 aM3 aM4 aM5 aM6 aM7 aM8 aM9 aM10 aM11 aM12 kM0 kM1 kM2 kM3 kM4 kM5 kM6 kM7 kM8 kM9 kM10 kM11 kM12 rf mly mln_1 msp_1 mwh_1 mcl_1 mtr_1 mfo mki_2 mro_6 mlf mli msw msa msc msl mff mlt mgr mxx msu) := hD
        refine lv_aload_n hx hb dX4_row_169 rfl (lv_at hl 2 rfl) ?_
        refine xw_backv (wc := (wd_X4 qM aM0 aM1 aM2 aM3 aM4 aM5 aM6 aM7 aM8 aM9 aM10 aM11 aM12 kM0 kM1 kM2 kM3 kM4 kM5 kM6 kM7 kM8 kM9 kM10 kM11 kM12 rf mly mln_1 msp_1 mwh_1 mcl_1 mtr_1 mfo mki_2 mro_6 mlf mli msw msa msc msl mff mlt mgr mxx msu)) (wr := []) (va_runV (As := []) (rest := []) ⟨hx, hb, hml, hown, hts⟩ (c_X4_changed l dC dI qM aM0 aM1 aM2 aM3 aM4 aM5 aM6 aM7 aM8 aM9 aM10 aM11 aM12 kM0 kM1 kM2 kM3 kM4 kM5 kM6 kM7 kM8 kM9 kM10 kM11 kM12 H.size rf mly mln_1 msp_1 mwh_1 mcl_1 mtr_1 mfo mki_2 mro_6 mlf mli msw msa msc msl mff mlt mgr mxx msu _ h) (cwV 0 hts gX4_row_X4_changed rfl rfl rfl (by decide +kernel) ⟨Nat.le_of_ble_eq_true rfl, Nat.le_of_ble_eq_true rfl⟩) (xw_preV (ci := 4) hK hP hD [0, 1, 2, 3, 4, 5, 6, 7, 8, 9, 10, 11, 12, 13] rfl rfl (by decide) [0, 1, 2, 3, 4, 5, 6, 7, 8, 9, 10, 11, 12] rfl rfl rfl) rfl rfl hl.1 rfl (lv_room (Nat.le_of_ble_eq_true rfl)) dX4_row_170 ⟨Nat.le_of_ble_eq_true rfl, Nat.le_of_ble_eq_true rfl⟩) hK hP hD hS hA [0, 1, 2, 3, 4, 5, 6, 7, 8, 9, 10, 11, 12, 13] [] rfl rfl (by decide) (by decide) (fun u H locs h hP hD hK2 hS => ?_)
        obtain ⟨mln_2, msp_2, mwh_2, mcl_2, mtr_2⟩ := u
        try dsimp only at h
        have hP : va_P (dC, dI) vwCl (wd_X4 qM aM0 aM1 aM2 aM3 aM4 aM5 aM6 aM7 aM8 aM9 aM10 aM11 aM12 kM0 kM1 kM2 kM3 kM4 kM5 kM6 kM7 kM8 kM9 kM10 kM11 kM12 rf mly mln_2 msp_2 mwh_2 mcl_2 mtr_2 mfo mki_2 mro_6 mlf mli msw msa msc msl mff mlt mgr mxx msu) H := hP
        have hD : va_D A (wd_X4 qM aM0 aM1 aM2 aM3 aM4 aM5 aM6 aM7 aM8 aM9 aM10 aM11 aM12 kM0 kM1 kM2 kM3 kM4 kM5 kM6 kM7 kM8 kM9 kM10 kM11 kM12 rf mly mln_2 msp_2 mwh_2 mcl_2 mtr_2 mfo mki_2 mro_6 mlf mli msw msa msc msl mff mlt mgr mxx msu) := hD
        refine lv_aload_n hx hb dX4_row_173 rfl (lv_at hl 2 rfl) ?_
        refine va_get (D := (dC, dI)) (ci := 4) (v := .int (xw_i rf)) (C := RX4) (T := TX4) (N := 21) hx hb hts hwsX40 hown hK hP 0 rfl rfl 0 (by decide) (hts (.fieldLink RX4 50 "BoxProverModel" "rows" "I") (by decide +kernel)) (fun _ h9 => h9) rfl dX4_row_174 ?_
        refine lv_iconst (v := xw_i 1) hx hb dX4_row_177 (by decide) ?_
        refine xw_isub hx hb dX4_row_178 ?_
        exact hret _ _ _ _ (rf - 1) (rf, mln_2, msp_2, mwh_2, mcl_2, mtr_2, mki_2, mro_6) dX4_row_179 h hP hD hK hS
      · have h := h.1 hcd
        refine lv_iconst (v := xw_i (-1)) hx hb dX4_row_88 (by decide) ?_
        exact hret _ _ _ _ (-1) (mrw_1, mln_1, msp_1, mwh_1, mcl_1, mtr_1, mki_1, mro_1) dX4_row_89 h hP hD hK hS
  have k_71 : ∀ (mrw_2 : Int) (mln_3 : Int) (msp_3 : Int) (mwh_3 : Int) (mcl_3 : Int) (mtr_3 : Int) (mki_3 : Nat → Int) (mro_7 : Nat → Int) (H : Heap) (locs : List Loc) (ls : Array Slot), wp_X4_row_71 p1 p2 p3 p4 p5 p6 mly mfo mlf mli msw msa msc msl mff mlt mgr mxx msu post mrw_2 mln_3 msp_3 mwh_3 mcl_3 mtr_3 mki_3 mro_7 → va_P (dC, dI) vwCl (wd_X4 qM aM0 aM1 aM2 aM3 aM4 aM5 aM6 aM7 aM8 aM9 aM10 aM11 aM12 kM0 kM1 kM2 kM3 kM4 kM5 kM6 kM7 kM8 kM9 kM10 kM11 kM12 mrw_2 mly mln_3 msp_3 mwh_3 mcl_3 mtr_3 mfo mki_3 mro_7 mlf mli msw msa msc msl mff mlt mgr mxx msu) H → va_D A (wd_X4 qM aM0 aM1 aM2 aM3 aM4 aM5 aM6 aM7 aM8 aM9 aM10 aM11 aM12 kM0 kM1 kM2 kM3 kM4 kM5 kM6 kM7 kM8 kM9 kM10 kM11 kM12 mrw_2 mly mln_3 msp_3 mwh_3 mcl_3 mtr_3 mfo mki_3 mro_7 mlf mli msw msa msc msl mff mlt mgr mxx msu) → va_S A s.heap H locs → lv_has ls 9 [(0, .ref qM), (1, .int (xw_i p1)), (2, .int (xw_i p2)), (3, .int (xw_i p3)), (4, .int (xw_i p4)), (5, .int (xw_i p5)), (6, .int (xw_i p6))] → W p l e ({ frames := 1, cells := 0, slots := 0, locals := 23 } : Room) s m args below meth c H locs 0 0 Q (F0 m 71 ls []) := by
    intro mrw_2 mln_3 msp_3 mwh_3 mcl_3 mtr_3 mki_3 mro_7 H locs ls h hP hD hS hl
    unfold wp_X4_row_71 at h
    refine lv_iconst (v := xw_i 0) hx hb dX4_row_71 (by decide) ?_
    exact k_72 mrw_2 mln_3 msp_3 mwh_3 mcl_3 mtr_3 mki_3 mro_7 0 _ _ _ h hP hD hS (lv_sub hl [0, 1, 2, 3, 4, 5, 6] rfl)
  obtain ⟨hr3, h⟩ := h
  refine xw_if_lt (tgt := 71) hx hb hr3 dX4_row_1 (by decide) (fun hcd => ?_) (fun hcd => ?_)
  · have h := h.1 hcd
    exact k_71 mrw mln msp mwh mcl mtr mki mro _ _ _ h hP hD hS (lv_sub hl [0, 1, 2, 3, 4, 5, 6] rfl)
  · have h := h.2 hcd
    refine lv_iload_n hx hb dX4_row_4 rfl (lv_at hl 1 rfl) ?_
    refine lv_iconst (v := xw_i 1) hx hb dX4_row_5 (by decide) ?_
    refine xw_icmp_gt (tgt := 71) hx hb ⟨hr3, ⟨by decide, by decide⟩⟩ dX4_row_6 (by decide) (fun hcd => ?_) (fun hcd => ?_)
    · have h := h.1 hcd
      exact k_71 mrw mln msp mwh mcl mtr mki mro _ _ _ h hP hD hS (lv_sub hl [0, 1, 2, 3, 4, 5, 6] rfl)
    · have h := h.2 hcd
      refine lv_iload_n hx hb dX4_row_9 rfl (lv_at hl 2 rfl) ?_
      obtain ⟨hr4, h⟩ := h
      refine xw_i2l hx hb hr4 dX4_row_10 ?_
      refine lv_ldc2 (v := xw_j 99) hx hb hown (hts (.constantLong RX4 70 (xw_j 99)) (by decide +kernel)) dX4_row_11 ?_
      refine xw_backi (wc := []) (wr := [(qM, .inr (4, [.int (xw_i mrw), .ref aM0, .ref aM1, .int (xw_i mly), .ref aM2, .int (xw_i mln), .ref aM3, .int (xw_i msp), .ref aM4, .ref aM5, .ref aM6, .ref aM7, .int (xw_i mwh), .int (xw_i mcl), .int (xw_i mtr), .int (xw_i mfo), .ref aM8, .ref aM9, .ref aM10, .ref aM11, .ref aM12])), (aM0, .inl (kM0, 16, .inl (xw_a mki))), (aM1, .inl (kM1, 80, .inl (xw_a mro))), (aM2, .inl (kM2, 8, .inl (xw_a mlf))), (aM3, .inl (kM3, 1000, .inr (.inl (xw_b mli)))), (aM4, .inl (kM4, 10, .inl (xw_a msw))), (aM5, .inl (kM5, 10, .inl (xw_a msa))), (aM6, .inl (kM6, 10, .inl (xw_a msc))), (aM7, .inl (kM7, 10, .inl (xw_a msl))), (aM8, .inl (kM8, 4, .inl (xw_a mff))), (aM9, .inl (kM9, 4, .inl (xw_a mlt))), (aM10, .inl (kM10, 4, .inl (xw_a mgr))), (aM11, .inl (kM11, 4, .inl (xw_a mxx))), (aM12, .inl (kM12, 16, .inl (xw_a msu)))]) (va_runS (As := [.long (xw_j p2), .long (xw_j 99)]) (rest := []) ⟨hx, hb, hml, hown, hts⟩ (c_X4_isIn l dC dI s.heap.size p2 99 _ h) (va_cwS 2 hts gX4_row_X4_isIn rfl rfl rfl (by decide +kernel) ⟨Nat.le_of_ble_eq_true rfl, Nat.le_of_ble_eq_true rfl⟩) (xw_preS hK hP hD [] rfl rfl (by decide) [] rfl) rfl rfl hl.1 rfl (lv_room (Nat.le_of_ble_eq_true rfl)) dX4_row_14 ⟨Nat.le_of_ble_eq_true rfl, Nat.le_of_ble_eq_true rfl⟩) hK hP hD hS hA [] [0, 1, 2, 3, 4, 5, 6, 7, 8, 9, 10, 11, 12, 13] rfl rfl (by decide) (by decide) (fun r u H locs h hP hD hK2 hS => ?_)
      try dsimp only at h
      have hP : va_P (dC, dI) vwCl (wd_X4 qM aM0 aM1 aM2 aM3 aM4 aM5 aM6 aM7 aM8 aM9 aM10 aM11 aM12 kM0 kM1 kM2 kM3 kM4 kM5 kM6 kM7 kM8 kM9 kM10 kM11 kM12 mrw mly mln msp mwh mcl mtr mfo mki mro mlf mli msw msa msc msl mff mlt mgr mxx msu) H := hP
      have hD : va_D A (wd_X4 qM aM0 aM1 aM2 aM3 aM4 aM5 aM6 aM7 aM8 aM9 aM10 aM11 aM12 kM0 kM1 kM2 kM3 kM4 kM5 kM6 kM7 kM8 kM9 kM10 kM11 kM12 mrw mly mln msp mwh mcl mtr mfo mki mro mlf mli msw msa msc msl mff mlt mgr mxx msu) := hD
      obtain ⟨hr5, h⟩ := h
      refine xw_if_eq (tgt := 71) hx hb hr5 dX4_row_17 (by decide) (fun hcd => ?_) (fun hcd => ?_)
      · have h := h.1 hcd
        exact k_71 mrw mln msp mwh mcl mtr mki mro _ _ _ h hP hD hS (lv_sub hl [0, 1, 2, 3, 4, 5, 6] rfl)
      · have h := h.2 hcd
        refine lv_iload_n hx hb dX4_row_20 rfl (lv_at hl 3 rfl) ?_
        obtain ⟨hr6, h⟩ := h
        refine xw_i2l hx hb hr6 dX4_row_21 ?_
        refine lv_ldc2 (v := xw_j 99) hx hb hown (hts (.constantLong RX4 70 (xw_j 99)) (by decide +kernel)) dX4_row_22 ?_
        refine xw_backi (wc := []) (wr := [(qM, .inr (4, [.int (xw_i mrw), .ref aM0, .ref aM1, .int (xw_i mly), .ref aM2, .int (xw_i mln), .ref aM3, .int (xw_i msp), .ref aM4, .ref aM5, .ref aM6, .ref aM7, .int (xw_i mwh), .int (xw_i mcl), .int (xw_i mtr), .int (xw_i mfo), .ref aM8, .ref aM9, .ref aM10, .ref aM11, .ref aM12])), (aM0, .inl (kM0, 16, .inl (xw_a mki))), (aM1, .inl (kM1, 80, .inl (xw_a mro))), (aM2, .inl (kM2, 8, .inl (xw_a mlf))), (aM3, .inl (kM3, 1000, .inr (.inl (xw_b mli)))), (aM4, .inl (kM4, 10, .inl (xw_a msw))), (aM5, .inl (kM5, 10, .inl (xw_a msa))), (aM6, .inl (kM6, 10, .inl (xw_a msc))), (aM7, .inl (kM7, 10, .inl (xw_a msl))), (aM8, .inl (kM8, 4, .inl (xw_a mff))), (aM9, .inl (kM9, 4, .inl (xw_a mlt))), (aM10, .inl (kM10, 4, .inl (xw_a mgr))), (aM11, .inl (kM11, 4, .inl (xw_a mxx))), (aM12, .inl (kM12, 16, .inl (xw_a msu)))]) (va_runS (As := [.long (xw_j p3), .long (xw_j 99)]) (rest := []) ⟨hx, hb, hml, hown, hts⟩ (c_X4_isIn l dC dI H.size p3 99 _ h) (va_cwS 2 hts gX4_row_X4_isIn rfl rfl rfl (by decide +kernel) ⟨Nat.le_of_ble_eq_true rfl, Nat.le_of_ble_eq_true rfl⟩) (xw_preS hK hP hD [] rfl rfl (by decide) [] rfl) rfl rfl hl.1 rfl (lv_room (Nat.le_of_ble_eq_true rfl)) dX4_row_25 ⟨Nat.le_of_ble_eq_true rfl, Nat.le_of_ble_eq_true rfl⟩) hK hP hD hS hA [] [0, 1, 2, 3, 4, 5, 6, 7, 8, 9, 10, 11, 12, 13] rfl rfl (by decide) (by decide) (fun r_1 u H locs h hP hD hK2 hS => ?_)
        try dsimp only at h
        have hP : va_P (dC, dI) vwCl (wd_X4 qM aM0 aM1 aM2 aM3 aM4 aM5 aM6 aM7 aM8 aM9 aM10 aM11 aM12 kM0 kM1 kM2 kM3 kM4 kM5 kM6 kM7 kM8 kM9 kM10 kM11 kM12 mrw mly mln msp mwh mcl mtr mfo mki mro mlf mli msw msa msc msl mff mlt mgr mxx msu) H := hP
        have hD : va_D A (wd_X4 qM aM0 aM1 aM2 aM3 aM4 aM5 aM6 aM7 aM8 aM9 aM10 aM11 aM12 kM0 kM1 kM2 kM3 kM4 kM5 kM6 kM7 kM8 kM9 kM10 kM11 kM12 mrw mly mln msp mwh mcl mtr mfo mki mro mlf mli msw msa msc msl mff mlt mgr mxx msu) := hD
        obtain ⟨hr7, h⟩ := h
        refine xw_if_eq (tgt := 71) hx hb hr7 dX4_row_28 (by decide) (fun hcd => ?_) (fun hcd => ?_)
        · have h := h.1 hcd
          exact k_71 mrw mln msp mwh mcl mtr mki mro _ _ _ h hP hD hS (lv_sub hl [0, 1, 2, 3, 4, 5, 6] rfl)
        · have h := h.2 hcd
          refine lv_iload hx hb dX4_row_31 (lv_at hl 4 rfl) ?_
          obtain ⟨hr8, h⟩ := h
          refine xw_i2l hx hb hr8 dX4_row_33 ?_
          refine lv_ldc2 (v := xw_j 99) hx hb hown (hts (.constantLong RX4 70 (xw_j 99)) (by decide +kernel)) dX4_row_34 ?_
          refine xw_backi (wc := []) (wr := [(qM, .inr (4, [.int (xw_i mrw), .ref aM0, .ref aM1, .int (xw_i mly), .ref aM2, .int (xw_i mln), .ref aM3, .int (xw_i msp), .ref aM4, .ref aM5, .ref aM6, .ref aM7, .int (xw_i mwh), .int (xw_i mcl), .int (xw_i mtr), .int (xw_i mfo), .ref aM8, .ref aM9, .ref aM10, .ref aM11, .ref aM12])), (aM0, .inl (kM0, 16, .inl (xw_a mki))), (aM1, .inl (kM1, 80, .inl (xw_a mro))), (aM2, .inl (kM2, 8, .inl (xw_a mlf))), (aM3, .inl (kM3, 1000, .inr (.inl (xw_b mli)))), (aM4, .inl (kM4, 10, .inl (xw_a msw))), (aM5, .inl (kM5, 10, .inl (xw_a msa))), (aM6, .inl (kM6, 10, .inl (xw_a msc))), (aM7, .inl (kM7, 10, .inl (xw_a msl))), (aM8, .inl (kM8, 4, .inl (xw_a mff))), (aM9, .inl (kM9, 4, .inl (xw_a mlt))), (aM10, .inl (kM10, 4, .inl (xw_a mgr))), (aM11, .inl (kM11, 4, .inl (xw_a mxx))), (aM12, .inl (kM12, 16, .inl (xw_a msu)))]) (va_runS (As := [.long (xw_j p4), .long (xw_j 99)]) (rest := []) ⟨hx, hb, hml, hown, hts⟩ (c_X4_isIn l dC dI H.size p4 99 _ h) (va_cwS 2 hts gX4_row_X4_isIn rfl rfl rfl (by decide +kernel) ⟨Nat.le_of_ble_eq_true rfl, Nat.le_of_ble_eq_true rfl⟩) (xw_preS hK hP hD [] rfl rfl (by decide) [] rfl) rfl rfl hl.1 rfl (lv_room (Nat.le_of_ble_eq_true rfl)) dX4_row_37 ⟨Nat.le_of_ble_eq_true rfl, Nat.le_of_ble_eq_true rfl⟩) hK hP hD hS hA [] [0, 1, 2, 3, 4, 5, 6, 7, 8, 9, 10, 11, 12, 13] rfl rfl (by decide) (by decide) (fun r_2 u H locs h hP hD hK2 hS => ?_)
          try dsimp only at h
          have hP : va_P (dC, dI) vwCl (wd_X4 qM aM0 aM1 aM2 aM3 aM4 aM5 aM6 aM7 aM8 aM9 aM10 aM11 aM12 kM0 kM1 kM2 kM3 kM4 kM5 kM6 kM7 kM8 kM9 kM10 kM11 kM12 mrw mly mln msp mwh mcl mtr mfo mki mro mlf mli msw msa msc msl mff mlt mgr mxx msu) H := hP
          have hD : va_D A (wd_X4 qM aM0 aM1 aM2 aM3 aM4 aM5 aM6 aM7 aM8 aM9 aM10 aM11 aM12 kM0 kM1 kM2 kM3 kM4 kM5 kM6 kM7 kM8 kM9 kM10 kM11 kM12 mrw mly mln msp mwh mcl mtr mfo mki mro mlf mli msw msa msc msl mff mlt mgr mxx msu) := hD
          obtain ⟨hr9, h⟩ := h
          refine xw_if_eq (tgt := 71) hx hb hr9 dX4_row_40 (by decide) (fun hcd => ?_) (fun hcd => ?_)
          · have h := h.1 hcd
            exact k_71 mrw mln msp mwh mcl mtr mki mro _ _ _ h hP hD hS (lv_sub hl [0, 1, 2, 3, 4, 5, 6] rfl)
          · have h := h.2 hcd
            refine lv_iload hx hb dX4_row_43 (lv_at hl 5 rfl) ?_
            obtain ⟨hr10, h⟩ := h
            refine xw_i2l hx hb hr10 dX4_row_45 ?_
            refine lv_ldc2 (v := xw_j 99) hx hb hown (hts (.constantLong RX4 70 (xw_j 99)) (by decide +kernel)) dX4_row_46 ?_
            refine xw_backi (wc := []) (wr := [(qM, .inr (4, [.int (xw_i mrw), .ref aM0, .ref aM1, .int (xw_i mly), .ref aM2, .int (xw_i mln), .ref aM3, .int (xw_i msp), .ref aM4, .ref aM5, .ref aM6, .ref aM7, .int (xw_i mwh), .int (xw_i mcl), .int (xw_i mtr), .int (xw_i mfo), .ref aM8, .ref aM9, .ref aM10, .ref aM11, .ref aM12])), (aM0, .inl (kM0, 16, .inl (xw_a mki))), (aM1, .inl (kM1, 80, .inl (xw_a mro))), (aM2, .inl (kM2, 8, .inl (xw_a mlf))), (aM3, .inl (kM3, 1000, .inr (.inl (xw_b mli)))), (aM4, .inl (kM4, 10, .inl (xw_a msw))), (aM5, .inl (kM5, 10, .inl (xw_a msa))), (aM6, .inl (kM6, 10, .inl (xw_a msc))), (aM7, .inl (kM7, 10, .inl (xw_a msl))), (aM8, .inl (kM8, 4, .inl (xw_a mff))), (aM9, .inl (kM9, 4, .inl (xw_a mlt))), (aM10, .inl (kM10, 4, .inl (xw_a mgr))), (aM11, .inl (kM11, 4, .inl (xw_a mxx))), (aM12, .inl (kM12, 16, .inl (xw_a msu)))]) (va_runS (As := [.long (xw_j p5), .long (xw_j 99)]) (rest := []) ⟨hx, hb, hml, hown, hts⟩ (c_X4_isIn l dC dI H.size p5 99 _ h) (va_cwS 2 hts gX4_row_X4_isIn rfl rfl rfl (by decide +kernel) ⟨Nat.le_of_ble_eq_true rfl, Nat.le_of_ble_eq_true rfl⟩) (xw_preS hK hP hD [] rfl rfl (by decide) [] rfl) rfl rfl hl.1 rfl (lv_room (Nat.le_of_ble_eq_true rfl)) dX4_row_49 ⟨Nat.le_of_ble_eq_true rfl, Nat.le_of_ble_eq_true rfl⟩) hK hP hD hS hA [] [0, 1, 2, 3, 4, 5, 6, 7, 8, 9, 10, 11, 12, 13] rfl rfl (by decide) (by decide) (fun r_3 u H locs h hP hD hK2 hS => ?_)
            try dsimp only at h
            have hP : va_P (dC, dI) vwCl (wd_X4 qM aM0 aM1 aM2 aM3 aM4 aM5 aM6 aM7 aM8 aM9 aM10 aM11 aM12 kM0 kM1 kM2 kM3 kM4 kM5 kM6 kM7 kM8 kM9 kM10 kM11 kM12 mrw mly mln msp mwh mcl mtr mfo mki mro mlf mli msw msa msc msl mff mlt mgr mxx msu) H := hP
            have hD : va_D A (wd_X4 qM aM0 aM1 aM2 aM3 aM4 aM5 aM6 aM7 aM8 aM9 aM10 aM11 aM12 kM0 kM1 kM2 kM3 kM4 kM5 kM6 kM7 kM8 kM9 kM10 kM11 kM12 mrw mly mln msp mwh mcl mtr mfo mki mro mlf mli msw msa msc msl mff mlt mgr mxx msu) := hD
            obtain ⟨hr11, h⟩ := h
            refine xw_if_eq (tgt := 71) hx hb hr11 dX4_row_52 (by decide) (fun hcd => ?_) (fun hcd => ?_)
            · have h := h.1 hcd
              exact k_71 mrw mln msp mwh mcl mtr mki mro _ _ _ h hP hD hS (lv_sub hl [0, 1, 2, 3, 4, 5, 6] rfl)
            · have h := h.2 hcd
              refine lv_iload hx hb dX4_row_55 (lv_at hl 6 rfl) ?_
              obtain ⟨hr12, h⟩ := h
              refine xw_i2l hx hb hr12 dX4_row_57 ?_
              refine lv_ldc2 (v := xw_j 9999) hx hb hown (hts (.constantLong RX4 76 (xw_j 9999)) (by decide +kernel)) dX4_row_58 ?_
              refine xw_backi (wc := []) (wr := [(qM, .inr (4, [.int (xw_i mrw), .ref aM0, .ref aM1, .int (xw_i mly), .ref aM2, .int (xw_i mln), .ref aM3, .int (xw_i msp), .ref aM4, .ref aM5, .ref aM6, .ref aM7, .int (xw_i mwh), .int (xw_i mcl), .int (xw_i mtr), .int (xw_i mfo), .ref aM8, .ref aM9, .ref aM10, .ref aM11, .ref aM12])), (aM0, .inl (kM0, 16, .inl (xw_a mki))), (aM1, .inl (kM1, 80, .inl (xw_a mro))), (aM2, .inl (kM2, 8, .inl (xw_a mlf))), (aM3, .inl (kM3, 1000, .inr (.inl (xw_b mli)))), (aM4, .inl (kM4, 10, .inl (xw_a msw))), (aM5, .inl (kM5, 10, .inl (xw_a msa))), (aM6, .inl (kM6, 10, .inl (xw_a msc))), (aM7, .inl (kM7, 10, .inl (xw_a msl))), (aM8, .inl (kM8, 4, .inl (xw_a mff))), (aM9, .inl (kM9, 4, .inl (xw_a mlt))), (aM10, .inl (kM10, 4, .inl (xw_a mgr))), (aM11, .inl (kM11, 4, .inl (xw_a mxx))), (aM12, .inl (kM12, 16, .inl (xw_a msu)))]) (va_runS (As := [.long (xw_j p6), .long (xw_j 9999)]) (rest := []) ⟨hx, hb, hml, hown, hts⟩ (c_X4_isIn l dC dI H.size p6 9999 _ h) (va_cwS 2 hts gX4_row_X4_isIn rfl rfl rfl (by decide +kernel) ⟨Nat.le_of_ble_eq_true rfl, Nat.le_of_ble_eq_true rfl⟩) (xw_preS hK hP hD [] rfl rfl (by decide) [] rfl) rfl rfl hl.1 rfl (lv_room (Nat.le_of_ble_eq_true rfl)) dX4_row_61 ⟨Nat.le_of_ble_eq_true rfl, Nat.le_of_ble_eq_true rfl⟩) hK hP hD hS hA [] [0, 1, 2, 3, 4, 5, 6, 7, 8, 9, 10, 11, 12, 13] rfl rfl (by decide) (by decide) (fun r_4 u H locs h hP hD hK2 hS => ?_)
              try dsimp only at h
              have hP : va_P (dC, dI) vwCl (wd_X4 qM aM0 aM1 aM2 aM3 aM4 aM5 aM6 aM7 aM8 aM9 aM10 aM11 aM12 kM0 kM1 kM2 kM3 kM4 kM5 kM6 kM7 kM8 kM9 kM10 kM11 kM12 mrw mly mln msp mwh mcl mtr mfo mki mro mlf mli msw msa msc msl mff mlt mgr mxx msu) H := hP
              have hD : va_D A (wd_X4 qM aM0 aM1 aM2 aM3 aM4 aM5 aM6 aM7 aM8 aM9 aM10 aM11 aM12 kM0 kM1 kM2 kM3 kM4 kM5 kM6 kM7 kM8 kM9 kM10 kM11 kM12 mrw mly mln msp mwh mcl mtr mfo mki mro mlf mli msw msa msc msl mff mlt mgr mxx msu) := hD
              obtain ⟨hr13, h⟩ := h
              refine xw_if_eq (tgt := 71) hx hb hr13 dX4_row_64 (by decide) (fun hcd => ?_) (fun hcd => ?_)
              · have h := h.1 hcd
                exact k_71 mrw mln msp mwh mcl mtr mki mro _ _ _ h hP hD hS (lv_sub hl [0, 1, 2, 3, 4, 5, 6] rfl)
              · have h := h.2 hcd
                refine lv_iconst (v := xw_i 1) hx hb dX4_row_67 (by decide) ?_
                refine lv_goto (tgt := 72) hx hb dX4_row_68 (by decide) ?_
                exact k_72 mrw mln msp mwh mcl mtr mki mro 1 _ _ _ h hP hD hS (lv_sub hl [0, 1, 2, 3, 4, 5, 6] rfl)
set_option maxHeartbeats 4000000 in
set_option maxRecDepth 100000 in
theorem c_X4_push (l : Launch) (dC : Nat → ClassId) (dI : Nat → Nat → Nat) (qM aM0 aM1 aM2 aM3 aM4 aM5 aM6 aM7 aM8 aM9 aM10 aM11 aM12 : Nat) (kM0 kM1 kM2 kM3 kM4 kM5 kM6 kM7 kM8 kM9 kM10 kM11 kM12 : ClassId) (sz : Nat) (mrw : Int) (mly : Int) (mln : Int) (msp : Int) (mwh : Int) (mcl : Int) (mtr : Int) (mfo : Int) (mki : Nat → Int) (mro : Nat → Int) (mlf : Nat → Int) (mli : Nat → Int) (msw : Nat → Int) (msa : Nat → Int) (msc : Nat → Int) (msl : Nat → Int) (mff : Nat → Int) (mlt : Nat → Int) (mgr : Nat → Int) (mxx : Nat → Int) (msu : Nat → Int) (post : Int → Int → Int → Int → Int → Int → Int → (Nat → Int) → Prop) (h : wp_X4_push post mrw mly mln msp mwh mcl mtr mfo mki mro mlf mli msw msa msc msl mff mlt mgr mxx msu) : Met l yX4_push wsX4_push ({ frames := 1, cells := 0, slots := 0, locals := 20 }) (va_Pc [.ref qM] (xw_Pre (dC, dI) vwCl (wd_X4 qM aM0 aM1 aM2 aM3 aM4 aM5 aM6 aM7 aM8 aM9 aM10 aM11 aM12 kM0 kM1 kM2 kM3 kM4 kM5 kM6 kM7 kM8 kM9 kM10 kM11 kM12 mrw mly mln msp mwh mcl mtr mfo mki mro mlf mli msw msa msc msl mff mlt mgr mxx msu) [(kM0, .int), (kM1, .int), (kM2, .int), (kM3, .long), (kM4, .int), (kM5, .int), (kM6, .int), (kM7, .int), (kM8, .int), (kM9, .int), (kM10, .int), (kM11, .int), (kM12, .int)] sz)) (va_Qi (xw_pi (fun v (u : Int × Int × Int × Int × Int × Int × (Nat → Int)) => post v u.1 u.2.1 u.2.2.1 u.2.2.2.1 u.2.2.2.2.1 u.2.2.2.2.2.1 u.2.2.2.2.2.2)) (xw_B (dC, dI) vwCl (fun (_ : Int × Int × Int × Int × Int × Int × (Nat → Int)) => [(kM0, .int), (kM1, .int), (kM2, .int), (kM3, .long), (kM4, .int), (kM5, .int), (kM6, .int), (kM7, .int), (kM8, .int), (kM9, .int), (kM10, .int), (kM11, .int), (kM12, .int)]) (va_A (wd_X4 qM aM0 aM1 aM2 aM3 aM4 aM5 aM6 aM7 aM8 aM9 aM10 aM11 aM12 kM0 kM1 kM2 kM3 kM4 kM5 kM6 kM7 kM8 kM9 kM10 kM11 kM12 mrw mly mln msp mwh mcl mtr mfo mki mro mlf mli msw msa msc msl mff mlt mgr mxx msu) sz) (fun (u : Int × Int × Int × Int × Int × Int × (Nat → Int)) => (wd_X4 qM aM0 aM1 aM2 aM3 aM4 aM5 aM6 aM7 aM8 aM9 aM10 aM11 aM12 kM0 kM1 kM2 kM3 kM4 kM5 kM6 kM7 kM8 kM9 kM10 kM11 kM12 mrw u.1 u.2.1 u.2.2.1 u.2.2.2.1 u.2.2.2.2.1 u.2.2.2.2.2.1 mfo mki mro u.2.2.2.2.2.2 mli msw msa msc msl mff mlt mgr mxx msu))) (va_A (wd_X4 qM aM0 aM1 aM2 aM3 aM4 aM5 aM6 aM7 aM8 aM9 aM10 aM11 aM12 kM0 kM1 kM2 kM3 kM4 kM5 kM6 kM7 kM8 kM9 kM10 kM11 kM12 mrw mly mln msp mwh mcl mtr mfo mki mro mlf mli msw msa msc msl mff mlt mgr mxx msu) sz)) 0 0 (va_A (wd_X4 qM aM0 aM1 aM2 aM3 aM4 aM5 aM6 aM7 aM8 aM9 aM10 aM11 aM12 kM0 kM1 kM2 kM3 kM4 kM5 kM6 kM7 kM8 kM9 kM10 kM11 kM12 mrw mly mln msp mwh mcl mtr mfo mki mro mlf mli msw msa msc msl mff mlt mgr mxx msu) sz) := by
  refine xw_ofI (cc := cX4_push) (maxL := 1) (by decide +kernel) rfl (Nat.le_of_ble_eq_true rfl) ?_
  intro p e s m args below meth c hx hb hml hown hts A hA hP hD hK Q hret ls hl hS
  have hl : lv_has ls 1 [(0, .ref qM)] := hl
  have hwsX40 : ∀ w ∈ wsX40, w ∈ wsX4_push := fun _ h => List.mem_cons_of_mem _ (List.mem_append_right _ h)
  unfold wp_X4_push at h
  refine lv_aload_n hx hb dX4_push_0 rfl (lv_at hl 0 rfl) ?_
  refine va_get (D := (dC, dI)) (ci := 4) (v := .int (xw_i mly)) (C := RX4) (T := TX4) (N := 21) hx hb hts hwsX40 hown hK hP 0 rfl rfl 3 (by decide) (hts (.fieldLink RX4 81 "BoxProverModel" "layers" "I") (by decide +kernel)) (fun _ h9 => h9) rfl dX4_push_1 ?_
  refine lv_bipush (v := xw_i 8) hx hb dX4_push_4 (by decide) ?_
  obtain ⟨hr1, h⟩ := h
  refine xw_icmp_ne (tgt := 11) hx hb ⟨hr1, ⟨by decide, by decide⟩⟩ dX4_push_6 (by decide) (fun hcd => ?_) (fun hcd => ?_)
  · have h := h.2 hcd
    refine lv_aload_n hx hb dX4_push_11 rfl (lv_at hl 0 rfl) ?_
    refine va_get (D := (dC, dI)) (ci := 4) (v := .ref aM2) (C := RX4) (T := TX4) (N := 21) hx hb hts hwsX40 hown hK hP 0 rfl rfl 4 (by decide) (hts (.fieldLink RX4 16 "BoxProverModel" "layerFrom" "[I") (by decide +kernel)) (fun _ h9 => h9) rfl dX4_push_12 ?_
    refine lv_aload_n hx hb dX4_push_15 rfl (lv_at hl 0 rfl) ?_
    refine va_get (D := (dC, dI)) (ci := 4) (v := .int (xw_i mly)) (C := RX4) (T := TX4) (N := 21) hx hb hts hwsX40 hown hK hP 0 rfl rfl 3 (by decide) (hts (.fieldLink RX4 81 "BoxProverModel" "layers" "I") (by decide +kernel)) (fun _ h9 => h9) rfl dX4_push_16 ?_
    refine lv_aload_n hx hb dX4_push_19 rfl (lv_at hl 0 rfl) ?_
    refine va_get (D := (dC, dI)) (ci := 4) (v := .int (xw_i mrw)) (C := RX4) (T := TX4) (N := 21) hx hb hts hwsX40 hown hK hP 0 rfl rfl 0 (by decide) (hts (.fieldLink RX4 50 "BoxProverModel" "rows" "I") (by decide +kernel)) (fun _ h9 => h9) rfl dX4_push_20 ?_
    obtain ⟨hin, h⟩ := h
    obtain ⟨mlf_1, emlf_1⟩ : ∃ z : Nat → Int, z = xw_u mlf mly mrw := ⟨_, rfl⟩
    have h := h mlf_1 emlf_1
    refine xw_iast (n := 8) hx hb hK hP hD hS 3 2 rfl rfl (by decide) hin emlf_1 dX4_push_23 (fun H locs hP hD hS => ?_)
    have hP : va_P (dC, dI) vwCl (wd_X4 qM aM0 aM1 aM2 aM3 aM4 aM5 aM6 aM7 aM8 aM9 aM10 aM11 aM12 kM0 kM1 kM2 kM3 kM4 kM5 kM6 kM7 kM8 kM9 kM10 kM11 kM12 mrw mly mln msp mwh mcl mtr mfo mki mro mlf_1 mli msw msa msc msl mff mlt mgr mxx msu) H := hP
    have hD : va_D A (wd_X4 qM aM0 aM1 aM2 aM3 aM4 aM5 aM6 aM7 aM8 aM9 aM10 aM11 aM12 kM0 kM1 kM2 kM3 kM4 kM5 kM6 kM7 kM8 kM9 kM10 kM11 kM12 mrw mly mln msp mwh mcl mtr mfo mki mro mlf_1 mli msw msa msc msl mff mlt mgr mxx msu) := hD
    refine lv_aload_n hx hb dX4_push_24 rfl (lv_at hl 0 rfl) ?_
    refine lv_dup hx hb dX4_push_25 rfl ?_
    refine va_get (D := (dC, dI)) (ci := 4) (v := .int (xw_i mly)) (C := RX4) (T := TX4) (N := 21) hx hb hts hwsX40 hown hK hP 0 rfl rfl 3 (by decide) (hts (.fieldLink RX4 81 "BoxProverModel" "layers" "I") (by decide +kernel)) (fun _ h9 => h9) rfl dX4_push_26 ?_
    refine lv_iconst (v := xw_i 1) hx hb dX4_push_29 (by decide) ?_
    refine xw_iadd hx hb dX4_push_30 ?_
    refine xw_topi (fun lf elf => ?_)
    have h := h lf elf
    refine va_put (D := (dC, dI)) (ci := 4) (v := .int (xw_i lf)) (ty := .int) (C := RX4) (T := TX4) (N := 21) hx hb hts hwsX40 tyX4 tyX4_ok nmX4 hown hK hP hD hS 0 rfl rfl 3 (by decide) (hts (.fieldLink RX4 81 "BoxProverModel" "layers" "I") (by decide +kernel)) (fun _ h9 => h9) rfl (by decide +kernel) rfl rfl (Nat.le_of_ble_eq_true rfl) dX4_push_31 (fun H locs hP hD hS => ?_)
    have hP : va_P (dC, dI) vwCl (wd_X4 qM aM0 aM1 aM2 aM3 aM4 aM5 aM6 aM7 aM8 aM9 aM10 aM11 aM12 kM0 kM1 kM2 kM3 kM4 kM5 kM6 kM7 kM8 kM9 kM10 kM11 kM12 mrw lf mln msp mwh mcl mtr mfo mki mro mlf_1 mli msw msa msc msl mff mlt mgr mxx msu) H := hP
    have hD : va_D A (wd_X4 qM aM0 aM1 aM2 aM3 aM4 aM5 aM6 aM7 aM8 aM9 aM10 aM11 aM12 kM0 kM1 kM2 kM3 kM4 kM5 kM6 kM7 kM8 kM9 kM10 kM11 kM12 mrw lf mln msp mwh mcl mtr mfo mki mro mlf_1 mli msw msa msc msl mff mlt mgr mxx msu) := hD
    refine lv_aload_n hx hb dX4_push_34 rfl (lv_at hl 0 rfl) ?_
    refine xw_backv (wc := (wd_X4 qM aM0 aM1 aM2 aM3 aM4 aM5 aM6 aM7 aM8 aM9 aM10 aM11 aM12 kM0 kM1 kM2 kM3 kM4 kM5 kM6 kM7 kM8 kM9 kM10 kM11 kM12 mrw lf mln msp mwh mcl mtr mfo mki mro mlf_1 mli msw msa msc msl mff mlt mgr mxx msu)) (wr := []) (va_runV (As := []) (rest := []) ⟨hx, hb, hml, hown, hts⟩ (c_X4_changed l dC dI qM aM0 aM1 aM2 aM3 aM4 aM5 aM6 aM7 aM8 aM9 aM10 aM11 aM12 kM0 kM1 kM2 kM3 kM4 kM5 kM6 kM7 kM8 kM9 kM10 kM11 kM12 H.size mrw lf mln msp mwh mcl mtr mfo mki mro mlf_1 mli msw msa msc msl mff mlt mgr mxx msu _ h) (cwV 0 hts gX4_push_X4_changed rfl rfl rfl (by decide +kernel) ⟨Nat.le_of_ble_eq_true rfl, Nat.le_of_ble_eq_true rfl⟩) (xw_preV (ci := 4) hK hP hD [0, 1, 2, 3, 4, 5, 6, 7, 8, 9, 10, 11, 12, 13] rfl rfl (by decide) [0, 1, 2, 3, 4, 5, 6, 7, 8, 9, 10, 11, 12] rfl rfl rfl) rfl rfl hl.1 rfl (lv_room (Nat.le_of_ble_eq_true rfl)) dX4_push_35 ⟨Nat.le_of_ble_eq_true rfl, Nat.le_of_ble_eq_true rfl⟩) hK hP hD hS hA [0, 1, 2, 3, 4, 5, 6, 7, 8, 9, 10, 11, 12, 13] [] rfl rfl (by decide) (by decide) (fun u H locs h hP hD hK2 hS => ?_)
    obtain ⟨mln_1, msp_1, mwh_1, mcl_1, mtr_1⟩ := u
    try dsimp only at h
    have hP : va_P (dC, dI) vwCl (wd_X4 qM aM0 aM1 aM2 aM3 aM4 aM5 aM6 aM7 aM8 aM9 aM10 aM11 aM12 kM0 kM1 kM2 kM3 kM4 kM5 kM6 kM7 kM8 kM9 kM10 kM11 kM12 mrw lf mln_1 msp_1 mwh_1 mcl_1 mtr_1 mfo mki mro mlf_1 mli msw msa msc msl mff mlt mgr mxx msu) H := hP
    have hD : va_D A (wd_X4 qM aM0 aM1 aM2 aM3 aM4 aM5 aM6 aM7 aM8 aM9 aM10 aM11 aM12 kM0 kM1 kM2 kM3 kM4 kM5 kM6 kM7 kM8 kM9 kM10 kM11 kM12 mrw lf mln_1 msp_1 mwh_1 mcl_1 mtr_1 mfo mki mro mlf_1 mli msw msa msc msl mff mlt mgr mxx msu) := hD
    refine lv_aload_n hx hb dX4_push_38 rfl (lv_at hl 0 rfl) ?_
    refine va_get (D := (dC, dI)) (ci := 4) (v := .int (xw_i lf)) (C := RX4) (T := TX4) (N := 21) hx hb hts hwsX40 hown hK hP 0 rfl rfl 3 (by decide) (hts (.fieldLink RX4 81 "BoxProverModel" "layers" "I") (by decide +kernel)) (fun _ h9 => h9) rfl dX4_push_39 ?_
    exact hret _ _ _ _ lf (lf, mln_1, msp_1, mwh_1, mcl_1, mtr_1, mlf_1) dX4_push_42 h hP hD hK hS
  · have h := h.1 hcd
    refine lv_iconst (v := xw_i (-1)) hx hb dX4_push_9 (by decide) ?_
    exact hret _ _ _ _ (-1) (mly, mln, msp, mwh, mcl, mtr, mlf) dX4_push_10 h hP hD hK hS
set_option maxHeartbeats 4000000 in
set_option maxRecDepth 100000 in
theorem c_X4_pop (l : Launch) (dC : Nat → ClassId) (dI : Nat → Nat → Nat) (qM aM0 aM1 aM2 aM3 aM4 aM5 aM6 aM7 aM8 aM9 aM10 aM11 aM12 : Nat) (kM0 kM1 kM2 kM3 kM4 kM5 kM6 kM7 kM8 kM9 kM10 kM11 kM12 : ClassId) (sz : Nat) (mrw : Int) (mly : Int) (mln : Int) (msp : Int) (mwh : Int) (mcl : Int) (mtr : Int) (mfo : Int) (mki : Nat → Int) (mro : Nat → Int) (mlf : Nat → Int) (mli : Nat → Int) (msw : Nat → Int) (msa : Nat → Int) (msc : Nat → Int) (msl : Nat → Int) (mff : Nat → Int) (mlt : Nat → Int) (mgr : Nat → Int) (mxx : Nat → Int) (msu : Nat → Int) (post : Int → Int → Int → Int → Int → Int → Int → Int → Prop) (h : wp_X4_pop post mrw mly mln msp mwh mcl mtr mfo mki mro mlf mli msw msa msc msl mff mlt mgr mxx msu) : Met l yX4_pop wsX4_pop ({ frames := 1, cells := 0, slots := 0, locals := 20 }) (va_Pc [.ref qM] (xw_Pre (dC, dI) vwCl (wd_X4 qM aM0 aM1 aM2 aM3 aM4 aM5 aM6 aM7 aM8 aM9 aM10 aM11 aM12 kM0 kM1 kM2 kM3 kM4 kM5 kM6 kM7 kM8 kM9 kM10 kM11 kM12 mrw mly mln msp mwh mcl mtr mfo mki mro mlf mli msw msa msc msl mff mlt mgr mxx msu) [(kM0, .int), (kM1, .int), (kM2, .int), (kM3, .long), (kM4, .int), (kM5, .int), (kM6, .int), (kM7, .int), (kM8, .int), (kM9, .int), (kM10, .int), (kM11, .int), (kM12, .int)] sz)) (va_Qi (xw_pi (fun v (u : Int × Int × Int × Int × Int × Int × Int) => post v u.1 u.2.1 u.2.2.1 u.2.2.2.1 u.2.2.2.2.1 u.2.2.2.2.2.1 u.2.2.2.2.2.2)) (xw_B (dC, dI) vwCl (fun (_ : Int × Int × Int × Int × Int × Int × Int) => [(kM0, .int), (kM1, .int), (kM2, .int), (kM3, .long), (kM4, .int), (kM5, .int), (kM6, .int), (kM7, .int), (kM8, .int), (kM9, .int), (kM10, .int), (kM11, .int), (kM12, .int)]) (va_A (wd_X4 qM aM0 aM1 aM2 aM3 aM4 aM5 aM6 aM7 aM8 aM9 aM10 aM11 aM12 kM0 kM1 kM2 kM3 kM4 kM5 kM6 kM7 kM8 kM9 kM10 kM11 kM12 mrw mly mln msp mwh mcl mtr mfo mki mro mlf mli msw msa msc msl mff mlt mgr mxx msu) sz) (fun (u : Int × Int × Int × Int × Int × Int × Int) => (wd_X4 qM aM0 aM1 aM2 aM3 aM4 aM5 aM6 aM7 aM8 aM9 aM10 aM11 aM12 kM0 kM1 kM2 kM3 kM4 kM5 kM6 kM7 kM8 kM9 kM10 kM11 kM12 u.1 u.2.1 u.2.2.1 u.2.2.2.1 u.2.2.2.2.1 u.2.2.2.2.2.1 u.2.2.2.2.2.2 mfo mki mro mlf mli msw msa msc msl mff mlt mgr mxx msu))) (va_A (wd_X4 qM aM0 aM1 aM2 aM3 aM4 aM5 aM6 aM7 aM8 aM9 aM10 aM11 aM12 kM0 kM1 kM2 kM3 kM4 kM5 kM6 kM7 kM8 kM9 kM10 kM11 kM12 mrw mly mln msp mwh mcl mtr mfo mki mro mlf mli msw msa msc msl mff mlt mgr mxx msu) sz)) 0 0 (va_A (wd_X4 qM aM0 aM1 aM2 aM3 aM4 aM5 aM6 aM7 aM8 aM9 aM10 aM11 aM12 kM0 kM1 kM2 kM3 kM4 kM5 kM6 kM7 kM8 kM9 kM10 kM11 kM12 mrw mly mln msp mwh mcl mtr mfo mki mro mlf mli msw msa msc msl mff mlt mgr mxx msu) sz) := by
  refine xw_ofI (cc := cX4_pop) (maxL := 2) (by decide +kernel) rfl (Nat.le_of_ble_eq_true rfl) ?_
  intro p e s m args below meth c hx hb hml hown hts A hA hP hD hK Q hret ls hl hS
  have hl : lv_has ls 2 [(0, .ref qM)] := hl
  have hwsX40 : ∀ w ∈ wsX40, w ∈ wsX4_pop := fun _ h => List.mem_cons_of_mem _ (List.mem_append_right _ h)
  unfold wp_X4_pop at h
  refine lv_aload_n hx hb dX4_pop_0 rfl (lv_at hl 0 rfl) ?_
  refine va_get (D := (dC, dI)) (ci := 4) (v := .int (xw_i mly)) (C := RX4) (T := TX4) (N := 21) hx hb hts hwsX40 hown hK hP 0 rfl rfl 3 (by decide) (hts (.fieldLink RX4 81 "BoxProverModel" "layers" "I") (by decide +kernel)) (fun _ h9 => h9) rfl dX4_pop_1 ?_
  obtain ⟨hr1, h⟩ := h
  refine xw_if_ne (tgt := 9) hx hb hr1 dX4_pop_4 (by decide) (fun hcd => ?_) (fun hcd => ?_)
  · have h := h.2 hcd
    refine lv_aload_n hx hb dX4_pop_9 rfl (lv_at hl 0 rfl) ?_
    refine lv_dup hx hb dX4_pop_10 rfl ?_
    refine va_get (D := (dC, dI)) (ci := 4) (v := .int (xw_i mly)) (C := RX4) (T := TX4) (N := 21) hx hb hts hwsX40 hown hK hP 0 rfl rfl 3 (by decide) (hts (.fieldLink RX4 81 "BoxProverModel" "layers" "I") (by decide +kernel)) (fun _ h9 => h9) rfl dX4_pop_11 ?_
    refine lv_iconst (v := xw_i 1) hx hb dX4_pop_14 (by decide) ?_
    refine xw_isub hx hb dX4_pop_15 ?_
    refine xw_topi (fun lf elf => ?_)
    have h := h lf elf
    refine va_put (D := (dC, dI)) (ci := 4) (v := .int (xw_i lf)) (ty := .int) (C := RX4) (T := TX4) (N := 21) hx hb hts hwsX40 tyX4 tyX4_ok nmX4 hown hK hP hD hS 0 rfl rfl 3 (by decide) (hts (.fieldLink RX4 81 "BoxProverModel" "layers" "I") (by decide +kernel)) (fun _ h9 => h9) rfl (by decide +kernel) rfl rfl (Nat.le_of_ble_eq_true rfl) dX4_pop_16 (fun H locs hP hD hS => ?_)
    have hP : va_P (dC, dI) vwCl (wd_X4 qM aM0 aM1 aM2 aM3 aM4 aM5 aM6 aM7 aM8 aM9 aM10 aM11 aM12 kM0 kM1 kM2 kM3 kM4 kM5 kM6 kM7 kM8 kM9 kM10 kM11 kM12 mrw lf mln msp mwh mcl mtr mfo mki mro mlf mli msw msa msc msl mff mlt mgr mxx msu) H := hP
    have hD : va_D A (wd_X4 qM aM0 aM1 aM2 aM3 aM4 aM5 aM6 aM7 aM8 aM9 aM10 aM11 aM12 kM0 kM1 kM2 kM3 kM4 kM5 kM6 kM7 kM8 kM9 kM10 kM11 kM12 mrw lf mln msp mwh mcl mtr mfo mki mro mlf mli msw msa msc msl mff mlt mgr mxx msu) := hD
    refine lv_aload_n hx hb dX4_pop_19 rfl (lv_at hl 0 rfl) ?_
    refine va_get (D := (dC, dI)) (ci := 4) (v := .int (xw_i mrw)) (C := RX4) (T := TX4) (N := 21) hx hb hts hwsX40 hown hK hP 0 rfl rfl 0 (by decide) (hts (.fieldLink RX4 50 "BoxProverModel" "rows" "I") (by decide +kernel)) (fun _ h9 => h9) rfl dX4_pop_20 ?_
    refine lv_aload_n hx hb dX4_pop_23 rfl (lv_at hl 0 rfl) ?_
    refine va_get (D := (dC, dI)) (ci := 4) (v := .ref aM2) (C := RX4) (T := TX4) (N := 21) hx hb hts hwsX40 hown hK hP 0 rfl rfl 4 (by decide) (hts (.fieldLink RX4 16 "BoxProverModel" "layerFrom" "[I") (by decide +kernel)) (fun _ h9 => h9) rfl dX4_pop_24 ?_
    refine lv_aload_n hx hb dX4_pop_27 rfl (lv_at hl 0 rfl) ?_
    refine va_get (D := (dC, dI)) (ci := 4) (v := .int (xw_i lf)) (C := RX4) (T := TX4) (N := 21) hx hb hts hwsX40 hown hK hP 0 rfl rfl 3 (by decide) (hts (.fieldLink RX4 81 "BoxProverModel" "layers" "I") (by decide +kernel)) (fun _ h9 => h9) rfl dX4_pop_28 ?_
    obtain ⟨hin, h⟩ := h
    refine xw_iald (n := 8) hx hb hK hP 3 2 rfl rfl (by decide) hin dX4_pop_31 ?_
    refine xw_isub hx hb dX4_pop_32 ?_
    refine xw_topi (fun x1 ex1 => ?_)
    have h := h x1 ex1
    refine lv_istore_n (lv' := [(1, .int (xw_i x1)), (0, .ref qM)]) hx hb dX4_pop_33 rfl hl (by decide) rfl (fun ls hl => ?_)
    refine lv_aload_n hx hb dX4_pop_34 rfl (lv_at hl 1 rfl) ?_
    refine lv_aload_n hx hb dX4_pop_35 rfl (lv_at hl 1 rfl) ?_
    refine va_get (D := (dC, dI)) (ci := 4) (v := .ref aM2) (C := RX4) (T := TX4) (N := 21) hx hb hts hwsX40 hown hK hP 0 rfl rfl 4 (by decide) (hts (.fieldLink RX4 16 "BoxProverModel" "layerFrom" "[I") (by decide +kernel)) (fun _ h9 => h9) rfl dX4_pop_36 ?_
    refine lv_aload_n hx hb dX4_pop_39 rfl (lv_at hl 1 rfl) ?_
    refine va_get (D := (dC, dI)) (ci := 4) (v := .int (xw_i lf)) (C := RX4) (T := TX4) (N := 21) hx hb hts hwsX40 hown hK hP 0 rfl rfl 3 (by decide) (hts (.fieldLink RX4 81 "BoxProverModel" "layers" "I") (by decide +kernel)) (fun _ h9 => h9) rfl dX4_pop_40 ?_
    obtain ⟨hin, h⟩ := h
    refine xw_iald (n := 8) hx hb hK hP 3 2 rfl rfl (by decide) hin dX4_pop_43 ?_
    refine xw_topi (fun rf erf => ?_)
    have h := h rf erf
    refine va_put (D := (dC, dI)) (ci := 4) (v := .int (xw_i rf)) (ty := .int) (C := RX4) (T := TX4) (N := 21) hx hb hts hwsX40 tyX4 tyX4_ok nmX4 hown hK hP hD hS 0 rfl rfl 0 (by decide) (hts (.fieldLink RX4 50 "BoxProverModel" "rows" "I") (by decide +kernel)) (fun _ h9 => h9) rfl (by decide +kernel) rfl rfl (Nat.le_of_ble_eq_true rfl) dX4_pop_44 (fun H locs hP hD hS => ?_)
    have hP : va_P (dC, dI) vwCl (wd_X4 qM aM0 aM1 aM2 aM3 aM4 aM5 aM6 aM7 aM8 aM9 aM10 aM11 aM12 kM0 kM1 kM2 kM3 kM4 kM5 kM6 kM7 kM8 kM9 kM10 kM11 kM12 rf lf mln msp mwh mcl mtr mfo mki mro mlf mli msw msa msc msl mff mlt mgr mxx msu) H := hP
    have hD : va_D A (wd_X4 qM aM0 aM1 aM2 aM3 aM4 aM5 aM6 aM7 aM8 aM9 aM10 aM11 aM12 kM0 kM1 kM2 kM3 kM4 kM5 kM6 kM7 kM8 kM9 kM10 kM11 kM12 rf lf mln msp mwh mcl mtr mfo mki mro mlf mli msw msa msc msl mff mlt mgr mxx msu) := hD
    refine lv_aload_n hx hb dX4_pop_47 rfl (lv_at hl 1 rfl) ?_
    refine xw_backv (wc := (wd_X4 qM aM0 aM1 aM2 aM3 aM4 aM5 aM6 aM7 aM8 aM9 aM10 aM11 aM12 kM0 kM1 kM2 kM3 kM4 kM5 kM6 kM7 kM8 kM9 kM10 kM11 kM12 rf lf mln msp mwh mcl mtr mfo mki mro mlf mli msw msa msc msl mff mlt mgr mxx msu)) (wr := []) (va_runV (As := []) (rest := []) ⟨hx, hb, hml, hown, hts⟩ (c_X4_changed l dC dI qM aM0 aM1 aM2 aM3 aM4 aM5 aM6 aM7 aM8 aM9 aM10 aM11 aM12 kM0 kM1 kM2 kM3 kM4 kM5 kM6 kM7 kM8 kM9 kM10 kM11 kM12 H.size rf lf mln msp mwh mcl mtr mfo mki mro mlf mli msw msa msc msl mff mlt mgr mxx msu _ h) (cwV 0 hts gX4_pop_X4_changed rfl rfl rfl (by decide +kernel) ⟨Nat.le_of_ble_eq_true rfl, Nat.le_of_ble_eq_true rfl⟩) (xw_preV (ci := 4) hK hP hD [0, 1, 2, 3, 4, 5, 6, 7, 8, 9, 10, 11, 12, 13] rfl rfl (by decide) [0, 1, 2, 3, 4, 5, 6, 7, 8, 9, 10, 11, 12] rfl rfl rfl) rfl rfl hl.1 rfl (lv_room (Nat.le_of_ble_eq_true rfl)) dX4_pop_48 ⟨Nat.le_of_ble_eq_true rfl, Nat.le_of_ble_eq_true rfl⟩) hK hP hD hS hA [0, 1, 2, 3, 4, 5, 6, 7, 8, 9, 10, 11, 12, 13] [] rfl rfl (by decide) (by decide) (fun u H locs h hP hD hK2 hS => ?_)
    obtain ⟨mln_1, msp_1, mwh_1, mcl_1, mtr_1⟩ := u
    try dsimp only at h
    have hP : va_P (dC, dI) vwCl (wd_X4 qM aM0 aM1 aM2 aM3 aM4 aM5 aM6 aM7 aM8 aM9 aM10 aM11 aM12 kM0 kM1 kM2 kM3 kM4 kM5 kM6 kM7 kM8 kM9 kM10 kM11 kM12 rf lf mln_1 msp_1 mwh_1 mcl_1 mtr_1 mfo mki mro mlf mli msw msa msc msl mff mlt mgr mxx msu) H := hP
    have hD : va_D A (wd_X4 qM aM0 aM1 aM2 aM3 aM4 aM5 aM6 aM7 aM8 aM9 aM10 aM11 aM12 kM0 kM1 kM2 kM3 kM4 kM5 kM6 kM7 kM8 kM9 kM10 kM11 kM12 rf lf mln_1 msp_1 mwh_1 mcl_1 mtr_1 mfo mki mro mlf mli msw msa msc msl mff mlt mgr mxx msu) := hD
    refine lv_iload_n hx hb dX4_pop_51 rfl (lv_at hl 0 rfl) ?_
    exact hret _ _ _ _ x1 (rf, lf, mln_1, msp_1, mwh_1, mcl_1, mtr_1) dX4_pop_52 h hP hD hK hS
  · have h := h.1 hcd
    refine lv_iconst (v := xw_i (-1)) hx hb dX4_pop_7 (by decide) ?_
    exact hret _ _ _ _ (-1) (mrw, mly, mln, msp, mwh, mcl, mtr) dX4_pop_8 h hP hD hK hS
set_option maxHeartbeats 4000000 in
set_option maxRecDepth 100000 in
theorem c_X4_ofRow (l : Launch) (dC : Nat → ClassId) (dI : Nat → Nat → Nat) (qM aM0 aM1 aM2 aM3 aM4 aM5 aM6 aM7 aM8 aM9 aM10 aM11 aM12 : Nat) (kM0 kM1 kM2 kM3 kM4 kM5 kM6 kM7 kM8 kM9 kM10 kM11 kM12 : ClassId) (sz : Nat) (mrw : Int) (mly : Int) (mln : Int) (msp : Int) (mwh : Int) (mcl : Int) (mtr : Int) (mfo : Int) (mki : Nat → Int) (mro : Nat → Int) (mlf : Nat → Int) (mli : Nat → Int) (msw : Nat → Int) (msa : Nat → Int) (msc : Nat → Int) (msl : Nat → Int) (mff : Nat → Int) (mlt : Nat → Int) (mgr : Nat → Int) (mxx : Nat → Int) (msu : Nat → Int) (p1 : Int) (p2 : Int) (post : Int → Prop) (h : wp_X4_ofRow post mrw mly mln msp mwh mcl mtr mfo mki mro mlf mli msw msa msc msl mff mlt mgr mxx msu p1 p2) : Met l yX4_ofRow wsX4_ofRow ({ frames := 0, cells := 0, slots := 0, locals := 0 }) (va_Pc [.ref qM, .int (xw_i p1), .int (xw_i p2)] (xw_Pre (dC, dI) vwCl (wd_X4 qM aM0 aM1 aM2 aM3 aM4 aM5 aM6 aM7 aM8 aM9 aM10 aM11 aM12 kM0 kM1 kM2 kM3 kM4 kM5 kM6 kM7 kM8 kM9 kM10 kM11 kM12 mrw mly mln msp mwh mcl mtr mfo mki mro mlf mli msw msa msc msl mff mlt mgr mxx msu) [(kM0, .int), (kM1, .int), (kM2, .int), (kM3, .long), (kM4, .int), (kM5, .int), (kM6, .int), (kM7, .int), (kM8, .int), (kM9, .int), (kM10, .int), (kM11, .int), (kM12, .int)] sz)) (va_Qi (xw_pi (fun v (u : Unit) => post v)) (xw_B (dC, dI) vwCl (fun (_ : Unit) => [(kM0, .int), (kM1, .int), (kM2, .int), (kM3, .long), (kM4, .int), (kM5, .int), (kM6, .int), (kM7, .int), (kM8, .int), (kM9, .int), (kM10, .int), (kM11, .int), (kM12, .int)]) (va_A (wd_X4 qM aM0 aM1 aM2 aM3 aM4 aM5 aM6 aM7 aM8 aM9 aM10 aM11 aM12 kM0 kM1 kM2 kM3 kM4 kM5 kM6 kM7 kM8 kM9 kM10 kM11 kM12 mrw mly mln msp mwh mcl mtr mfo mki mro mlf mli msw msa msc msl mff mlt mgr mxx msu) sz) (fun (u : Unit) => (wd_X4 qM aM0 aM1 aM2 aM3 aM4 aM5 aM6 aM7 aM8 aM9 aM10 aM11 aM12 kM0 kM1 kM2 kM3 kM4 kM5 kM6 kM7 kM8 kM9 kM10 kM11 kM12 mrw mly mln msp mwh mcl mtr mfo mki mro mlf mli msw msa msc msl mff mlt mgr mxx msu))) (va_A (wd_X4 qM aM0 aM1 aM2 aM3 aM4 aM5 aM6 aM7 aM8 aM9 aM10 aM11 aM12 kM0 kM1 kM2 kM3 kM4 kM5 kM6 kM7 kM8 kM9 kM10 kM11 kM12 mrw mly mln msp mwh mcl mtr mfo mki mro mlf mli msw msa msc msl mff mlt mgr mxx msu) sz)) 0 0 (va_A (wd_X4 qM aM0 aM1 aM2 aM3 aM4 aM5 aM6 aM7 aM8 aM9 aM10 aM11 aM12 kM0 kM1 kM2 kM3 kM4 kM5 kM6 kM7 kM8 kM9 kM10 kM11 kM12 mrw mly mln msp mwh mcl mtr mfo mki mro mlf mli msw msa msc msl mff mlt mgr mxx msu) sz) := by
  refine xw_ofI (cc := cX4_ofRow) (maxL := 3) (by decide +kernel) rfl (Nat.le_of_ble_eq_true rfl) ?_
  intro p e s m args below meth c hx hb hml hown hts A hA hP hD hK Q hret ls hl hS
  have hl : lv_has ls 3 [(0, .ref qM), (1, .int (xw_i p1)), (2, .int (xw_i p2))] := hl
  have hwsX40 : ∀ w ∈ wsX40, w ∈ wsX4_ofRow := fun _ h => List.mem_cons_of_mem _ (List.mem_append_right _ h)
  unfold wp_X4_ofRow at h
  refine lv_iload_n hx hb dX4_ofRow_0 rfl (lv_at hl 1 rfl) ?_
  obtain ⟨hr1, h⟩ := h
  refine xw_if_lt (tgt := 21) hx hb hr1 dX4_ofRow_1 (by decide) (fun hcd => ?_) (fun hcd => ?_)
  · have h := h.1 hcd
    refine lv_ldc (v := xw_i (-2147483648)) hx hb hown (hts (.constant RX4 84 (xw_i (-2147483648))) (by decide +kernel)) dX4_ofRow_21 ?_
    exact hret _ _ _ _ (-2147483648) () dX4_ofRow_23 h hP hD hK hS
  · have h := h.2 hcd
    refine lv_iload_n hx hb dX4_ofRow_4 rfl (lv_at hl 1 rfl) ?_
    refine lv_aload_n hx hb dX4_ofRow_5 rfl (lv_at hl 0 rfl) ?_
    refine va_get (D := (dC, dI)) (ci := 4) (v := .int (xw_i mrw)) (C := RX4) (T := TX4) (N := 21) hx hb hts hwsX40 hown hK hP 0 rfl rfl 0 (by decide) (hts (.fieldLink RX4 50 "BoxProverModel" "rows" "I") (by decide +kernel)) (fun _ h9 => h9) rfl dX4_ofRow_6 ?_
    obtain ⟨hr2, h⟩ := h
    refine xw_icmp_ge (tgt := 21) hx hb ⟨hr1, hr2⟩ dX4_ofRow_9 (by decide) (fun hcd => ?_) (fun hcd => ?_)
    · have h := h.1 hcd
      refine lv_ldc (v := xw_i (-2147483648)) hx hb hown (hts (.constant RX4 84 (xw_i (-2147483648))) (by decide +kernel)) dX4_ofRow_21 ?_
      exact hret _ _ _ _ (-2147483648) () dX4_ofRow_23 h hP hD hK hS
    · have h := h.2 hcd
      refine lv_iload_n hx hb dX4_ofRow_12 rfl (lv_at hl 2 rfl) ?_
      obtain ⟨hr3, h⟩ := h
      refine xw_if_lt (tgt := 21) hx hb hr3 dX4_ofRow_13 (by decide) (fun hcd => ?_) (fun hcd => ?_)
      · have h := h.1 hcd
        refine lv_ldc (v := xw_i (-2147483648)) hx hb hown (hts (.constant RX4 84 (xw_i (-2147483648))) (by decide +kernel)) dX4_ofRow_21 ?_
        exact hret _ _ _ _ (-2147483648) () dX4_ofRow_23 h hP hD hK hS
      · have h := h.2 hcd
        refine lv_iload_n hx hb dX4_ofRow_16 rfl (lv_at hl 2 rfl) ?_
        refine lv_iconst (v := xw_i 5) hx hb dX4_ofRow_17 (by decide) ?_
        refine xw_icmp_le (tgt := 24) hx hb ⟨hr3, ⟨by decide, by decide⟩⟩ dX4_ofRow_18 (by decide) (fun hcd => ?_) (fun hcd => ?_)
        · have h := h.1 hcd
          refine lv_iload_n hx hb dX4_ofRow_24 rfl (lv_at hl 2 rfl) ?_
          refine xw_if_ne (tgt := 37) hx hb hr3 dX4_ofRow_25 (by decide) (fun hcd => ?_) (fun hcd => ?_)
          · have h := h.2 hcd
            refine lv_aload_n hx hb dX4_ofRow_37 rfl (lv_at hl 0 rfl) ?_
            refine va_get (D := (dC, dI)) (ci := 4) (v := .ref aM1) (C := RX4) (T := TX4) (N := 21) hx hb hts hwsX40 hown hK hP 0 rfl rfl 2 (by decide) (hts (.fieldLink RX4 13 "BoxProverModel" "row" "[I") (by decide +kernel)) (fun _ h9 => h9) rfl dX4_ofRow_38 ?_
            refine lv_iconst (v := xw_i 5) hx hb dX4_ofRow_41 (by decide) ?_
            refine lv_iload_n hx hb dX4_ofRow_42 rfl (lv_at hl 1 rfl) ?_
            refine xw_imul hx hb dX4_ofRow_43 ?_
            refine lv_iload_n hx hb dX4_ofRow_44 rfl (lv_at hl 2 rfl) ?_
            refine xw_iadd hx hb dX4_ofRow_45 ?_
            refine lv_iconst (v := xw_i 1) hx hb dX4_ofRow_46 (by decide) ?_
            refine xw_isub hx hb dX4_ofRow_47 ?_
            obtain ⟨hin, h⟩ := h
            refine xw_iald (n := 80) hx hb hK hP 2 1 rfl rfl (by decide) hin dX4_ofRow_48 ?_
            exact hret _ _ _ _ (mro (((5 * p1) + p2) - 1).toNat) () dX4_ofRow_49 h hP hD hK hS
          · have h := h.1 hcd
            refine lv_aload_n hx hb dX4_ofRow_28 rfl (lv_at hl 0 rfl) ?_
            refine va_get (D := (dC, dI)) (ci := 4) (v := .ref aM0) (C := RX4) (T := TX4) (N := 21) hx hb hts hwsX40 hown hK hP 0 rfl rfl 1 (by decide) (hts (.fieldLink RX4 7 "BoxProverModel" "kind" "[I") (by decide +kernel)) (fun _ h9 => h9) rfl dX4_ofRow_29 ?_
            refine lv_iload_n hx hb dX4_ofRow_32 rfl (lv_at hl 1 rfl) ?_
            obtain ⟨hin, h⟩ := h
            refine xw_iald (n := 16) hx hb hK hP 1 0 rfl rfl (by decide) hin dX4_ofRow_33 ?_
            refine lv_goto (tgt := 49) hx hb dX4_ofRow_34 (by decide) ?_
            exact hret _ _ _ _ (mki p1.toNat) () dX4_ofRow_49 h hP hD hK hS
        · have h := h.2 hcd
          refine lv_ldc (v := xw_i (-2147483648)) hx hb hown (hts (.constant RX4 84 (xw_i (-2147483648))) (by decide +kernel)) dX4_ofRow_21 ?_
          exact hret _ _ _ _ (-2147483648) () dX4_ofRow_23 h hP hD hK hS
set_option maxHeartbeats 4000000 in
set_option maxRecDepth 100000 in
theorem c_X4_holds (l : Launch) (dC : Nat → ClassId) (dI : Nat → Nat → Nat) (qM aM0 aM1 aM2 aM3 aM4 aM5 aM6 aM7 aM8 aM9 aM10 aM11 aM12 : Nat) (kM0 kM1 kM2 kM3 kM4 kM5 kM6 kM7 kM8 kM9 kM10 kM11 kM12 : ClassId) (sz : Nat) (mrw : Int) (mly : Int) (mln : Int) (msp : Int) (mwh : Int) (mcl : Int) (mtr : Int) (mfo : Int) (mki : Nat → Int) (mro : Nat → Int) (mlf : Nat → Int) (mli : Nat → Int) (msw : Nat → Int) (msa : Nat → Int) (msc : Nat → Int) (msl : Nat → Int) (mff : Nat → Int) (mlt : Nat → Int) (mgr : Nat → Int) (mxx : Nat → Int) (msu : Nat → Int) (p1 : Int) (post : Int → Prop) (h : wp_X4_holds post mrw mly mln msp mwh mcl mtr mfo mki mro mlf mli msw msa msc msl mff mlt mgr mxx msu p1) : Met l yX4_holds wsX4_holds ({ frames := 0, cells := 0, slots := 0, locals := 0 }) (va_Pc [.ref qM, .int (xw_i p1)] (xw_Pre (dC, dI) vwCl (wd_X4 qM aM0 aM1 aM2 aM3 aM4 aM5 aM6 aM7 aM8 aM9 aM10 aM11 aM12 kM0 kM1 kM2 kM3 kM4 kM5 kM6 kM7 kM8 kM9 kM10 kM11 kM12 mrw mly mln msp mwh mcl mtr mfo mki mro mlf mli msw msa msc msl mff mlt mgr mxx msu) [(kM0, .int), (kM1, .int), (kM2, .int), (kM3, .long), (kM4, .int), (kM5, .int), (kM6, .int), (kM7, .int), (kM8, .int), (kM9, .int), (kM10, .int), (kM11, .int), (kM12, .int)] sz)) (va_Qi (xw_pi (fun v (u : Unit) => post v)) (xw_B (dC, dI) vwCl (fun (_ : Unit) => [(kM0, .int), (kM1, .int), (kM2, .int), (kM3, .long), (kM4, .int), (kM5, .int), (kM6, .int), (kM7, .int), (kM8, .int), (kM9, .int), (kM10, .int), (kM11, .int), (kM12, .int)]) (va_A (wd_X4 qM aM0 aM1 aM2 aM3 aM4 aM5 aM6 aM7 aM8 aM9 aM10 aM11 aM12 kM0 kM1 kM2 kM3 kM4 kM5 kM6 kM7 kM8 kM9 kM10 kM11 kM12 mrw mly mln msp mwh mcl mtr mfo mki mro mlf mli msw msa msc msl mff mlt mgr mxx msu) sz) (fun (u : Unit) => (wd_X4 qM aM0 aM1 aM2 aM3 aM4 aM5 aM6 aM7 aM8 aM9 aM10 aM11 aM12 kM0 kM1 kM2 kM3 kM4 kM5 kM6 kM7 kM8 kM9 kM10 kM11 kM12 mrw mly mln msp mwh mcl mtr mfo mki mro mlf mli msw msa msc msl mff mlt mgr mxx msu))) (va_A (wd_X4 qM aM0 aM1 aM2 aM3 aM4 aM5 aM6 aM7 aM8 aM9 aM10 aM11 aM12 kM0 kM1 kM2 kM3 kM4 kM5 kM6 kM7 kM8 kM9 kM10 kM11 kM12 mrw mly mln msp mwh mcl mtr mfo mki mro mlf mli msw msa msc msl mff mlt mgr mxx msu) sz)) 0 0 (va_A (wd_X4 qM aM0 aM1 aM2 aM3 aM4 aM5 aM6 aM7 aM8 aM9 aM10 aM11 aM12 kM0 kM1 kM2 kM3 kM4 kM5 kM6 kM7 kM8 kM9 kM10 kM11 kM12 mrw mly mln msp mwh mcl mtr mfo mki mro mlf mli msw msa msc msl mff mlt mgr mxx msu) sz) := by
  refine xw_ofZ (cc := cX4_holds) (maxL := 5) (by decide +kernel) rfl (Nat.le_of_ble_eq_true rfl) ?_
  intro p e s m args below meth c hx hb hml hown hts A hA hP hD hK Q hret ls hl hS
  have hl : lv_has ls 5 [(0, .ref qM), (1, .int (xw_i p1))] := hl
  have hwsX40 : ∀ w ∈ wsX40, w ∈ wsX4_holds := fun _ h => List.mem_cons_of_mem _ (List.mem_append_right _ h)
  unfold wp_X4_holds at h
  refine lv_iconst (v := xw_i 1) hx hb dX4_holds_0 (by decide) ?_
  refine lv_istore_n (lv' := [(2, .int (xw_i 1)), (0, .ref qM), (1, .int (xw_i p1))]) hx hb dX4_holds_1 rfl hl (by decide) rfl (fun ls hl => ?_)
  refine lv_iconst (v := xw_i 0) hx hb dX4_holds_2 (by decide) ?_
  refine lv_istore_n (lv' := [(3, .int (xw_i 0)), (2, .int (xw_i 1)), (0, .ref qM), (1, .int (xw_i p1))]) hx hb dX4_holds_3 rfl hl (by decide) rfl (fun ls hl => ?_)
  have k_4 : ∀ (n_4 : Nat) (x3 : Int) (x2 : Int) (H : Heap) (locs : List Loc) (ls : Array Slot), wp_X4_holds_4 p1 mrw mki mro msu post n_4 x3 x2 → va_P (dC, dI) vwCl (wd_X4 qM aM0 aM1 aM2 aM3 aM4 aM5 aM6 aM7 aM8 aM9 aM10 aM11 aM12 kM0 kM1 kM2 kM3 kM4 kM5 kM6 kM7 kM8 kM9 kM10 kM11 kM12 mrw mly mln msp mwh mcl mtr mfo mki mro mlf mli msw msa msc msl mff mlt mgr mxx msu) H → va_D A (wd_X4 qM aM0 aM1 aM2 aM3 aM4 aM5 aM6 aM7 aM8 aM9 aM10 aM11 aM12 kM0 kM1 kM2 kM3 kM4 kM5 kM6 kM7 kM8 kM9 kM10 kM11 kM12 mrw mly mln msp mwh mcl mtr mfo mki mro mlf mli msw msa msc msl mff mlt mgr mxx msu) → va_S A s.heap H locs → lv_has ls 5 [(3, .int (xw_i x3)), (2, .int (xw_i x2)), (0, .ref qM), (1, .int (xw_i p1))] → W p l e ({ frames := 0, cells := 0, slots := 0, locals := 0 } : Room) s m args below meth c H locs 0 0 Q (F0 m 4 ls []) := by
    intro n_4
    induction n_4 with
    | zero => intro x3 x2 H locs ls h; exact False.elim h
    | succ n_4 ih_4 =>
      intro x3 x2 H locs ls h hP hD hS hl
      have h : wl_X4_holds_4 p1 mrw mki mro msu post (wp_X4_holds_4 p1 mrw mki mro msu post n_4) x3 x2 := h
      unfold wl_X4_holds_4 at h
      refine lv_iload_n hx hb dX4_holds_4 rfl (lv_at hl 0 rfl) ?_
      refine lv_aload_n hx hb dX4_holds_5 rfl (lv_at hl 2 rfl) ?_
      refine va_get (D := (dC, dI)) (ci := 4) (v := .int (xw_i mrw)) (C := RX4) (T := TX4) (N := 21) hx hb hts hwsX40 hown hK hP 0 rfl rfl 0 (by decide) (hts (.fieldLink RX4 50 "BoxProverModel" "rows" "I") (by decide +kernel)) (fun _ h9 => h9) rfl dX4_holds_6 ?_
      obtain ⟨hr1, h⟩ := h
      obtain ⟨hr2, h⟩ := h
      refine xw_icmp_ge (tgt := 96) hx hb ⟨hr1, hr2⟩ dX4_holds_9 (by decide) (fun hcd => ?_) (fun hcd => ?_)
      · have h := h.1 hcd
        refine lv_iload_n hx hb dX4_holds_96 rfl (lv_at hl 1 rfl) ?_
        exact hret _ _ _ _ x2 () dX4_holds_97 h.1 h.2 hP hD hK hS
      · have h := h.2 hcd
        refine lv_iload_n hx hb dX4_holds_12 rfl (lv_at hl 1 rfl) ?_
        obtain ⟨hr3, h⟩ := h
        refine xw_if_eq (tgt := 96) hx hb hr3 dX4_holds_13 (by decide) (fun hcd => ?_) (fun hcd => ?_)
        · have h := h.1 hcd
          refine lv_iload_n hx hb dX4_holds_96 rfl (lv_at hl 1 rfl) ?_
          exact hret _ _ _ _ x2 () dX4_holds_97 h.1 h.2 hP hD hK hS
        · have h := h.2 hcd
          refine lv_aload_n hx hb dX4_holds_16 rfl (lv_at hl 2 rfl) ?_
          refine va_get (D := (dC, dI)) (ci := 4) (v := .ref aM12) (C := RX4) (T := TX4) (N := 21) hx hb hts hwsX40 hown hK hP 0 rfl rfl 20 (by decide) (hts (.fieldLink RX4 47 "BoxProverModel" "sums" "[I") (by decide +kernel)) (fun _ h9 => h9) rfl dX4_holds_17 ?_
          refine lv_iload_n hx hb dX4_holds_20 rfl (lv_at hl 0 rfl) ?_
          obtain ⟨hin, h⟩ := h
          refine xw_iald (n := 16) hx hb hK hP 13 12 rfl rfl (by decide) hin dX4_holds_21 ?_
          refine lv_aload_n hx hb dX4_holds_22 rfl (lv_at hl 2 rfl) ?_
          refine va_get (D := (dC, dI)) (ci := 4) (v := .ref aM1) (C := RX4) (T := TX4) (N := 21) hx hb hts hwsX40 hown hK hP 0 rfl rfl 2 (by decide) (hts (.fieldLink RX4 13 "BoxProverModel" "row" "[I") (by decide +kernel)) (fun _ h9 => h9) rfl dX4_holds_23 ?_
          refine lv_iconst (v := xw_i 5) hx hb dX4_holds_26 (by decide) ?_
          refine lv_iload_n hx hb dX4_holds_27 rfl (lv_at hl 0 rfl) ?_
          refine xw_imul hx hb dX4_holds_28 ?_
          refine lv_iconst (v := xw_i 3) hx hb dX4_holds_29 (by decide) ?_
          refine xw_iadd hx hb dX4_holds_30 ?_
          obtain ⟨hin, h⟩ := h
          refine xw_iald (n := 80) hx hb hK hP 2 1 rfl rfl (by decide) hin dX4_holds_31 ?_
          refine lv_iload_n hx hb dX4_holds_32 rfl (lv_at hl 3 rfl) ?_
          refine xw_imul hx hb dX4_holds_33 ?_
          refine xw_iadd hx hb dX4_holds_34 ?_
          refine xw_topi (fun x4 ex4 => ?_)
          have h := h x4 ex4
          refine lv_istore (lv' := [(4, .int (xw_i x4)), (3, .int (xw_i x3)), (2, .int (xw_i x2)), (0, .ref qM), (1, .int (xw_i p1))]) hx hb dX4_holds_35 hl (by decide) rfl (fun ls hl => ?_)
          refine lv_aload_n hx hb dX4_holds_37 rfl (lv_at hl 3 rfl) ?_
          refine va_get (D := (dC, dI)) (ci := 4) (v := .ref aM0) (C := RX4) (T := TX4) (N := 21) hx hb hts hwsX40 hown hK hP 0 rfl rfl 1 (by decide) (hts (.fieldLink RX4 7 "BoxProverModel" "kind" "[I") (by decide +kernel)) (fun _ h9 => h9) rfl dX4_holds_38 ?_
          refine lv_iload_n hx hb dX4_holds_41 rfl (lv_at hl 1 rfl) ?_
          obtain ⟨hin, h⟩ := h
          refine xw_iald (n := 16) hx hb hK hP 1 0 rfl rfl (by decide) hin dX4_holds_42 ?_
          have k_89 : ∀ (z0 : Int) (H : Heap) (locs : List Loc) (ls : Array Slot), wp_X4_holds_89 (wp_X4_holds_4 p1 mrw mki mro msu post n_4) x3 z0 → va_P (dC, dI) vwCl (wd_X4 qM aM0 aM1 aM2 aM3 aM4 aM5 aM6 aM7 aM8 aM9 aM10 aM11 aM12 kM0 kM1 kM2 kM3 kM4 kM5 kM6 kM7 kM8 kM9 kM10 kM11 kM12 mrw mly mln msp mwh mcl mtr mfo mki mro mlf mli msw msa msc msl mff mlt mgr mxx msu) H → va_D A (wd_X4 qM aM0 aM1 aM2 aM3 aM4 aM5 aM6 aM7 aM8 aM9 aM10 aM11 aM12 kM0 kM1 kM2 kM3 kM4 kM5 kM6 kM7 kM8 kM9 kM10 kM11 kM12 mrw mly mln msp mwh mcl mtr mfo mki mro mlf mli msw msa msc msl mff mlt mgr mxx msu) → va_S A s.heap H locs → lv_has ls 5 [(3, .int (xw_i x3)), (0, .ref qM), (1, .int (xw_i p1))] → W p l e ({ frames := 0, cells := 0, slots := 0, locals := 0 } : Room) s m args below meth c H locs 0 0 Q (F0 m 89 ls [.int (xw_i z0)]) := by
            intro z0 H locs ls h hP hD hS hl
            unfold wp_X4_holds_89 at h
            refine lv_istore_n (lv' := [(2, .int (xw_i z0)), (3, .int (xw_i x3)), (0, .ref qM), (1, .int (xw_i p1))]) hx hb dX4_holds_89 rfl hl (by decide) rfl (fun ls hl => ?_)
            obtain ⟨x3_1, ex3_1⟩ : ∃ y : Int, y = x3 + 1 := ⟨_, rfl⟩
            have h := h x3_1 ex3_1
            refine lv_iinc (v := xw_i x3_1) (lv' := [(3, .int (xw_i x3_1)), (2, .int (xw_i z0)), (0, .ref qM), (1, .int (xw_i p1))]) hx hb dX4_holds_90 hl (k := 1) rfl (xw_inc ex3_1) (by decide) rfl (fun ls hl => ?_)
            refine lv_goto (tgt := 4) hx hb dX4_holds_93 (by decide) ?_
            exact ih_4 x3_1 z0 _ _ _ h hP hD hS (lv_sub hl [0, 1, 2, 3] rfl)
          obtain ⟨hr4, h⟩ := h
          refine xw_if_ne (tgt := 69) hx hb hr4 dX4_holds_43 (by decide) (fun hcd => ?_) (fun hcd => ?_)
          · have h := h.2 hcd
            refine lv_iload hx hb dX4_holds_69 (lv_at hl 0 rfl) ?_
            refine lv_aload_n hx hb dX4_holds_71 rfl (lv_at hl 3 rfl) ?_
            refine va_get (D := (dC, dI)) (ci := 4) (v := .ref aM1) (C := RX4) (T := TX4) (N := 21) hx hb hts hwsX40 hown hK hP 0 rfl rfl 2 (by decide) (hts (.fieldLink RX4 13 "BoxProverModel" "row" "[I") (by decide +kernel)) (fun _ h9 => h9) rfl dX4_holds_72 ?_
            refine lv_iconst (v := xw_i 5) hx hb dX4_holds_75 (by decide) ?_
            refine lv_iload_n hx hb dX4_holds_76 rfl (lv_at hl 1 rfl) ?_
            refine xw_imul hx hb dX4_holds_77 ?_
            refine lv_iconst (v := xw_i 4) hx hb dX4_holds_78 (by decide) ?_
            refine xw_iadd hx hb dX4_holds_79 ?_
            obtain ⟨hin, h⟩ := h
            refine xw_iald (n := 80) hx hb hK hP 2 1 rfl rfl (by decide) hin dX4_holds_80 ?_
            obtain ⟨hr5, h⟩ := h
            obtain ⟨hr6, h⟩ := h
            refine xw_icmp_gt (tgt := 88) hx hb ⟨hr5, hr6⟩ dX4_holds_81 (by decide) (fun hcd => ?_) (fun hcd => ?_)
            · have h := h.1 hcd
              refine lv_iconst (v := xw_i 0) hx hb dX4_holds_88 (by decide) ?_
              exact k_89 0 _ _ _ h hP hD hS (lv_sub hl [1, 3, 4] rfl)
            · have h := h.2 hcd
              refine lv_iconst (v := xw_i 1) hx hb dX4_holds_84 (by decide) ?_
              refine lv_goto (tgt := 89) hx hb dX4_holds_85 (by decide) ?_
              exact k_89 1 _ _ _ h hP hD hS (lv_sub hl [1, 3, 4] rfl)
          · have h := h.1 hcd
            refine lv_iload hx hb dX4_holds_46 (lv_at hl 0 rfl) ?_
            refine lv_aload_n hx hb dX4_holds_48 rfl (lv_at hl 3 rfl) ?_
            refine va_get (D := (dC, dI)) (ci := 4) (v := .ref aM1) (C := RX4) (T := TX4) (N := 21) hx hb hts hwsX40 hown hK hP 0 rfl rfl 2 (by decide) (hts (.fieldLink RX4 13 "BoxProverModel" "row" "[I") (by decide +kernel)) (fun _ h9 => h9) rfl dX4_holds_49 ?_
            refine lv_iconst (v := xw_i 5) hx hb dX4_holds_52 (by decide) ?_
            refine lv_iload_n hx hb dX4_holds_53 rfl (lv_at hl 1 rfl) ?_
            refine xw_imul hx hb dX4_holds_54 ?_
            refine lv_iconst (v := xw_i 4) hx hb dX4_holds_55 (by decide) ?_
            refine xw_iadd hx hb dX4_holds_56 ?_
            obtain ⟨hin, h⟩ := h
            refine xw_iald (n := 80) hx hb hK hP 2 1 rfl rfl (by decide) hin dX4_holds_57 ?_
            obtain ⟨hr7, h⟩ := h
            obtain ⟨hr8, h⟩ := h
            refine xw_icmp_ne (tgt := 65) hx hb ⟨hr7, hr8⟩ dX4_holds_58 (by decide) (fun hcd => ?_) (fun hcd => ?_)
            · have h := h.2 hcd
              refine lv_iconst (v := xw_i 0) hx hb dX4_holds_65 (by decide) ?_
              refine lv_goto (tgt := 89) hx hb dX4_holds_66 (by decide) ?_
              exact k_89 0 _ _ _ h hP hD hS (lv_sub hl [1, 3, 4] rfl)
            · have h := h.1 hcd
              refine lv_iconst (v := xw_i 1) hx hb dX4_holds_61 (by decide) ?_
              refine lv_goto (tgt := 89) hx hb dX4_holds_62 (by decide) ?_
              exact k_89 1 _ _ _ h hP hD hS (lv_sub hl [1, 3, 4] rfl)
  obtain ⟨fu, h⟩ := h
  exact k_4 fu 0 1 _ _ _ h hP hD hS (lv_sub hl [0, 1, 2, 3] rfl)
set_option maxHeartbeats 4000000 in
set_option maxRecDepth 100000 in
theorem c_X4_addUp (l : Launch) (dC : Nat → ClassId) (dI : Nat → Nat → Nat) (qM aM0 aM1 aM2 aM3 aM4 aM5 aM6 aM7 aM8 aM9 aM10 aM11 aM12 : Nat) (kM0 kM1 kM2 kM3 kM4 kM5 kM6 kM7 kM8 kM9 kM10 kM11 kM12 : ClassId) (sz : Nat) (mrw : Int) (mly : Int) (mln : Int) (msp : Int) (mwh : Int) (mcl : Int) (mtr : Int) (mfo : Int) (mki : Nat → Int) (mro : Nat → Int) (mlf : Nat → Int) (mli : Nat → Int) (msw : Nat → Int) (msa : Nat → Int) (msc : Nat → Int) (msl : Nat → Int) (mff : Nat → Int) (mlt : Nat → Int) (mgr : Nat → Int) (mxx : Nat → Int) (msu : Nat → Int) (post : (Nat → Int) → Prop) (h : wp_X4_addUp post mrw mly mln msp mwh mcl mtr mfo mki mro mlf mli msw msa msc msl mff mlt mgr mxx msu) : Met l yX4_addUp wsX4_addUp ({ frames := 0, cells := 0, slots := 0, locals := 0 }) (va_Pc [.ref qM] (xw_Pre (dC, dI) vwCl (wd_X4 qM aM0 aM1 aM2 aM3 aM4 aM5 aM6 aM7 aM8 aM9 aM10 aM11 aM12 kM0 kM1 kM2 kM3 kM4 kM5 kM6 kM7 kM8 kM9 kM10 kM11 kM12 mrw mly mln msp mwh mcl mtr mfo mki mro mlf mli msw msa msc msl mff mlt mgr mxx msu) [(kM0, .int), (kM1, .int), (kM2, .int), (kM3, .long), (kM4, .int), (kM5, .int), (kM6, .int), (kM7, .int), (kM8, .int), (kM9, .int), (kM10, .int), (kM11, .int), (kM12, .int)] sz)) (va_Qv (fun (u : (Nat → Int)) => post u) (xw_B (dC, dI) vwCl (fun (_ : (Nat → Int)) => [(kM0, .int), (kM1, .int), (kM2, .int), (kM3, .long), (kM4, .int), (kM5, .int), (kM6, .int), (kM7, .int), (kM8, .int), (kM9, .int), (kM10, .int), (kM11, .int), (kM12, .int)]) (va_A (wd_X4 qM aM0 aM1 aM2 aM3 aM4 aM5 aM6 aM7 aM8 aM9 aM10 aM11 aM12 kM0 kM1 kM2 kM3 kM4 kM5 kM6 kM7 kM8 kM9 kM10 kM11 kM12 mrw mly mln msp mwh mcl mtr mfo mki mro mlf mli msw msa msc msl mff mlt mgr mxx msu) sz) (fun (u : (Nat → Int)) => (wd_X4 qM aM0 aM1 aM2 aM3 aM4 aM5 aM6 aM7 aM8 aM9 aM10 aM11 aM12 kM0 kM1 kM2 kM3 kM4 kM5 kM6 kM7 kM8 kM9 kM10 kM11 kM12 mrw mly mln msp mwh mcl mtr mfo mki mro mlf mli msw msa msc msl mff mlt mgr mxx u))) (va_A (wd_X4 qM aM0 aM1 aM2 aM3 aM4 aM5 aM6 aM7 aM8 aM9 aM10 aM11 aM12 kM0 kM1 kM2 kM3 kM4 kM5 kM6 kM7 kM8 kM9 kM10 kM11 kM12 mrw mly mln msp mwh mcl mtr mfo mki mro mlf mli msw msa msc msl mff mlt mgr mxx msu) sz)) 0 0 (va_A (wd_X4 qM aM0 aM1 aM2 aM3 aM4 aM5 aM6 aM7 aM8 aM9 aM10 aM11 aM12 kM0 kM1 kM2 kM3 kM4 kM5 kM6 kM7 kM8 kM9 kM10 kM11 kM12 mrw mly mln msp mwh mcl mtr mfo mki mro mlf mli msw msa msc msl mff mlt mgr mxx msu) sz) := by
  refine xw_ofV (cc := cX4_addUp) (maxL := 2) (by decide +kernel) rfl (Nat.le_of_ble_eq_true rfl) ?_
  intro p e s m args below meth c hx hb hml hown hts hin A hA hP hD hK Q hret ls hl hS
  have hl : lv_has ls 2 [(0, .ref qM)] := hl
  have hwsX40 : ∀ w ∈ wsX40, w ∈ wsX4_addUp := fun _ h => List.mem_cons_of_mem _ (List.mem_append_right _ h)
  unfold wp_X4_addUp at h
  refine lv_iconst (v := xw_i 0) hx hb dX4_addUp_0 (by decide) ?_
  refine lv_istore_n (lv' := [(1, .int (xw_i 0)), (0, .ref qM)]) hx hb dX4_addUp_1 rfl hl (by decide) rfl (fun ls hl => ?_)
  have k_2 : ∀ (n_2 : Nat) (msu_1 : Nat → Int) (x1 : Int) (H : Heap) (locs : List Loc) (ls : Array Slot), wp_X4_addUp_2 mrw mro mxx post n_2 msu_1 x1 → va_P (dC, dI) vwCl (wd_X4 qM aM0 aM1 aM2 aM3 aM4 aM5 aM6 aM7 aM8 aM9 aM10 aM11 aM12 kM0 kM1 kM2 kM3 kM4 kM5 kM6 kM7 kM8 kM9 kM10 kM11 kM12 mrw mly mln msp mwh mcl mtr mfo mki mro mlf mli msw msa msc msl mff mlt mgr mxx msu_1) H → va_D A (wd_X4 qM aM0 aM1 aM2 aM3 aM4 aM5 aM6 aM7 aM8 aM9 aM10 aM11 aM12 kM0 kM1 kM2 kM3 kM4 kM5 kM6 kM7 kM8 kM9 kM10 kM11 kM12 mrw mly mln msp mwh mcl mtr mfo mki mro mlf mli msw msa msc msl mff mlt mgr mxx msu_1) → va_S A s.heap H locs → lv_has ls 2 [(1, .int (xw_i x1)), (0, .ref qM)] → W p l e ({ frames := 0, cells := 0, slots := 0, locals := 0 } : Room) s m args below meth c H locs 0 0 Q (F0 m 2 ls []) := by
    intro n_2
    induction n_2 with
    | zero => intro msu_1 x1 H locs ls h; exact False.elim h
    | succ n_2 ih_2 =>
      intro msu_1 x1 H locs ls h hP hD hS hl
      have h : wl_X4_addUp_2 mrw mro mxx post (wp_X4_addUp_2 mrw mro mxx post n_2) msu_1 x1 := h
      unfold wl_X4_addUp_2 at h
      refine lv_iload_n hx hb dX4_addUp_2 rfl (lv_at hl 0 rfl) ?_
      refine lv_aload_n hx hb dX4_addUp_3 rfl (lv_at hl 1 rfl) ?_
      refine va_get (D := (dC, dI)) (ci := 4) (v := .int (xw_i mrw)) (C := RX4) (T := TX4) (N := 21) hx hb hts hwsX40 hown hK hP 0 rfl rfl 0 (by decide) (hts (.fieldLink RX4 50 "BoxProverModel" "rows" "I") (by decide +kernel)) (fun _ h9 => h9) rfl dX4_addUp_4 ?_
      obtain ⟨hr1, h⟩ := h
      obtain ⟨hr2, h⟩ := h
      refine xw_icmp_ge (tgt := 73) hx hb ⟨hr1, hr2⟩ dX4_addUp_7 (by decide) (fun hcd => ?_) (fun hcd => ?_)
      · have h := h.1 hcd
        exact hret _ _ _ _ msu_1 dX4_addUp_73 h hP hD hK hS
      · have h := h.2 hcd
        refine lv_aload_n hx hb dX4_addUp_10 rfl (lv_at hl 1 rfl) ?_
        refine va_get (D := (dC, dI)) (ci := 4) (v := .ref aM12) (C := RX4) (T := TX4) (N := 21) hx hb hts hwsX40 hown hK hP 0 rfl rfl 20 (by decide) (hts (.fieldLink RX4 47 "BoxProverModel" "sums" "[I") (by decide +kernel)) (fun _ h9 => h9) rfl dX4_addUp_11 ?_
        refine lv_iload_n hx hb dX4_addUp_14 rfl (lv_at hl 0 rfl) ?_
        refine lv_aload_n hx hb dX4_addUp_15 rfl (lv_at hl 1 rfl) ?_
        refine va_get (D := (dC, dI)) (ci := 4) (v := .ref aM1) (C := RX4) (T := TX4) (N := 21) hx hb hts hwsX40 hown hK hP 0 rfl rfl 2 (by decide) (hts (.fieldLink RX4 13 "BoxProverModel" "row" "[I") (by decide +kernel)) (fun _ h9 => h9) rfl dX4_addUp_16 ?_
        refine lv_iconst (v := xw_i 5) hx hb dX4_addUp_19 (by decide) ?_
        refine lv_iload_n hx hb dX4_addUp_20 rfl (lv_at hl 0 rfl) ?_
        refine xw_imul hx hb dX4_addUp_21 ?_
        obtain ⟨hin, h⟩ := h
        refine xw_iald (n := 80) hx hb hK hP 2 1 rfl rfl (by decide) hin dX4_addUp_22 ?_
        refine lv_aload_n hx hb dX4_addUp_23 rfl (lv_at hl 1 rfl) ?_
        refine va_get (D := (dC, dI)) (ci := 4) (v := .ref aM11) (C := RX4) (T := TX4) (N := 21) hx hb hts hwsX40 hown hK hP 0 rfl rfl 19 (by decide) (hts (.fieldLink RX4 44 "BoxProverModel" "x" "[I") (by decide +kernel)) (fun _ h9 => h9) rfl dX4_addUp_24 ?_
        refine lv_iconst (v := xw_i 0) hx hb dX4_addUp_27 (by decide) ?_
        obtain ⟨hin, h⟩ := h
        refine xw_iald (n := 4) hx hb hK hP 12 11 rfl rfl (by decide) hin dX4_addUp_28 ?_
        refine xw_imul hx hb dX4_addUp_29 ?_
        refine lv_aload_n hx hb dX4_addUp_30 rfl (lv_at hl 1 rfl) ?_
        refine va_get (D := (dC, dI)) (ci := 4) (v := .ref aM1) (C := RX4) (T := TX4) (N := 21) hx hb hts hwsX40 hown hK hP 0 rfl rfl 2 (by decide) (hts (.fieldLink RX4 13 "BoxProverModel" "row" "[I") (by decide +kernel)) (fun _ h9 => h9) rfl dX4_addUp_31 ?_
        refine lv_iconst (v := xw_i 5) hx hb dX4_addUp_34 (by decide) ?_
        refine lv_iload_n hx hb dX4_addUp_35 rfl (lv_at hl 0 rfl) ?_
        refine xw_imul hx hb dX4_addUp_36 ?_
        refine lv_iconst (v := xw_i 1) hx hb dX4_addUp_37 (by decide) ?_
        refine xw_iadd hx hb dX4_addUp_38 ?_
        obtain ⟨hin, h⟩ := h
        refine xw_iald (n := 80) hx hb hK hP 2 1 rfl rfl (by decide) hin dX4_addUp_39 ?_
        refine lv_aload_n hx hb dX4_addUp_40 rfl (lv_at hl 1 rfl) ?_
        refine va_get (D := (dC, dI)) (ci := 4) (v := .ref aM11) (C := RX4) (T := TX4) (N := 21) hx hb hts hwsX40 hown hK hP 0 rfl rfl 19 (by decide) (hts (.fieldLink RX4 44 "BoxProverModel" "x" "[I") (by decide +kernel)) (fun _ h9 => h9) rfl dX4_addUp_41 ?_
        refine lv_iconst (v := xw_i 1) hx hb dX4_addUp_44 (by decide) ?_
        obtain ⟨hin, h⟩ := h
        refine xw_iald (n := 4) hx hb hK hP 12 11 rfl rfl (by decide) hin dX4_addUp_45 ?_
        refine xw_imul hx hb dX4_addUp_46 ?_
        refine xw_iadd hx hb dX4_addUp_47 ?_
        refine lv_aload_n hx hb dX4_addUp_48 rfl (lv_at hl 1 rfl) ?_
        refine va_get (D := (dC, dI)) (ci := 4) (v := .ref aM1) (C := RX4) (T := TX4) (N := 21) hx hb hts hwsX40 hown hK hP 0 rfl rfl 2 (by decide) (hts (.fieldLink RX4 13 "BoxProverModel" "row" "[I") (by decide +kernel)) (fun _ h9 => h9) rfl dX4_addUp_49 ?_
        refine lv_iconst (v := xw_i 5) hx hb dX4_addUp_52 (by decide) ?_
        refine lv_iload_n hx hb dX4_addUp_53 rfl (lv_at hl 0 rfl) ?_
        refine xw_imul hx hb dX4_addUp_54 ?_
        refine lv_iconst (v := xw_i 2) hx hb dX4_addUp_55 (by decide) ?_
        refine xw_iadd hx hb dX4_addUp_56 ?_
        obtain ⟨hin, h⟩ := h
        refine xw_iald (n := 80) hx hb hK hP 2 1 rfl rfl (by decide) hin dX4_addUp_57 ?_
        refine lv_aload_n hx hb dX4_addUp_58 rfl (lv_at hl 1 rfl) ?_
        refine va_get (D := (dC, dI)) (ci := 4) (v := .ref aM11) (C := RX4) (T := TX4) (N := 21) hx hb hts hwsX40 hown hK hP 0 rfl rfl 19 (by decide) (hts (.fieldLink RX4 44 "BoxProverModel" "x" "[I") (by decide +kernel)) (fun _ h9 => h9) rfl dX4_addUp_59 ?_
        refine lv_iconst (v := xw_i 2) hx hb dX4_addUp_62 (by decide) ?_
        obtain ⟨hin, h⟩ := h
        refine xw_iald (n := 4) hx hb hK hP 12 11 rfl rfl (by decide) hin dX4_addUp_63 ?_
        refine xw_imul hx hb dX4_addUp_64 ?_
        refine xw_iadd hx hb dX4_addUp_65 ?_
        obtain ⟨hin, h⟩ := h
        obtain ⟨msu_2, emsu_2⟩ : ∃ z : Nat → Int, z = xw_u msu_1 x1 ((((mro (5 * x1).toNat) * (mxx (0 : Int).toNat)) + ((mro ((5 * x1) + 1).toNat) * (mxx (1 : Int).toNat))) + ((mro ((5 * x1) + 2).toNat) * (mxx (2 : Int).toNat))) := ⟨_, rfl⟩
        have h := h msu_2 emsu_2
        refine xw_iast (n := 16) hx hb hK hP hD hS 13 12 rfl rfl (by decide) hin emsu_2 dX4_addUp_66 (fun H locs hP hD hS => ?_)
        have hP : va_P (dC, dI) vwCl (wd_X4 qM aM0 aM1 aM2 aM3 aM4 aM5 aM6 aM7 aM8 aM9 aM10 aM11 aM12 kM0 kM1 kM2 kM3 kM4 kM5 kM6 kM7 kM8 kM9 kM10 kM11 kM12 mrw mly mln msp mwh mcl mtr mfo mki mro mlf mli msw msa msc msl mff mlt mgr mxx msu_2) H := hP
        have hD : va_D A (wd_X4 qM aM0 aM1 aM2 aM3 aM4 aM5 aM6 aM7 aM8 aM9 aM10 aM11 aM12 kM0 kM1 kM2 kM3 kM4 kM5 kM6 kM7 kM8 kM9 kM10 kM11 kM12 mrw mly mln msp mwh mcl mtr mfo mki mro mlf mli msw msa msc msl mff mlt mgr mxx msu_2) := hD
        obtain ⟨x1_1, ex1_1⟩ : ∃ y : Int, y = x1 + 1 := ⟨_, rfl⟩
        have h := h x1_1 ex1_1
        refine lv_iinc (v := xw_i x1_1) (lv' := [(1, .int (xw_i x1_1)), (0, .ref qM)]) hx hb dX4_addUp_67 hl (k := 0) rfl (xw_inc ex1_1) (by decide) rfl (fun ls hl => ?_)
        refine lv_goto (tgt := 2) hx hb dX4_addUp_70 (by decide) ?_
        exact ih_2 msu_2 x1_1 _ _ _ h hP hD hS (lv_sub hl [0, 1] rfl)
  obtain ⟨fu, h⟩ := h
  exact k_2 fu msu 0 _ _ _ h hP hD hS (lv_sub hl [0, 1] rfl)
set_option maxHeartbeats 4000000 in
set_option maxRecDepth 100000 in
theorem c_X4_take (l : Launch) (dC : Nat → ClassId) (dI : Nat → Nat → Nat) (qM aM0 aM1 aM2 aM3 aM4 aM5 aM6 aM7 aM8 aM9 aM10 aM11 aM12 : Nat) (kM0 kM1 kM2 kM3 kM4 kM5 kM6 kM7 kM8 kM9 kM10 kM11 kM12 : ClassId) (sz : Nat) (mrw : Int) (mly : Int) (mln : Int) (msp : Int) (mwh : Int) (mcl : Int) (mtr : Int) (mfo : Int) (mki : Nat → Int) (mro : Nat → Int) (mlf : Nat → Int) (mli : Nat → Int) (msw : Nat → Int) (msa : Nat → Int) (msc : Nat → Int) (msl : Nat → Int) (mff : Nat → Int) (mlt : Nat → Int) (mgr : Nat → Int) (mxx : Nat → Int) (msu : Nat → Int) (post : Int → (Nat → Int) → (Nat → Int) → (Nat → Int) → Prop) (h : wp_X4_take post mrw mly mln msp mwh mcl mtr mfo mki mro mlf mli msw msa msc msl mff mlt mgr mxx msu) : Met l yX4_take wsX4_take ({ frames := 0, cells := 0, slots := 0, locals := 0 }) (va_Pc [.ref qM] (xw_Pre (dC, dI) vwCl (wd_X4 qM aM0 aM1 aM2 aM3 aM4 aM5 aM6 aM7 aM8 aM9 aM10 aM11 aM12 kM0 kM1 kM2 kM3 kM4 kM5 kM6 kM7 kM8 kM9 kM10 kM11 kM12 mrw mly mln msp mwh mcl mtr mfo mki mro mlf mli msw msa msc msl mff mlt mgr mxx msu) [(kM0, .int), (kM1, .int), (kM2, .int), (kM3, .long), (kM4, .int), (kM5, .int), (kM6, .int), (kM7, .int), (kM8, .int), (kM9, .int), (kM10, .int), (kM11, .int), (kM12, .int)] sz)) (va_Qv (fun (u : Int × (Nat → Int) × (Nat → Int) × (Nat → Int)) => post u.1 u.2.1 u.2.2.1 u.2.2.2) (xw_B (dC, dI) vwCl (fun (_ : Int × (Nat → Int) × (Nat → Int) × (Nat → Int)) => [(kM0, .int), (kM1, .int), (kM2, .int), (kM3, .long), (kM4, .int), (kM5, .int), (kM6, .int), (kM7, .int), (kM8, .int), (kM9, .int), (kM10, .int), (kM11, .int), (kM12, .int)]) (va_A (wd_X4 qM aM0 aM1 aM2 aM3 aM4 aM5 aM6 aM7 aM8 aM9 aM10 aM11 aM12 kM0 kM1 kM2 kM3 kM4 kM5 kM6 kM7 kM8 kM9 kM10 kM11 kM12 mrw mly mln msp mwh mcl mtr mfo mki mro mlf mli msw msa msc msl mff mlt mgr mxx msu) sz) (fun (u : Int × (Nat → Int) × (Nat → Int) × (Nat → Int)) => (wd_X4 qM aM0 aM1 aM2 aM3 aM4 aM5 aM6 aM7 aM8 aM9 aM10 aM11 aM12 kM0 kM1 kM2 kM3 kM4 kM5 kM6 kM7 kM8 kM9 kM10 kM11 kM12 mrw mly mln msp mwh mcl mtr u.1 mki mro mlf mli msw msa msc msl u.2.1 u.2.2.1 u.2.2.2 mxx msu))) (va_A (wd_X4 qM aM0 aM1 aM2 aM3 aM4 aM5 aM6 aM7 aM8 aM9 aM10 aM11 aM12 kM0 kM1 kM2 kM3 kM4 kM5 kM6 kM7 kM8 kM9 kM10 kM11 kM12 mrw mly mln msp mwh mcl mtr mfo mki mro mlf mli msw msa msc msl mff mlt mgr mxx msu) sz)) 0 0 (va_A (wd_X4 qM aM0 aM1 aM2 aM3 aM4 aM5 aM6 aM7 aM8 aM9 aM10 aM11 aM12 kM0 kM1 kM2 kM3 kM4 kM5 kM6 kM7 kM8 kM9 kM10 kM11 kM12 mrw mly mln msp mwh mcl mtr mfo mki mro mlf mli msw msa msc msl mff mlt mgr mxx msu) sz) := by
  refine xw_ofV (cc := cX4_take) (maxL := 2) (by decide +kernel) rfl (Nat.le_of_ble_eq_true rfl) ?_
  intro p e s m args below meth c hx hb hml hown hts hin A hA hP hD hK Q hret ls hl hS
  have hl : lv_has ls 2 [(0, .ref qM)] := hl
  have hwsX40 : ∀ w ∈ wsX40, w ∈ wsX4_take := fun _ h => List.mem_cons_of_mem _ (List.mem_append_right _ h)
  unfold wp_X4_take at h
  refine lv_iconst (v := xw_i 0) hx hb dX4_take_0 (by decide) ?_
  refine lv_istore_n (lv' := [(1, .int (xw_i 0)), (0, .ref qM)]) hx hb dX4_take_1 rfl hl (by decide) rfl (fun ls hl => ?_)
  have k_2 : ∀ (n_2 : Nat) (mfo_1 : Int) (mff_1 : Nat → Int) (mlt_1 : Nat → Int) (mgr_1 : Nat → Int) (x1 : Int) (H : Heap) (locs : List Loc) (ls : Array Slot), wp_X4_take_2 mxx post n_2 mfo_1 mff_1 mlt_1 mgr_1 x1 → va_P (dC, dI) vwCl (wd_X4 qM aM0 aM1 aM2 aM3 aM4 aM5 aM6 aM7 aM8 aM9 aM10 aM11 aM12 kM0 kM1 kM2 kM3 kM4 kM5 kM6 kM7 kM8 kM9 kM10 kM11 kM12 mrw mly mln msp mwh mcl mtr mfo_1 mki mro mlf mli msw msa msc msl mff_1 mlt_1 mgr_1 mxx msu) H → va_D A (wd_X4 qM aM0 aM1 aM2 aM3 aM4 aM5 aM6 aM7 aM8 aM9 aM10 aM11 aM12 kM0 kM1 kM2 kM3 kM4 kM5 kM6 kM7 kM8 kM9 kM10 kM11 kM12 mrw mly mln msp mwh mcl mtr mfo_1 mki mro mlf mli msw msa msc msl mff_1 mlt_1 mgr_1 mxx msu) → va_S A s.heap H locs → lv_has ls 2 [(1, .int (xw_i x1)), (0, .ref qM)] → W p l e ({ frames := 0, cells := 0, slots := 0, locals := 0 } : Room) s m args below meth c H locs 0 0 Q (F0 m 2 ls []) := by
    intro n_2
    induction n_2 with
    | zero => intro mfo_1 mff_1 mlt_1 mgr_1 x1 H locs ls h; exact False.elim h
    | succ n_2 ih_2 =>
      intro mfo_1 mff_1 mlt_1 mgr_1 x1 H locs ls h hP hD hS hl
      have h : wl_X4_take_2 mxx post (wp_X4_take_2 mxx post n_2) mfo_1 mff_1 mlt_1 mgr_1 x1 := h
      unfold wl_X4_take_2 at h
      refine lv_iload_n hx hb dX4_take_2 rfl (lv_at hl 0 rfl) ?_
      refine lv_iconst (v := xw_i 4) hx hb dX4_take_3 (by decide) ?_
      obtain ⟨hr1, h⟩ := h
      refine xw_icmp_ge (tgt := 127) hx hb ⟨hr1, ⟨by decide, by decide⟩⟩ dX4_take_4 (by decide) (fun hcd => ?_) (fun hcd => ?_)
      · have h := h.1 hcd
        refine lv_aload_n hx hb dX4_take_127 rfl (lv_at hl 1 rfl) ?_
        refine lv_dup hx hb dX4_take_128 rfl ?_
        refine va_get (D := (dC, dI)) (ci := 4) (v := .int (xw_i mfo_1)) (C := RX4) (T := TX4) (N := 21) hx hb hts hwsX40 hown hK hP 0 rfl rfl 15 (by decide) (hts (.fieldLink RX4 85 "BoxProverModel" "found" "I") (by decide +kernel)) (fun _ h9 => h9) rfl dX4_take_129 ?_
        refine lv_iconst (v := xw_i 1) hx hb dX4_take_132 (by decide) ?_
        refine xw_iadd hx hb dX4_take_133 ?_
        refine xw_topi (fun ff eff => ?_)
        have h := h ff eff
        refine va_put (D := (dC, dI)) (ci := 4) (v := .int (xw_i ff)) (ty := .int) (C := RX4) (T := TX4) (N := 21) hx hb hts hwsX40 tyX4 tyX4_ok nmX4 hown hK hP hD hS 0 rfl rfl 15 (by decide) (hts (.fieldLink RX4 85 "BoxProverModel" "found" "I") (by decide +kernel)) (fun _ h9 => h9) rfl (by decide +kernel) rfl rfl (Nat.le_of_ble_eq_true rfl) dX4_take_134 (fun H locs hP hD hS => ?_)
        have hP : va_P (dC, dI) vwCl (wd_X4 qM aM0 aM1 aM2 aM3 aM4 aM5 aM6 aM7 aM8 aM9 aM10 aM11 aM12 kM0 kM1 kM2 kM3 kM4 kM5 kM6 kM7 kM8 kM9 kM10 kM11 kM12 mrw mly mln msp mwh mcl mtr ff mki mro mlf mli msw msa msc msl mff_1 mlt_1 mgr_1 mxx msu) H := hP
        have hD : va_D A (wd_X4 qM aM0 aM1 aM2 aM3 aM4 aM5 aM6 aM7 aM8 aM9 aM10 aM11 aM12 kM0 kM1 kM2 kM3 kM4 kM5 kM6 kM7 kM8 kM9 kM10 kM11 kM12 mrw mly mln msp mwh mcl mtr ff mki mro mlf mli msw msa msc msl mff_1 mlt_1 mgr_1 mxx msu) := hD
        exact hret _ _ _ _ (ff, mff_1, mlt_1, mgr_1) dX4_take_137 h hP hD hK hS
      · have h := h.2 hcd
        refine lv_aload_n hx hb dX4_take_7 rfl (lv_at hl 1 rfl) ?_
        refine va_get (D := (dC, dI)) (ci := 4) (v := .ref aM8) (C := RX4) (T := TX4) (N := 21) hx hb hts hwsX40 hown hK hP 0 rfl rfl 16 (by decide) (hts (.fieldLink RX4 35 "BoxProverModel" "first" "[I") (by decide +kernel)) (fun _ h9 => h9) rfl dX4_take_8 ?_
        refine lv_iload_n hx hb dX4_take_11 rfl (lv_at hl 0 rfl) ?_
        refine lv_aload_n hx hb dX4_take_12 rfl (lv_at hl 1 rfl) ?_
        refine va_get (D := (dC, dI)) (ci := 4) (v := .int (xw_i mfo_1)) (C := RX4) (T := TX4) (N := 21) hx hb hts hwsX40 hown hK hP 0 rfl rfl 15 (by decide) (hts (.fieldLink RX4 85 "BoxProverModel" "found" "I") (by decide +kernel)) (fun _ h9 => h9) rfl dX4_take_13 ?_
        have k_34 : ∀ (mfo_2 : Int) (mff_2 : Nat → Int) (mlt_2 : Nat → Int) (mgr_2 : Nat → Int) (z0 : Int) (z1 : Int) (H : Heap) (locs : List Loc) (ls : Array Slot), wp_X4_take_34 (wp_X4_take_2 mxx post n_2) mxx x1 mfo_2 mff_2 mlt_2 mgr_2 z0 z1 → va_P (dC, dI) vwCl (wd_X4 qM aM0 aM1 aM2 aM3 aM4 aM5 aM6 aM7 aM8 aM9 aM10 aM11 aM12 kM0 kM1 kM2 kM3 kM4 kM5 kM6 kM7 kM8 kM9 kM10 kM11 kM12 mrw mly mln msp mwh mcl mtr mfo_2 mki mro mlf mli msw msa msc msl mff_2 mlt_2 mgr_2 mxx msu) H → va_D A (wd_X4 qM aM0 aM1 aM2 aM3 aM4 aM5 aM6 aM7 aM8 aM9 aM10 aM11 aM12 kM0 kM1 kM2 kM3 kM4 kM5 kM6 kM7 kM8 kM9 kM10 kM11 kM12 mrw mly mln msp mwh mcl mtr mfo_2 mki mro mlf mli msw msa msc msl mff_2 mlt_2 mgr_2 mxx msu) → va_S A s.heap H locs → lv_has ls 2 [(1, .int (xw_i x1)), (0, .ref qM)] → W p l e ({ frames := 0, cells := 0, slots := 0, locals := 0 } : Room) s m args below meth c H locs 0 0 Q (F0 m 34 ls [.int (xw_i z0), .int (xw_i z1), .ref aM8]) := by
          intro mfo_2 mff_2 mlt_2 mgr_2 z0 z1 H locs ls h hP hD hS hl
          unfold wp_X4_take_34 at h
          obtain ⟨hin, h⟩ := h
          obtain ⟨mff_3, emff_3⟩ : ∃ z : Nat → Int, z = xw_u mff_2 z1 z0 := ⟨_, rfl⟩
          have h := h mff_3 emff_3
          refine xw_iast (n := 4) hx hb hK hP hD hS 9 8 rfl rfl (by decide) hin emff_3 dX4_take_34 (fun H locs hP hD hS => ?_)
          have hP : va_P (dC, dI) vwCl (wd_X4 qM aM0 aM1 aM2 aM3 aM4 aM5 aM6 aM7 aM8 aM9 aM10 aM11 aM12 kM0 kM1 kM2 kM3 kM4 kM5 kM6 kM7 kM8 kM9 kM10 kM11 kM12 mrw mly mln msp mwh mcl mtr mfo_2 mki mro mlf mli msw msa msc msl mff_3 mlt_2 mgr_2 mxx msu) H := hP
          have hD : va_D A (wd_X4 qM aM0 aM1 aM2 aM3 aM4 aM5 aM6 aM7 aM8 aM9 aM10 aM11 aM12 kM0 kM1 kM2 kM3 kM4 kM5 kM6 kM7 kM8 kM9 kM10 kM11 kM12 mrw mly mln msp mwh mcl mtr mfo_2 mki mro mlf mli msw msa msc msl mff_3 mlt_2 mgr_2 mxx msu) := hD
          refine lv_aload_n hx hb dX4_take_35 rfl (lv_at hl 1 rfl) ?_
          refine va_get (D := (dC, dI)) (ci := 4) (v := .ref aM9) (C := RX4) (T := TX4) (N := 21) hx hb hts hwsX40 hown hK hP 0 rfl rfl 17 (by decide) (hts (.fieldLink RX4 38 "BoxProverModel" "least" "[I") (by decide +kernel)) (fun _ h9 => h9) rfl dX4_take_36 ?_
          refine lv_iload_n hx hb dX4_take_39 rfl (lv_at hl 0 rfl) ?_
          refine lv_aload_n hx hb dX4_take_40 rfl (lv_at hl 1 rfl) ?_
          refine va_get (D := (dC, dI)) (ci := 4) (v := .int (xw_i mfo_2)) (C := RX4) (T := TX4) (N := 21) hx hb hts hwsX40 hown hK hP 0 rfl rfl 15 (by decide) (hts (.fieldLink RX4 85 "BoxProverModel" "found" "I") (by decide +kernel)) (fun _ h9 => h9) rfl dX4_take_41 ?_
          have k_77 : ∀ (mfo_3 : Int) (mff_4 : Nat → Int) (mlt_3 : Nat → Int) (mgr_3 : Nat → Int) (z0_1 : Int) (z1_1 : Int) (H : Heap) (locs : List Loc) (ls : Array Slot), wp_X4_take_77 (wp_X4_take_2 mxx post n_2) mxx x1 mfo_3 mff_4 mlt_3 mgr_3 z0_1 z1_1 → va_P (dC, dI) vwCl (wd_X4 qM aM0 aM1 aM2 aM3 aM4 aM5 aM6 aM7 aM8 aM9 aM10 aM11 aM12 kM0 kM1 kM2 kM3 kM4 kM5 kM6 kM7 kM8 kM9 kM10 kM11 kM12 mrw mly mln msp mwh mcl mtr mfo_3 mki mro mlf mli msw msa msc msl mff_4 mlt_3 mgr_3 mxx msu) H → va_D A (wd_X4 qM aM0 aM1 aM2 aM3 aM4 aM5 aM6 aM7 aM8 aM9 aM10 aM11 aM12 kM0 kM1 kM2 kM3 kM4 kM5 kM6 kM7 kM8 kM9 kM10 kM11 kM12 mrw mly mln msp mwh mcl mtr mfo_3 mki mro mlf mli msw msa msc msl mff_4 mlt_3 mgr_3 mxx msu) → va_S A s.heap H locs → lv_has ls 2 [(1, .int (xw_i x1)), (0, .ref qM)] → W p l e ({ frames := 0, cells := 0, slots := 0, locals := 0 } : Room) s m args below meth c H locs 0 0 Q (F0 m 77 ls [.int (xw_i z0_1), .int (xw_i z1_1), .ref aM9]) := by
            intro mfo_3 mff_4 mlt_3 mgr_3 z0_1 z1_1 H locs ls h hP hD hS hl
            unfold wp_X4_take_77 at h
            obtain ⟨hin, h⟩ := h
            obtain ⟨mlt_4, emlt_4⟩ : ∃ z : Nat → Int, z = xw_u mlt_3 z1_1 z0_1 := ⟨_, rfl⟩
            have h := h mlt_4 emlt_4
            refine xw_iast (n := 4) hx hb hK hP hD hS 10 9 rfl rfl (by decide) hin emlt_4 dX4_take_77 (fun H locs hP hD hS => ?_)
            have hP : va_P (dC, dI) vwCl (wd_X4 qM aM0 aM1 aM2 aM3 aM4 aM5 aM6 aM7 aM8 aM9 aM10 aM11 aM12 kM0 kM1 kM2 kM3 kM4 kM5 kM6 kM7 kM8 kM9 kM10 kM11 kM12 mrw mly mln msp mwh mcl mtr mfo_3 mki mro mlf mli msw msa msc msl mff_4 mlt_4 mgr_3 mxx msu) H := hP
            have hD : va_D A (wd_X4 qM aM0 aM1 aM2 aM3 aM4 aM5 aM6 aM7 aM8 aM9 aM10 aM11 aM12 kM0 kM1 kM2 kM3 kM4 kM5 kM6 kM7 kM8 kM9 kM10 kM11 kM12 mrw mly mln msp mwh mcl mtr mfo_3 mki mro mlf mli msw msa msc msl mff_4 mlt_4 mgr_3 mxx msu) := hD
            refine lv_aload_n hx hb dX4_take_78 rfl (lv_at hl 1 rfl) ?_
            refine va_get (D := (dC, dI)) (ci := 4) (v := .ref aM10) (C := RX4) (T := TX4) (N := 21) hx hb hts hwsX40 hown hK hP 0 rfl rfl 18 (by decide) (hts (.fieldLink RX4 41 "BoxProverModel" "greatest" "[I") (by decide +kernel)) (fun _ h9 => h9) rfl dX4_take_79 ?_
            refine lv_iload_n hx hb dX4_take_82 rfl (lv_at hl 0 rfl) ?_
            refine lv_aload_n hx hb dX4_take_83 rfl (lv_at hl 1 rfl) ?_
            refine va_get (D := (dC, dI)) (ci := 4) (v := .int (xw_i mfo_3)) (C := RX4) (T := TX4) (N := 21) hx hb hts hwsX40 hown hK hP 0 rfl rfl 15 (by decide) (hts (.fieldLink RX4 85 "BoxProverModel" "found" "I") (by decide +kernel)) (fun _ h9 => h9) rfl dX4_take_84 ?_
            have k_120 : ∀ (mfo_4 : Int) (mff_5 : Nat → Int) (mlt_5 : Nat → Int) (mgr_4 : Nat → Int) (z0_2 : Int) (z1_2 : Int) (H : Heap) (locs : List Loc) (ls : Array Slot), wp_X4_take_120 (wp_X4_take_2 mxx post n_2) x1 mfo_4 mff_5 mlt_5 mgr_4 z0_2 z1_2 → va_P (dC, dI) vwCl (wd_X4 qM aM0 aM1 aM2 aM3 aM4 aM5 aM6 aM7 aM8 aM9 aM10 aM11 aM12 kM0 kM1 kM2 kM3 kM4 kM5 kM6 kM7 kM8 kM9 kM10 kM11 kM12 mrw mly mln msp mwh mcl mtr mfo_4 mki mro mlf mli msw msa msc msl mff_5 mlt_5 mgr_4 mxx msu) H → va_D A (wd_X4 qM aM0 aM1 aM2 aM3 aM4 aM5 aM6 aM7 aM8 aM9 aM10 aM11 aM12 kM0 kM1 kM2 kM3 kM4 kM5 kM6 kM7 kM8 kM9 kM10 kM11 kM12 mrw mly mln msp mwh mcl mtr mfo_4 mki mro mlf mli msw msa msc msl mff_5 mlt_5 mgr_4 mxx msu) → va_S A s.heap H locs → lv_has ls 2 [(1, .int (xw_i x1)), (0, .ref qM)] → W p l e ({ frames := 0, cells := 0, slots := 0, locals := 0 } : Room) s m args below meth c H locs 0 0 Q (F0 m 120 ls [.int (xw_i z0_2), .int (xw_i z1_2), .ref aM10]) := by
              intro mfo_4 mff_5 mlt_5 mgr_4 z0_2 z1_2 H locs ls h hP hD hS hl
              unfold wp_X4_take_120 at h
              obtain ⟨hin, h⟩ := h
              obtain ⟨mgr_5, emgr_5⟩ : ∃ z : Nat → Int, z = xw_u mgr_4 z1_2 z0_2 := ⟨_, rfl⟩
              have h := h mgr_5 emgr_5
              refine xw_iast (n := 4) hx hb hK hP hD hS 11 10 rfl rfl (by decide) hin emgr_5 dX4_take_120 (fun H locs hP hD hS => ?_)
              have hP : va_P (dC, dI) vwCl (wd_X4 qM aM0 aM1 aM2 aM3 aM4 aM5 aM6 aM7 aM8 aM9 aM10 aM11 aM12 kM0 kM1 kM2 kM3 kM4 kM5 kM6 kM7 kM8 kM9 kM10 kM11 kM12 mrw mly mln msp mwh mcl mtr mfo_4 mki mro mlf mli msw msa msc msl mff_5 mlt_5 mgr_5 mxx msu) H := hP
              have hD : va_D A (wd_X4 qM aM0 aM1 aM2 aM3 aM4 aM5 aM6 aM7 aM8 aM9 aM10 aM11 aM12 kM0 kM1 kM2 kM3 kM4 kM5 kM6 kM7 kM8 kM9 kM10 kM11 kM12 mrw mly mln msp mwh mcl mtr mfo_4 mki mro mlf mli msw msa msc msl mff_5 mlt_5 mgr_5 mxx msu) := hD
              obtain ⟨x1_1, ex1_1⟩ : ∃ y : Int, y = x1 + 1 := ⟨_, rfl⟩
              have h := h x1_1 ex1_1
              refine lv_iinc (v := xw_i x1_1) (lv' := [(1, .int (xw_i x1_1)), (0, .ref qM)]) hx hb dX4_take_121 hl (k := 0) rfl (xw_inc ex1_1) (by decide) rfl (fun ls hl => ?_)
              refine lv_goto (tgt := 2) hx hb dX4_take_124 (by decide) ?_
              exact ih_2 mfo_4 mff_5 mlt_5 mgr_5 x1_1 _ _ _ h hP hD hS (lv_sub hl [0, 1] rfl)
            have k_105 : ∀ (mfo_5 : Int) (mff_6 : Nat → Int) (mlt_6 : Nat → Int) (mgr_6 : Nat → Int) (z0_3 : Int) (H : Heap) (locs : List Loc) (ls : Array Slot), wp_X4_take_105 (wp_X4_take_2 mxx post n_2) mxx x1 mfo_5 mff_6 mlt_6 mgr_6 z0_3 → va_P (dC, dI) vwCl (wd_X4 qM aM0 aM1 aM2 aM3 aM4 aM5 aM6 aM7 aM8 aM9 aM10 aM11 aM12 kM0 kM1 kM2 kM3 kM4 kM5 kM6 kM7 kM8 kM9 kM10 kM11 kM12 mrw mly mln msp mwh mcl mtr mfo_5 mki mro mlf mli msw msa msc msl mff_6 mlt_6 mgr_6 mxx msu) H → va_D A (wd_X4 qM aM0 aM1 aM2 aM3 aM4 aM5 aM6 aM7 aM8 aM9 aM10 aM11 aM12 kM0 kM1 kM2 kM3 kM4 kM5 kM6 kM7 kM8 kM9 kM10 kM11 kM12 mrw mly mln msp mwh mcl mtr mfo_5 mki mro mlf mli msw msa msc msl mff_6 mlt_6 mgr_6 mxx msu) → va_S A s.heap H locs → lv_has ls 2 [(1, .int (xw_i x1)), (0, .ref qM)] → W p l e ({ frames := 0, cells := 0, slots := 0, locals := 0 } : Room) s m args below meth c H locs 0 0 Q (F0 m 105 ls [.int (xw_i z0_3), .ref aM10]) := by
              intro mfo_5 mff_6 mlt_6 mgr_6 z0_3 H locs ls h hP hD hS hl
              unfold wp_X4_take_105 at h
              refine lv_aload_n hx hb dX4_take_105 rfl (lv_at hl 1 rfl) ?_
              refine va_get (D := (dC, dI)) (ci := 4) (v := .ref aM11) (C := RX4) (T := TX4) (N := 21) hx hb hts hwsX40 hown hK hP 0 rfl rfl 19 (by decide) (hts (.fieldLink RX4 44 "BoxProverModel" "x" "[I") (by decide +kernel)) (fun _ h9 => h9) rfl dX4_take_106 ?_
              refine lv_iload_n hx hb dX4_take_109 rfl (lv_at hl 0 rfl) ?_
              obtain ⟨hin, h⟩ := h
              refine xw_iald (n := 4) hx hb hK hP 12 11 rfl rfl (by decide) hin dX4_take_110 ?_
              refine lv_goto (tgt := 120) hx hb dX4_take_111 (by decide) ?_
              exact k_120 mfo_5 mff_6 mlt_6 mgr_6 (mxx x1.toNat) z0_3 _ _ _ h hP hD hS (lv_sub hl [0, 1] rfl)
            obtain ⟨hr2, h⟩ := h
            refine xw_if_eq (tgt := 105) hx hb hr2 dX4_take_87 (by decide) (fun hcd => ?_) (fun hcd => ?_)
            · have h := h.1 hcd
              exact k_105 mfo_3 mff_4 mlt_4 mgr_3 x1 _ _ _ h hP hD hS (lv_sub hl [0, 1] rfl)
            · have h := h.2 hcd
              refine lv_aload_n hx hb dX4_take_90 rfl (lv_at hl 1 rfl) ?_
              refine va_get (D := (dC, dI)) (ci := 4) (v := .ref aM11) (C := RX4) (T := TX4) (N := 21) hx hb hts hwsX40 hown hK hP 0 rfl rfl 19 (by decide) (hts (.fieldLink RX4 44 "BoxProverModel" "x" "[I") (by decide +kernel)) (fun _ h9 => h9) rfl dX4_take_91 ?_
              refine lv_iload_n hx hb dX4_take_94 rfl (lv_at hl 0 rfl) ?_
              obtain ⟨hin, h⟩ := h
              refine xw_iald (n := 4) hx hb hK hP 12 11 rfl rfl (by decide) hin dX4_take_95 ?_
              refine lv_aload_n hx hb dX4_take_96 rfl (lv_at hl 1 rfl) ?_
              refine va_get (D := (dC, dI)) (ci := 4) (v := .ref aM10) (C := RX4) (T := TX4) (N := 21) hx hb hts hwsX40 hown hK hP 0 rfl rfl 18 (by decide) (hts (.fieldLink RX4 41 "BoxProverModel" "greatest" "[I") (by decide +kernel)) (fun _ h9 => h9) rfl dX4_take_97 ?_
              refine lv_iload_n hx hb dX4_take_100 rfl (lv_at hl 0 rfl) ?_
              obtain ⟨hin, h⟩ := h
              refine xw_iald (n := 4) hx hb hK hP 11 10 rfl rfl (by decide) hin dX4_take_101 ?_
              obtain ⟨hr3, h⟩ := h
              obtain ⟨hr4, h⟩ := h
              refine xw_icmp_le (tgt := 114) hx hb ⟨hr3, hr4⟩ dX4_take_102 (by decide) (fun hcd => ?_) (fun hcd => ?_)
              · have h := h.1 hcd
                refine lv_aload_n hx hb dX4_take_114 rfl (lv_at hl 1 rfl) ?_
                refine va_get (D := (dC, dI)) (ci := 4) (v := .ref aM10) (C := RX4) (T := TX4) (N := 21) hx hb hts hwsX40 hown hK hP 0 rfl rfl 18 (by decide) (hts (.fieldLink RX4 41 "BoxProverModel" "greatest" "[I") (by decide +kernel)) (fun _ h9 => h9) rfl dX4_take_115 ?_
                refine lv_iload_n hx hb dX4_take_118 rfl (lv_at hl 0 rfl) ?_
                obtain ⟨hin, h⟩ := h
                refine xw_iald (n := 4) hx hb hK hP 11 10 rfl rfl (by decide) hin dX4_take_119 ?_
                exact k_120 mfo_3 mff_4 mlt_4 mgr_3 (mgr_3 x1.toNat) x1 _ _ _ h hP hD hS (lv_sub hl [0, 1] rfl)
              · have h := h.2 hcd
                exact k_105 mfo_3 mff_4 mlt_4 mgr_3 x1 _ _ _ h hP hD hS (lv_sub hl [0, 1] rfl)
          have k_62 : ∀ (mfo_6 : Int) (mff_7 : Nat → Int) (mlt_7 : Nat → Int) (mgr_7 : Nat → Int) (z0_4 : Int) (H : Heap) (locs : List Loc) (ls : Array Slot), wp_X4_take_62 (wp_X4_take_2 mxx post n_2) mxx x1 mfo_6 mff_7 mlt_7 mgr_7 z0_4 → va_P (dC, dI) vwCl (wd_X4 qM aM0 aM1 aM2 aM3 aM4 aM5 aM6 aM7 aM8 aM9 aM10 aM11 aM12 kM0 kM1 kM2 kM3 kM4 kM5 kM6 kM7 kM8 kM9 kM10 kM11 kM12 mrw mly mln msp mwh mcl mtr mfo_6 mki mro mlf mli msw msa msc msl mff_7 mlt_7 mgr_7 mxx msu) H → va_D A (wd_X4 qM aM0 aM1 aM2 aM3 aM4 aM5 aM6 aM7 aM8 aM9 aM10 aM11 aM12 kM0 kM1 kM2 kM3 kM4 kM5 kM6 kM7 kM8 kM9 kM10 kM11 kM12 mrw mly mln msp mwh mcl mtr mfo_6 mki mro mlf mli msw msa msc msl mff_7 mlt_7 mgr_7 mxx msu) → va_S A s.heap H locs → lv_has ls 2 [(1, .int (xw_i x1)), (0, .ref qM)] → W p l e ({ frames := 0, cells := 0, slots := 0, locals := 0 } : Room) s m args below meth c H locs 0 0 Q (F0 m 62 ls [.int (xw_i z0_4), .ref aM9]) := by
            intro mfo_6 mff_7 mlt_7 mgr_7 z0_4 H locs ls h hP hD hS hl
            unfold wp_X4_take_62 at h
            refine lv_aload_n hx hb dX4_take_62 rfl (lv_at hl 1 rfl) ?_
            refine va_get (D := (dC, dI)) (ci := 4) (v := .ref aM11) (C := RX4) (T := TX4) (N := 21) hx hb hts hwsX40 hown hK hP 0 rfl rfl 19 (by decide) (hts (.fieldLink RX4 44 "BoxProverModel" "x" "[I") (by decide +kernel)) (fun _ h9 => h9) rfl dX4_take_63 ?_
            refine lv_iload_n hx hb dX4_take_66 rfl (lv_at hl 0 rfl) ?_
            obtain ⟨hin, h⟩ := h
            refine xw_iald (n := 4) hx hb hK hP 12 11 rfl rfl (by decide) hin dX4_take_67 ?_
            refine lv_goto (tgt := 77) hx hb dX4_take_68 (by decide) ?_
            exact k_77 mfo_6 mff_7 mlt_7 mgr_7 (mxx x1.toNat) z0_4 _ _ _ h hP hD hS (lv_sub hl [0, 1] rfl)
          obtain ⟨hr5, h⟩ := h
          refine xw_if_eq (tgt := 62) hx hb hr5 dX4_take_44 (by decide) (fun hcd => ?_) (fun hcd => ?_)
          · have h := h.1 hcd
            exact k_62 mfo_2 mff_3 mlt_2 mgr_2 x1 _ _ _ h hP hD hS (lv_sub hl [0, 1] rfl)
          · have h := h.2 hcd
            refine lv_aload_n hx hb dX4_take_47 rfl (lv_at hl 1 rfl) ?_
            refine va_get (D := (dC, dI)) (ci := 4) (v := .ref aM11) (C := RX4) (T := TX4) (N := 21) hx hb hts hwsX40 hown hK hP 0 rfl rfl 19 (by decide) (hts (.fieldLink RX4 44 "BoxProverModel" "x" "[I") (by decide +kernel)) (fun _ h9 => h9) rfl dX4_take_48 ?_
            refine lv_iload_n hx hb dX4_take_51 rfl (lv_at hl 0 rfl) ?_
            obtain ⟨hin, h⟩ := h
            refine xw_iald (n := 4) hx hb hK hP 12 11 rfl rfl (by decide) hin dX4_take_52 ?_
            refine lv_aload_n hx hb dX4_take_53 rfl (lv_at hl 1 rfl) ?_
            refine va_get (D := (dC, dI)) (ci := 4) (v := .ref aM9) (C := RX4) (T := TX4) (N := 21) hx hb hts hwsX40 hown hK hP 0 rfl rfl 17 (by decide) (hts (.fieldLink RX4 38 "BoxProverModel" "least" "[I") (by decide +kernel)) (fun _ h9 => h9) rfl dX4_take_54 ?_
            refine lv_iload_n hx hb dX4_take_57 rfl (lv_at hl 0 rfl) ?_
            obtain ⟨hin, h⟩ := h
            refine xw_iald (n := 4) hx hb hK hP 10 9 rfl rfl (by decide) hin dX4_take_58 ?_
            obtain ⟨hr6, h⟩ := h
            obtain ⟨hr7, h⟩ := h
            refine xw_icmp_ge (tgt := 71) hx hb ⟨hr6, hr7⟩ dX4_take_59 (by decide) (fun hcd => ?_) (fun hcd => ?_)
            · have h := h.1 hcd
              refine lv_aload_n hx hb dX4_take_71 rfl (lv_at hl 1 rfl) ?_
              refine va_get (D := (dC, dI)) (ci := 4) (v := .ref aM9) (C := RX4) (T := TX4) (N := 21) hx hb hts hwsX40 hown hK hP 0 rfl rfl 17 (by decide) (hts (.fieldLink RX4 38 "BoxProverModel" "least" "[I") (by decide +kernel)) (fun _ h9 => h9) rfl dX4_take_72 ?_
              refine lv_iload_n hx hb dX4_take_75 rfl (lv_at hl 0 rfl) ?_
              obtain ⟨hin, h⟩ := h
              refine xw_iald (n := 4) hx hb hK hP 10 9 rfl rfl (by decide) hin dX4_take_76 ?_
              exact k_77 mfo_2 mff_3 mlt_2 mgr_2 (mlt_2 x1.toNat) x1 _ _ _ h hP hD hS (lv_sub hl [0, 1] rfl)
            · have h := h.2 hcd
              exact k_62 mfo_2 mff_3 mlt_2 mgr_2 x1 _ _ _ h hP hD hS (lv_sub hl [0, 1] rfl)
        obtain ⟨hr8, h⟩ := h
        refine xw_if_ne (tgt := 28) hx hb hr8 dX4_take_16 (by decide) (fun hcd => ?_) (fun hcd => ?_)
        · have h := h.2 hcd
          refine lv_aload_n hx hb dX4_take_28 rfl (lv_at hl 1 rfl) ?_
          refine va_get (D := (dC, dI)) (ci := 4) (v := .ref aM8) (C := RX4) (T := TX4) (N := 21) hx hb hts hwsX40 hown hK hP 0 rfl rfl 16 (by decide) (hts (.fieldLink RX4 35 "BoxProverModel" "first" "[I") (by decide +kernel)) (fun _ h9 => h9) rfl dX4_take_29 ?_
          refine lv_iload_n hx hb dX4_take_32 rfl (lv_at hl 0 rfl) ?_
          obtain ⟨hin, h⟩ := h
          refine xw_iald (n := 4) hx hb hK hP 9 8 rfl rfl (by decide) hin dX4_take_33 ?_
          exact k_34 mfo_1 mff_1 mlt_1 mgr_1 (mff_1 x1.toNat) x1 _ _ _ h hP hD hS (lv_sub hl [0, 1] rfl)
        · have h := h.1 hcd
          refine lv_aload_n hx hb dX4_take_19 rfl (lv_at hl 1 rfl) ?_
          refine va_get (D := (dC, dI)) (ci := 4) (v := .ref aM11) (C := RX4) (T := TX4) (N := 21) hx hb hts hwsX40 hown hK hP 0 rfl rfl 19 (by decide) (hts (.fieldLink RX4 44 "BoxProverModel" "x" "[I") (by decide +kernel)) (fun _ h9 => h9) rfl dX4_take_20 ?_
          refine lv_iload_n hx hb dX4_take_23 rfl (lv_at hl 0 rfl) ?_
          obtain ⟨hin, h⟩ := h
          refine xw_iald (n := 4) hx hb hK hP 12 11 rfl rfl (by decide) hin dX4_take_24 ?_
          refine lv_goto (tgt := 34) hx hb dX4_take_25 (by decide) ?_
          exact k_34 mfo_1 mff_1 mlt_1 mgr_1 (mxx x1.toNat) x1 _ _ _ h hP hD hS (lv_sub hl [0, 1] rfl)
  obtain ⟨fu, h⟩ := h
  exact k_2 fu mfo mff mlt mgr 0 _ _ _ h hP hD hS (lv_sub hl [0, 1] rfl)
set_option maxHeartbeats 4000000 in
set_option maxRecDepth 100000 in
theorem c_X4_tryAll (l : Launch) (dC : Nat → ClassId) (dI : Nat → Nat → Nat) (qM aM0 aM1 aM2 aM3 aM4 aM5 aM6 aM7 aM8 aM9 aM10 aM11 aM12 : Nat) (kM0 kM1 kM2 kM3 kM4 kM5 kM6 kM7 kM8 kM9 kM10 kM11 kM12 : ClassId) (sz : Nat) (mrw : Int) (mly : Int) (mln : Int) (msp : Int) (mwh : Int) (mcl : Int) (mtr : Int) (mfo : Int) (mki : Nat → Int) (mro : Nat → Int) (mlf : Nat → Int) (mli : Nat → Int) (msw : Nat → Int) (msa : Nat → Int) (msc : Nat → Int) (msl : Nat → Int) (mff : Nat → Int) (mlt : Nat → Int) (mgr : Nat → Int) (mxx : Nat → Int) (msu : Nat → Int) (post : Int → Int → (Nat → Int) → (Nat → Int) → (Nat → Int) → (Nat → Int) → (Nat → Int) → Prop) (h : wp_X4_tryAll post mrw mly mln msp mwh mcl mtr mfo mki mro mlf mli msw msa msc msl mff mlt mgr mxx msu) : Met l yX4_tryAll wsX4_tryAll ({ frames := 1, cells := 0, slots := 0, locals := 24 }) (va_Pc [.ref qM] (xw_Pre (dC, dI) vwCl (wd_X4 qM aM0 aM1 aM2 aM3 aM4 aM5 aM6 aM7 aM8 aM9 aM10 aM11 aM12 kM0 kM1 kM2 kM3 kM4 kM5 kM6 kM7 kM8 kM9 kM10 kM11 kM12 mrw mly mln msp mwh mcl mtr mfo mki mro mlf mli msw msa msc msl mff mlt mgr mxx msu) [(kM0, .int), (kM1, .int), (kM2, .int), (kM3, .long), (kM4, .int), (kM5, .int), (kM6, .int), (kM7, .int), (kM8, .int), (kM9, .int), (kM10, .int), (kM11, .int), (kM12, .int)] sz)) (va_Qv (fun (u : Int × Int × (Nat → Int) × (Nat → Int) × (Nat → Int) × (Nat → Int) × (Nat → Int)) => post u.1 u.2.1 u.2.2.1 u.2.2.2.1 u.2.2.2.2.1 u.2.2.2.2.2.1 u.2.2.2.2.2.2) (xw_B (dC, dI) vwCl (fun (_ : Int × Int × (Nat → Int) × (Nat → Int) × (Nat → Int) × (Nat → Int) × (Nat → Int)) => [(kM0, .int), (kM1, .int), (kM2, .int), (kM3, .long), (kM4, .int), (kM5, .int), (kM6, .int), (kM7, .int), (kM8, .int), (kM9, .int), (kM10, .int), (kM11, .int), (kM12, .int)]) (va_A (wd_X4 qM aM0 aM1 aM2 aM3 aM4 aM5 aM6 aM7 aM8 aM9 aM10 aM11 aM12 kM0 kM1 kM2 kM3 kM4 kM5 kM6 kM7 kM8 kM9 kM10 kM11 kM12 mrw mly mln msp mwh mcl mtr mfo mki mro mlf mli msw msa msc msl mff mlt mgr mxx msu) sz) (fun (u : Int × Int × (Nat → Int) × (Nat → Int) × (Nat → Int) × (Nat → Int) × (Nat → Int)) => (wd_X4 qM aM0 aM1 aM2 aM3 aM4 aM5 aM6 aM7 aM8 aM9 aM10 aM11 aM12 kM0 kM1 kM2 kM3 kM4 kM5 kM6 kM7 kM8 kM9 kM10 kM11 kM12 mrw mly mln msp mwh mcl u.1 u.2.1 mki mro mlf mli msw msa msc msl u.2.2.1 u.2.2.2.1 u.2.2.2.2.1 u.2.2.2.2.2.1 u.2.2.2.2.2.2))) (va_A (wd_X4 qM aM0 aM1 aM2 aM3 aM4 aM5 aM6 aM7 aM8 aM9 aM10 aM11 aM12 kM0 kM1 kM2 kM3 kM4 kM5 kM6 kM7 kM8 kM9 kM10 kM11 kM12 mrw mly mln msp mwh mcl mtr mfo mki mro mlf mli msw msa msc msl mff mlt mgr mxx msu) sz)) 0 0 (va_A (wd_X4 qM aM0 aM1 aM2 aM3 aM4 aM5 aM6 aM7 aM8 aM9 aM10 aM11 aM12 kM0 kM1 kM2 kM3 kM4 kM5 kM6 kM7 kM8 kM9 kM10 kM11 kM12 mrw mly mln msp mwh mcl mtr mfo mki mro mlf mli msw msa msc msl mff mlt mgr mxx msu) sz) := by
  refine xw_ofV (cc := cX4_tryAll) (maxL := 5) (by decide +kernel) rfl (Nat.le_of_ble_eq_true rfl) ?_
  intro p e s m args below meth c hx hb hml hown hts hin A hA hP hD hK Q hret ls hl hS
  have hl : lv_has ls 5 [(0, .ref qM)] := hl
  have hwsX40 : ∀ w ∈ wsX40, w ∈ wsX4_tryAll := fun _ h => List.mem_cons_of_mem _ (List.mem_append_right _ h)
  unfold wp_X4_tryAll at h
  refine lv_aload_n hx hb dX4_tryAll_0 rfl (lv_at hl 0 rfl) ?_
  refine va_get (D := (dC, dI)) (ci := 4) (v := .int (xw_i mtr)) (C := RX4) (T := TX4) (N := 21) hx hb hts hwsX40 hown hK hP 0 rfl rfl 14 (by decide) (hts (.fieldLink RX4 54 "BoxProverModel" "isTried" "Z") (by decide +kernel)) (fun _ h9 => h9) rfl dX4_tryAll_1 ?_
  obtain ⟨hr1, h⟩ := h
  refine xw_if_eq (tgt := 8) hx hb hr1 dX4_tryAll_4 (by decide) (fun hcd => ?_) (fun hcd => ?_)
  · have h := h.1 hcd
    refine lv_aload_n hx hb dX4_tryAll_8 rfl (lv_at hl 0 rfl) ?_
    refine lv_iconst (v := xw_i 1) hx hb dX4_tryAll_9 (by decide) ?_
    refine va_put (D := (dC, dI)) (ci := 4) (v := .int (xw_i 1)) (ty := .boolean) (C := RX4) (T := TX4) (N := 21) hx hb hts hwsX40 tyX4 tyX4_ok nmX4 hown hK hP hD hS 0 rfl rfl 14 (by decide) (hts (.fieldLink RX4 54 "BoxProverModel" "isTried" "Z") (by decide +kernel)) (fun _ h9 => h9) rfl (by decide +kernel) rfl rfl (Nat.le_of_ble_eq_true rfl) dX4_tryAll_10 (fun H locs hP hD hS => ?_)
    have hP : va_P (dC, dI) vwCl (wd_X4 qM aM0 aM1 aM2 aM3 aM4 aM5 aM6 aM7 aM8 aM9 aM10 aM11 aM12 kM0 kM1 kM2 kM3 kM4 kM5 kM6 kM7 kM8 kM9 kM10 kM11 kM12 mrw mly mln msp mwh mcl 1 mfo mki mro mlf mli msw msa msc msl mff mlt mgr mxx msu) H := hP
    have hD : va_D A (wd_X4 qM aM0 aM1 aM2 aM3 aM4 aM5 aM6 aM7 aM8 aM9 aM10 aM11 aM12 kM0 kM1 kM2 kM3 kM4 kM5 kM6 kM7 kM8 kM9 kM10 kM11 kM12 mrw mly mln msp mwh mcl 1 mfo mki mro mlf mli msw msa msc msl mff mlt mgr mxx msu) := hD
    refine lv_aload_n hx hb dX4_tryAll_13 rfl (lv_at hl 0 rfl) ?_
    refine lv_iconst (v := xw_i 0) hx hb dX4_tryAll_14 (by decide) ?_
    refine va_put (D := (dC, dI)) (ci := 4) (v := .int (xw_i 0)) (ty := .int) (C := RX4) (T := TX4) (N := 21) hx hb hts hwsX40 tyX4 tyX4_ok nmX4 hown hK hP hD hS 0 rfl rfl 15 (by decide) (hts (.fieldLink RX4 85 "BoxProverModel" "found" "I") (by decide +kernel)) (fun _ h9 => h9) rfl (by decide +kernel) rfl rfl (Nat.le_of_ble_eq_true rfl) dX4_tryAll_15 (fun H locs hP hD hS => ?_)
    have hP : va_P (dC, dI) vwCl (wd_X4 qM aM0 aM1 aM2 aM3 aM4 aM5 aM6 aM7 aM8 aM9 aM10 aM11 aM12 kM0 kM1 kM2 kM3 kM4 kM5 kM6 kM7 kM8 kM9 kM10 kM11 kM12 mrw mly mln msp mwh mcl 1 0 mki mro mlf mli msw msa msc msl mff mlt mgr mxx msu) H := hP
    have hD : va_D A (wd_X4 qM aM0 aM1 aM2 aM3 aM4 aM5 aM6 aM7 aM8 aM9 aM10 aM11 aM12 kM0 kM1 kM2 kM3 kM4 kM5 kM6 kM7 kM8 kM9 kM10 kM11 kM12 mrw mly mln msp mwh mcl 1 0 mki mro mlf mli msw msa msc msl mff mlt mgr mxx msu) := hD
    refine lv_bipush (v := xw_i (-15)) hx hb dX4_tryAll_18 (by decide) ?_
    refine lv_istore_n (lv' := [(1, .int (xw_i (-15))), (0, .ref qM)]) hx hb dX4_tryAll_20 rfl hl (by decide) rfl (fun ls hl => ?_)
    have k_21 : ∀ (n_21 : Nat) (mtr_1 : Int) (mfo_1 : Int) (mff_1 : Nat → Int) (mlt_1 : Nat → Int) (mgr_1 : Nat → Int) (mxx_1 : Nat → Int) (msu_1 : Nat → Int) (x1 : Int) (H : Heap) (locs : List Loc) (ls : Array Slot), wp_X4_tryAll_21 mrw mly mln msp mwh mcl mki mro mlf mli msw msa msc msl post n_21 mtr_1 mfo_1 mff_1 mlt_1 mgr_1 mxx_1 msu_1 x1 → va_P (dC, dI) vwCl (wd_X4 qM aM0 aM1 aM2 aM3 aM4 aM5 aM6 aM7 aM8 aM9 aM10 aM11 aM12 kM0 kM1 kM2 kM3 kM4 kM5 kM6 kM7 kM8 kM9 kM10 kM11 kM12 mrw mly mln msp mwh mcl mtr_1 mfo_1 mki mro mlf mli msw msa msc msl mff_1 mlt_1 mgr_1 mxx_1 msu_1) H → va_D A (wd_X4 qM aM0 aM1 aM2 aM3 aM4 aM5 aM6 aM7 aM8 aM9 aM10 aM11 aM12 kM0 kM1 kM2 kM3 kM4 kM5 kM6 kM7 kM8 kM9 kM10 kM11 kM12 mrw mly mln msp mwh mcl mtr_1 mfo_1 mki mro mlf mli msw msa msc msl mff_1 mlt_1 mgr_1 mxx_1 msu_1) → va_S A s.heap H locs → lv_has ls 5 [(1, .int (xw_i x1)), (0, .ref qM)] → W p l e ({ frames := 1, cells := 0, slots := 0, locals := 24 } : Room) s m args below meth c H locs 0 0 Q (F0 m 21 ls []) := by
      intro n_21
      induction n_21 with
      | zero => intro mtr_1 mfo_1 mff_1 mlt_1 mgr_1 mxx_1 msu_1 x1 H locs ls h; exact False.elim h
      | succ n_21 ih_21 =>
        intro mtr_1 mfo_1 mff_1 mlt_1 mgr_1 mxx_1 msu_1 x1 H locs ls h hP hD hS hl
        have h : wl_X4_tryAll_21 mrw mly mln msp mwh mcl mki mro mlf mli msw msa msc msl post (wp_X4_tryAll_21 mrw mly mln msp mwh mcl mki mro mlf mli msw msa msc msl post n_21) mtr_1 mfo_1 mff_1 mlt_1 mgr_1 mxx_1 msu_1 x1 := h
        unfold wl_X4_tryAll_21 at h
        refine lv_iload_n hx hb dX4_tryAll_21 rfl (lv_at hl 0 rfl) ?_
        refine lv_bipush (v := xw_i 15) hx hb dX4_tryAll_22 (by decide) ?_
        obtain ⟨hr2, h⟩ := h
        refine xw_icmp_gt (tgt := 126) hx hb ⟨hr2, ⟨by decide, by decide⟩⟩ dX4_tryAll_24 (by decide) (fun hcd => ?_) (fun hcd => ?_)
        · have h := h.1 hcd
          exact hret _ _ _ _ (mtr_1, mfo_1, mff_1, mlt_1, mgr_1, mxx_1, msu_1) dX4_tryAll_126 h hP hD hK hS
        · have h := h.2 hcd
          refine lv_bipush (v := xw_i (-15)) hx hb dX4_tryAll_27 (by decide) ?_
          refine lv_istore_n (lv' := [(2, .int (xw_i (-15))), (1, .int (xw_i x1)), (0, .ref qM)]) hx hb dX4_tryAll_29 rfl hl (by decide) rfl (fun ls hl => ?_)
          have k_30 : ∀ (n_30 : Nat) (mtr_2 : Int) (mfo_2 : Int) (mff_2 : Nat → Int) (mlt_2 : Nat → Int) (mgr_2 : Nat → Int) (mxx_2 : Nat → Int) (msu_2 : Nat → Int) (x2 : Int) (H : Heap) (locs : List Loc) (ls : Array Slot), wp_X4_tryAll_30 (wp_X4_tryAll_21 mrw mly mln msp mwh mcl mki mro mlf mli msw msa msc msl post n_21) mrw mly mln msp mwh mcl mki mro mlf mli msw msa msc msl x1 n_30 mtr_2 mfo_2 mff_2 mlt_2 mgr_2 mxx_2 msu_2 x2 → va_P (dC, dI) vwCl (wd_X4 qM aM0 aM1 aM2 aM3 aM4 aM5 aM6 aM7 aM8 aM9 aM10 aM11 aM12 kM0 kM1 kM2 kM3 kM4 kM5 kM6 kM7 kM8 kM9 kM10 kM11 kM12 mrw mly mln msp mwh mcl mtr_2 mfo_2 mki mro mlf mli msw msa msc msl mff_2 mlt_2 mgr_2 mxx_2 msu_2) H → va_D A (wd_X4 qM aM0 aM1 aM2 aM3 aM4 aM5 aM6 aM7 aM8 aM9 aM10 aM11 aM12 kM0 kM1 kM2 kM3 kM4 kM5 kM6 kM7 kM8 kM9 kM10 kM11 kM12 mrw mly mln msp mwh mcl mtr_2 mfo_2 mki mro mlf mli msw msa msc msl mff_2 mlt_2 mgr_2 mxx_2 msu_2) → va_S A s.heap H locs → lv_has ls 5 [(2, .int (xw_i x2)), (1, .int (xw_i x1)), (0, .ref qM)] → W p l e ({ frames := 1, cells := 0, slots := 0, locals := 24 } : Room) s m args below meth c H locs 0 0 Q (F0 m 30 ls []) := by
            intro n_30
            induction n_30 with
            | zero => intro mtr_2 mfo_2 mff_2 mlt_2 mgr_2 mxx_2 msu_2 x2 H locs ls h; exact False.elim h
            | succ n_30 ih_30 =>
              intro mtr_2 mfo_2 mff_2 mlt_2 mgr_2 mxx_2 msu_2 x2 H locs ls h hP hD hS hl
              have h : wl_X4_tryAll_30 (wp_X4_tryAll_21 mrw mly mln msp mwh mcl mki mro mlf mli msw msa msc msl post n_21) mrw mly mln msp mwh mcl mki mro mlf mli msw msa msc msl x1 (wp_X4_tryAll_30 (wp_X4_tryAll_21 mrw mly mln msp mwh mcl mki mro mlf mli msw msa msc msl post n_21) mrw mly mln msp mwh mcl mki mro mlf mli msw msa msc msl x1 n_30) mtr_2 mfo_2 mff_2 mlt_2 mgr_2 mxx_2 msu_2 x2 := h
              unfold wl_X4_tryAll_30 at h
              refine lv_iload_n hx hb dX4_tryAll_30 rfl (lv_at hl 0 rfl) ?_
              refine lv_bipush (v := xw_i 15) hx hb dX4_tryAll_31 (by decide) ?_
              obtain ⟨hr3, h⟩ := h
              refine xw_icmp_gt (tgt := 120) hx hb ⟨hr3, ⟨by decide, by decide⟩⟩ dX4_tryAll_33 (by decide) (fun hcd => ?_) (fun hcd => ?_)
              · have h := h.1 hcd
                obtain ⟨x1_1, ex1_1⟩ : ∃ y : Int, y = x1 + 1 := ⟨_, rfl⟩
                have h := h x1_1 ex1_1
                refine lv_iinc (v := xw_i x1_1) (lv' := [(1, .int (xw_i x1_1)), (2, .int (xw_i x2)), (0, .ref qM)]) hx hb dX4_tryAll_120 hl (k := 1) rfl (xw_inc ex1_1) (by decide) rfl (fun ls hl => ?_)
                refine lv_goto (tgt := 21) hx hb dX4_tryAll_123 (by decide) ?_
                exact ih_21 mtr_2 mfo_2 mff_2 mlt_2 mgr_2 mxx_2 msu_2 x1_1 _ _ _ h hP hD hS (lv_sub hl [0, 2] rfl)
              · have h := h.2 hcd
                refine lv_bipush (v := xw_i (-15)) hx hb dX4_tryAll_36 (by decide) ?_
                refine lv_istore_n (lv' := [(3, .int (xw_i (-15))), (2, .int (xw_i x2)), (1, .int (xw_i x1)), (0, .ref qM)]) hx hb dX4_tryAll_38 rfl hl (by decide) rfl (fun ls hl => ?_)
                have k_39 : ∀ (n_39 : Nat) (mtr_3 : Int) (mfo_3 : Int) (mff_3 : Nat → Int) (mlt_3 : Nat → Int) (mgr_3 : Nat → Int) (mxx_3 : Nat → Int) (msu_3 : Nat → Int) (x3 : Int) (H : Heap) (locs : List Loc) (ls : Array Slot), wp_X4_tryAll_39 (wp_X4_tryAll_30 (wp_X4_tryAll_21 mrw mly mln msp mwh mcl mki mro mlf mli msw msa msc msl post n_21) mrw mly mln msp mwh mcl mki mro mlf mli msw msa msc msl x1 n_30) mrw mly mln msp mwh mcl mki mro mlf mli msw msa msc msl x1 x2 n_39 mtr_3 mfo_3 mff_3 mlt_3 mgr_3 mxx_3 msu_3 x3 → va_P (dC, dI) vwCl (wd_X4 qM aM0 aM1 aM2 aM3 aM4 aM5 aM6 aM7 aM8 aM9 aM10 aM11 aM12 kM0 kM1 kM2 kM3 kM4 kM5 kM6 kM7 kM8 kM9 kM10 kM11 kM12 mrw mly mln msp mwh mcl mtr_3 mfo_3 mki mro mlf mli msw msa msc msl mff_3 mlt_3 mgr_3 mxx_3 msu_3) H → va_D A (wd_X4 qM aM0 aM1 aM2 aM3 aM4 aM5 aM6 aM7 aM8 aM9 aM10 aM11 aM12 kM0 kM1 kM2 kM3 kM4 kM5 kM6 kM7 kM8 kM9 kM10 kM11 kM12 mrw mly mln msp mwh mcl mtr_3 mfo_3 mki mro mlf mli msw msa msc msl mff_3 mlt_3 mgr_3 mxx_3 msu_3) → va_S A s.heap H locs → lv_has ls 5 [(3, .int (xw_i x3)), (2, .int (xw_i x2)), (1, .int (xw_i x1)), (0, .ref qM)] → W p l e ({ frames := 1, cells := 0, slots := 0, locals := 24 } : Room) s m args below meth c H locs 0 0 Q (F0 m 39 ls []) := by
                  intro n_39
                  induction n_39 with
                  | zero => intro mtr_3 mfo_3 mff_3 mlt_3 mgr_3 mxx_3 msu_3 x3 H locs ls h; exact False.elim h
                  | succ n_39 ih_39 =>
                    intro mtr_3 mfo_3 mff_3 mlt_3 mgr_3 mxx_3 msu_3 x3 H locs ls h hP hD hS hl
                    have h : wl_X4_tryAll_39 (wp_X4_tryAll_30 (wp_X4_tryAll_21 mrw mly mln msp mwh mcl mki mro mlf mli msw msa msc msl post n_21) mrw mly mln msp mwh mcl mki mro mlf mli msw msa msc msl x1 n_30) mrw mly mln msp mwh mcl mki mro mlf mli msw msa msc msl x1 x2 (wp_X4_tryAll_39 (wp_X4_tryAll_30 (wp_X4_tryAll_21 mrw mly mln msp mwh mcl mki mro mlf mli msw msa msc msl post n_21) mrw mly mln msp mwh mcl mki mro mlf mli msw msa msc msl x1 n_30) mrw mly mln msp mwh mcl mki mro mlf mli msw msa msc msl x1 x2 n_39) mtr_3 mfo_3 mff_3 mlt_3 mgr_3 mxx_3 msu_3 x3 := h
                    unfold wl_X4_tryAll_39 at h
                    refine lv_iload_n hx hb dX4_tryAll_39 rfl (lv_at hl 0 rfl) ?_
                    refine lv_bipush (v := xw_i 15) hx hb dX4_tryAll_40 (by decide) ?_
                    obtain ⟨hr4, h⟩ := h
                    refine xw_icmp_gt (tgt := 114) hx hb ⟨hr4, ⟨by decide, by decide⟩⟩ dX4_tryAll_42 (by decide) (fun hcd => ?_) (fun hcd => ?_)
                    · have h := h.1 hcd
                      obtain ⟨x2_1, ex2_1⟩ : ∃ y : Int, y = x2 + 1 := ⟨_, rfl⟩
                      have h := h x2_1 ex2_1
                      refine lv_iinc (v := xw_i x2_1) (lv' := [(2, .int (xw_i x2_1)), (3, .int (xw_i x3)), (1, .int (xw_i x1)), (0, .ref qM)]) hx hb dX4_tryAll_114 hl (k := 1) rfl (xw_inc ex2_1) (by decide) rfl (fun ls hl => ?_)
                      refine lv_goto (tgt := 30) hx hb dX4_tryAll_117 (by decide) ?_
                      exact ih_30 mtr_3 mfo_3 mff_3 mlt_3 mgr_3 mxx_3 msu_3 x2_1 _ _ _ h hP hD hS (lv_sub hl [0, 2, 3] rfl)
                    · have h := h.2 hcd
                      refine lv_aload_n hx hb dX4_tryAll_45 rfl (lv_at hl 3 rfl) ?_
                      refine va_get (D := (dC, dI)) (ci := 4) (v := .ref aM11) (C := RX4) (T := TX4) (N := 21) hx hb hts hwsX40 hown hK hP 0 rfl rfl 19 (by decide) (hts (.fieldLink RX4 44 "BoxProverModel" "x" "[I") (by decide +kernel)) (fun _ h9 => h9) rfl dX4_tryAll_46 ?_
                      refine lv_iconst (v := xw_i 0) hx hb dX4_tryAll_49 (by decide) ?_
                      refine lv_iload_n hx hb dX4_tryAll_50 rfl (lv_at hl 2 rfl) ?_
                      obtain ⟨hin, h⟩ := h
                      obtain ⟨mxx_4, emxx_4⟩ : ∃ z : Nat → Int, z = xw_u mxx_3 0 x1 := ⟨_, rfl⟩
                      have h := h mxx_4 emxx_4
                      refine xw_iast (n := 4) hx hb hK hP hD hS 12 11 rfl rfl (by decide) hin emxx_4 dX4_tryAll_51 (fun H locs hP hD hS => ?_)
                      have hP : va_P (dC, dI) vwCl (wd_X4 qM aM0 aM1 aM2 aM3 aM4 aM5 aM6 aM7 aM8 aM9 aM10 aM11 aM12 kM0 kM1 kM2 kM3 kM4 kM5 kM6 kM7 kM8 kM9 kM10 kM11 kM12 mrw mly mln msp mwh mcl mtr_3 mfo_3 mki mro mlf mli msw msa msc msl mff_3 mlt_3 mgr_3 mxx_4 msu_3) H := hP
                      have hD : va_D A (wd_X4 qM aM0 aM1 aM2 aM3 aM4 aM5 aM6 aM7 aM8 aM9 aM10 aM11 aM12 kM0 kM1 kM2 kM3 kM4 kM5 kM6 kM7 kM8 kM9 kM10 kM11 kM12 mrw mly mln msp mwh mcl mtr_3 mfo_3 mki mro mlf mli msw msa msc msl mff_3 mlt_3 mgr_3 mxx_4 msu_3) := hD
                      refine lv_aload_n hx hb dX4_tryAll_52 rfl (lv_at hl 3 rfl) ?_
                      refine va_get (D := (dC, dI)) (ci := 4) (v := .ref aM11) (C := RX4) (T := TX4) (N := 21) hx hb hts hwsX40 hown hK hP 0 rfl rfl 19 (by decide) (hts (.fieldLink RX4 44 "BoxProverModel" "x" "[I") (by decide +kernel)) (fun _ h9 => h9) rfl dX4_tryAll_53 ?_
                      refine lv_iconst (v := xw_i 1) hx hb dX4_tryAll_56 (by decide) ?_
                      refine lv_iload_n hx hb dX4_tryAll_57 rfl (lv_at hl 1 rfl) ?_
                      obtain ⟨hin, h⟩ := h
                      obtain ⟨mxx_5, emxx_5⟩ : ∃ z : Nat → Int, z = xw_u mxx_4 1 x2 := ⟨_, rfl⟩
                      have h := h mxx_5 emxx_5
                      refine xw_iast (n := 4) hx hb hK hP hD hS 12 11 rfl rfl (by decide) hin emxx_5 dX4_tryAll_58 (fun H locs hP hD hS => ?_)
                      have hP : va_P (dC, dI) vwCl (wd_X4 qM aM0 aM1 aM2 aM3 aM4 aM5 aM6 aM7 aM8 aM9 aM10 aM11 aM12 kM0 kM1 kM2 kM3 kM4 kM5 kM6 kM7 kM8 kM9 kM10 kM11 kM12 mrw mly mln msp mwh mcl mtr_3 mfo_3 mki mro mlf mli msw msa msc msl mff_3 mlt_3 mgr_3 mxx_5 msu_3) H := hP
                      have hD : va_D A (wd_X4 qM aM0 aM1 aM2 aM3 aM4 aM5 aM6 aM7 aM8 aM9 aM10 aM11 aM12 kM0 kM1 kM2 kM3 kM4 kM5 kM6 kM7 kM8 kM9 kM10 kM11 kM12 mrw mly mln msp mwh mcl mtr_3 mfo_3 mki mro mlf mli msw msa msc msl mff_3 mlt_3 mgr_3 mxx_5 msu_3) := hD
                      refine lv_aload_n hx hb dX4_tryAll_59 rfl (lv_at hl 3 rfl) ?_
                      refine va_get (D := (dC, dI)) (ci := 4) (v := .ref aM11) (C := RX4) (T := TX4) (N := 21) hx hb hts hwsX40 hown hK hP 0 rfl rfl 19 (by decide) (hts (.fieldLink RX4 44 "BoxProverModel" "x" "[I") (by decide +kernel)) (fun _ h9 => h9) rfl dX4_tryAll_60 ?_
                      refine lv_iconst (v := xw_i 2) hx hb dX4_tryAll_63 (by decide) ?_
                      refine lv_iload_n hx hb dX4_tryAll_64 rfl (lv_at hl 0 rfl) ?_
                      obtain ⟨hin, h⟩ := h
                      obtain ⟨mxx_6, emxx_6⟩ : ∃ z : Nat → Int, z = xw_u mxx_5 2 x3 := ⟨_, rfl⟩
                      have h := h mxx_6 emxx_6
                      refine xw_iast (n := 4) hx hb hK hP hD hS 12 11 rfl rfl (by decide) hin emxx_6 dX4_tryAll_65 (fun H locs hP hD hS => ?_)
                      have hP : va_P (dC, dI) vwCl (wd_X4 qM aM0 aM1 aM2 aM3 aM4 aM5 aM6 aM7 aM8 aM9 aM10 aM11 aM12 kM0 kM1 kM2 kM3 kM4 kM5 kM6 kM7 kM8 kM9 kM10 kM11 kM12 mrw mly mln msp mwh mcl mtr_3 mfo_3 mki mro mlf mli msw msa msc msl mff_3 mlt_3 mgr_3 mxx_6 msu_3) H := hP
                      have hD : va_D A (wd_X4 qM aM0 aM1 aM2 aM3 aM4 aM5 aM6 aM7 aM8 aM9 aM10 aM11 aM12 kM0 kM1 kM2 kM3 kM4 kM5 kM6 kM7 kM8 kM9 kM10 kM11 kM12 mrw mly mln msp mwh mcl mtr_3 mfo_3 mki mro mlf mli msw msa msc msl mff_3 mlt_3 mgr_3 mxx_6 msu_3) := hD
                      refine lv_aload_n hx hb dX4_tryAll_66 rfl (lv_at hl 3 rfl) ?_
                      refine xw_backv (wc := (wd_X4 qM aM0 aM1 aM2 aM3 aM4 aM5 aM6 aM7 aM8 aM9 aM10 aM11 aM12 kM0 kM1 kM2 kM3 kM4 kM5 kM6 kM7 kM8 kM9 kM10 kM11 kM12 mrw mly mln msp mwh mcl mtr_3 mfo_3 mki mro mlf mli msw msa msc msl mff_3 mlt_3 mgr_3 mxx_6 msu_3)) (wr := []) (va_runV (As := []) (rest := []) ⟨hx, hb, hml, hown, hts⟩ (c_X4_addUp l dC dI qM aM0 aM1 aM2 aM3 aM4 aM5 aM6 aM7 aM8 aM9 aM10 aM11 aM12 kM0 kM1 kM2 kM3 kM4 kM5 kM6 kM7 kM8 kM9 kM10 kM11 kM12 H.size mrw mly mln msp mwh mcl mtr_3 mfo_3 mki mro mlf mli msw msa msc msl mff_3 mlt_3 mgr_3 mxx_6 msu_3 _ h) (cwV 0 hts gX4_tryAll_X4_addUp rfl rfl rfl (by decide +kernel) ⟨Nat.le_of_ble_eq_true rfl, Nat.le_of_ble_eq_true rfl⟩) (xw_preV (ci := 4) hK hP hD [0, 1, 2, 3, 4, 5, 6, 7, 8, 9, 10, 11, 12, 13] rfl rfl (by decide) [0, 1, 2, 3, 4, 5, 6, 7, 8, 9, 10, 11, 12] rfl rfl rfl) rfl rfl hl.1 rfl (lv_room (Nat.le_of_ble_eq_true rfl)) dX4_tryAll_67 ⟨Nat.le_of_ble_eq_true rfl, Nat.le_of_ble_eq_true rfl⟩) hK hP hD hS hA [0, 1, 2, 3, 4, 5, 6, 7, 8, 9, 10, 11, 12, 13] [] rfl rfl (by decide) (by decide) (fun msu_4 H locs h hP hD hK2 hS => ?_)
                      try dsimp only at h
                      have hP : va_P (dC, dI) vwCl (wd_X4 qM aM0 aM1 aM2 aM3 aM4 aM5 aM6 aM7 aM8 aM9 aM10 aM11 aM12 kM0 kM1 kM2 kM3 kM4 kM5 kM6 kM7 kM8 kM9 kM10 kM11 kM12 mrw mly mln msp mwh mcl mtr_3 mfo_3 mki mro mlf mli msw msa msc msl mff_3 mlt_3 mgr_3 mxx_6 msu_4) H := hP
                      have hD : va_D A (wd_X4 qM aM0 aM1 aM2 aM3 aM4 aM5 aM6 aM7 aM8 aM9 aM10 aM11 aM12 kM0 kM1 kM2 kM3 kM4 kM5 kM6 kM7 kM8 kM9 kM10 kM11 kM12 mrw mly mln msp mwh mcl mtr_3 mfo_3 mki mro mlf mli msw msa msc msl mff_3 mlt_3 mgr_3 mxx_6 msu_4) := hD
                      refine lv_bipush (v := xw_i (-15)) hx hb dX4_tryAll_70 (by decide) ?_
                      refine lv_istore (lv' := [(4, .int (xw_i (-15))), (3, .int (xw_i x3)), (2, .int (xw_i x2)), (1, .int (xw_i x1)), (0, .ref qM)]) hx hb dX4_tryAll_72 hl (by decide) rfl (fun ls hl => ?_)
                      have k_74 : ∀ (n_74 : Nat) (mtr_4 : Int) (mfo_4 : Int) (mff_4 : Nat → Int) (mlt_4 : Nat → Int) (mgr_4 : Nat → Int) (mxx_7 : Nat → Int) (msu_5 : Nat → Int) (x4 : Int) (H : Heap) (locs : List Loc) (ls : Array Slot), wp_X4_tryAll_74 (wp_X4_tryAll_39 (wp_X4_tryAll_30 (wp_X4_tryAll_21 mrw mly mln msp mwh mcl mki mro mlf mli msw msa msc msl post n_21) mrw mly mln msp mwh mcl mki mro mlf mli msw msa msc msl x1 n_30) mrw mly mln msp mwh mcl mki mro mlf mli msw msa msc msl x1 x2 n_39) mrw mly mln msp mwh mcl mki mro mlf mli msw msa msc msl x3 n_74 mtr_4 mfo_4 mff_4 mlt_4 mgr_4 mxx_7 msu_5 x4 → va_P (dC, dI) vwCl (wd_X4 qM aM0 aM1 aM2 aM3 aM4 aM5 aM6 aM7 aM8 aM9 aM10 aM11 aM12 kM0 kM1 kM2 kM3 kM4 kM5 kM6 kM7 kM8 kM9 kM10 kM11 kM12 mrw mly mln msp mwh mcl mtr_4 mfo_4 mki mro mlf mli msw msa msc msl mff_4 mlt_4 mgr_4 mxx_7 msu_5) H → va_D A (wd_X4 qM aM0 aM1 aM2 aM3 aM4 aM5 aM6 aM7 aM8 aM9 aM10 aM11 aM12 kM0 kM1 kM2 kM3 kM4 kM5 kM6 kM7 kM8 kM9 kM10 kM11 kM12 mrw mly mln msp mwh mcl mtr_4 mfo_4 mki mro mlf mli msw msa msc msl mff_4 mlt_4 mgr_4 mxx_7 msu_5) → va_S A s.heap H locs → lv_has ls 5 [(4, .int (xw_i x4)), (3, .int (xw_i x3)), (2, .int (xw_i x2)), (1, .int (xw_i x1)), (0, .ref qM)] → W p l e ({ frames := 1, cells := 0, slots := 0, locals := 24 } : Room) s m args below meth c H locs 0 0 Q (F0 m 74 ls []) := by
                        intro n_74
                        induction n_74 with
                        | zero => intro mtr_4 mfo_4 mff_4 mlt_4 mgr_4 mxx_7 msu_5 x4 H locs ls h; exact False.elim h
                        | succ n_74 ih_74 =>
                          intro mtr_4 mfo_4 mff_4 mlt_4 mgr_4 mxx_7 msu_5 x4 H locs ls h hP hD hS hl
                          have h : wl_X4_tryAll_74 (wp_X4_tryAll_39 (wp_X4_tryAll_30 (wp_X4_tryAll_21 mrw mly mln msp mwh mcl mki mro mlf mli msw msa msc msl post n_21) mrw mly mln msp mwh mcl mki mro mlf mli msw msa msc msl x1 n_30) mrw mly mln msp mwh mcl mki mro mlf mli msw msa msc msl x1 x2 n_39) mrw mly mln msp mwh mcl mki mro mlf mli msw msa msc msl x3 (wp_X4_tryAll_74 (wp_X4_tryAll_39 (wp_X4_tryAll_30 (wp_X4_tryAll_21 mrw mly mln msp mwh mcl mki mro mlf mli msw msa msc msl post n_21) mrw mly mln msp mwh mcl mki mro mlf mli msw msa msc msl x1 n_30) mrw mly mln msp mwh mcl mki mro mlf mli msw msa msc msl x1 x2 n_39) mrw mly mln msp mwh mcl mki mro mlf mli msw msa msc msl x3 n_74) mtr_4 mfo_4 mff_4 mlt_4 mgr_4 mxx_7 msu_5 x4 := h
                          unfold wl_X4_tryAll_74 at h
                          refine lv_iload hx hb dX4_tryAll_74 (lv_at hl 0 rfl) ?_
                          refine lv_bipush (v := xw_i 15) hx hb dX4_tryAll_76 (by decide) ?_
                          obtain ⟨hr5, h⟩ := h
                          refine xw_icmp_gt (tgt := 108) hx hb ⟨hr5, ⟨by decide, by decide⟩⟩ dX4_tryAll_78 (by decide) (fun hcd => ?_) (fun hcd => ?_)
                          · have h := h.1 hcd
                            obtain ⟨x3_1, ex3_1⟩ : ∃ y : Int, y = x3 + 1 := ⟨_, rfl⟩
                            have h := h x3_1 ex3_1
                            refine lv_iinc (v := xw_i x3_1) (lv' := [(3, .int (xw_i x3_1)), (4, .int (xw_i x4)), (2, .int (xw_i x2)), (1, .int (xw_i x1)), (0, .ref qM)]) hx hb dX4_tryAll_108 hl (k := 1) rfl (xw_inc ex3_1) (by decide) rfl (fun ls hl => ?_)
                            refine lv_goto (tgt := 39) hx hb dX4_tryAll_111 (by decide) ?_
                            exact ih_39 mtr_4 mfo_4 mff_4 mlt_4 mgr_4 mxx_7 msu_5 x3_1 _ _ _ h hP hD hS (lv_sub hl [0, 2, 3, 4] rfl)
                          · have h := h.2 hcd
                            refine lv_aload_n hx hb dX4_tryAll_81 rfl (lv_at hl 4 rfl) ?_
                            refine lv_iload hx hb dX4_tryAll_82 (lv_at hl 0 rfl) ?_
                            refine xw_backi (wc := (wd_X4 qM aM0 aM1 aM2 aM3 aM4 aM5 aM6 aM7 aM8 aM9 aM10 aM11 aM12 kM0 kM1 kM2 kM3 kM4 kM5 kM6 kM7 kM8 kM9 kM10 kM11 kM12 mrw mly mln msp mwh mcl mtr_4 mfo_4 mki mro mlf mli msw msa msc msl mff_4 mlt_4 mgr_4 mxx_7 msu_5)) (wr := []) (va_runV (As := [.int (xw_i x4)]) (rest := []) ⟨hx, hb, hml, hown, hts⟩ (c_X4_holds l dC dI qM aM0 aM1 aM2 aM3 aM4 aM5 aM6 aM7 aM8 aM9 aM10 aM11 aM12 kM0 kM1 kM2 kM3 kM4 kM5 kM6 kM7 kM8 kM9 kM10 kM11 kM12 H.size mrw mly mln msp mwh mcl mtr_4 mfo_4 mki mro mlf mli msw msa msc msl mff_4 mlt_4 mgr_4 mxx_7 msu_5 x4 _ h) (cwV 1 hts gX4_tryAll_X4_holds rfl rfl rfl (by decide +kernel) ⟨Nat.le_of_ble_eq_true rfl, Nat.le_of_ble_eq_true rfl⟩) (xw_preV (ci := 4) hK hP hD [0, 1, 2, 3, 4, 5, 6, 7, 8, 9, 10, 11, 12, 13] rfl rfl (by decide) [0, 1, 2, 3, 4, 5, 6, 7, 8, 9, 10, 11, 12] rfl rfl rfl) rfl rfl hl.1 rfl (lv_room (Nat.le_of_ble_eq_true rfl)) dX4_tryAll_84 ⟨Nat.le_of_ble_eq_true rfl, Nat.le_of_ble_eq_true rfl⟩) hK hP hD hS hA [0, 1, 2, 3, 4, 5, 6, 7, 8, 9, 10, 11, 12, 13] [] rfl rfl (by decide) (by decide) (fun r u H locs h hP hD hK2 hS => ?_)
                            try dsimp only at h
                            have hP : va_P (dC, dI) vwCl (wd_X4 qM aM0 aM1 aM2 aM3 aM4 aM5 aM6 aM7 aM8 aM9 aM10 aM11 aM12 kM0 kM1 kM2 kM3 kM4 kM5 kM6 kM7 kM8 kM9 kM10 kM11 kM12 mrw mly mln msp mwh mcl mtr_4 mfo_4 mki mro mlf mli msw msa msc msl mff_4 mlt_4 mgr_4 mxx_7 msu_5) H := hP
                            have hD : va_D A (wd_X4 qM aM0 aM1 aM2 aM3 aM4 aM5 aM6 aM7 aM8 aM9 aM10 aM11 aM12 kM0 kM1 kM2 kM3 kM4 kM5 kM6 kM7 kM8 kM9 kM10 kM11 kM12 mrw mly mln msp mwh mcl mtr_4 mfo_4 mki mro mlf mli msw msa msc msl mff_4 mlt_4 mgr_4 mxx_7 msu_5) := hD
                            have k_102 : ∀ (mtr_5 : Int) (mfo_5 : Int) (mff_5 : Nat → Int) (mlt_5 : Nat → Int) (mgr_5 : Nat → Int) (mxx_8 : Nat → Int) (msu_6 : Nat → Int) (x4_1 : Int) (H : Heap) (locs : List Loc) (ls : Array Slot), wp_X4_tryAll_102 (wp_X4_tryAll_74 (wp_X4_tryAll_39 (wp_X4_tryAll_30 (wp_X4_tryAll_21 mrw mly mln msp mwh mcl mki mro mlf mli msw msa msc msl post n_21) mrw mly mln msp mwh mcl mki mro mlf mli msw msa msc msl x1 n_30) mrw mly mln msp mwh mcl mki mro mlf mli msw msa msc msl x1 x2 n_39) mrw mly mln msp mwh mcl mki mro mlf mli msw msa msc msl x3 n_74) mtr_5 mfo_5 mff_5 mlt_5 mgr_5 mxx_8 msu_6 x4_1 → va_P (dC, dI) vwCl (wd_X4 qM aM0 aM1 aM2 aM3 aM4 aM5 aM6 aM7 aM8 aM9 aM10 aM11 aM12 kM0 kM1 kM2 kM3 kM4 kM5 kM6 kM7 kM8 kM9 kM10 kM11 kM12 mrw mly mln msp mwh mcl mtr_5 mfo_5 mki mro mlf mli msw msa msc msl mff_5 mlt_5 mgr_5 mxx_8 msu_6) H → va_D A (wd_X4 qM aM0 aM1 aM2 aM3 aM4 aM5 aM6 aM7 aM8 aM9 aM10 aM11 aM12 kM0 kM1 kM2 kM3 kM4 kM5 kM6 kM7 kM8 kM9 kM10 kM11 kM12 mrw mly mln msp mwh mcl mtr_5 mfo_5 mki mro mlf mli msw msa msc msl mff_5 mlt_5 mgr_5 mxx_8 msu_6) → va_S A s.heap H locs → lv_has ls 5 [(4, .int (xw_i x4_1)), (3, .int (xw_i x3)), (2, .int (xw_i x2)), (1, .int (xw_i x1)), (0, .ref qM)] → W p l e ({ frames := 1, cells := 0, slots := 0, locals := 24 } : Room) s m args below meth c H locs 0 0 Q (F0 m 102 ls []) := by
                              intro mtr_5 mfo_5 mff_5 mlt_5 mgr_5 mxx_8 msu_6 x4_1 H locs ls h hP hD hS hl
                              unfold wp_X4_tryAll_102 at h
                              obtain ⟨x4_2, ex4_2⟩ : ∃ y : Int, y = x4_1 + 1 := ⟨_, rfl⟩
                              have h := h x4_2 ex4_2
                              refine lv_iinc (v := xw_i x4_2) (lv' := [(4, .int (xw_i x4_2)), (3, .int (xw_i x3)), (2, .int (xw_i x2)), (1, .int (xw_i x1)), (0, .ref qM)]) hx hb dX4_tryAll_102 hl (k := 0) rfl (xw_inc ex4_2) (by decide) rfl (fun ls hl => ?_)
                              refine lv_goto (tgt := 74) hx hb dX4_tryAll_105 (by decide) ?_
                              exact ih_74 mtr_5 mfo_5 mff_5 mlt_5 mgr_5 mxx_8 msu_6 x4_2 _ _ _ h hP hD hS (lv_sub hl [0, 1, 2, 3, 4] rfl)
                            obtain ⟨hr6, h⟩ := h
                            refine xw_if_eq (tgt := 102) hx hb hr6 dX4_tryAll_87 (by decide) (fun hcd => ?_) (fun hcd => ?_)
                            · have h := h.1 hcd
                              exact k_102 mtr_4 mfo_4 mff_4 mlt_4 mgr_4 mxx_7 msu_5 x4 _ _ _ h hP hD hS (lv_sub hl [0, 1, 2, 3, 4] rfl)
                            · have h := h.2 hcd
                              refine lv_aload_n hx hb dX4_tryAll_90 rfl (lv_at hl 4 rfl) ?_
                              refine va_get (D := (dC, dI)) (ci := 4) (v := .ref aM11) (C := RX4) (T := TX4) (N := 21) hx hb hts hwsX40 hown hK hP 0 rfl rfl 19 (by decide) (hts (.fieldLink RX4 44 "BoxProverModel" "x" "[I") (by decide +kernel)) (fun _ h9 => h9) rfl dX4_tryAll_91 ?_
                              refine lv_iconst (v := xw_i 3) hx hb dX4_tryAll_94 (by decide) ?_
                              refine lv_iload hx hb dX4_tryAll_95 (lv_at hl 0 rfl) ?_
                              obtain ⟨hin, h⟩ := h
                              obtain ⟨mxx_9, emxx_9⟩ : ∃ z : Nat → Int, z = xw_u mxx_7 3 x4 := ⟨_, rfl⟩
                              have h := h mxx_9 emxx_9
                              refine xw_iast (n := 4) hx hb hK hP hD hS 12 11 rfl rfl (by decide) hin emxx_9 dX4_tryAll_97 (fun H locs hP hD hS => ?_)
                              have hP : va_P (dC, dI) vwCl (wd_X4 qM aM0 aM1 aM2 aM3 aM4 aM5 aM6 aM7 aM8 aM9 aM10 aM11 aM12 kM0 kM1 kM2 kM3 kM4 kM5 kM6 kM7 kM8 kM9 kM10 kM11 kM12 mrw mly mln msp mwh mcl mtr_4 mfo_4 mki mro mlf mli msw msa msc msl mff_4 mlt_4 mgr_4 mxx_9 msu_5) H := hP
                              have hD : va_D A (wd_X4 qM aM0 aM1 aM2 aM3 aM4 aM5 aM6 aM7 aM8 aM9 aM10 aM11 aM12 kM0 kM1 kM2 kM3 kM4 kM5 kM6 kM7 kM8 kM9 kM10 kM11 kM12 mrw mly mln msp mwh mcl mtr_4 mfo_4 mki mro mlf mli msw msa msc msl mff_4 mlt_4 mgr_4 mxx_9 msu_5) := hD
                              refine lv_aload_n hx hb dX4_tryAll_98 rfl (lv_at hl 4 rfl) ?_
                              refine xw_backv (wc := (wd_X4 qM aM0 aM1 aM2 aM3 aM4 aM5 aM6 aM7 aM8 aM9 aM10 aM11 aM12 kM0 kM1 kM2 kM3 kM4 kM5 kM6 kM7 kM8 kM9 kM10 kM11 kM12 mrw mly mln msp mwh mcl mtr_4 mfo_4 mki mro mlf mli msw msa msc msl mff_4 mlt_4 mgr_4 mxx_9 msu_5)) (wr := []) (va_runV (As := []) (rest := []) ⟨hx, hb, hml, hown, hts⟩ (c_X4_take l dC dI qM aM0 aM1 aM2 aM3 aM4 aM5 aM6 aM7 aM8 aM9 aM10 aM11 aM12 kM0 kM1 kM2 kM3 kM4 kM5 kM6 kM7 kM8 kM9 kM10 kM11 kM12 H.size mrw mly mln msp mwh mcl mtr_4 mfo_4 mki mro mlf mli msw msa msc msl mff_4 mlt_4 mgr_4 mxx_9 msu_5 _ h) (cwV 0 hts gX4_tryAll_X4_take rfl rfl rfl (by decide +kernel) ⟨Nat.le_of_ble_eq_true rfl, Nat.le_of_ble_eq_true rfl⟩) (xw_preV (ci := 4) hK hP hD [0, 1, 2, 3, 4, 5, 6, 7, 8, 9, 10, 11, 12, 13] rfl rfl (by decide) [0, 1, 2, 3, 4, 5, 6, 7, 8, 9, 10, 11, 12] rfl rfl rfl) rfl rfl hl.1 rfl (lv_room (Nat.le_of_ble_eq_true rfl)) dX4_tryAll_99 ⟨Nat.le_of_ble_eq_true rfl, Nat.le_of_ble_eq_true rfl⟩) hK hP hD hS hA [0, 1, 2, 3, 4, 5, 6, 7, 8, 9, 10, 11, 12, 13] [] rfl rfl (by decide) (by decide) (fun u H locs h hP hD hK2 hS => ?_)
                              obtain ⟨mfo_6, mff_6, mlt_6, mgr_6⟩ := u
                              try dsimp only at h
                              have hP : va_P (dC, dI) vwCl (wd_X4 qM aM0 aM1 aM2 aM3 aM4 aM5 aM6 aM7 aM8 aM9 aM10 aM11 aM12 kM0 kM1 kM2 kM3 kM4 kM5 kM6 kM7 kM8 kM9 kM10 kM11 kM12 mrw mly mln msp mwh mcl mtr_4 mfo_6 mki mro mlf mli msw msa msc msl mff_6 mlt_6 mgr_6 mxx_9 msu_5) H := hP
                              have hD : va_D A (wd_X4 qM aM0 aM1 aM2 aM3 aM4 aM5 aM6 aM7 aM8 aM9 aM10 aM11 aM12 kM0 kM1 kM2 kM3 kM4 kM5 kM6 kM7 kM8 kM9 kM10 kM11 kM12 mrw mly mln msp mwh mcl mtr_4 mfo_6 mki mro mlf mli msw msa msc msl mff_6 mlt_6 mgr_6 mxx_9 msu_5) := hD
                              exact k_102 mtr_4 mfo_6 mff_6 mlt_6 mgr_6 mxx_9 msu_5 x4 _ _ _ h hP hD hS (lv_sub hl [0, 1, 2, 3, 4] rfl)
                      obtain ⟨fu, h⟩ := h
                      exact k_74 fu mtr_3 mfo_3 mff_3 mlt_3 mgr_3 mxx_6 msu_4 (-15) _ _ _ h hP hD hS (lv_sub hl [0, 1, 2, 3, 4] rfl)
                obtain ⟨fu, h⟩ := h
                exact k_39 fu mtr_2 mfo_2 mff_2 mlt_2 mgr_2 mxx_2 msu_2 (-15) _ _ _ h hP hD hS (lv_sub hl [0, 1, 2, 3] rfl)
          obtain ⟨fu, h⟩ := h
          exact k_30 fu mtr_1 mfo_1 mff_1 mlt_1 mgr_1 mxx_1 msu_1 (-15) _ _ _ h hP hD hS (lv_sub hl [0, 1, 2] rfl)
    obtain ⟨fu, h⟩ := h
    exact k_21 fu 1 0 mff mlt mgr mxx msu (-15) _ _ _ h hP hD hS (lv_sub hl [0, 1] rfl)
  · have h := h.2 hcd
    exact hret _ _ _ _ (mtr, mfo, mff, mlt, mgr, mxx, msu) dX4_tryAll_7 h hP hD hK hS
set_option maxHeartbeats 4000000 in
set_option maxRecDepth 100000 in
theorem c_X4_decide (l : Launch) (dC : Nat → ClassId) (dI : Nat → Nat → Nat) (qM aM0 aM1 aM2 aM3 aM4 aM5 aM6 aM7 aM8 aM9 aM10 aM11 aM12 : Nat) (kM0 kM1 kM2 kM3 kM4 kM5 kM6 kM7 kM8 kM9 kM10 kM11 kM12 : ClassId) (sz : Nat) (mrw : Int) (mly : Int) (mln : Int) (msp : Int) (mwh : Int) (mcl : Int) (mtr : Int) (mfo : Int) (mki : Nat → Int) (mro : Nat → Int) (mlf : Nat → Int) (mli : Nat → Int) (msw : Nat → Int) (msa : Nat → Int) (msc : Nat → Int) (msl : Nat → Int) (mff : Nat → Int) (mlt : Nat → Int) (mgr : Nat → Int) (mxx : Nat → Int) (msu : Nat → Int) (post : Int → Int → Int → (Nat → Int) → (Nat → Int) → (Nat → Int) → (Nat → Int) → (Nat → Int) → Prop) (h : wp_X4_decide post mrw mly mln msp mwh mcl mtr mfo mki mro mlf mli msw msa msc msl mff mlt mgr mxx msu) : Met l yX4_decide wsX4_decide ({ frames := 2, cells := 0, slots := 0, locals := 48 }) (va_Pc [.ref qM] (xw_Pre (dC, dI) vwCl (wd_X4 qM aM0 aM1 aM2 aM3 aM4 aM5 aM6 aM7 aM8 aM9 aM10 aM11 aM12 kM0 kM1 kM2 kM3 kM4 kM5 kM6 kM7 kM8 kM9 kM10 kM11 kM12 mrw mly mln msp mwh mcl mtr mfo mki mro mlf mli msw msa msc msl mff mlt mgr mxx msu) [(kM0, .int), (kM1, .int), (kM2, .int), (kM3, .long), (kM4, .int), (kM5, .int), (kM6, .int), (kM7, .int), (kM8, .int), (kM9, .int), (kM10, .int), (kM11, .int), (kM12, .int)] sz)) (va_Qi (xw_pi (fun v (u : Int × Int × (Nat → Int) × (Nat → Int) × (Nat → Int) × (Nat → Int) × (Nat → Int)) => post v u.1 u.2.1 u.2.2.1 u.2.2.2.1 u.2.2.2.2.1 u.2.2.2.2.2.1 u.2.2.2.2.2.2)) (xw_B (dC, dI) vwCl (fun (_ : Int × Int × (Nat → Int) × (Nat → Int) × (Nat → Int) × (Nat → Int) × (Nat → Int)) => [(kM0, .int), (kM1, .int), (kM2, .int), (kM3, .long), (kM4, .int), (kM5, .int), (kM6, .int), (kM7, .int), (kM8, .int), (kM9, .int), (kM10, .int), (kM11, .int), (kM12, .int)]) (va_A (wd_X4 qM aM0 aM1 aM2 aM3 aM4 aM5 aM6 aM7 aM8 aM9 aM10 aM11 aM12 kM0 kM1 kM2 kM3 kM4 kM5 kM6 kM7 kM8 kM9 kM10 kM11 kM12 mrw mly mln msp mwh mcl mtr mfo mki mro mlf mli msw msa msc msl mff mlt mgr mxx msu) sz) (fun (u : Int × Int × (Nat → Int) × (Nat → Int) × (Nat → Int) × (Nat → Int) × (Nat → Int)) => (wd_X4 qM aM0 aM1 aM2 aM3 aM4 aM5 aM6 aM7 aM8 aM9 aM10 aM11 aM12 kM0 kM1 kM2 kM3 kM4 kM5 kM6 kM7 kM8 kM9 kM10 kM11 kM12 mrw mly mln msp mwh mcl u.1 u.2.1 mki mro mlf mli msw msa msc msl u.2.2.1 u.2.2.2.1 u.2.2.2.2.1 u.2.2.2.2.2.1 u.2.2.2.2.2.2))) (va_A (wd_X4 qM aM0 aM1 aM2 aM3 aM4 aM5 aM6 aM7 aM8 aM9 aM10 aM11 aM12 kM0 kM1 kM2 kM3 kM4 kM5 kM6 kM7 kM8 kM9 kM10 kM11 kM12 mrw mly mln msp mwh mcl mtr mfo mki mro mlf mli msw msa msc msl mff mlt mgr mxx msu) sz)) 0 0 (va_A (wd_X4 qM aM0 aM1 aM2 aM3 aM4 aM5 aM6 aM7 aM8 aM9 aM10 aM11 aM12 kM0 kM1 kM2 kM3 kM4 kM5 kM6 kM7 kM8 kM9 kM10 kM11 kM12 mrw mly mln msp mwh mcl mtr mfo mki mro mlf mli msw msa msc msl mff mlt mgr mxx msu) sz) := by
  refine xw_ofZ (cc := cX4_decide) (maxL := 1) (by decide +kernel) rfl (Nat.le_of_ble_eq_true rfl) ?_
  intro p e s m args below meth c hx hb hml hown hts A hA hP hD hK Q hret ls hl hS
  have hl : lv_has ls 1 [(0, .ref qM)] := hl
  have hwsX40 : ∀ w ∈ wsX40, w ∈ wsX4_decide := fun _ h => List.mem_cons_of_mem _ (List.mem_append_right _ h)
  unfold wp_X4_decide at h
  refine lv_aload_n hx hb dX4_decide_0 rfl (lv_at hl 0 rfl) ?_
  refine xw_backv (wc := (wd_X4 qM aM0 aM1 aM2 aM3 aM4 aM5 aM6 aM7 aM8 aM9 aM10 aM11 aM12 kM0 kM1 kM2 kM3 kM4 kM5 kM6 kM7 kM8 kM9 kM10 kM11 kM12 mrw mly mln msp mwh mcl mtr mfo mki mro mlf mli msw msa msc msl mff mlt mgr mxx msu)) (wr := []) (va_runV (As := []) (rest := []) ⟨hx, hb, hml, hown, hts⟩ (c_X4_tryAll l dC dI qM aM0 aM1 aM2 aM3 aM4 aM5 aM6 aM7 aM8 aM9 aM10 aM11 aM12 kM0 kM1 kM2 kM3 kM4 kM5 kM6 kM7 kM8 kM9 kM10 kM11 kM12 s.heap.size mrw mly mln msp mwh mcl mtr mfo mki mro mlf mli msw msa msc msl mff mlt mgr mxx msu _ h) (cwV 0 hts gX4_decide_X4_tryAll rfl rfl rfl (by decide +kernel) ⟨Nat.le_of_ble_eq_true rfl, Nat.le_of_ble_eq_true rfl⟩) (xw_preV (ci := 4) hK hP hD [0, 1, 2, 3, 4, 5, 6, 7, 8, 9, 10, 11, 12, 13] rfl rfl (by decide) [0, 1, 2, 3, 4, 5, 6, 7, 8, 9, 10, 11, 12] rfl rfl rfl) rfl rfl hl.1 rfl (lv_room (Nat.le_of_ble_eq_true rfl)) dX4_decide_1 ⟨Nat.le_of_ble_eq_true rfl, Nat.le_of_ble_eq_true rfl⟩) hK hP hD hS hA [0, 1, 2, 3, 4, 5, 6, 7, 8, 9, 10, 11, 12, 13] [] rfl rfl (by decide) (by decide) (fun u H locs h hP hD hK2 hS => ?_)
  obtain ⟨mtr_1, mfo_1, mff_1, mlt_1, mgr_1, mxx_1, msu_1⟩ := u
  try dsimp only at h
  have hP : va_P (dC, dI) vwCl (wd_X4 qM aM0 aM1 aM2 aM3 aM4 aM5 aM6 aM7 aM8 aM9 aM10 aM11 aM12 kM0 kM1 kM2 kM3 kM4 kM5 kM6 kM7 kM8 kM9 kM10 kM11 kM12 mrw mly mln msp mwh mcl mtr_1 mfo_1 mki mro mlf mli msw msa msc msl mff_1 mlt_1 mgr_1 mxx_1 msu_1) H := hP
  have hD : va_D A (wd_X4 qM aM0 aM1 aM2 aM3 aM4 aM5 aM6 aM7 aM8 aM9 aM10 aM11 aM12 kM0 kM1 kM2 kM3 kM4 kM5 kM6 kM7 kM8 kM9 kM10 kM11 kM12 mrw mly mln msp mwh mcl mtr_1 mfo_1 mki mro mlf mli msw msa msc msl mff_1 mlt_1 mgr_1 mxx_1 msu_1) := hD
  refine lv_aload_n hx hb dX4_decide_4 rfl (lv_at hl 0 rfl) ?_
  refine va_get (D := (dC, dI)) (ci := 4) (v := .int (xw_i mfo_1)) (C := RX4) (T := TX4) (N := 21) hx hb hts hwsX40 hown hK hP 0 rfl rfl 15 (by decide) (hts (.fieldLink RX4 85 "BoxProverModel" "found" "I") (by decide +kernel)) (fun _ h9 => h9) rfl dX4_decide_5 ?_
  obtain ⟨hr1, h⟩ := h
  refine xw_if_le (tgt := 15) hx hb hr1 dX4_decide_8 (by decide) (fun hcd => ?_) (fun hcd => ?_)
  · have h := h.1 hcd
    refine lv_iconst (v := xw_i 0) hx hb dX4_decide_15 (by decide) ?_
    exact hret _ _ _ _ 0 (mtr_1, mfo_1, mff_1, mlt_1, mgr_1, mxx_1, msu_1) dX4_decide_16 (by decide) h hP hD hK hS
  · have h := h.2 hcd
    refine lv_iconst (v := xw_i 1) hx hb dX4_decide_11 (by decide) ?_
    refine lv_goto (tgt := 16) hx hb dX4_decide_12 (by decide) ?_
    exact hret _ _ _ _ 1 (mtr_1, mfo_1, mff_1, mlt_1, mgr_1, mxx_1, msu_1) dX4_decide_16 (by decide) h hP hD hK hS
set_option maxHeartbeats 4000000 in
set_option maxRecDepth 100000 in
theorem c_X4_first (l : Launch) (dC : Nat → ClassId) (dI : Nat → Nat → Nat) (qM aM0 aM1 aM2 aM3 aM4 aM5 aM6 aM7 aM8 aM9 aM10 aM11 aM12 : Nat) (kM0 kM1 kM2 kM3 kM4 kM5 kM6 kM7 kM8 kM9 kM10 kM11 kM12 : ClassId) (sz : Nat) (mrw : Int) (mly : Int) (mln : Int) (msp : Int) (mwh : Int) (mcl : Int) (mtr : Int) (mfo : Int) (mki : Nat → Int) (mro : Nat → Int) (mlf : Nat → Int) (mli : Nat → Int) (msw : Nat → Int) (msa : Nat → Int) (msc : Nat → Int) (msl : Nat → Int) (mff : Nat → Int) (mlt : Nat → Int) (mgr : Nat → Int) (mxx : Nat → Int) (msu : Nat → Int) (p1 : Int) (post : Int → Int → Int → (Nat → Int) → (Nat → Int) → (Nat → Int) → (Nat → Int) → (Nat → Int) → Prop) (h : wp_X4_first post mrw mly mln msp mwh mcl mtr mfo mki mro mlf mli msw msa msc msl mff mlt mgr mxx msu p1) : Met l yX4_first wsX4_first ({ frames := 2, cells := 0, slots := 0, locals := 48 }) (va_Pc [.ref qM, .int (xw_i p1)] (xw_Pre (dC, dI) vwCl (wd_X4 qM aM0 aM1 aM2 aM3 aM4 aM5 aM6 aM7 aM8 aM9 aM10 aM11 aM12 kM0 kM1 kM2 kM3 kM4 kM5 kM6 kM7 kM8 kM9 kM10 kM11 kM12 mrw mly mln msp mwh mcl mtr mfo mki mro mlf mli msw msa msc msl mff mlt mgr mxx msu) [(kM0, .int), (kM1, .int), (kM2, .int), (kM3, .long), (kM4, .int), (kM5, .int), (kM6, .int), (kM7, .int), (kM8, .int), (kM9, .int), (kM10, .int), (kM11, .int), (kM12, .int)] sz)) (va_Qi (xw_pi (fun v (u : Int × Int × (Nat → Int) × (Nat → Int) × (Nat → Int) × (Nat → Int) × (Nat → Int)) => post v u.1 u.2.1 u.2.2.1 u.2.2.2.1 u.2.2.2.2.1 u.2.2.2.2.2.1 u.2.2.2.2.2.2)) (xw_B (dC, dI) vwCl (fun (_ : Int × Int × (Nat → Int) × (Nat → Int) × (Nat → Int) × (Nat → Int) × (Nat → Int)) => [(kM0, .int), (kM1, .int), (kM2, .int), (kM3, .long), (kM4, .int), (kM5, .int), (kM6, .int), (kM7, .int), (kM8, .int), (kM9, .int), (kM10, .int), (kM11, .int), (kM12, .int)]) (va_A (wd_X4 qM aM0 aM1 aM2 aM3 aM4 aM5 aM6 aM7 aM8 aM9 aM10 aM11 aM12 kM0 kM1 kM2 kM3 kM4 kM5 kM6 kM7 kM8 kM9 kM10 kM11 kM12 mrw mly mln msp mwh mcl mtr mfo mki mro mlf mli msw msa msc msl mff mlt mgr mxx msu) sz) (fun (u : Int × Int × (Nat → Int) × (Nat → Int) × (Nat → Int) × (Nat → Int) × (Nat → Int)) => (wd_X4 qM aM0 aM1 aM2 aM3 aM4 aM5 aM6 aM7 aM8 aM9 aM10 aM11 aM12 kM0 kM1 kM2 kM3 kM4 kM5 kM6 kM7 kM8 kM9 kM10 kM11 kM12 mrw mly mln msp mwh mcl u.1 u.2.1 mki mro mlf mli msw msa msc msl u.2.2.1 u.2.2.2.1 u.2.2.2.2.1 u.2.2.2.2.2.1 u.2.2.2.2.2.2))) (va_A (wd_X4 qM aM0 aM1 aM2 aM3 aM4 aM5 aM6 aM7 aM8 aM9 aM10 aM11 aM12 kM0 kM1 kM2 kM3 kM4 kM5 kM6 kM7 kM8 kM9 kM10 kM11 kM12 mrw mly mln msp mwh mcl mtr mfo mki mro mlf mli msw msa msc msl mff mlt mgr mxx msu) sz)) 0 0 (va_A (wd_X4 qM aM0 aM1 aM2 aM3 aM4 aM5 aM6 aM7 aM8 aM9 aM10 aM11 aM12 kM0 kM1 kM2 kM3 kM4 kM5 kM6 kM7 kM8 kM9 kM10 kM11 kM12 mrw mly mln msp mwh mcl mtr mfo mki mro mlf mli msw msa msc msl mff mlt mgr mxx msu) sz) := by
  refine xw_ofI (cc := cX4_first) (maxL := 2) (by decide +kernel) rfl (Nat.le_of_ble_eq_true rfl) ?_
  intro p e s m args below meth c hx hb hml hown hts A hA hP hD hK Q hret ls hl hS
  have hl : lv_has ls 2 [(0, .ref qM), (1, .int (xw_i p1))] := hl
  have hwsX40 : ∀ w ∈ wsX40, w ∈ wsX4_first := fun _ h => List.mem_cons_of_mem _ (List.mem_append_right _ h)
  unfold wp_X4_first at h
  refine lv_aload_n hx hb dX4_first_0 rfl (lv_at hl 0 rfl) ?_
  refine xw_backv (wc := (wd_X4 qM aM0 aM1 aM2 aM3 aM4 aM5 aM6 aM7 aM8 aM9 aM10 aM11 aM12 kM0 kM1 kM2 kM3 kM4 kM5 kM6 kM7 kM8 kM9 kM10 kM11 kM12 mrw mly mln msp mwh mcl mtr mfo mki mro mlf mli msw msa msc msl mff mlt mgr mxx msu)) (wr := []) (va_runV (As := []) (rest := []) ⟨hx, hb, hml, hown, hts⟩ (c_X4_tryAll l dC dI qM aM0 aM1 aM2 aM3 aM4 aM5 aM6 aM7 aM8 aM9 aM10 aM11 aM12 kM0 kM1 kM2 kM3 kM4 kM5 kM6 kM7 kM8 kM9 kM10 kM11 kM12 s.heap.size mrw mly mln msp mwh mcl mtr mfo mki mro mlf mli msw msa msc msl mff mlt mgr mxx msu _ h) (cwV 0 hts gX4_first_X4_tryAll rfl rfl rfl (by decide +kernel) ⟨Nat.le_of_ble_eq_true rfl, Nat.le_of_ble_eq_true rfl⟩) (xw_preV (ci := 4) hK hP hD [0, 1, 2, 3, 4, 5, 6, 7, 8, 9, 10, 11, 12, 13] rfl rfl (by decide) [0, 1, 2, 3, 4, 5, 6, 7, 8, 9, 10, 11, 12] rfl rfl rfl) rfl rfl hl.1 rfl (lv_room (Nat.le_of_ble_eq_true rfl)) dX4_first_1 ⟨Nat.le_of_ble_eq_true rfl, Nat.le_of_ble_eq_true rfl⟩) hK hP hD hS hA [0, 1, 2, 3, 4, 5, 6, 7, 8, 9, 10, 11, 12, 13] [] rfl rfl (by decide) (by decide) (fun u H locs h hP hD hK2 hS => ?_)
  obtain ⟨mtr_1, mfo_1, mff_1, mlt_1, mgr_1, mxx_1, msu_1⟩ := u
  try dsimp only at h
  have hP : va_P (dC, dI) vwCl (wd_X4 qM aM0 aM1 aM2 aM3 aM4 aM5 aM6 aM7 aM8 aM9 aM10 aM11 aM12 kM0 kM1 kM2 kM3 kM4 kM5 kM6 kM7 kM8 kM9 kM10 kM11 kM12 mrw mly mln msp mwh mcl mtr_1 mfo_1 mki mro mlf mli msw msa msc msl mff_1 mlt_1 mgr_1 mxx_1 msu_1) H := hP
  have hD : va_D A (wd_X4 qM aM0 aM1 aM2 aM3 aM4 aM5 aM6 aM7 aM8 aM9 aM10 aM11 aM12 kM0 kM1 kM2 kM3 kM4 kM5 kM6 kM7 kM8 kM9 kM10 kM11 kM12 mrw mly mln msp mwh mcl mtr_1 mfo_1 mki mro mlf mli msw msa msc msl mff_1 mlt_1 mgr_1 mxx_1 msu_1) := hD
  refine lv_aload_n hx hb dX4_first_4 rfl (lv_at hl 0 rfl) ?_
  refine va_get (D := (dC, dI)) (ci := 4) (v := .int (xw_i mfo_1)) (C := RX4) (T := TX4) (N := 21) hx hb hts hwsX40 hown hK hP 0 rfl rfl 15 (by decide) (hts (.fieldLink RX4 85 "BoxProverModel" "found" "I") (by decide +kernel)) (fun _ h9 => h9) rfl dX4_first_5 ?_
  obtain ⟨hr1, h⟩ := h
  refine xw_if_eq (tgt := 20) hx hb hr1 dX4_first_8 (by decide) (fun hcd => ?_) (fun hcd => ?_)
  · have h := h.1 hcd
    refine lv_bipush (v := xw_i (-100)) hx hb dX4_first_20 (by decide) ?_
    refine lv_goto (tgt := 31) hx hb dX4_first_22 (by decide) ?_
    exact hret _ _ _ _ (-100) (mtr_1, mfo_1, mff_1, mlt_1, mgr_1, mxx_1, msu_1) dX4_first_31 h hP hD hK hS
  · have h := h.2 hcd
    refine lv_iload_n hx hb dX4_first_11 rfl (lv_at hl 1 rfl) ?_
    obtain ⟨hr2, h⟩ := h
    refine xw_if_lt (tgt := 20) hx hb hr2 dX4_first_12 (by decide) (fun hcd => ?_) (fun hcd => ?_)
    · have h := h.1 hcd
      refine lv_bipush (v := xw_i (-100)) hx hb dX4_first_20 (by decide) ?_
      refine lv_goto (tgt := 31) hx hb dX4_first_22 (by decide) ?_
      exact hret _ _ _ _ (-100) (mtr_1, mfo_1, mff_1, mlt_1, mgr_1, mxx_1, msu_1) dX4_first_31 h hP hD hK hS
    · have h := h.2 hcd
      refine lv_iload_n hx hb dX4_first_15 rfl (lv_at hl 1 rfl) ?_
      refine lv_iconst (v := xw_i 3) hx hb dX4_first_16 (by decide) ?_
      refine xw_icmp_le (tgt := 25) hx hb ⟨hr2, ⟨by decide, by decide⟩⟩ dX4_first_17 (by decide) (fun hcd => ?_) (fun hcd => ?_)
      · have h := h.1 hcd
        refine lv_aload_n hx hb dX4_first_25 rfl (lv_at hl 0 rfl) ?_
        refine va_get (D := (dC, dI)) (ci := 4) (v := .ref aM8) (C := RX4) (T := TX4) (N := 21) hx hb hts hwsX40 hown hK hP 0 rfl rfl 16 (by decide) (hts (.fieldLink RX4 35 "BoxProverModel" "first" "[I") (by decide +kernel)) (fun _ h9 => h9) rfl dX4_first_26 ?_
        refine lv_iload_n hx hb dX4_first_29 rfl (lv_at hl 1 rfl) ?_
        obtain ⟨hin, h⟩ := h
        refine xw_iald (n := 4) hx hb hK hP 9 8 rfl rfl (by decide) hin dX4_first_30 ?_
        exact hret _ _ _ _ (mff_1 p1.toNat) (mtr_1, mfo_1, mff_1, mlt_1, mgr_1, mxx_1, msu_1) dX4_first_31 h hP hD hK hS
      · have h := h.2 hcd
        refine lv_bipush (v := xw_i (-100)) hx hb dX4_first_20 (by decide) ?_
        refine lv_goto (tgt := 31) hx hb dX4_first_22 (by decide) ?_
        exact hret _ _ _ _ (-100) (mtr_1, mfo_1, mff_1, mlt_1, mgr_1, mxx_1, msu_1) dX4_first_31 h hP hD hK hS
set_option maxHeartbeats 4000000 in
set_option maxRecDepth 100000 in
theorem c_X4_solutions (l : Launch) (dC : Nat → ClassId) (dI : Nat → Nat → Nat) (qM aM0 aM1 aM2 aM3 aM4 aM5 aM6 aM7 aM8 aM9 aM10 aM11 aM12 : Nat) (kM0 kM1 kM2 kM3 kM4 kM5 kM6 kM7 kM8 kM9 kM10 kM11 kM12 : ClassId) (sz : Nat) (mrw : Int) (mly : Int) (mln : Int) (msp : Int) (mwh : Int) (mcl : Int) (mtr : Int) (mfo : Int) (mki : Nat → Int) (mro : Nat → Int) (mlf : Nat → Int) (mli : Nat → Int) (msw : Nat → Int) (msa : Nat → Int) (msc : Nat → Int) (msl : Nat → Int) (mff : Nat → Int) (mlt : Nat → Int) (mgr : Nat → Int) (mxx : Nat → Int) (msu : Nat → Int) (post : Int → Int → Int → (Nat → Int) → (Nat → Int) → (Nat → Int) → (Nat → Int) → (Nat → Int) → Prop) (h : wp_X4_solutions post mrw mly mln msp mwh mcl mtr mfo mki mro mlf mli msw msa msc msl mff mlt mgr mxx msu) : Met l yX4_solutions wsX4_solutions ({ frames := 2, cells := 0, slots := 0, locals := 48 }) (va_Pc [.ref qM] (xw_Pre (dC, dI) vwCl (wd_X4 qM aM0 aM1 aM2 aM3 aM4 aM5 aM6 aM7 aM8 aM9 aM10 aM11 aM12 kM0 kM1 kM2 kM3 kM4 kM5 kM6 kM7 kM8 kM9 kM10 kM11 kM12 mrw mly mln msp mwh mcl mtr mfo mki mro mlf mli msw msa msc msl mff mlt mgr mxx msu) [(kM0, .int), (kM1, .int), (kM2, .int), (kM3, .long), (kM4, .int), (kM5, .int), (kM6, .int), (kM7, .int), (kM8, .int), (kM9, .int), (kM10, .int), (kM11, .int), (kM12, .int)] sz)) (va_Qi (xw_pi (fun v (u : Int × Int × (Nat → Int) × (Nat → Int) × (Nat → Int) × (Nat → Int) × (Nat → Int)) => post v u.1 u.2.1 u.2.2.1 u.2.2.2.1 u.2.2.2.2.1 u.2.2.2.2.2.1 u.2.2.2.2.2.2)) (xw_B (dC, dI) vwCl (fun (_ : Int × Int × (Nat → Int) × (Nat → Int) × (Nat → Int) × (Nat → Int) × (Nat → Int)) => [(kM0, .int), (kM1, .int), (kM2, .int), (kM3, .long), (kM4, .int), (kM5, .int), (kM6, .int), (kM7, .int), (kM8, .int), (kM9, .int), (kM10, .int), (kM11, .int), (kM12, .int)]) (va_A (wd_X4 qM aM0 aM1 aM2 aM3 aM4 aM5 aM6 aM7 aM8 aM9 aM10 aM11 aM12 kM0 kM1 kM2 kM3 kM4 kM5 kM6 kM7 kM8 kM9 kM10 kM11 kM12 mrw mly mln msp mwh mcl mtr mfo mki mro mlf mli msw msa msc msl mff mlt mgr mxx msu) sz) (fun (u : Int × Int × (Nat → Int) × (Nat → Int) × (Nat → Int) × (Nat → Int) × (Nat → Int)) => (wd_X4 qM aM0 aM1 aM2 aM3 aM4 aM5 aM6 aM7 aM8 aM9 aM10 aM11 aM12 kM0 kM1 kM2 kM3 kM4 kM5 kM6 kM7 kM8 kM9 kM10 kM11 kM12 mrw mly mln msp mwh mcl u.1 u.2.1 mki mro mlf mli msw msa msc msl u.2.2.1 u.2.2.2.1 u.2.2.2.2.1 u.2.2.2.2.2.1 u.2.2.2.2.2.2))) (va_A (wd_X4 qM aM0 aM1 aM2 aM3 aM4 aM5 aM6 aM7 aM8 aM9 aM10 aM11 aM12 kM0 kM1 kM2 kM3 kM4 kM5 kM6 kM7 kM8 kM9 kM10 kM11 kM12 mrw mly mln msp mwh mcl mtr mfo mki mro mlf mli msw msa msc msl mff mlt mgr mxx msu) sz)) 0 0 (va_A (wd_X4 qM aM0 aM1 aM2 aM3 aM4 aM5 aM6 aM7 aM8 aM9 aM10 aM11 aM12 kM0 kM1 kM2 kM3 kM4 kM5 kM6 kM7 kM8 kM9 kM10 kM11 kM12 mrw mly mln msp mwh mcl mtr mfo mki mro mlf mli msw msa msc msl mff mlt mgr mxx msu) sz) := by
  refine xw_ofI (cc := cX4_solutions) (maxL := 1) (by decide +kernel) rfl (Nat.le_of_ble_eq_true rfl) ?_
  intro p e s m args below meth c hx hb hml hown hts A hA hP hD hK Q hret ls hl hS
  have hl : lv_has ls 1 [(0, .ref qM)] := hl
  have hwsX40 : ∀ w ∈ wsX40, w ∈ wsX4_solutions := fun _ h => List.mem_cons_of_mem _ (List.mem_append_right _ h)
  unfold wp_X4_solutions at h
  refine lv_aload_n hx hb dX4_solutions_0 rfl (lv_at hl 0 rfl) ?_
  refine xw_backv (wc := (wd_X4 qM aM0 aM1 aM2 aM3 aM4 aM5 aM6 aM7 aM8 aM9 aM10 aM11 aM12 kM0 kM1 kM2 kM3 kM4 kM5 kM6 kM7 kM8 kM9 kM10 kM11 kM12 mrw mly mln msp mwh mcl mtr mfo mki mro mlf mli msw msa msc msl mff mlt mgr mxx msu)) (wr := []) (va_runV (As := []) (rest := []) ⟨hx, hb, hml, hown, hts⟩ (c_X4_tryAll l dC dI qM aM0 aM1 aM2 aM3 aM4 aM5 aM6 aM7 aM8 aM9 aM10 aM11 aM12 kM0 kM1 kM2 kM3 kM4 kM5 kM6 kM7 kM8 kM9 kM10 kM11 kM12 s.heap.size mrw mly mln msp mwh mcl mtr mfo mki mro mlf mli msw msa msc msl mff mlt mgr mxx msu _ h) (cwV 0 hts gX4_solutions_X4_tryAll rfl rfl rfl (by decide +kernel) ⟨Nat.le_of_ble_eq_true rfl, Nat.le_of_ble_eq_true rfl⟩) (xw_preV (ci := 4) hK hP hD [0, 1, 2, 3, 4, 5, 6, 7, 8, 9, 10, 11, 12, 13] rfl rfl (by decide) [0, 1, 2, 3, 4, 5, 6, 7, 8, 9, 10, 11, 12] rfl rfl rfl) rfl rfl hl.1 rfl (lv_room (Nat.le_of_ble_eq_true rfl)) dX4_solutions_1 ⟨Nat.le_of_ble_eq_true rfl, Nat.le_of_ble_eq_true rfl⟩) hK hP hD hS hA [0, 1, 2, 3, 4, 5, 6, 7, 8, 9, 10, 11, 12, 13] [] rfl rfl (by decide) (by decide) (fun u H locs h hP hD hK2 hS => ?_)
  obtain ⟨mtr_1, mfo_1, mff_1, mlt_1, mgr_1, mxx_1, msu_1⟩ := u
  try dsimp only at h
  have hP : va_P (dC, dI) vwCl (wd_X4 qM aM0 aM1 aM2 aM3 aM4 aM5 aM6 aM7 aM8 aM9 aM10 aM11 aM12 kM0 kM1 kM2 kM3 kM4 kM5 kM6 kM7 kM8 kM9 kM10 kM11 kM12 mrw mly mln msp mwh mcl mtr_1 mfo_1 mki mro mlf mli msw msa msc msl mff_1 mlt_1 mgr_1 mxx_1 msu_1) H := hP
  have hD : va_D A (wd_X4 qM aM0 aM1 aM2 aM3 aM4 aM5 aM6 aM7 aM8 aM9 aM10 aM11 aM12 kM0 kM1 kM2 kM3 kM4 kM5 kM6 kM7 kM8 kM9 kM10 kM11 kM12 mrw mly mln msp mwh mcl mtr_1 mfo_1 mki mro mlf mli msw msa msc msl mff_1 mlt_1 mgr_1 mxx_1 msu_1) := hD
  refine lv_aload_n hx hb dX4_solutions_4 rfl (lv_at hl 0 rfl) ?_
  refine va_get (D := (dC, dI)) (ci := 4) (v := .int (xw_i mfo_1)) (C := RX4) (T := TX4) (N := 21) hx hb hts hwsX40 hown hK hP 0 rfl rfl 15 (by decide) (hts (.fieldLink RX4 85 "BoxProverModel" "found" "I") (by decide +kernel)) (fun _ h9 => h9) rfl dX4_solutions_5 ?_
  exact hret _ _ _ _ mfo_1 (mtr_1, mfo_1, mff_1, mlt_1, mgr_1, mxx_1, msu_1) dX4_solutions_8 h hP hD hK hS
set_option maxHeartbeats 4000000 in
set_option maxRecDepth 100000 in
theorem c_X4_range (l : Launch) (dC : Nat → ClassId) (dI : Nat → Nat → Nat) (qM aM0 aM1 aM2 aM3 aM4 aM5 aM6 aM7 aM8 aM9 aM10 aM11 aM12 : Nat) (kM0 kM1 kM2 kM3 kM4 kM5 kM6 kM7 kM8 kM9 kM10 kM11 kM12 : ClassId) (sz : Nat) (mrw : Int) (mly : Int) (mln : Int) (msp : Int) (mwh : Int) (mcl : Int) (mtr : Int) (mfo : Int) (mki : Nat → Int) (mro : Nat → Int) (mlf : Nat → Int) (mli : Nat → Int) (msw : Nat → Int) (msa : Nat → Int) (msc : Nat → Int) (msl : Nat → Int) (mff : Nat → Int) (mlt : Nat → Int) (mgr : Nat → Int) (mxx : Nat → Int) (msu : Nat → Int) (p1 : Int) (p2 : Int) (post : Int → Int → Int → (Nat → Int) → (Nat → Int) → (Nat → Int) → (Nat → Int) → (Nat → Int) → Prop) (h : wp_X4_range post mrw mly mln msp mwh mcl mtr mfo mki mro mlf mli msw msa msc msl mff mlt mgr mxx msu p1 p2) : Met l yX4_range wsX4_range ({ frames := 2, cells := 0, slots := 0, locals := 48 }) (va_Pc [.ref qM, .int (xw_i p1), .int (xw_i p2)] (xw_Pre (dC, dI) vwCl (wd_X4 qM aM0 aM1 aM2 aM3 aM4 aM5 aM6 aM7 aM8 aM9 aM10 aM11 aM12 kM0 kM1 kM2 kM3 kM4 kM5 kM6 kM7 kM8 kM9 kM10 kM11 kM12 mrw mly mln msp mwh mcl mtr mfo mki mro mlf mli msw msa msc msl mff mlt mgr mxx msu) [(kM0, .int), (kM1, .int), (kM2, .int), (kM3, .long), (kM4, .int), (kM5, .int), (kM6, .int), (kM7, .int), (kM8, .int), (kM9, .int), (kM10, .int), (kM11, .int), (kM12, .int)] sz)) (va_Qi (xw_pi (fun v (u : Int × Int × (Nat → Int) × (Nat → Int) × (Nat → Int) × (Nat → Int) × (Nat → Int)) => post v u.1 u.2.1 u.2.2.1 u.2.2.2.1 u.2.2.2.2.1 u.2.2.2.2.2.1 u.2.2.2.2.2.2)) (xw_B (dC, dI) vwCl (fun (_ : Int × Int × (Nat → Int) × (Nat → Int) × (Nat → Int) × (Nat → Int) × (Nat → Int)) => [(kM0, .int), (kM1, .int), (kM2, .int), (kM3, .long), (kM4, .int), (kM5, .int), (kM6, .int), (kM7, .int), (kM8, .int), (kM9, .int), (kM10, .int), (kM11, .int), (kM12, .int)]) (va_A (wd_X4 qM aM0 aM1 aM2 aM3 aM4 aM5 aM6 aM7 aM8 aM9 aM10 aM11 aM12 kM0 kM1 kM2 kM3 kM4 kM5 kM6 kM7 kM8 kM9 kM10 kM11 kM12 mrw mly mln msp mwh mcl mtr mfo mki mro mlf mli msw msa msc msl mff mlt mgr mxx msu) sz) (fun (u : Int × Int × (Nat → Int) × (Nat → Int) × (Nat → Int) × (Nat → Int) × (Nat → Int)) => (wd_X4 qM aM0 aM1 aM2 aM3 aM4 aM5 aM6 aM7 aM8 aM9 aM10 aM11 aM12 kM0 kM1 kM2 kM3 kM4 kM5 kM6 kM7 kM8 kM9 kM10 kM11 kM12 mrw mly mln msp mwh mcl u.1 u.2.1 mki mro mlf mli msw msa msc msl u.2.2.1 u.2.2.2.1 u.2.2.2.2.1 u.2.2.2.2.2.1 u.2.2.2.2.2.2))) (va_A (wd_X4 qM aM0 aM1 aM2 aM3 aM4 aM5 aM6 aM7 aM8 aM9 aM10 aM11 aM12 kM0 kM1 kM2 kM3 kM4 kM5 kM6 kM7 kM8 kM9 kM10 kM11 kM12 mrw mly mln msp mwh mcl mtr mfo mki mro mlf mli msw msa msc msl mff mlt mgr mxx msu) sz)) 0 0 (va_A (wd_X4 qM aM0 aM1 aM2 aM3 aM4 aM5 aM6 aM7 aM8 aM9 aM10 aM11 aM12 kM0 kM1 kM2 kM3 kM4 kM5 kM6 kM7 kM8 kM9 kM10 kM11 kM12 mrw mly mln msp mwh mcl mtr mfo mki mro mlf mli msw msa msc msl mff mlt mgr mxx msu) sz) := by
  refine xw_ofI (cc := cX4_range) (maxL := 3) (by decide +kernel) rfl (Nat.le_of_ble_eq_true rfl) ?_
  intro p e s m args below meth c hx hb hml hown hts A hA hP hD hK Q hret ls hl hS
  have hl : lv_has ls 3 [(0, .ref qM), (1, .int (xw_i p1)), (2, .int (xw_i p2))] := hl
  have hwsX40 : ∀ w ∈ wsX40, w ∈ wsX4_range := fun _ h => List.mem_cons_of_mem _ (List.mem_append_right _ h)
  unfold wp_X4_range at h
  refine lv_aload_n hx hb dX4_range_0 rfl (lv_at hl 0 rfl) ?_
  refine xw_backv (wc := (wd_X4 qM aM0 aM1 aM2 aM3 aM4 aM5 aM6 aM7 aM8 aM9 aM10 aM11 aM12 kM0 kM1 kM2 kM3 kM4 kM5 kM6 kM7 kM8 kM9 kM10 kM11 kM12 mrw mly mln msp mwh mcl mtr mfo mki mro mlf mli msw msa msc msl mff mlt mgr mxx msu)) (wr := []) (va_runV (As := []) (rest := []) ⟨hx, hb, hml, hown, hts⟩ (c_X4_tryAll l dC dI qM aM0 aM1 aM2 aM3 aM4 aM5 aM6 aM7 aM8 aM9 aM10 aM11 aM12 kM0 kM1 kM2 kM3 kM4 kM5 kM6 kM7 kM8 kM9 kM10 kM11 kM12 s.heap.size mrw mly mln msp mwh mcl mtr mfo mki mro mlf mli msw msa msc msl mff mlt mgr mxx msu _ h) (cwV 0 hts gX4_range_X4_tryAll rfl rfl rfl (by decide +kernel) ⟨Nat.le_of_ble_eq_true rfl, Nat.le_of_ble_eq_true rfl⟩) (xw_preV (ci := 4) hK hP hD [0, 1, 2, 3, 4, 5, 6, 7, 8, 9, 10, 11, 12, 13] rfl rfl (by decide) [0, 1, 2, 3, 4, 5, 6, 7, 8, 9, 10, 11, 12] rfl rfl rfl) rfl rfl hl.1 rfl (lv_room (Nat.le_of_ble_eq_true rfl)) dX4_range_1 ⟨Nat.le_of_ble_eq_true rfl, Nat.le_of_ble_eq_true rfl⟩) hK hP hD hS hA [0, 1, 2, 3, 4, 5, 6, 7, 8, 9, 10, 11, 12, 13] [] rfl rfl (by decide) (by decide) (fun u H locs h hP hD hK2 hS => ?_)
  obtain ⟨mtr_1, mfo_1, mff_1, mlt_1, mgr_1, mxx_1, msu_1⟩ := u
  try dsimp only at h
  have hP : va_P (dC, dI) vwCl (wd_X4 qM aM0 aM1 aM2 aM3 aM4 aM5 aM6 aM7 aM8 aM9 aM10 aM11 aM12 kM0 kM1 kM2 kM3 kM4 kM5 kM6 kM7 kM8 kM9 kM10 kM11 kM12 mrw mly mln msp mwh mcl mtr_1 mfo_1 mki mro mlf mli msw msa msc msl mff_1 mlt_1 mgr_1 mxx_1 msu_1) H := hP
  have hD : va_D A (wd_X4 qM aM0 aM1 aM2 aM3 aM4 aM5 aM6 aM7 aM8 aM9 aM10 aM11 aM12 kM0 kM1 kM2 kM3 kM4 kM5 kM6 kM7 kM8 kM9 kM10 kM11 kM12 mrw mly mln msp mwh mcl mtr_1 mfo_1 mki mro mlf mli msw msa msc msl mff_1 mlt_1 mgr_1 mxx_1 msu_1) := hD
  refine lv_aload_n hx hb dX4_range_4 rfl (lv_at hl 0 rfl) ?_
  refine va_get (D := (dC, dI)) (ci := 4) (v := .int (xw_i mfo_1)) (C := RX4) (T := TX4) (N := 21) hx hb hts hwsX40 hown hK hP 0 rfl rfl 15 (by decide) (hts (.fieldLink RX4 85 "BoxProverModel" "found" "I") (by decide +kernel)) (fun _ h9 => h9) rfl dX4_range_5 ?_
  obtain ⟨hr1, h⟩ := h
  refine xw_if_eq (tgt := 20) hx hb hr1 dX4_range_8 (by decide) (fun hcd => ?_) (fun hcd => ?_)
  · have h := h.1 hcd
    refine lv_bipush (v := xw_i (-100)) hx hb dX4_range_20 (by decide) ?_
    refine lv_goto (tgt := 44) hx hb dX4_range_22 (by decide) ?_
    exact hret _ _ _ _ (-100) (mtr_1, mfo_1, mff_1, mlt_1, mgr_1, mxx_1, msu_1) dX4_range_44 h hP hD hK hS
  · have h := h.2 hcd
    refine lv_iload_n hx hb dX4_range_11 rfl (lv_at hl 1 rfl) ?_
    obtain ⟨hr2, h⟩ := h
    refine xw_if_lt (tgt := 20) hx hb hr2 dX4_range_12 (by decide) (fun hcd => ?_) (fun hcd => ?_)
    · have h := h.1 hcd
      refine lv_bipush (v := xw_i (-100)) hx hb dX4_range_20 (by decide) ?_
      refine lv_goto (tgt := 44) hx hb dX4_range_22 (by decide) ?_
      exact hret _ _ _ _ (-100) (mtr_1, mfo_1, mff_1, mlt_1, mgr_1, mxx_1, msu_1) dX4_range_44 h hP hD hK hS
    · have h := h.2 hcd
      refine lv_iload_n hx hb dX4_range_15 rfl (lv_at hl 1 rfl) ?_
      refine lv_iconst (v := xw_i 3) hx hb dX4_range_16 (by decide) ?_
      refine xw_icmp_le (tgt := 25) hx hb ⟨hr2, ⟨by decide, by decide⟩⟩ dX4_range_17 (by decide) (fun hcd => ?_) (fun hcd => ?_)
      · have h := h.1 hcd
        refine lv_iload_n hx hb dX4_range_25 rfl (lv_at hl 2 rfl) ?_
        obtain ⟨hr3, h⟩ := h
        refine xw_if_eq (tgt := 38) hx hb hr3 dX4_range_26 (by decide) (fun hcd => ?_) (fun hcd => ?_)
        · have h := h.1 hcd
          refine lv_aload_n hx hb dX4_range_38 rfl (lv_at hl 0 rfl) ?_
          refine va_get (D := (dC, dI)) (ci := 4) (v := .ref aM9) (C := RX4) (T := TX4) (N := 21) hx hb hts hwsX40 hown hK hP 0 rfl rfl 17 (by decide) (hts (.fieldLink RX4 38 "BoxProverModel" "least" "[I") (by decide +kernel)) (fun _ h9 => h9) rfl dX4_range_39 ?_
          refine lv_iload_n hx hb dX4_range_42 rfl (lv_at hl 1 rfl) ?_
          obtain ⟨hin, h⟩ := h
          refine xw_iald (n := 4) hx hb hK hP 10 9 rfl rfl (by decide) hin dX4_range_43 ?_
          exact hret _ _ _ _ (mlt_1 p1.toNat) (mtr_1, mfo_1, mff_1, mlt_1, mgr_1, mxx_1, msu_1) dX4_range_44 h hP hD hK hS
        · have h := h.2 hcd
          refine lv_aload_n hx hb dX4_range_29 rfl (lv_at hl 0 rfl) ?_
          refine va_get (D := (dC, dI)) (ci := 4) (v := .ref aM10) (C := RX4) (T := TX4) (N := 21) hx hb hts hwsX40 hown hK hP 0 rfl rfl 18 (by decide) (hts (.fieldLink RX4 41 "BoxProverModel" "greatest" "[I") (by decide +kernel)) (fun _ h9 => h9) rfl dX4_range_30 ?_
          refine lv_iload_n hx hb dX4_range_33 rfl (lv_at hl 1 rfl) ?_
          obtain ⟨hin, h⟩ := h
          refine xw_iald (n := 4) hx hb hK hP 11 10 rfl rfl (by decide) hin dX4_range_34 ?_
          refine lv_goto (tgt := 44) hx hb dX4_range_35 (by decide) ?_
          exact hret _ _ _ _ (mgr_1 p1.toNat) (mtr_1, mfo_1, mff_1, mlt_1, mgr_1, mxx_1, msu_1) dX4_range_44 h hP hD hK hS
      · have h := h.2 hcd
        refine lv_bipush (v := xw_i (-100)) hx hb dX4_range_20 (by decide) ?_
        refine lv_goto (tgt := 44) hx hb dX4_range_22 (by decide) ?_
        exact hret _ _ _ _ (-100) (mtr_1, mfo_1, mff_1, mlt_1, mgr_1, mxx_1, msu_1) dX4_range_44 h hP hD hK hS
set_option maxHeartbeats 4000000 in
set_option maxRecDepth 100000 in
theorem c_X4_isLine (l : Launch) (dC : Nat → ClassId) (dI : Nat → Nat → Nat) (qM aM0 aM1 aM2 aM3 aM4 aM5 aM6 aM7 aM8 aM9 aM10 aM11 aM12 : Nat) (kM0 kM1 kM2 kM3 kM4 kM5 kM6 kM7 kM8 kM9 kM10 kM11 kM12 : ClassId) (sz : Nat) (mrw : Int) (mly : Int) (mln : Int) (msp : Int) (mwh : Int) (mcl : Int) (mtr : Int) (mfo : Int) (mki : Nat → Int) (mro : Nat → Int) (mlf : Nat → Int) (mli : Nat → Int) (msw : Nat → Int) (msa : Nat → Int) (msc : Nat → Int) (msl : Nat → Int) (mff : Nat → Int) (mlt : Nat → Int) (mgr : Nat → Int) (mxx : Nat → Int) (msu : Nat → Int) (p1 : Int) (post : Int → Prop) (h : wp_X4_isLine post mrw mly mln msp mwh mcl mtr mfo mki mro mlf mli msw msa msc msl mff mlt mgr mxx msu p1) : Met l yX4_isLine wsX4_isLine ({ frames := 0, cells := 0, slots := 0, locals := 0 }) (va_Pc [.ref qM, .int (xw_i p1)] (xw_Pre (dC, dI) vwCl (wd_X4 qM aM0 aM1 aM2 aM3 aM4 aM5 aM6 aM7 aM8 aM9 aM10 aM11 aM12 kM0 kM1 kM2 kM3 kM4 kM5 kM6 kM7 kM8 kM9 kM10 kM11 kM12 mrw mly mln msp mwh mcl mtr mfo mki mro mlf mli msw msa msc msl mff mlt mgr mxx msu) [(kM0, .int), (kM1, .int), (kM2, .int), (kM3, .long), (kM4, .int), (kM5, .int), (kM6, .int), (kM7, .int), (kM8, .int), (kM9, .int), (kM10, .int), (kM11, .int), (kM12, .int)] sz)) (va_Qi (xw_pi (fun v (u : Unit) => post v)) (xw_B (dC, dI) vwCl (fun (_ : Unit) => [(kM0, .int), (kM1, .int), (kM2, .int), (kM3, .long), (kM4, .int), (kM5, .int), (kM6, .int), (kM7, .int), (kM8, .int), (kM9, .int), (kM10, .int), (kM11, .int), (kM12, .int)]) (va_A (wd_X4 qM aM0 aM1 aM2 aM3 aM4 aM5 aM6 aM7 aM8 aM9 aM10 aM11 aM12 kM0 kM1 kM2 kM3 kM4 kM5 kM6 kM7 kM8 kM9 kM10 kM11 kM12 mrw mly mln msp mwh mcl mtr mfo mki mro mlf mli msw msa msc msl mff mlt mgr mxx msu) sz) (fun (u : Unit) => (wd_X4 qM aM0 aM1 aM2 aM3 aM4 aM5 aM6 aM7 aM8 aM9 aM10 aM11 aM12 kM0 kM1 kM2 kM3 kM4 kM5 kM6 kM7 kM8 kM9 kM10 kM11 kM12 mrw mly mln msp mwh mcl mtr mfo mki mro mlf mli msw msa msc msl mff mlt mgr mxx msu))) (va_A (wd_X4 qM aM0 aM1 aM2 aM3 aM4 aM5 aM6 aM7 aM8 aM9 aM10 aM11 aM12 kM0 kM1 kM2 kM3 kM4 kM5 kM6 kM7 kM8 kM9 kM10 kM11 kM12 mrw mly mln msp mwh mcl mtr mfo mki mro mlf mli msw msa msc msl mff mlt mgr mxx msu) sz)) 0 0 (va_A (wd_X4 qM aM0 aM1 aM2 aM3 aM4 aM5 aM6 aM7 aM8 aM9 aM10 aM11 aM12 kM0 kM1 kM2 kM3 kM4 kM5 kM6 kM7 kM8 kM9 kM10 kM11 kM12 mrw mly mln msp mwh mcl mtr mfo mki mro mlf mli msw msa msc msl mff mlt mgr mxx msu) sz) := by
  refine xw_ofZ (cc := cX4_isLine) (maxL := 2) (by decide +kernel) rfl (Nat.le_of_ble_eq_true rfl) ?_
  intro p e s m args below meth c hx hb hml hown hts A hA hP hD hK Q hret ls hl hS
  have hl : lv_has ls 2 [(0, .ref qM), (1, .int (xw_i p1))] := hl
  have hwsX40 : ∀ w ∈ wsX40, w ∈ wsX4_isLine := fun _ h => List.mem_cons_of_mem _ (List.mem_append_right _ h)
  unfold wp_X4_isLine at h
  refine lv_iload_n hx hb dX4_isLine_0 rfl (lv_at hl 1 rfl) ?_
  obtain ⟨hr1, h⟩ := h
  refine xw_if_lt (tgt := 16) hx hb hr1 dX4_isLine_1 (by decide) (fun hcd => ?_) (fun hcd => ?_)
  · have h := h.1 hcd
    refine lv_iconst (v := xw_i 0) hx hb dX4_isLine_16 (by decide) ?_
    exact hret _ _ _ _ 0 () dX4_isLine_17 (by decide) h hP hD hK hS
  · have h := h.2 hcd
    refine lv_iload_n hx hb dX4_isLine_4 rfl (lv_at hl 1 rfl) ?_
    refine lv_aload_n hx hb dX4_isLine_5 rfl (lv_at hl 0 rfl) ?_
    refine va_get (D := (dC, dI)) (ci := 4) (v := .int (xw_i mln)) (C := RX4) (T := TX4) (N := 21) hx hb hts hwsX40 hown hK hP 0 rfl rfl 5 (by decide) (hts (.fieldLink RX4 58 "BoxProverModel" "lines" "I") (by decide +kernel)) (fun _ h9 => h9) rfl dX4_isLine_6 ?_
    obtain ⟨hr2, h⟩ := h
    refine xw_icmp_ge (tgt := 16) hx hb ⟨hr1, hr2⟩ dX4_isLine_9 (by decide) (fun hcd => ?_) (fun hcd => ?_)
    · have h := h.1 hcd
      refine lv_iconst (v := xw_i 0) hx hb dX4_isLine_16 (by decide) ?_
      exact hret _ _ _ _ 0 () dX4_isLine_17 (by decide) h hP hD hK hS
    · have h := h.2 hcd
      refine lv_iconst (v := xw_i 1) hx hb dX4_isLine_12 (by decide) ?_
      refine lv_goto (tgt := 17) hx hb dX4_isLine_13 (by decide) ?_
      exact hret _ _ _ _ 1 () dX4_isLine_17 (by decide) h hP hD hK hS
set_option maxHeartbeats 4000000 in
set_option maxRecDepth 100000 in
theorem c_X4_isFull (l : Launch) (dC : Nat → ClassId) (dI : Nat → Nat → Nat) (qM aM0 aM1 aM2 aM3 aM4 aM5 aM6 aM7 aM8 aM9 aM10 aM11 aM12 : Nat) (kM0 kM1 kM2 kM3 kM4 kM5 kM6 kM7 kM8 kM9 kM10 kM11 kM12 : ClassId) (sz : Nat) (mrw : Int) (mly : Int) (mln : Int) (msp : Int) (mwh : Int) (mcl : Int) (mtr : Int) (mfo : Int) (mki : Nat → Int) (mro : Nat → Int) (mlf : Nat → Int) (mli : Nat → Int) (msw : Nat → Int) (msa : Nat → Int) (msc : Nat → Int) (msl : Nat → Int) (mff : Nat → Int) (mlt : Nat → Int) (mgr : Nat → Int) (mxx : Nat → Int) (msu : Nat → Int) (post : Int → Prop) (h : wp_X4_isFull post mrw mly mln msp mwh mcl mtr mfo mki mro mlf mli msw msa msc msl mff mlt mgr mxx msu) : Met l yX4_isFull wsX4_isFull ({ frames := 0, cells := 0, slots := 0, locals := 0 }) (va_Pc [.ref qM] (xw_Pre (dC, dI) vwCl (wd_X4 qM aM0 aM1 aM2 aM3 aM4 aM5 aM6 aM7 aM8 aM9 aM10 aM11 aM12 kM0 kM1 kM2 kM3 kM4 kM5 kM6 kM7 kM8 kM9 kM10 kM11 kM12 mrw mly mln msp mwh mcl mtr mfo mki mro mlf mli msw msa msc msl mff mlt mgr mxx msu) [(kM0, .int), (kM1, .int), (kM2, .int), (kM3, .long), (kM4, .int), (kM5, .int), (kM6, .int), (kM7, .int), (kM8, .int), (kM9, .int), (kM10, .int), (kM11, .int), (kM12, .int)] sz)) (va_Qi (xw_pi (fun v (u : Unit) => post v)) (xw_B (dC, dI) vwCl (fun (_ : Unit) => [(kM0, .int), (kM1, .int), (kM2, .int), (kM3, .long), (kM4, .int), (kM5, .int), (kM6, .int), (kM7, .int), (kM8, .int), (kM9, .int), (kM10, .int), (kM11, .int), (kM12, .int)]) (va_A (wd_X4 qM aM0 aM1 aM2 aM3 aM4 aM5 aM6 aM7 aM8 aM9 aM10 aM11 aM12 kM0 kM1 kM2 kM3 kM4 kM5 kM6 kM7 kM8 kM9 kM10 kM11 kM12 mrw mly mln msp mwh mcl mtr mfo mki mro mlf mli msw msa msc msl mff mlt mgr mxx msu) sz) (fun (u : Unit) => (wd_X4 qM aM0 aM1 aM2 aM3 aM4 aM5 aM6 aM7 aM8 aM9 aM10 aM11 aM12 kM0 kM1 kM2 kM3 kM4 kM5 kM6 kM7 kM8 kM9 kM10 kM11 kM12 mrw mly mln msp mwh mcl mtr mfo mki mro mlf mli msw msa msc msl mff mlt mgr mxx msu))) (va_A (wd_X4 qM aM0 aM1 aM2 aM3 aM4 aM5 aM6 aM7 aM8 aM9 aM10 aM11 aM12 kM0 kM1 kM2 kM3 kM4 kM5 kM6 kM7 kM8 kM9 kM10 kM11 kM12 mrw mly mln msp mwh mcl mtr mfo mki mro mlf mli msw msa msc msl mff mlt mgr mxx msu) sz)) 0 0 (va_A (wd_X4 qM aM0 aM1 aM2 aM3 aM4 aM5 aM6 aM7 aM8 aM9 aM10 aM11 aM12 kM0 kM1 kM2 kM3 kM4 kM5 kM6 kM7 kM8 kM9 kM10 kM11 kM12 mrw mly mln msp mwh mcl mtr mfo mki mro mlf mli msw msa msc msl mff mlt mgr mxx msu) sz) := by
  refine xw_ofZ (cc := cX4_isFull) (maxL := 1) (by decide +kernel) rfl (Nat.le_of_ble_eq_true rfl) ?_
  intro p e s m args below meth c hx hb hml hown hts A hA hP hD hK Q hret ls hl hS
  have hl : lv_has ls 1 [(0, .ref qM)] := hl
  have hwsX40 : ∀ w ∈ wsX40, w ∈ wsX4_isFull := fun _ h => List.mem_cons_of_mem _ (List.mem_append_right _ h)
  unfold wp_X4_isFull at h
  refine lv_aload_n hx hb dX4_isFull_0 rfl (lv_at hl 0 rfl) ?_
  refine va_get (D := (dC, dI)) (ci := 4) (v := .int (xw_i mwh)) (C := RX4) (T := TX4) (N := 21) hx hb hts hwsX40 hown hK hP 0 rfl rfl 12 (by decide) (hts (.fieldLink RX4 64 "BoxProverModel" "isWhole" "Z") (by decide +kernel)) (fun _ h9 => h9) rfl dX4_isFull_1 ?_
  obtain ⟨hr1, h⟩ := h
  refine xw_if_ne (tgt := 17) hx hb hr1 dX4_isFull_4 (by decide) (fun hcd => ?_) (fun hcd => ?_)
  · have h := h.2 hcd
    refine lv_iconst (v := xw_i 1) hx hb dX4_isFull_17 (by decide) ?_
    refine lv_goto (tgt := 22) hx hb dX4_isFull_18 (by decide) ?_
    exact hret _ _ _ _ 1 () dX4_isFull_22 (by decide) h hP hD hK hS
  · have h := h.1 hcd
    refine lv_aload_n hx hb dX4_isFull_7 rfl (lv_at hl 0 rfl) ?_
    refine va_get (D := (dC, dI)) (ci := 4) (v := .int (xw_i mln)) (C := RX4) (T := TX4) (N := 21) hx hb hts hwsX40 hown hK hP 0 rfl rfl 5 (by decide) (hts (.fieldLink RX4 58 "BoxProverModel" "lines" "I") (by decide +kernel)) (fun _ h9 => h9) rfl dX4_isFull_8 ?_
    refine lv_sipush (v := xw_i 200) hx hb dX4_isFull_11 (by decide) ?_
    obtain ⟨hr2, h⟩ := h
    refine xw_icmp_ne (tgt := 21) hx hb ⟨hr2, ⟨by decide, by decide⟩⟩ dX4_isFull_14 (by decide) (fun hcd => ?_) (fun hcd => ?_)
    · have h := h.2 hcd
      refine lv_iconst (v := xw_i 0) hx hb dX4_isFull_21 (by decide) ?_
      exact hret _ _ _ _ 0 () dX4_isFull_22 (by decide) h hP hD hK hS
    · have h := h.1 hcd
      refine lv_iconst (v := xw_i 1) hx hb dX4_isFull_17 (by decide) ?_
      refine lv_goto (tgt := 22) hx hb dX4_isFull_18 (by decide) ?_
      exact hret _ _ _ _ 1 () dX4_isFull_22 (by decide) h hP hD hK hS
set_option maxHeartbeats 4000000 in
set_option maxRecDepth 100000 in
theorem c_X4_put (l : Launch) (dC : Nat → ClassId) (dI : Nat → Nat → Nat) (qM aM0 aM1 aM2 aM3 aM4 aM5 aM6 aM7 aM8 aM9 aM10 aM11 aM12 : Nat) (kM0 kM1 kM2 kM3 kM4 kM5 kM6 kM7 kM8 kM9 kM10 kM11 kM12 : ClassId) (sz : Nat) (mrw : Int) (mly : Int) (mln : Int) (msp : Int) (mwh : Int) (mcl : Int) (mtr : Int) (mfo : Int) (mki : Nat → Int) (mro : Nat → Int) (mlf : Nat → Int) (mli : Nat → Int) (msw : Nat → Int) (msa : Nat → Int) (msc : Nat → Int) (msl : Nat → Int) (mff : Nat → Int) (mlt : Nat → Int) (mgr : Nat → Int) (mxx : Nat → Int) (msu : Nat → Int) (p1 : Int) (p2 : Int) (p3 : Int) (p4 : Int) (p5 : Int) (post : Int → Int → (Nat → Int) → Prop) (h : wp_X4_put post mrw mly mln msp mwh mcl mtr mfo mki mro mlf mli msw msa msc msl mff mlt mgr mxx msu p1 p2 p3 p4 p5) : Met l yX4_put wsX4_put ({ frames := 0, cells := 0, slots := 0, locals := 0 }) (va_Pc [.ref qM, .long (xw_j p1), .long (xw_j p2), .long (xw_j p3), .long (xw_j p4), .long (xw_j p5)] (xw_Pre (dC, dI) vwCl (wd_X4 qM aM0 aM1 aM2 aM3 aM4 aM5 aM6 aM7 aM8 aM9 aM10 aM11 aM12 kM0 kM1 kM2 kM3 kM4 kM5 kM6 kM7 kM8 kM9 kM10 kM11 kM12 mrw mly mln msp mwh mcl mtr mfo mki mro mlf mli msw msa msc msl mff mlt mgr mxx msu) [(kM0, .int), (kM1, .int), (kM2, .int), (kM3, .long), (kM4, .int), (kM5, .int), (kM6, .int), (kM7, .int), (kM8, .int), (kM9, .int), (kM10, .int), (kM11, .int), (kM12, .int)] sz)) (va_Qi (xw_pi (fun v (u : Int × (Nat → Int)) => post v u.1 u.2)) (xw_B (dC, dI) vwCl (fun (_ : Int × (Nat → Int)) => [(kM0, .int), (kM1, .int), (kM2, .int), (kM3, .long), (kM4, .int), (kM5, .int), (kM6, .int), (kM7, .int), (kM8, .int), (kM9, .int), (kM10, .int), (kM11, .int), (kM12, .int)]) (va_A (wd_X4 qM aM0 aM1 aM2 aM3 aM4 aM5 aM6 aM7 aM8 aM9 aM10 aM11 aM12 kM0 kM1 kM2 kM3 kM4 kM5 kM6 kM7 kM8 kM9 kM10 kM11 kM12 mrw mly mln msp mwh mcl mtr mfo mki mro mlf mli msw msa msc msl mff mlt mgr mxx msu) sz) (fun (u : Int × (Nat → Int)) => (wd_X4 qM aM0 aM1 aM2 aM3 aM4 aM5 aM6 aM7 aM8 aM9 aM10 aM11 aM12 kM0 kM1 kM2 kM3 kM4 kM5 kM6 kM7 kM8 kM9 kM10 kM11 kM12 mrw mly u.1 msp mwh mcl mtr mfo mki mro mlf u.2 msw msa msc msl mff mlt mgr mxx msu))) (va_A (wd_X4 qM aM0 aM1 aM2 aM3 aM4 aM5 aM6 aM7 aM8 aM9 aM10 aM11 aM12 kM0 kM1 kM2 kM3 kM4 kM5 kM6 kM7 kM8 kM9 kM10 kM11 kM12 mrw mly mln msp mwh mcl mtr mfo mki mro mlf mli msw msa msc msl mff mlt mgr mxx msu) sz)) 0 0 (va_A (wd_X4 qM aM0 aM1 aM2 aM3 aM4 aM5 aM6 aM7 aM8 aM9 aM10 aM11 aM12 kM0 kM1 kM2 kM3 kM4 kM5 kM6 kM7 kM8 kM9 kM10 kM11 kM12 mrw mly mln msp mwh mcl mtr mfo mki mro mlf mli msw msa msc msl mff mlt mgr mxx msu) sz) := by
  refine xw_ofI (cc := cX4_put) (maxL := 12) (by decide +kernel) rfl (Nat.le_of_ble_eq_true rfl) ?_
  intro p e s m args below meth c hx hb hml hown hts A hA hP hD hK Q hret ls hl hS
  have hl : lv_has ls 12 [(0, .ref qM), (1, .long (xw_j p1)), (3, .long (xw_j p2)), (5, .long (xw_j p3)), (7, .long (xw_j p4)), (9, .long (xw_j p5))] := hl
  have hwsX40 : ∀ w ∈ wsX40, w ∈ wsX4_put := fun _ h => List.mem_cons_of_mem _ (List.mem_append_right _ h)
  unfold wp_X4_put at h
  refine lv_iconst (v := xw_i 5) hx hb dX4_put_0 (by decide) ?_
  refine lv_aload_n hx hb dX4_put_1 rfl (lv_at hl 0 rfl) ?_
  refine va_get (D := (dC, dI)) (ci := 4) (v := .int (xw_i mln)) (C := RX4) (T := TX4) (N := 21) hx hb hts hwsX40 hown hK hP 0 rfl rfl 5 (by decide) (hts (.fieldLink RX4 58 "BoxProverModel" "lines" "I") (by decide +kernel)) (fun _ h9 => h9) rfl dX4_put_2 ?_
  refine xw_imul hx hb dX4_put_5 ?_
  refine xw_topi (fun x11 ex11 => ?_)
  have h := h x11 ex11
  refine lv_istore (lv' := [(11, .int (xw_i x11)), (0, .ref qM), (1, .long (xw_j p1)), (3, .long (xw_j p2)), (5, .long (xw_j p3)), (7, .long (xw_j p4)), (9, .long (xw_j p5))]) hx hb dX4_put_6 hl (by decide) rfl (fun ls hl => ?_)
  refine lv_aload_n hx hb dX4_put_8 rfl (lv_at hl 1 rfl) ?_
  refine va_get (D := (dC, dI)) (ci := 4) (v := .ref aM3) (C := RX4) (T := TX4) (N := 21) hx hb hts hwsX40 hown hK hP 0 rfl rfl 6 (by decide) (hts (.fieldLink RX4 19 "BoxProverModel" "line" "[J") (by decide +kernel)) (fun _ h9 => h9) rfl dX4_put_9 ?_
  refine lv_iload hx hb dX4_put_12 (lv_at hl 0 rfl) ?_
  refine lv_lload_n hx hb dX4_put_14 rfl (lv_at hl 2 rfl) ?_
  obtain ⟨hin, h⟩ := h
  obtain ⟨mli_1, emli_1⟩ : ∃ z : Nat → Int, z = xw_u mli x11 p1 := ⟨_, rfl⟩
  have h := h mli_1 emli_1
  refine xw_last (n := 1000) hx hb hK hP hD hS 4 3 rfl rfl (by decide) hin emli_1 dX4_put_15 (fun H locs hP hD hS => ?_)
  have hP : va_P (dC, dI) vwCl (wd_X4 qM aM0 aM1 aM2 aM3 aM4 aM5 aM6 aM7 aM8 aM9 aM10 aM11 aM12 kM0 kM1 kM2 kM3 kM4 kM5 kM6 kM7 kM8 kM9 kM10 kM11 kM12 mrw mly mln msp mwh mcl mtr mfo mki mro mlf mli_1 msw msa msc msl mff mlt mgr mxx msu) H := hP
  have hD : va_D A (wd_X4 qM aM0 aM1 aM2 aM3 aM4 aM5 aM6 aM7 aM8 aM9 aM10 aM11 aM12 kM0 kM1 kM2 kM3 kM4 kM5 kM6 kM7 kM8 kM9 kM10 kM11 kM12 mrw mly mln msp mwh mcl mtr mfo mki mro mlf mli_1 msw msa msc msl mff mlt mgr mxx msu) := hD
  refine lv_aload_n hx hb dX4_put_16 rfl (lv_at hl 1 rfl) ?_
  refine va_get (D := (dC, dI)) (ci := 4) (v := .ref aM3) (C := RX4) (T := TX4) (N := 21) hx hb hts hwsX40 hown hK hP 0 rfl rfl 6 (by decide) (hts (.fieldLink RX4 19 "BoxProverModel" "line" "[J") (by decide +kernel)) (fun _ h9 => h9) rfl dX4_put_17 ?_
  refine lv_iload hx hb dX4_put_20 (lv_at hl 0 rfl) ?_
  refine lv_iconst (v := xw_i 1) hx hb dX4_put_22 (by decide) ?_
  refine xw_iadd hx hb dX4_put_23 ?_
  refine lv_lload_n hx hb dX4_put_24 rfl (lv_at hl 3 rfl) ?_
  obtain ⟨hin, h⟩ := h
  obtain ⟨mli_2, emli_2⟩ : ∃ z : Nat → Int, z = xw_u mli_1 (x11 + 1) p2 := ⟨_, rfl⟩
  have h := h mli_2 emli_2
  refine xw_last (n := 1000) hx hb hK hP hD hS 4 3 rfl rfl (by decide) hin emli_2 dX4_put_25 (fun H locs hP hD hS => ?_)
  have hP : va_P (dC, dI) vwCl (wd_X4 qM aM0 aM1 aM2 aM3 aM4 aM5 aM6 aM7 aM8 aM9 aM10 aM11 aM12 kM0 kM1 kM2 kM3 kM4 kM5 kM6 kM7 kM8 kM9 kM10 kM11 kM12 mrw mly mln msp mwh mcl mtr mfo mki mro mlf mli_2 msw msa msc msl mff mlt mgr mxx msu) H := hP
  have hD : va_D A (wd_X4 qM aM0 aM1 aM2 aM3 aM4 aM5 aM6 aM7 aM8 aM9 aM10 aM11 aM12 kM0 kM1 kM2 kM3 kM4 kM5 kM6 kM7 kM8 kM9 kM10 kM11 kM12 mrw mly mln msp mwh mcl mtr mfo mki mro mlf mli_2 msw msa msc msl mff mlt mgr mxx msu) := hD
  refine lv_aload_n hx hb dX4_put_26 rfl (lv_at hl 1 rfl) ?_
  refine va_get (D := (dC, dI)) (ci := 4) (v := .ref aM3) (C := RX4) (T := TX4) (N := 21) hx hb hts hwsX40 hown hK hP 0 rfl rfl 6 (by decide) (hts (.fieldLink RX4 19 "BoxProverModel" "line" "[J") (by decide +kernel)) (fun _ h9 => h9) rfl dX4_put_27 ?_
  refine lv_iload hx hb dX4_put_30 (lv_at hl 0 rfl) ?_
  refine lv_iconst (v := xw_i 2) hx hb dX4_put_32 (by decide) ?_
  refine xw_iadd hx hb dX4_put_33 ?_
  refine lv_lload hx hb dX4_put_34 (lv_at hl 4 rfl) ?_
  obtain ⟨hin, h⟩ := h
  obtain ⟨mli_3, emli_3⟩ : ∃ z : Nat → Int, z = xw_u mli_2 (x11 + 2) p3 := ⟨_, rfl⟩
  have h := h mli_3 emli_3
  refine xw_last (n := 1000) hx hb hK hP hD hS 4 3 rfl rfl (by decide) hin emli_3 dX4_put_36 (fun H locs hP hD hS => ?_)
  have hP : va_P (dC, dI) vwCl (wd_X4 qM aM0 aM1 aM2 aM3 aM4 aM5 aM6 aM7 aM8 aM9 aM10 aM11 aM12 kM0 kM1 kM2 kM3 kM4 kM5 kM6 kM7 kM8 kM9 kM10 kM11 kM12 mrw mly mln msp mwh mcl mtr mfo mki mro mlf mli_3 msw msa msc msl mff mlt mgr mxx msu) H := hP
  have hD : va_D A (wd_X4 qM aM0 aM1 aM2 aM3 aM4 aM5 aM6 aM7 aM8 aM9 aM10 aM11 aM12 kM0 kM1 kM2 kM3 kM4 kM5 kM6 kM7 kM8 kM9 kM10 kM11 kM12 mrw mly mln msp mwh mcl mtr mfo mki mro mlf mli_3 msw msa msc msl mff mlt mgr mxx msu) := hD
  refine lv_aload_n hx hb dX4_put_37 rfl (lv_at hl 1 rfl) ?_
  refine va_get (D := (dC, dI)) (ci := 4) (v := .ref aM3) (C := RX4) (T := TX4) (N := 21) hx hb hts hwsX40 hown hK hP 0 rfl rfl 6 (by decide) (hts (.fieldLink RX4 19 "BoxProverModel" "line" "[J") (by decide +kernel)) (fun _ h9 => h9) rfl dX4_put_38 ?_
  refine lv_iload hx hb dX4_put_41 (lv_at hl 0 rfl) ?_
  refine lv_iconst (v := xw_i 3) hx hb dX4_put_43 (by decide) ?_
  refine xw_iadd hx hb dX4_put_44 ?_
  refine lv_lload hx hb dX4_put_45 (lv_at hl 5 rfl) ?_
  obtain ⟨hin, h⟩ := h
  obtain ⟨mli_4, emli_4⟩ : ∃ z : Nat → Int, z = xw_u mli_3 (x11 + 3) p4 := ⟨_, rfl⟩
  have h := h mli_4 emli_4
  refine xw_last (n := 1000) hx hb hK hP hD hS 4 3 rfl rfl (by decide) hin emli_4 dX4_put_47 (fun H locs hP hD hS => ?_)
  have hP : va_P (dC, dI) vwCl (wd_X4 qM aM0 aM1 aM2 aM3 aM4 aM5 aM6 aM7 aM8 aM9 aM10 aM11 aM12 kM0 kM1 kM2 kM3 kM4 kM5 kM6 kM7 kM8 kM9 kM10 kM11 kM12 mrw mly mln msp mwh mcl mtr mfo mki mro mlf mli_4 msw msa msc msl mff mlt mgr mxx msu) H := hP
  have hD : va_D A (wd_X4 qM aM0 aM1 aM2 aM3 aM4 aM5 aM6 aM7 aM8 aM9 aM10 aM11 aM12 kM0 kM1 kM2 kM3 kM4 kM5 kM6 kM7 kM8 kM9 kM10 kM11 kM12 mrw mly mln msp mwh mcl mtr mfo mki mro mlf mli_4 msw msa msc msl mff mlt mgr mxx msu) := hD
  refine lv_aload_n hx hb dX4_put_48 rfl (lv_at hl 1 rfl) ?_
  refine va_get (D := (dC, dI)) (ci := 4) (v := .ref aM3) (C := RX4) (T := TX4) (N := 21) hx hb hts hwsX40 hown hK hP 0 rfl rfl 6 (by decide) (hts (.fieldLink RX4 19 "BoxProverModel" "line" "[J") (by decide +kernel)) (fun _ h9 => h9) rfl dX4_put_49 ?_
  refine lv_iload hx hb dX4_put_52 (lv_at hl 0 rfl) ?_
  refine lv_iconst (v := xw_i 4) hx hb dX4_put_54 (by decide) ?_
  refine xw_iadd hx hb dX4_put_55 ?_
  refine lv_lload hx hb dX4_put_56 (lv_at hl 6 rfl) ?_
  obtain ⟨hin, h⟩ := h
  obtain ⟨mli_5, emli_5⟩ : ∃ z : Nat → Int, z = xw_u mli_4 (x11 + 4) p5 := ⟨_, rfl⟩
  have h := h mli_5 emli_5
  refine xw_last (n := 1000) hx hb hK hP hD hS 4 3 rfl rfl (by decide) hin emli_5 dX4_put_58 (fun H locs hP hD hS => ?_)
  have hP : va_P (dC, dI) vwCl (wd_X4 qM aM0 aM1 aM2 aM3 aM4 aM5 aM6 aM7 aM8 aM9 aM10 aM11 aM12 kM0 kM1 kM2 kM3 kM4 kM5 kM6 kM7 kM8 kM9 kM10 kM11 kM12 mrw mly mln msp mwh mcl mtr mfo mki mro mlf mli_5 msw msa msc msl mff mlt mgr mxx msu) H := hP
  have hD : va_D A (wd_X4 qM aM0 aM1 aM2 aM3 aM4 aM5 aM6 aM7 aM8 aM9 aM10 aM11 aM12 kM0 kM1 kM2 kM3 kM4 kM5 kM6 kM7 kM8 kM9 kM10 kM11 kM12 mrw mly mln msp mwh mcl mtr mfo mki mro mlf mli_5 msw msa msc msl mff mlt mgr mxx msu) := hD
  refine lv_aload_n hx hb dX4_put_59 rfl (lv_at hl 1 rfl) ?_
  refine lv_dup hx hb dX4_put_60 rfl ?_
  refine va_get (D := (dC, dI)) (ci := 4) (v := .int (xw_i mln)) (C := RX4) (T := TX4) (N := 21) hx hb hts hwsX40 hown hK hP 0 rfl rfl 5 (by decide) (hts (.fieldLink RX4 58 "BoxProverModel" "lines" "I") (by decide +kernel)) (fun _ h9 => h9) rfl dX4_put_61 ?_
  refine lv_iconst (v := xw_i 1) hx hb dX4_put_64 (by decide) ?_
  refine xw_iadd hx hb dX4_put_65 ?_
  refine xw_topi (fun lf elf => ?_)
  have h := h lf elf
  refine va_put (D := (dC, dI)) (ci := 4) (v := .int (xw_i lf)) (ty := .int) (C := RX4) (T := TX4) (N := 21) hx hb hts hwsX40 tyX4 tyX4_ok nmX4 hown hK hP hD hS 0 rfl rfl 5 (by decide) (hts (.fieldLink RX4 58 "BoxProverModel" "lines" "I") (by decide +kernel)) (fun _ h9 => h9) rfl (by decide +kernel) rfl rfl (Nat.le_of_ble_eq_true rfl) dX4_put_66 (fun H locs hP hD hS => ?_)
  have hP : va_P (dC, dI) vwCl (wd_X4 qM aM0 aM1 aM2 aM3 aM4 aM5 aM6 aM7 aM8 aM9 aM10 aM11 aM12 kM0 kM1 kM2 kM3 kM4 kM5 kM6 kM7 kM8 kM9 kM10 kM11 kM12 mrw mly lf msp mwh mcl mtr mfo mki mro mlf mli_5 msw msa msc msl mff mlt mgr mxx msu) H := hP
  have hD : va_D A (wd_X4 qM aM0 aM1 aM2 aM3 aM4 aM5 aM6 aM7 aM8 aM9 aM10 aM11 aM12 kM0 kM1 kM2 kM3 kM4 kM5 kM6 kM7 kM8 kM9 kM10 kM11 kM12 mrw mly lf msp mwh mcl mtr mfo mki mro mlf mli_5 msw msa msc msl mff mlt mgr mxx msu) := hD
  refine lv_aload_n hx hb dX4_put_69 rfl (lv_at hl 1 rfl) ?_
  refine va_get (D := (dC, dI)) (ci := 4) (v := .int (xw_i lf)) (C := RX4) (T := TX4) (N := 21) hx hb hts hwsX40 hown hK hP 0 rfl rfl 5 (by decide) (hts (.fieldLink RX4 58 "BoxProverModel" "lines" "I") (by decide +kernel)) (fun _ h9 => h9) rfl dX4_put_70 ?_
  refine lv_iconst (v := xw_i 1) hx hb dX4_put_73 (by decide) ?_
  refine xw_isub hx hb dX4_put_74 ?_
  exact hret _ _ _ _ (lf - 1) (lf, mli_5) dX4_put_75 h hP hD hK hS
set_option maxHeartbeats 4000000 in
set_option maxRecDepth 100000 in
theorem c_X4_putWord (l : Launch) (dC : Nat → ClassId) (dI : Nat → Nat → Nat) (qM aM0 aM1 aM2 aM3 aM4 aM5 aM6 aM7 aM8 aM9 aM10 aM11 aM12 : Nat) (kM0 kM1 kM2 kM3 kM4 kM5 kM6 kM7 kM8 kM9 kM10 kM11 kM12 : ClassId) (sz : Nat) (mrw : Int) (mly : Int) (mln : Int) (msp : Int) (mwh : Int) (mcl : Int) (mtr : Int) (mfo : Int) (mki : Nat → Int) (mro : Nat → Int) (mlf : Nat → Int) (mli : Nat → Int) (msw : Nat → Int) (msa : Nat → Int) (msc : Nat → Int) (msl : Nat → Int) (mff : Nat → Int) (mlt : Nat → Int) (mgr : Nat → Int) (mxx : Nat → Int) (msu : Nat → Int) (p1 : Int) (p2 : Int) (p3 : Int) (post : Int → Int → (Nat → Int) → Prop) (h : wp_X4_putWord post mrw mly mln msp mwh mcl mtr mfo mki mro mlf mli msw msa msc msl mff mlt mgr mxx msu p1 p2 p3) : Met l yX4_putWord wsX4_putWord ({ frames := 1, cells := 0, slots := 0, locals := 31 }) (va_Pc [.ref qM, .int (xw_i p1), .long (xw_j p2), .long (xw_j p3)] (xw_Pre (dC, dI) vwCl (wd_X4 qM aM0 aM1 aM2 aM3 aM4 aM5 aM6 aM7 aM8 aM9 aM10 aM11 aM12 kM0 kM1 kM2 kM3 kM4 kM5 kM6 kM7 kM8 kM9 kM10 kM11 kM12 mrw mly mln msp mwh mcl mtr mfo mki mro mlf mli msw msa msc msl mff mlt mgr mxx msu) [(kM0, .int), (kM1, .int), (kM2, .int), (kM3, .long), (kM4, .int), (kM5, .int), (kM6, .int), (kM7, .int), (kM8, .int), (kM9, .int), (kM10, .int), (kM11, .int), (kM12, .int)] sz)) (va_Qi (xw_pi (fun v (u : Int × (Nat → Int)) => post v u.1 u.2)) (xw_B (dC, dI) vwCl (fun (_ : Int × (Nat → Int)) => [(kM0, .int), (kM1, .int), (kM2, .int), (kM3, .long), (kM4, .int), (kM5, .int), (kM6, .int), (kM7, .int), (kM8, .int), (kM9, .int), (kM10, .int), (kM11, .int), (kM12, .int)]) (va_A (wd_X4 qM aM0 aM1 aM2 aM3 aM4 aM5 aM6 aM7 aM8 aM9 aM10 aM11 aM12 kM0 kM1 kM2 kM3 kM4 kM5 kM6 kM7 kM8 kM9 kM10 kM11 kM12 mrw mly mln msp mwh mcl mtr mfo mki mro mlf mli msw msa msc msl mff mlt mgr mxx msu) sz) (fun (u : Int × (Nat → Int)) => (wd_X4 qM aM0 aM1 aM2 aM3 aM4 aM5 aM6 aM7 aM8 aM9 aM10 aM11 aM12 kM0 kM1 kM2 kM3 kM4 kM5 kM6 kM7 kM8 kM9 kM10 kM11 kM12 mrw mly u.1 msp mwh mcl mtr mfo mki mro mlf u.2 msw msa msc msl mff mlt mgr mxx msu))) (va_A (wd_X4 qM aM0 aM1 aM2 aM3 aM4 aM5 aM6 aM7 aM8 aM9 aM10 aM11 aM12 kM0 kM1 kM2 kM3 kM4 kM5 kM6 kM7 kM8 kM9 kM10 kM11 kM12 mrw mly mln msp mwh mcl mtr mfo mki mro mlf mli msw msa msc msl mff mlt mgr mxx msu) sz)) 0 0 (va_A (wd_X4 qM aM0 aM1 aM2 aM3 aM4 aM5 aM6 aM7 aM8 aM9 aM10 aM11 aM12 kM0 kM1 kM2 kM3 kM4 kM5 kM6 kM7 kM8 kM9 kM10 kM11 kM12 mrw mly mln msp mwh mcl mtr mfo mki mro mlf mli msw msa msc msl mff mlt mgr mxx msu) sz) := by
  refine xw_ofI (cc := cX4_putWord) (maxL := 6) (by decide +kernel) rfl (Nat.le_of_ble_eq_true rfl) ?_
  intro p e s m args below meth c hx hb hml hown hts A hA hP hD hK Q hret ls hl hS
  have hl : lv_has ls 6 [(0, .ref qM), (1, .int (xw_i p1)), (2, .long (xw_j p2)), (4, .long (xw_j p3))] := hl
  have hwsX40 : ∀ w ∈ wsX40, w ∈ wsX4_putWord := fun _ h => List.mem_cons_of_mem _ (List.mem_append_right _ h)
  unfold wp_X4_putWord at h
  refine lv_aload_n hx hb dX4_putWord_0 rfl (lv_at hl 0 rfl) ?_
  refine lv_iload_n hx hb dX4_putWord_1 rfl (lv_at hl 1 rfl) ?_
  have k_10 : ∀ (mln_1 : Int) (mli_1 : Nat → Int) (z0 : Int) (H : Heap) (locs : List Loc) (ls : Array Slot), wp_X4_putWord_10 p1 p2 p3 mrw mly msp mwh mcl mtr mfo mki mro mlf msw msa msc msl mff mlt mgr mxx msu post mln_1 mli_1 z0 → va_P (dC, dI) vwCl (wd_X4 qM aM0 aM1 aM2 aM3 aM4 aM5 aM6 aM7 aM8 aM9 aM10 aM11 aM12 kM0 kM1 kM2 kM3 kM4 kM5 kM6 kM7 kM8 kM9 kM10 kM11 kM12 mrw mly mln_1 msp mwh mcl mtr mfo mki mro mlf mli_1 msw msa msc msl mff mlt mgr mxx msu) H → va_D A (wd_X4 qM aM0 aM1 aM2 aM3 aM4 aM5 aM6 aM7 aM8 aM9 aM10 aM11 aM12 kM0 kM1 kM2 kM3 kM4 kM5 kM6 kM7 kM8 kM9 kM10 kM11 kM12 mrw mly mln_1 msp mwh mcl mtr mfo mki mro mlf mli_1 msw msa msc msl mff mlt mgr mxx msu) → va_S A s.heap H locs → lv_has ls 6 [(1, .int (xw_i p1)), (2, .long (xw_j p2)), (4, .long (xw_j p3))] → W p l e ({ frames := 1, cells := 0, slots := 0, locals := 31 } : Room) s m args below meth c H locs 0 0 Q (F0 m 10 ls [.long (xw_j z0), .ref qM]) := by
    intro mln_1 mli_1 z0 H locs ls h hP hD hS hl
    unfold wp_X4_putWord_10 at h
    refine lv_iload_n hx hb dX4_putWord_10 rfl (lv_at hl 0 rfl) ?_
    refine lv_iconst (v := xw_i 1) hx hb dX4_putWord_11 (by decide) ?_
    have k_20 : ∀ (mln_2 : Int) (mli_2 : Nat → Int) (z0_1 : Int) (z1 : Int) (H : Heap) (locs : List Loc) (ls : Array Slot), wp_X4_putWord_20 p1 p2 p3 mrw mly msp mwh mcl mtr mfo mki mro mlf msw msa msc msl mff mlt mgr mxx msu post mln_2 mli_2 z0_1 z1 → va_P (dC, dI) vwCl (wd_X4 qM aM0 aM1 aM2 aM3 aM4 aM5 aM6 aM7 aM8 aM9 aM10 aM11 aM12 kM0 kM1 kM2 kM3 kM4 kM5 kM6 kM7 kM8 kM9 kM10 kM11 kM12 mrw mly mln_2 msp mwh mcl mtr mfo mki mro mlf mli_2 msw msa msc msl mff mlt mgr mxx msu) H → va_D A (wd_X4 qM aM0 aM1 aM2 aM3 aM4 aM5 aM6 aM7 aM8 aM9 aM10 aM11 aM12 kM0 kM1 kM2 kM3 kM4 kM5 kM6 kM7 kM8 kM9 kM10 kM11 kM12 mrw mly mln_2 msp mwh mcl mtr mfo mki mro mlf mli_2 msw msa msc msl mff mlt mgr mxx msu) → va_S A s.heap H locs → lv_has ls 6 [(1, .int (xw_i p1)), (2, .long (xw_j p2)), (4, .long (xw_j p3))] → W p l e ({ frames := 1, cells := 0, slots := 0, locals := 31 } : Room) s m args below meth c H locs 0 0 Q (F0 m 20 ls [.long (xw_j z0_1), .long (xw_j z1), .ref qM]) := by
      intro mln_2 mli_2 z0_1 z1 H locs ls h hP hD hS hl
      unfold wp_X4_putWord_20 at h
      refine lv_iload_n hx hb dX4_putWord_20 rfl (lv_at hl 0 rfl) ?_
      refine lv_iconst (v := xw_i 2) hx hb dX4_putWord_21 (by decide) ?_
      obtain ⟨hr1, h⟩ := h
      refine xw_icmp_ne (tgt := 29) hx hb ⟨hr1, ⟨by decide, by decide⟩⟩ dX4_putWord_22 (by decide) (fun hcd => ?_) (fun hcd => ?_)
      · have h := h.2 hcd
        refine lv_lconst (v := xw_j 0) hx hb dX4_putWord_29 (by decide) ?_
        refine lv_iload_n hx hb dX4_putWord_30 rfl (lv_at hl 0 rfl) ?_
        refine lv_iconst (v := xw_i 3) hx hb dX4_putWord_31 (by decide) ?_
        refine xw_icmp_ne (tgt := 39) hx hb ⟨hr1, ⟨by decide, by decide⟩⟩ dX4_putWord_32 (by decide) (fun hcd => ?_) (fun hcd => ?_)
        · have h := h.2 hcd
          refine lv_lconst (v := xw_j 0) hx hb dX4_putWord_39 (by decide) ?_
          refine lv_lload hx hb dX4_putWord_40 (lv_at hl 2 rfl) ?_
          refine xw_backi (wc := (wd_X4 qM aM0 aM1 aM2 aM3 aM4 aM5 aM6 aM7 aM8 aM9 aM10 aM11 aM12 kM0 kM1 kM2 kM3 kM4 kM5 kM6 kM7 kM8 kM9 kM10 kM11 kM12 mrw mly mln_2 msp mwh mcl mtr mfo mki mro mlf mli_2 msw msa msc msl mff mlt mgr mxx msu)) (wr := []) (va_runV (As := [.long (xw_j z1), .long (xw_j z0_1), .long (xw_j 0), .long (xw_j 0), .long (xw_j p3)]) (rest := []) ⟨hx, hb, hml, hown, hts⟩ (c_X4_put l dC dI qM aM0 aM1 aM2 aM3 aM4 aM5 aM6 aM7 aM8 aM9 aM10 aM11 aM12 kM0 kM1 kM2 kM3 kM4 kM5 kM6 kM7 kM8 kM9 kM10 kM11 kM12 H.size mrw mly mln_2 msp mwh mcl mtr mfo mki mro mlf mli_2 msw msa msc msl mff mlt mgr mxx msu z1 z0_1 0 0 p3 _ h) (cwV 5 hts gX4_putWord_X4_put rfl rfl rfl (by decide +kernel) ⟨Nat.le_of_ble_eq_true rfl, Nat.le_of_ble_eq_true rfl⟩) (xw_preV (ci := 4) hK hP hD [0, 1, 2, 3, 4, 5, 6, 7, 8, 9, 10, 11, 12, 13] rfl rfl (by decide) [0, 1, 2, 3, 4, 5, 6, 7, 8, 9, 10, 11, 12] rfl rfl rfl) rfl rfl hl.1 rfl (lv_room (Nat.le_of_ble_eq_true rfl)) dX4_putWord_42 ⟨Nat.le_of_ble_eq_true rfl, Nat.le_of_ble_eq_true rfl⟩) hK hP hD hS hA [0, 1, 2, 3, 4, 5, 6, 7, 8, 9, 10, 11, 12, 13] [] rfl rfl (by decide) (by decide) (fun r u H locs h hP hD hK2 hS => ?_)
          obtain ⟨mln_3, mli_3⟩ := u
          try dsimp only at h
          have hP : va_P (dC, dI) vwCl (wd_X4 qM aM0 aM1 aM2 aM3 aM4 aM5 aM6 aM7 aM8 aM9 aM10 aM11 aM12 kM0 kM1 kM2 kM3 kM4 kM5 kM6 kM7 kM8 kM9 kM10 kM11 kM12 mrw mly mln_3 msp mwh mcl mtr mfo mki mro mlf mli_3 msw msa msc msl mff mlt mgr mxx msu) H := hP
          have hD : va_D A (wd_X4 qM aM0 aM1 aM2 aM3 aM4 aM5 aM6 aM7 aM8 aM9 aM10 aM11 aM12 kM0 kM1 kM2 kM3 kM4 kM5 kM6 kM7 kM8 kM9 kM10 kM11 kM12 mrw mly mln_3 msp mwh mcl mtr mfo mki mro mlf mli_3 msw msa msc msl mff mlt mgr mxx msu) := hD
          exact hret _ _ _ _ r (mln_3, mli_3) dX4_putWord_45 h hP hD hK hS
        · have h := h.1 hcd
          refine lv_lload_n hx hb dX4_putWord_35 rfl (lv_at hl 1 rfl) ?_
          refine lv_goto (tgt := 40) hx hb dX4_putWord_36 (by decide) ?_
          refine lv_lload hx hb dX4_putWord_40 (lv_at hl 2 rfl) ?_
          refine xw_backi (wc := (wd_X4 qM aM0 aM1 aM2 aM3 aM4 aM5 aM6 aM7 aM8 aM9 aM10 aM11 aM12 kM0 kM1 kM2 kM3 kM4 kM5 kM6 kM7 kM8 kM9 kM10 kM11 kM12 mrw mly mln_2 msp mwh mcl mtr mfo mki mro mlf mli_2 msw msa msc msl mff mlt mgr mxx msu)) (wr := []) (va_runV (As := [.long (xw_j z1), .long (xw_j z0_1), .long (xw_j 0), .long (xw_j p2), .long (xw_j p3)]) (rest := []) ⟨hx, hb, hml, hown, hts⟩ (c_X4_put l dC dI qM aM0 aM1 aM2 aM3 aM4 aM5 aM6 aM7 aM8 aM9 aM10 aM11 aM12 kM0 kM1 kM2 kM3 kM4 kM5 kM6 kM7 kM8 kM9 kM10 kM11 kM12 H.size mrw mly mln_2 msp mwh mcl mtr mfo mki mro mlf mli_2 msw msa msc msl mff mlt mgr mxx msu z1 z0_1 0 p2 p3 _ h) (cwV 5 hts gX4_putWord_X4_put rfl rfl rfl (by decide +kernel) ⟨Nat.le_of_ble_eq_true rfl, Nat.le_of_ble_eq_true rfl⟩) (xw_preV (ci := 4) hK hP hD [0, 1, 2, 3, 4, 5, 6, 7, 8, 9, 10, 11, 12, 13] rfl rfl (by decide) [0, 1, 2, 3, 4, 5, 6, 7, 8, 9, 10, 11, 12] rfl rfl rfl) rfl rfl hl.1 rfl (lv_room (Nat.le_of_ble_eq_true rfl)) dX4_putWord_42 ⟨Nat.le_of_ble_eq_true rfl, Nat.le_of_ble_eq_true rfl⟩) hK hP hD hS hA [0, 1, 2, 3, 4, 5, 6, 7, 8, 9, 10, 11, 12, 13] [] rfl rfl (by decide) (by decide) (fun r_1 u H locs h hP hD hK2 hS => ?_)
          obtain ⟨mln_4, mli_4⟩ := u
          try dsimp only at h
          have hP : va_P (dC, dI) vwCl (wd_X4 qM aM0 aM1 aM2 aM3 aM4 aM5 aM6 aM7 aM8 aM9 aM10 aM11 aM12 kM0 kM1 kM2 kM3 kM4 kM5 kM6 kM7 kM8 kM9 kM10 kM11 kM12 mrw mly mln_4 msp mwh mcl mtr mfo mki mro mlf mli_4 msw msa msc msl mff mlt mgr mxx msu) H := hP
          have hD : va_D A (wd_X4 qM aM0 aM1 aM2 aM3 aM4 aM5 aM6 aM7 aM8 aM9 aM10 aM11 aM12 kM0 kM1 kM2 kM3 kM4 kM5 kM6 kM7 kM8 kM9 kM10 kM11 kM12 mrw mly mln_4 msp mwh mcl mtr mfo mki mro mlf mli_4 msw msa msc msl mff mlt mgr mxx msu) := hD
          exact hret _ _ _ _ r_1 (mln_4, mli_4) dX4_putWord_45 h hP hD hK hS
      · have h := h.1 hcd
        refine lv_lload_n hx hb dX4_putWord_25 rfl (lv_at hl 1 rfl) ?_
        refine lv_goto (tgt := 30) hx hb dX4_putWord_26 (by decide) ?_
        refine lv_iload_n hx hb dX4_putWord_30 rfl (lv_at hl 0 rfl) ?_
        refine lv_iconst (v := xw_i 3) hx hb dX4_putWord_31 (by decide) ?_
        refine xw_icmp_ne (tgt := 39) hx hb ⟨hr1, ⟨by decide, by decide⟩⟩ dX4_putWord_32 (by decide) (fun hcd => ?_) (fun hcd => ?_)
        · have h := h.2 hcd
          refine lv_lconst (v := xw_j 0) hx hb dX4_putWord_39 (by decide) ?_
          refine lv_lload hx hb dX4_putWord_40 (lv_at hl 2 rfl) ?_
          refine xw_backi (wc := (wd_X4 qM aM0 aM1 aM2 aM3 aM4 aM5 aM6 aM7 aM8 aM9 aM10 aM11 aM12 kM0 kM1 kM2 kM3 kM4 kM5 kM6 kM7 kM8 kM9 kM10 kM11 kM12 mrw mly mln_2 msp mwh mcl mtr mfo mki mro mlf mli_2 msw msa msc msl mff mlt mgr mxx msu)) (wr := []) (va_runV (As := [.long (xw_j z1), .long (xw_j z0_1), .long (xw_j p2), .long (xw_j 0), .long (xw_j p3)]) (rest := []) ⟨hx, hb, hml, hown, hts⟩ (c_X4_put l dC dI qM aM0 aM1 aM2 aM3 aM4 aM5 aM6 aM7 aM8 aM9 aM10 aM11 aM12 kM0 kM1 kM2 kM3 kM4 kM5 kM6 kM7 kM8 kM9 kM10 kM11 kM12 H.size mrw mly mln_2 msp mwh mcl mtr mfo mki mro mlf mli_2 msw msa msc msl mff mlt mgr mxx msu z1 z0_1 p2 0 p3 _ h) (cwV 5 hts gX4_putWord_X4_put rfl rfl rfl (by decide +kernel) ⟨Nat.le_of_ble_eq_true rfl, Nat.le_of_ble_eq_true rfl⟩) (xw_preV (ci := 4) hK hP hD [0, 1, 2, 3, 4, 5, 6, 7, 8, 9, 10, 11, 12, 13] rfl rfl (by decide) [0, 1, 2, 3, 4, 5, 6, 7, 8, 9, 10, 11, 12] rfl rfl rfl) rfl rfl hl.1 rfl (lv_room (Nat.le_of_ble_eq_true rfl)) dX4_putWord_42 ⟨Nat.le_of_ble_eq_true rfl, Nat.le_of_ble_eq_true rfl⟩) hK hP hD hS hA [0, 1, 2, 3, 4, 5, 6, 7, 8, 9, 10, 11, 12, 13] [] rfl rfl (by decide) (by decide) (fun r_2 u H locs h hP hD hK2 hS => ?_)
          obtain ⟨mln_5, mli_5⟩ := u
          try dsimp only at h
          have hP : va_P (dC, dI) vwCl (wd_X4 qM aM0 aM1 aM2 aM3 aM4 aM5 aM6 aM7 aM8 aM9 aM10 aM11 aM12 kM0 kM1 kM2 kM3 kM4 kM5 kM6 kM7 kM8 kM9 kM10 kM11 kM12 mrw mly mln_5 msp mwh mcl mtr mfo mki mro mlf mli_5 msw msa msc msl mff mlt mgr mxx msu) H := hP
          have hD : va_D A (wd_X4 qM aM0 aM1 aM2 aM3 aM4 aM5 aM6 aM7 aM8 aM9 aM10 aM11 aM12 kM0 kM1 kM2 kM3 kM4 kM5 kM6 kM7 kM8 kM9 kM10 kM11 kM12 mrw mly mln_5 msp mwh mcl mtr mfo mki mro mlf mli_5 msw msa msc msl mff mlt mgr mxx msu) := hD
          exact hret _ _ _ _ r_2 (mln_5, mli_5) dX4_putWord_45 h hP hD hK hS
        · have h := h.1 hcd
          refine lv_lload_n hx hb dX4_putWord_35 rfl (lv_at hl 1 rfl) ?_
          refine lv_goto (tgt := 40) hx hb dX4_putWord_36 (by decide) ?_
          refine lv_lload hx hb dX4_putWord_40 (lv_at hl 2 rfl) ?_
          refine xw_backi (wc := (wd_X4 qM aM0 aM1 aM2 aM3 aM4 aM5 aM6 aM7 aM8 aM9 aM10 aM11 aM12 kM0 kM1 kM2 kM3 kM4 kM5 kM6 kM7 kM8 kM9 kM10 kM11 kM12 mrw mly mln_2 msp mwh mcl mtr mfo mki mro mlf mli_2 msw msa msc msl mff mlt mgr mxx msu)) (wr := []) (va_runV (As := [.long (xw_j z1), .long (xw_j z0_1), .long (xw_j p2), .long (xw_j p2), .long (xw_j p3)]) (rest := []) ⟨hx, hb, hml, hown, hts⟩ (c_X4_put l dC dI qM aM0 aM1 aM2 aM3 aM4 aM5 aM6 aM7 aM8 aM9 aM10 aM11 aM12 kM0 kM1 kM2 kM3 kM4 kM5 kM6 kM7 kM8 kM9 kM10 kM11 kM12 H.size mrw mly mln_2 msp mwh mcl mtr mfo mki mro mlf mli_2 msw msa msc msl mff mlt mgr mxx msu z1 z0_1 p2 p2 p3 _ h) (cwV 5 hts gX4_putWord_X4_put rfl rfl rfl (by decide +kernel) ⟨Nat.le_of_ble_eq_true rfl, Nat.le_of_ble_eq_true rfl⟩) (xw_preV (ci := 4) hK hP hD [0, 1, 2, 3, 4, 5, 6, 7, 8, 9, 10, 11, 12, 13] rfl rfl (by decide) [0, 1, 2, 3, 4, 5, 6, 7, 8, 9, 10, 11, 12] rfl rfl rfl) rfl rfl hl.1 rfl (lv_room (Nat.le_of_ble_eq_true rfl)) dX4_putWord_42 ⟨Nat.le_of_ble_eq_true rfl, Nat.le_of_ble_eq_true rfl⟩) hK hP hD hS hA [0, 1, 2, 3, 4, 5, 6, 7, 8, 9, 10, 11, 12, 13] [] rfl rfl (by decide) (by decide) (fun r_3 u H locs h hP hD hK2 hS => ?_)
          obtain ⟨mln_6, mli_6⟩ := u
          try dsimp only at h
          have hP : va_P (dC, dI) vwCl (wd_X4 qM aM0 aM1 aM2 aM3 aM4 aM5 aM6 aM7 aM8 aM9 aM10 aM11 aM12 kM0 kM1 kM2 kM3 kM4 kM5 kM6 kM7 kM8 kM9 kM10 kM11 kM12 mrw mly mln_6 msp mwh mcl mtr mfo mki mro mlf mli_6 msw msa msc msl mff mlt mgr mxx msu) H := hP
          have hD : va_D A (wd_X4 qM aM0 aM1 aM2 aM3 aM4 aM5 aM6 aM7 aM8 aM9 aM10 aM11 aM12 kM0 kM1 kM2 kM3 kM4 kM5 kM6 kM7 kM8 kM9 kM10 kM11 kM12 mrw mly mln_6 msp mwh mcl mtr mfo mki mro mlf mli_6 msw msa msc msl mff mlt mgr mxx msu) := hD
          exact hret _ _ _ _ r_3 (mln_6, mli_6) dX4_putWord_45 h hP hD hK hS
    obtain ⟨hr2, h⟩ := h
    refine xw_icmp_ne (tgt := 19) hx hb ⟨hr2, ⟨by decide, by decide⟩⟩ dX4_putWord_12 (by decide) (fun hcd => ?_) (fun hcd => ?_)
    · have h := h.2 hcd
      refine lv_lconst (v := xw_j 0) hx hb dX4_putWord_19 (by decide) ?_
      exact k_20 mln_1 mli_1 0 z0 _ _ _ h hP hD hS (lv_sub hl [0, 1, 2] rfl)
    · have h := h.1 hcd
      refine lv_lload_n hx hb dX4_putWord_15 rfl (lv_at hl 1 rfl) ?_
      refine lv_goto (tgt := 20) hx hb dX4_putWord_16 (by decide) ?_
      exact k_20 mln_1 mli_1 p2 z0 _ _ _ h hP hD hS (lv_sub hl [0, 1, 2] rfl)
  obtain ⟨hr3, h⟩ := h
  refine xw_if_ne (tgt := 9) hx hb hr3 dX4_putWord_2 (by decide) (fun hcd => ?_) (fun hcd => ?_)
  · have h := h.2 hcd
    refine lv_lconst (v := xw_j 0) hx hb dX4_putWord_9 (by decide) ?_
    exact k_10 mln mli 0 _ _ _ h hP hD hS (lv_sub hl [1, 2, 3] rfl)
  · have h := h.1 hcd
    refine lv_lload_n hx hb dX4_putWord_5 rfl (lv_at hl 2 rfl) ?_
    refine lv_goto (tgt := 10) hx hb dX4_putWord_6 (by decide) ?_
    exact k_10 mln mli p2 _ _ _ h hP hD hS (lv_sub hl [1, 2, 3] rfl)
set_option maxHeartbeats 4000000 in
set_option maxRecDepth 100000 in
theorem c_X4_assume (l : Launch) (dC : Nat → ClassId) (dI : Nat → Nat → Nat) (qM aM0 aM1 aM2 aM3 aM4 aM5 aM6 aM7 aM8 aM9 aM10 aM11 aM12 : Nat) (kM0 kM1 kM2 kM3 kM4 kM5 kM6 kM7 kM8 kM9 kM10 kM11 kM12 : ClassId) (sz : Nat) (mrw : Int) (mly : Int) (mln : Int) (msp : Int) (mwh : Int) (mcl : Int) (mtr : Int) (mfo : Int) (mki : Nat → Int) (mro : Nat → Int) (mlf : Nat → Int) (mli : Nat → Int) (msw : Nat → Int) (msa : Nat → Int) (msc : Nat → Int) (msl : Nat → Int) (mff : Nat → Int) (mlt : Nat → Int) (mgr : Nat → Int) (mxx : Nat → Int) (msu : Nat → Int) (p1 : Int) (p2 : Int) (post : Int → Int → (Nat → Int) → Prop) (h : wp_X4_assume post mrw mly mln msp mwh mcl mtr mfo mki mro mlf mli msw msa msc msl mff mlt mgr mxx msu p1 p2) : Met l yX4_assume wsX4_assume ({ frames := 1, cells := 0, slots := 0, locals := 31 }) (va_Pc [.ref qM, .int (xw_i p1), .int (xw_i p2)] (xw_Pre (dC, dI) vwCl (wd_X4 qM aM0 aM1 aM2 aM3 aM4 aM5 aM6 aM7 aM8 aM9 aM10 aM11 aM12 kM0 kM1 kM2 kM3 kM4 kM5 kM6 kM7 kM8 kM9 kM10 kM11 kM12 mrw mly mln msp mwh mcl mtr mfo mki mro mlf mli msw msa msc msl mff mlt mgr mxx msu) [(kM0, .int), (kM1, .int), (kM2, .int), (kM3, .long), (kM4, .int), (kM5, .int), (kM6, .int), (kM7, .int), (kM8, .int), (kM9, .int), (kM10, .int), (kM11, .int), (kM12, .int)] sz)) (va_Qi (xw_pi (fun v (u : Int × (Nat → Int)) => post v u.1 u.2)) (xw_B (dC, dI) vwCl (fun (_ : Int × (Nat → Int)) => [(kM0, .int), (kM1, .int), (kM2, .int), (kM3, .long), (kM4, .int), (kM5, .int), (kM6, .int), (kM7, .int), (kM8, .int), (kM9, .int), (kM10, .int), (kM11, .int), (kM12, .int)]) (va_A (wd_X4 qM aM0 aM1 aM2 aM3 aM4 aM5 aM6 aM7 aM8 aM9 aM10 aM11 aM12 kM0 kM1 kM2 kM3 kM4 kM5 kM6 kM7 kM8 kM9 kM10 kM11 kM12 mrw mly mln msp mwh mcl mtr mfo mki mro mlf mli msw msa msc msl mff mlt mgr mxx msu) sz) (fun (u : Int × (Nat → Int)) => (wd_X4 qM aM0 aM1 aM2 aM3 aM4 aM5 aM6 aM7 aM8 aM9 aM10 aM11 aM12 kM0 kM1 kM2 kM3 kM4 kM5 kM6 kM7 kM8 kM9 kM10 kM11 kM12 mrw mly u.1 msp mwh mcl mtr mfo mki mro mlf u.2 msw msa msc msl mff mlt mgr mxx msu))) (va_A (wd_X4 qM aM0 aM1 aM2 aM3 aM4 aM5 aM6 aM7 aM8 aM9 aM10 aM11 aM12 kM0 kM1 kM2 kM3 kM4 kM5 kM6 kM7 kM8 kM9 kM10 kM11 kM12 mrw mly mln msp mwh mcl mtr mfo mki mro mlf mli msw msa msc msl mff mlt mgr mxx msu) sz)) 0 0 (va_A (wd_X4 qM aM0 aM1 aM2 aM3 aM4 aM5 aM6 aM7 aM8 aM9 aM10 aM11 aM12 kM0 kM1 kM2 kM3 kM4 kM5 kM6 kM7 kM8 kM9 kM10 kM11 kM12 mrw mly mln msp mwh mcl mtr mfo mki mro mlf mli msw msa msc msl mff mlt mgr mxx msu) sz) := by
  refine xw_ofI (cc := cX4_assume) (maxL := 6) (by decide +kernel) rfl (Nat.le_of_ble_eq_true rfl) ?_
  intro p e s m args below meth c hx hb hml hown hts A hA hP hD hK Q hret ls hl hS
  have hl : lv_has ls 6 [(0, .ref qM), (1, .int (xw_i p1)), (2, .int (xw_i p2))] := hl
  have hwsX40 : ∀ w ∈ wsX40, w ∈ wsX4_assume := fun _ h => List.mem_cons_of_mem _ (List.mem_append_right _ h)
  unfold wp_X4_assume at h
  refine lv_iload_n hx hb dX4_assume_0 rfl (lv_at hl 1 rfl) ?_
  obtain ⟨hr1, h⟩ := h
  refine xw_if_lt (tgt := 33) hx hb hr1 dX4_assume_1 (by decide) (fun hcd => ?_) (fun hcd => ?_)
  · have h := h.1 hcd
    refine lv_iconst (v := xw_i (-1)) hx hb dX4_assume_33 (by decide) ?_
    exact hret _ _ _ _ (-1) (mln, mli) dX4_assume_34 h hP hD hK hS
  · have h := h.2 hcd
    refine lv_iload_n hx hb dX4_assume_4 rfl (lv_at hl 1 rfl) ?_
    refine lv_aload_n hx hb dX4_assume_5 rfl (lv_at hl 0 rfl) ?_
    refine va_get (D := (dC, dI)) (ci := 4) (v := .int (xw_i mrw)) (C := RX4) (T := TX4) (N := 21) hx hb hts hwsX40 hown hK hP 0 rfl rfl 0 (by decide) (hts (.fieldLink RX4 50 "BoxProverModel" "rows" "I") (by decide +kernel)) (fun _ h9 => h9) rfl dX4_assume_6 ?_
    obtain ⟨hr2, h⟩ := h
    refine xw_icmp_ge (tgt := 33) hx hb ⟨hr1, hr2⟩ dX4_assume_9 (by decide) (fun hcd => ?_) (fun hcd => ?_)
    · have h := h.1 hcd
      refine lv_iconst (v := xw_i (-1)) hx hb dX4_assume_33 (by decide) ?_
      exact hret _ _ _ _ (-1) (mln, mli) dX4_assume_34 h hP hD hK hS
    · have h := h.2 hcd
      refine lv_iload_n hx hb dX4_assume_12 rfl (lv_at hl 2 rfl) ?_
      have k_26 : ∀ (mln_1 : Int) (mli_1 : Nat → Int) (H : Heap) (locs : List Loc) (ls : Array Slot), wp_X4_assume_26 p1 p2 mrw mly msp mwh mcl mtr mfo mki mro mlf msw msa msc msl mff mlt mgr mxx msu post mln_1 mli_1 → va_P (dC, dI) vwCl (wd_X4 qM aM0 aM1 aM2 aM3 aM4 aM5 aM6 aM7 aM8 aM9 aM10 aM11 aM12 kM0 kM1 kM2 kM3 kM4 kM5 kM6 kM7 kM8 kM9 kM10 kM11 kM12 mrw mly mln_1 msp mwh mcl mtr mfo mki mro mlf mli_1 msw msa msc msl mff mlt mgr mxx msu) H → va_D A (wd_X4 qM aM0 aM1 aM2 aM3 aM4 aM5 aM6 aM7 aM8 aM9 aM10 aM11 aM12 kM0 kM1 kM2 kM3 kM4 kM5 kM6 kM7 kM8 kM9 kM10 kM11 kM12 mrw mly mln_1 msp mwh mcl mtr mfo mki mro mlf mli_1 msw msa msc msl mff mlt mgr mxx msu) → va_S A s.heap H locs → lv_has ls 6 [(0, .ref qM), (1, .int (xw_i p1)), (2, .int (xw_i p2))] → W p l e ({ frames := 1, cells := 0, slots := 0, locals := 31 } : Room) s m args below meth c H locs 0 0 Q (F0 m 26 ls []) := by
        intro mln_1 mli_1 H locs ls h hP hD hS hl
        unfold wp_X4_assume_26 at h
        refine lv_aload_n hx hb dX4_assume_26 rfl (lv_at hl 0 rfl) ?_
        refine xw_backi (wc := (wd_X4 qM aM0 aM1 aM2 aM3 aM4 aM5 aM6 aM7 aM8 aM9 aM10 aM11 aM12 kM0 kM1 kM2 kM3 kM4 kM5 kM6 kM7 kM8 kM9 kM10 kM11 kM12 mrw mly mln_1 msp mwh mcl mtr mfo mki mro mlf mli_1 msw msa msc msl mff mlt mgr mxx msu)) (wr := []) (va_runV (As := []) (rest := []) ⟨hx, hb, hml, hown, hts⟩ (c_X4_isFull l dC dI qM aM0 aM1 aM2 aM3 aM4 aM5 aM6 aM7 aM8 aM9 aM10 aM11 aM12 kM0 kM1 kM2 kM3 kM4 kM5 kM6 kM7 kM8 kM9 kM10 kM11 kM12 H.size mrw mly mln_1 msp mwh mcl mtr mfo mki mro mlf mli_1 msw msa msc msl mff mlt mgr mxx msu _ h) (cwV 0 hts gX4_assume_X4_isFull rfl rfl rfl (by decide +kernel) ⟨Nat.le_of_ble_eq_true rfl, Nat.le_of_ble_eq_true rfl⟩) (xw_preV (ci := 4) hK hP hD [0, 1, 2, 3, 4, 5, 6, 7, 8, 9, 10, 11, 12, 13] rfl rfl (by decide) [0, 1, 2, 3, 4, 5, 6, 7, 8, 9, 10, 11, 12] rfl rfl rfl) rfl rfl hl.1 rfl (lv_room (Nat.le_of_ble_eq_true rfl)) dX4_assume_27 ⟨Nat.le_of_ble_eq_true rfl, Nat.le_of_ble_eq_true rfl⟩) hK hP hD hS hA [0, 1, 2, 3, 4, 5, 6, 7, 8, 9, 10, 11, 12, 13] [] rfl rfl (by decide) (by decide) (fun r u H locs h hP hD hK2 hS => ?_)
        try dsimp only at h
        have hP : va_P (dC, dI) vwCl (wd_X4 qM aM0 aM1 aM2 aM3 aM4 aM5 aM6 aM7 aM8 aM9 aM10 aM11 aM12 kM0 kM1 kM2 kM3 kM4 kM5 kM6 kM7 kM8 kM9 kM10 kM11 kM12 mrw mly mln_1 msp mwh mcl mtr mfo mki mro mlf mli_1 msw msa msc msl mff mlt mgr mxx msu) H := hP
        have hD : va_D A (wd_X4 qM aM0 aM1 aM2 aM3 aM4 aM5 aM6 aM7 aM8 aM9 aM10 aM11 aM12 kM0 kM1 kM2 kM3 kM4 kM5 kM6 kM7 kM8 kM9 kM10 kM11 kM12 mrw mly mln_1 msp mwh mcl mtr mfo mki mro mlf mli_1 msw msa msc msl mff mlt mgr mxx msu) := hD
        obtain ⟨hr3, h⟩ := h
        refine xw_if_eq (tgt := 35) hx hb hr3 dX4_assume_30 (by decide) (fun hcd => ?_) (fun hcd => ?_)
        · have h := h.1 hcd
          refine lv_iconst (v := xw_i 5) hx hb dX4_assume_35 (by decide) ?_
          refine lv_iload_n hx hb dX4_assume_36 rfl (lv_at hl 1 rfl) ?_
          refine xw_imul hx hb dX4_assume_37 ?_
          refine xw_topi (fun x3 ex3 => ?_)
          have h := h x3 ex3
          refine lv_istore_n (lv' := [(3, .int (xw_i x3)), (0, .ref qM), (1, .int (xw_i p1)), (2, .int (xw_i p2))]) hx hb dX4_assume_38 rfl hl (by decide) rfl (fun ls hl => ?_)
          refine lv_iload_n hx hb dX4_assume_39 rfl (lv_at hl 3 rfl) ?_
          have k_50 : ∀ (mln_2 : Int) (mli_2 : Nat → Int) (z0 : Int) (H : Heap) (locs : List Loc) (ls : Array Slot), wp_X4_assume_50 mrw mly msp mwh mcl mtr mfo mki mro mlf msw msa msc msl mff mlt mgr mxx msu post x3 mln_2 mli_2 z0 → va_P (dC, dI) vwCl (wd_X4 qM aM0 aM1 aM2 aM3 aM4 aM5 aM6 aM7 aM8 aM9 aM10 aM11 aM12 kM0 kM1 kM2 kM3 kM4 kM5 kM6 kM7 kM8 kM9 kM10 kM11 kM12 mrw mly mln_2 msp mwh mcl mtr mfo mki mro mlf mli_2 msw msa msc msl mff mlt mgr mxx msu) H → va_D A (wd_X4 qM aM0 aM1 aM2 aM3 aM4 aM5 aM6 aM7 aM8 aM9 aM10 aM11 aM12 kM0 kM1 kM2 kM3 kM4 kM5 kM6 kM7 kM8 kM9 kM10 kM11 kM12 mrw mly mln_2 msp mwh mcl mtr mfo mki mro mlf mli_2 msw msa msc msl mff mlt mgr mxx msu) → va_S A s.heap H locs → lv_has ls 6 [(3, .int (xw_i x3)), (0, .ref qM)] → W p l e ({ frames := 1, cells := 0, slots := 0, locals := 31 } : Room) s m args below meth c H locs 0 0 Q (F0 m 50 ls [.long (xw_j z0)]) := by
            intro mln_2 mli_2 z0 H locs ls h hP hD hS hl
            unfold wp_X4_assume_50 at h
            refine lv_lstore (lv' := [(4, .long (xw_j z0)), (3, .int (xw_i x3)), (0, .ref qM)]) hx hb dX4_assume_50 hl (by decide) rfl (fun ls hl => ?_)
            refine lv_aload_n hx hb dX4_assume_52 rfl (lv_at hl 2 rfl) ?_
            refine lv_lload hx hb dX4_assume_53 (lv_at hl 0 rfl) ?_
            refine lv_aload_n hx hb dX4_assume_55 rfl (lv_at hl 2 rfl) ?_
            refine va_get (D := (dC, dI)) (ci := 4) (v := .ref aM1) (C := RX4) (T := TX4) (N := 21) hx hb hts hwsX40 hown hK hP 0 rfl rfl 2 (by decide) (hts (.fieldLink RX4 13 "BoxProverModel" "row" "[I") (by decide +kernel)) (fun _ h9 => h9) rfl dX4_assume_56 ?_
            refine lv_iload_n hx hb dX4_assume_59 rfl (lv_at hl 1 rfl) ?_
            obtain ⟨hin, h⟩ := h
            refine xw_iald (n := 80) hx hb hK hP 2 1 rfl rfl (by decide) hin dX4_assume_60 ?_
            obtain ⟨hr4, h⟩ := h
            refine xw_i2l hx hb hr4 dX4_assume_61 ?_
            refine xw_lmul hx hb dX4_assume_62 ?_
            refine lv_lload hx hb dX4_assume_63 (lv_at hl 0 rfl) ?_
            refine lv_aload_n hx hb dX4_assume_65 rfl (lv_at hl 2 rfl) ?_
            refine va_get (D := (dC, dI)) (ci := 4) (v := .ref aM1) (C := RX4) (T := TX4) (N := 21) hx hb hts hwsX40 hown hK hP 0 rfl rfl 2 (by decide) (hts (.fieldLink RX4 13 "BoxProverModel" "row" "[I") (by decide +kernel)) (fun _ h9 => h9) rfl dX4_assume_66 ?_
            refine lv_iload_n hx hb dX4_assume_69 rfl (lv_at hl 1 rfl) ?_
            refine lv_iconst (v := xw_i 1) hx hb dX4_assume_70 (by decide) ?_
            refine xw_iadd hx hb dX4_assume_71 ?_
            obtain ⟨hin, h⟩ := h
            refine xw_iald (n := 80) hx hb hK hP 2 1 rfl rfl (by decide) hin dX4_assume_72 ?_
            obtain ⟨hr5, h⟩ := h
            refine xw_i2l hx hb hr5 dX4_assume_73 ?_
            refine xw_lmul hx hb dX4_assume_74 ?_
            refine lv_lload hx hb dX4_assume_75 (lv_at hl 0 rfl) ?_
            refine lv_aload_n hx hb dX4_assume_77 rfl (lv_at hl 2 rfl) ?_
            refine va_get (D := (dC, dI)) (ci := 4) (v := .ref aM1) (C := RX4) (T := TX4) (N := 21) hx hb hts hwsX40 hown hK hP 0 rfl rfl 2 (by decide) (hts (.fieldLink RX4 13 "BoxProverModel" "row" "[I") (by decide +kernel)) (fun _ h9 => h9) rfl dX4_assume_78 ?_
            refine lv_iload_n hx hb dX4_assume_81 rfl (lv_at hl 1 rfl) ?_
            refine lv_iconst (v := xw_i 2) hx hb dX4_assume_82 (by decide) ?_
            refine xw_iadd hx hb dX4_assume_83 ?_
            obtain ⟨hin, h⟩ := h
            refine xw_iald (n := 80) hx hb hK hP 2 1 rfl rfl (by decide) hin dX4_assume_84 ?_
            obtain ⟨hr6, h⟩ := h
            refine xw_i2l hx hb hr6 dX4_assume_85 ?_
            refine xw_lmul hx hb dX4_assume_86 ?_
            refine lv_lload hx hb dX4_assume_87 (lv_at hl 0 rfl) ?_
            refine lv_aload_n hx hb dX4_assume_89 rfl (lv_at hl 2 rfl) ?_
            refine va_get (D := (dC, dI)) (ci := 4) (v := .ref aM1) (C := RX4) (T := TX4) (N := 21) hx hb hts hwsX40 hown hK hP 0 rfl rfl 2 (by decide) (hts (.fieldLink RX4 13 "BoxProverModel" "row" "[I") (by decide +kernel)) (fun _ h9 => h9) rfl dX4_assume_90 ?_
            refine lv_iload_n hx hb dX4_assume_93 rfl (lv_at hl 1 rfl) ?_
            refine lv_iconst (v := xw_i 3) hx hb dX4_assume_94 (by decide) ?_
            refine xw_iadd hx hb dX4_assume_95 ?_
            obtain ⟨hin, h⟩ := h
            refine xw_iald (n := 80) hx hb hK hP 2 1 rfl rfl (by decide) hin dX4_assume_96 ?_
            obtain ⟨hr7, h⟩ := h
            refine xw_i2l hx hb hr7 dX4_assume_97 ?_
            refine xw_lmul hx hb dX4_assume_98 ?_
            refine lv_lload hx hb dX4_assume_99 (lv_at hl 0 rfl) ?_
            refine lv_aload_n hx hb dX4_assume_101 rfl (lv_at hl 2 rfl) ?_
            refine va_get (D := (dC, dI)) (ci := 4) (v := .ref aM1) (C := RX4) (T := TX4) (N := 21) hx hb hts hwsX40 hown hK hP 0 rfl rfl 2 (by decide) (hts (.fieldLink RX4 13 "BoxProverModel" "row" "[I") (by decide +kernel)) (fun _ h9 => h9) rfl dX4_assume_102 ?_
            refine lv_iload_n hx hb dX4_assume_105 rfl (lv_at hl 1 rfl) ?_
            refine lv_iconst (v := xw_i 4) hx hb dX4_assume_106 (by decide) ?_
            refine xw_iadd hx hb dX4_assume_107 ?_
            obtain ⟨hin, h⟩ := h
            refine xw_iald (n := 80) hx hb hK hP 2 1 rfl rfl (by decide) hin dX4_assume_108 ?_
            obtain ⟨hr8, h⟩ := h
            refine xw_i2l hx hb hr8 dX4_assume_109 ?_
            refine xw_lmul hx hb dX4_assume_110 ?_
            refine xw_backi (wc := (wd_X4 qM aM0 aM1 aM2 aM3 aM4 aM5 aM6 aM7 aM8 aM9 aM10 aM11 aM12 kM0 kM1 kM2 kM3 kM4 kM5 kM6 kM7 kM8 kM9 kM10 kM11 kM12 mrw mly mln_2 msp mwh mcl mtr mfo mki mro mlf mli_2 msw msa msc msl mff mlt mgr mxx msu)) (wr := []) (va_runV (As := [.long (xw_j (z0 * (mro x3.toNat))), .long (xw_j (z0 * (mro (x3 + 1).toNat))), .long (xw_j (z0 * (mro (x3 + 2).toNat))), .long (xw_j (z0 * (mro (x3 + 3).toNat))), .long (xw_j (z0 * (mro (x3 + 4).toNat)))]) (rest := []) ⟨hx, hb, hml, hown, hts⟩ (c_X4_put l dC dI qM aM0 aM1 aM2 aM3 aM4 aM5 aM6 aM7 aM8 aM9 aM10 aM11 aM12 kM0 kM1 kM2 kM3 kM4 kM5 kM6 kM7 kM8 kM9 kM10 kM11 kM12 H.size mrw mly mln_2 msp mwh mcl mtr mfo mki mro mlf mli_2 msw msa msc msl mff mlt mgr mxx msu (z0 * (mro x3.toNat)) (z0 * (mro (x3 + 1).toNat)) (z0 * (mro (x3 + 2).toNat)) (z0 * (mro (x3 + 3).toNat)) (z0 * (mro (x3 + 4).toNat)) _ h) (cwV 5 hts gX4_assume_X4_put rfl rfl rfl (by decide +kernel) ⟨Nat.le_of_ble_eq_true rfl, Nat.le_of_ble_eq_true rfl⟩) (xw_preV (ci := 4) hK hP hD [0, 1, 2, 3, 4, 5, 6, 7, 8, 9, 10, 11, 12, 13] rfl rfl (by decide) [0, 1, 2, 3, 4, 5, 6, 7, 8, 9, 10, 11, 12] rfl rfl rfl) rfl rfl hl.1 rfl (lv_room (Nat.le_of_ble_eq_true rfl)) dX4_assume_111 ⟨Nat.le_of_ble_eq_true rfl, Nat.le_of_ble_eq_true rfl⟩) hK hP hD hS hA [0, 1, 2, 3, 4, 5, 6, 7, 8, 9, 10, 11, 12, 13] [] rfl rfl (by decide) (by decide) (fun r_1 u H locs h hP hD hK2 hS => ?_)
            obtain ⟨mln_3, mli_3⟩ := u
            try dsimp only at h
            have hP : va_P (dC, dI) vwCl (wd_X4 qM aM0 aM1 aM2 aM3 aM4 aM5 aM6 aM7 aM8 aM9 aM10 aM11 aM12 kM0 kM1 kM2 kM3 kM4 kM5 kM6 kM7 kM8 kM9 kM10 kM11 kM12 mrw mly mln_3 msp mwh mcl mtr mfo mki mro mlf mli_3 msw msa msc msl mff mlt mgr mxx msu) H := hP
            have hD : va_D A (wd_X4 qM aM0 aM1 aM2 aM3 aM4 aM5 aM6 aM7 aM8 aM9 aM10 aM11 aM12 kM0 kM1 kM2 kM3 kM4 kM5 kM6 kM7 kM8 kM9 kM10 kM11 kM12 mrw mly mln_3 msp mwh mcl mtr mfo mki mro mlf mli_3 msw msa msc msl mff mlt mgr mxx msu) := hD
            exact hret _ _ _ _ r_1 (mln_3, mli_3) dX4_assume_114 h hP hD hK hS
          obtain ⟨hr9, h⟩ := h
          refine xw_if_eq (tgt := 49) hx hb hr9 dX4_assume_40 (by decide) (fun hcd => ?_) (fun hcd => ?_)
          · have h := h.1 hcd
            refine lv_lconst (v := xw_j 1) hx hb dX4_assume_49 (by decide) ?_
            exact k_50 mln_1 mli_1 1 _ _ _ h hP hD hS (lv_sub hl [0, 1] rfl)
          · have h := h.2 hcd
            refine lv_ldc2 (v := xw_j (-1)) hx hb hown (hts (.constantLong RX4 109 (xw_j (-1))) (by decide +kernel)) dX4_assume_43 ?_
            refine lv_goto (tgt := 50) hx hb dX4_assume_46 (by decide) ?_
            exact k_50 mln_1 mli_1 (-1) _ _ _ h hP hD hS (lv_sub hl [0, 1] rfl)
        · have h := h.2 hcd
          refine lv_iconst (v := xw_i (-1)) hx hb dX4_assume_33 (by decide) ?_
          exact hret _ _ _ _ (-1) (mln_1, mli_1) dX4_assume_34 h hP hD hK hS
      obtain ⟨hr10, h⟩ := h
      refine xw_if_eq (tgt := 26) hx hb hr10 dX4_assume_13 (by decide) (fun hcd => ?_) (fun hcd => ?_)
      · have h := h.1 hcd
        exact k_26 mln mli _ _ _ h hP hD hS (lv_sub hl [0, 1, 2] rfl)
      · have h := h.2 hcd
        refine lv_aload_n hx hb dX4_assume_16 rfl (lv_at hl 0 rfl) ?_
        refine va_get (D := (dC, dI)) (ci := 4) (v := .ref aM0) (C := RX4) (T := TX4) (N := 21) hx hb hts hwsX40 hown hK hP 0 rfl rfl 1 (by decide) (hts (.fieldLink RX4 7 "BoxProverModel" "kind" "[I") (by decide +kernel)) (fun _ h9 => h9) rfl dX4_assume_17 ?_
        refine lv_iload_n hx hb dX4_assume_20 rfl (lv_at hl 1 rfl) ?_
        obtain ⟨hin, h⟩ := h
        refine xw_iald (n := 16) hx hb hK hP 1 0 rfl rfl (by decide) hin dX4_assume_21 ?_
        refine lv_iconst (v := xw_i 1) hx hb dX4_assume_22 (by decide) ?_
        obtain ⟨hr11, h⟩ := h
        refine xw_icmp_eq (tgt := 33) hx hb ⟨hr11, ⟨by decide, by decide⟩⟩ dX4_assume_23 (by decide) (fun hcd => ?_) (fun hcd => ?_)
        · have h := h.1 hcd
          refine lv_iconst (v := xw_i (-1)) hx hb dX4_assume_33 (by decide) ?_
          exact hret _ _ _ _ (-1) (mln, mli) dX4_assume_34 h hP hD hK hS
        · have h := h.2 hcd
          exact k_26 mln mli _ _ _ h hP hD hS (lv_sub hl [0, 1, 2] rfl)
set_option maxHeartbeats 4000000 in
set_option maxRecDepth 100000 in
theorem c_X4_bound (l : Launch) (dC : Nat → ClassId) (dI : Nat → Nat → Nat) (qM aM0 aM1 aM2 aM3 aM4 aM5 aM6 aM7 aM8 aM9 aM10 aM11 aM12 : Nat) (kM0 kM1 kM2 kM3 kM4 kM5 kM6 kM7 kM8 kM9 kM10 kM11 kM12 : ClassId) (sz : Nat) (mrw : Int) (mly : Int) (mln : Int) (msp : Int) (mwh : Int) (mcl : Int) (mtr : Int) (mfo : Int) (mki : Nat → Int) (mro : Nat → Int) (mlf : Nat → Int) (mli : Nat → Int) (msw : Nat → Int) (msa : Nat → Int) (msc : Nat → Int) (msl : Nat → Int) (mff : Nat → Int) (mlt : Nat → Int) (mgr : Nat → Int) (mxx : Nat → Int) (msu : Nat → Int) (p1 : Int) (p2 : Int) (post : Int → Int → (Nat → Int) → Prop) (h : wp_X4_bound post mrw mly mln msp mwh mcl mtr mfo mki mro mlf mli msw msa msc msl mff mlt mgr mxx msu p1 p2) : Met l yX4_bound wsX4_bound ({ frames := 2, cells := 0, slots := 0, locals := 56 }) (va_Pc [.ref qM, .int (xw_i p1), .int (xw_i p2)] (xw_Pre (dC, dI) vwCl (wd_X4 qM aM0 aM1 aM2 aM3 aM4 aM5 aM6 aM7 aM8 aM9 aM10 aM11 aM12 kM0 kM1 kM2 kM3 kM4 kM5 kM6 kM7 kM8 kM9 kM10 kM11 kM12 mrw mly mln msp mwh mcl mtr mfo mki mro mlf mli msw msa msc msl mff mlt mgr mxx msu) [(kM0, .int), (kM1, .int), (kM2, .int), (kM3, .long), (kM4, .int), (kM5, .int), (kM6, .int), (kM7, .int), (kM8, .int), (kM9, .int), (kM10, .int), (kM11, .int), (kM12, .int)] sz)) (va_Qi (xw_pi (fun v (u : Int × (Nat → Int)) => post v u.1 u.2)) (xw_B (dC, dI) vwCl (fun (_ : Int × (Nat → Int)) => [(kM0, .int), (kM1, .int), (kM2, .int), (kM3, .long), (kM4, .int), (kM5, .int), (kM6, .int), (kM7, .int), (kM8, .int), (kM9, .int), (kM10, .int), (kM11, .int), (kM12, .int)]) (va_A (wd_X4 qM aM0 aM1 aM2 aM3 aM4 aM5 aM6 aM7 aM8 aM9 aM10 aM11 aM12 kM0 kM1 kM2 kM3 kM4 kM5 kM6 kM7 kM8 kM9 kM10 kM11 kM12 mrw mly mln msp mwh mcl mtr mfo mki mro mlf mli msw msa msc msl mff mlt mgr mxx msu) sz) (fun (u : Int × (Nat → Int)) => (wd_X4 qM aM0 aM1 aM2 aM3 aM4 aM5 aM6 aM7 aM8 aM9 aM10 aM11 aM12 kM0 kM1 kM2 kM3 kM4 kM5 kM6 kM7 kM8 kM9 kM10 kM11 kM12 mrw mly u.1 msp mwh mcl mtr mfo mki mro mlf u.2 msw msa msc msl mff mlt mgr mxx msu))) (va_A (wd_X4 qM aM0 aM1 aM2 aM3 aM4 aM5 aM6 aM7 aM8 aM9 aM10 aM11 aM12 kM0 kM1 kM2 kM3 kM4 kM5 kM6 kM7 kM8 kM9 kM10 kM11 kM12 mrw mly mln msp mwh mcl mtr mfo mki mro mlf mli msw msa msc msl mff mlt mgr mxx msu) sz)) 0 0 (va_A (wd_X4 qM aM0 aM1 aM2 aM3 aM4 aM5 aM6 aM7 aM8 aM9 aM10 aM11 aM12 kM0 kM1 kM2 kM3 kM4 kM5 kM6 kM7 kM8 kM9 kM10 kM11 kM12 mrw mly mln msp mwh mcl mtr mfo mki mro mlf mli msw msa msc msl mff mlt mgr mxx msu) sz) := by
  refine xw_ofI (cc := cX4_bound) (maxL := 3) (by decide +kernel) rfl (Nat.le_of_ble_eq_true rfl) ?_
  intro p e s m args below meth c hx hb hml hown hts A hA hP hD hK Q hret ls hl hS
  have hl : lv_has ls 3 [(0, .ref qM), (1, .int (xw_i p1)), (2, .int (xw_i p2))] := hl
  have hwsX40 : ∀ w ∈ wsX40, w ∈ wsX4_bound := fun _ h => List.mem_cons_of_mem _ (List.mem_append_right _ h)
  unfold wp_X4_bound at h
  refine lv_iload_n hx hb dX4_bound_0 rfl (lv_at hl 1 rfl) ?_
  obtain ⟨hr1, h⟩ := h
  refine xw_if_lt (tgt := 16) hx hb hr1 dX4_bound_1 (by decide) (fun hcd => ?_) (fun hcd => ?_)
  · have h := h.1 hcd
    refine lv_iconst (v := xw_i (-1)) hx hb dX4_bound_16 (by decide) ?_
    exact hret _ _ _ _ (-1) (mln, mli) dX4_bound_17 h hP hD hK hS
  · have h := h.2 hcd
    refine lv_iload_n hx hb dX4_bound_4 rfl (lv_at hl 1 rfl) ?_
    refine lv_iconst (v := xw_i 3) hx hb dX4_bound_5 (by decide) ?_
    refine xw_icmp_gt (tgt := 16) hx hb ⟨hr1, ⟨by decide, by decide⟩⟩ dX4_bound_6 (by decide) (fun hcd => ?_) (fun hcd => ?_)
    · have h := h.1 hcd
      refine lv_iconst (v := xw_i (-1)) hx hb dX4_bound_16 (by decide) ?_
      exact hret _ _ _ _ (-1) (mln, mli) dX4_bound_17 h hP hD hK hS
    · have h := h.2 hcd
      refine lv_aload_n hx hb dX4_bound_9 rfl (lv_at hl 0 rfl) ?_
      refine xw_backi (wc := (wd_X4 qM aM0 aM1 aM2 aM3 aM4 aM5 aM6 aM7 aM8 aM9 aM10 aM11 aM12 kM0 kM1 kM2 kM3 kM4 kM5 kM6 kM7 kM8 kM9 kM10 kM11 kM12 mrw mly mln msp mwh mcl mtr mfo mki mro mlf mli msw msa msc msl mff mlt mgr mxx msu)) (wr := []) (va_runV (As := []) (rest := []) ⟨hx, hb, hml, hown, hts⟩ (c_X4_isFull l dC dI qM aM0 aM1 aM2 aM3 aM4 aM5 aM6 aM7 aM8 aM9 aM10 aM11 aM12 kM0 kM1 kM2 kM3 kM4 kM5 kM6 kM7 kM8 kM9 kM10 kM11 kM12 s.heap.size mrw mly mln msp mwh mcl mtr mfo mki mro mlf mli msw msa msc msl mff mlt mgr mxx msu _ h) (cwV 0 hts gX4_bound_X4_isFull rfl rfl rfl (by decide +kernel) ⟨Nat.le_of_ble_eq_true rfl, Nat.le_of_ble_eq_true rfl⟩) (xw_preV (ci := 4) hK hP hD [0, 1, 2, 3, 4, 5, 6, 7, 8, 9, 10, 11, 12, 13] rfl rfl (by decide) [0, 1, 2, 3, 4, 5, 6, 7, 8, 9, 10, 11, 12] rfl rfl rfl) rfl rfl hl.1 rfl (lv_room (Nat.le_of_ble_eq_true rfl)) dX4_bound_10 ⟨Nat.le_of_ble_eq_true rfl, Nat.le_of_ble_eq_true rfl⟩) hK hP hD hS hA [0, 1, 2, 3, 4, 5, 6, 7, 8, 9, 10, 11, 12, 13] [] rfl rfl (by decide) (by decide) (fun r u H locs h hP hD hK2 hS => ?_)
      try dsimp only at h
      have hP : va_P (dC, dI) vwCl (wd_X4 qM aM0 aM1 aM2 aM3 aM4 aM5 aM6 aM7 aM8 aM9 aM10 aM11 aM12 kM0 kM1 kM2 kM3 kM4 kM5 kM6 kM7 kM8 kM9 kM10 kM11 kM12 mrw mly mln msp mwh mcl mtr mfo mki mro mlf mli msw msa msc msl mff mlt mgr mxx msu) H := hP
      have hD : va_D A (wd_X4 qM aM0 aM1 aM2 aM3 aM4 aM5 aM6 aM7 aM8 aM9 aM10 aM11 aM12 kM0 kM1 kM2 kM3 kM4 kM5 kM6 kM7 kM8 kM9 kM10 kM11 kM12 mrw mly mln msp mwh mcl mtr mfo mki mro mlf mli msw msa msc msl mff mlt mgr mxx msu) := hD
      obtain ⟨hr2, h⟩ := h
      refine xw_if_eq (tgt := 18) hx hb hr2 dX4_bound_13 (by decide) (fun hcd => ?_) (fun hcd => ?_)
      · have h := h.1 hcd
        refine lv_aload_n hx hb dX4_bound_18 rfl (lv_at hl 0 rfl) ?_
        refine lv_iload_n hx hb dX4_bound_19 rfl (lv_at hl 1 rfl) ?_
        refine lv_iload_n hx hb dX4_bound_20 rfl (lv_at hl 2 rfl) ?_
        obtain ⟨hr3, h⟩ := h
        refine xw_if_eq (tgt := 30) hx hb hr3 dX4_bound_21 (by decide) (fun hcd => ?_) (fun hcd => ?_)
        · have h := h.1 hcd
          refine lv_lconst (v := xw_j 1) hx hb dX4_bound_30 (by decide) ?_
          refine lv_ldc2 (v := xw_j 15) hx hb hown (hts (.constantLong RX4 111 (xw_j 15)) (by decide +kernel)) dX4_bound_31 ?_
          refine xw_backi (wc := (wd_X4 qM aM0 aM1 aM2 aM3 aM4 aM5 aM6 aM7 aM8 aM9 aM10 aM11 aM12 kM0 kM1 kM2 kM3 kM4 kM5 kM6 kM7 kM8 kM9 kM10 kM11 kM12 mrw mly mln msp mwh mcl mtr mfo mki mro mlf mli msw msa msc msl mff mlt mgr mxx msu)) (wr := []) (va_runV (As := [.int (xw_i p1), .long (xw_j 1), .long (xw_j 15)]) (rest := []) ⟨hx, hb, hml, hown, hts⟩ (c_X4_putWord l dC dI qM aM0 aM1 aM2 aM3 aM4 aM5 aM6 aM7 aM8 aM9 aM10 aM11 aM12 kM0 kM1 kM2 kM3 kM4 kM5 kM6 kM7 kM8 kM9 kM10 kM11 kM12 H.size mrw mly mln msp mwh mcl mtr mfo mki mro mlf mli msw msa msc msl mff mlt mgr mxx msu p1 1 15 _ h) (cwV 3 hts gX4_bound_X4_putWord rfl rfl rfl (by decide +kernel) ⟨Nat.le_of_ble_eq_true rfl, Nat.le_of_ble_eq_true rfl⟩) (xw_preV (ci := 4) hK hP hD [0, 1, 2, 3, 4, 5, 6, 7, 8, 9, 10, 11, 12, 13] rfl rfl (by decide) [0, 1, 2, 3, 4, 5, 6, 7, 8, 9, 10, 11, 12] rfl rfl rfl) rfl rfl hl.1 rfl (lv_room (Nat.le_of_ble_eq_true rfl)) dX4_bound_34 ⟨Nat.le_of_ble_eq_true rfl, Nat.le_of_ble_eq_true rfl⟩) hK hP hD hS hA [0, 1, 2, 3, 4, 5, 6, 7, 8, 9, 10, 11, 12, 13] [] rfl rfl (by decide) (by decide) (fun r_1 u H locs h hP hD hK2 hS => ?_)
          obtain ⟨mln_1, mli_1⟩ := u
          try dsimp only at h
          have hP : va_P (dC, dI) vwCl (wd_X4 qM aM0 aM1 aM2 aM3 aM4 aM5 aM6 aM7 aM8 aM9 aM10 aM11 aM12 kM0 kM1 kM2 kM3 kM4 kM5 kM6 kM7 kM8 kM9 kM10 kM11 kM12 mrw mly mln_1 msp mwh mcl mtr mfo mki mro mlf mli_1 msw msa msc msl mff mlt mgr mxx msu) H := hP
          have hD : va_D A (wd_X4 qM aM0 aM1 aM2 aM3 aM4 aM5 aM6 aM7 aM8 aM9 aM10 aM11 aM12 kM0 kM1 kM2 kM3 kM4 kM5 kM6 kM7 kM8 kM9 kM10 kM11 kM12 mrw mly mln_1 msp mwh mcl mtr mfo mki mro mlf mli_1 msw msa msc msl mff mlt mgr mxx msu) := hD
          exact hret _ _ _ _ r_1 (mln_1, mli_1) dX4_bound_37 h hP hD hK hS
        · have h := h.2 hcd
          refine lv_ldc2 (v := xw_j (-1)) hx hb hown (hts (.constantLong RX4 109 (xw_j (-1))) (by decide +kernel)) dX4_bound_24 ?_
          refine lv_goto (tgt := 31) hx hb dX4_bound_27 (by decide) ?_
          refine lv_ldc2 (v := xw_j 15) hx hb hown (hts (.constantLong RX4 111 (xw_j 15)) (by decide +kernel)) dX4_bound_31 ?_
          refine xw_backi (wc := (wd_X4 qM aM0 aM1 aM2 aM3 aM4 aM5 aM6 aM7 aM8 aM9 aM10 aM11 aM12 kM0 kM1 kM2 kM3 kM4 kM5 kM6 kM7 kM8 kM9 kM10 kM11 kM12 mrw mly mln msp mwh mcl mtr mfo mki mro mlf mli msw msa msc msl mff mlt mgr mxx msu)) (wr := []) (va_runV (As := [.int (xw_i p1), .long (xw_j (-1)), .long (xw_j 15)]) (rest := []) ⟨hx, hb, hml, hown, hts⟩ (c_X4_putWord l dC dI qM aM0 aM1 aM2 aM3 aM4 aM5 aM6 aM7 aM8 aM9 aM10 aM11 aM12 kM0 kM1 kM2 kM3 kM4 kM5 kM6 kM7 kM8 kM9 kM10 kM11 kM12 H.size mrw mly mln msp mwh mcl mtr mfo mki mro mlf mli msw msa msc msl mff mlt mgr mxx msu p1 (-1) 15 _ h) (cwV 3 hts gX4_bound_X4_putWord rfl rfl rfl (by decide +kernel) ⟨Nat.le_of_ble_eq_true rfl, Nat.le_of_ble_eq_true rfl⟩) (xw_preV (ci := 4) hK hP hD [0, 1, 2, 3, 4, 5, 6, 7, 8, 9, 10, 11, 12, 13] rfl rfl (by decide) [0, 1, 2, 3, 4, 5, 6, 7, 8, 9, 10, 11, 12] rfl rfl rfl) rfl rfl hl.1 rfl (lv_room (Nat.le_of_ble_eq_true rfl)) dX4_bound_34 ⟨Nat.le_of_ble_eq_true rfl, Nat.le_of_ble_eq_true rfl⟩) hK hP hD hS hA [0, 1, 2, 3, 4, 5, 6, 7, 8, 9, 10, 11, 12, 13] [] rfl rfl (by decide) (by decide) (fun r_2 u H locs h hP hD hK2 hS => ?_)
          obtain ⟨mln_2, mli_2⟩ := u
          try dsimp only at h
          have hP : va_P (dC, dI) vwCl (wd_X4 qM aM0 aM1 aM2 aM3 aM4 aM5 aM6 aM7 aM8 aM9 aM10 aM11 aM12 kM0 kM1 kM2 kM3 kM4 kM5 kM6 kM7 kM8 kM9 kM10 kM11 kM12 mrw mly mln_2 msp mwh mcl mtr mfo mki mro mlf mli_2 msw msa msc msl mff mlt mgr mxx msu) H := hP
          have hD : va_D A (wd_X4 qM aM0 aM1 aM2 aM3 aM4 aM5 aM6 aM7 aM8 aM9 aM10 aM11 aM12 kM0 kM1 kM2 kM3 kM4 kM5 kM6 kM7 kM8 kM9 kM10 kM11 kM12 mrw mly mln_2 msp mwh mcl mtr mfo mki mro mlf mli_2 msw msa msc msl mff mlt mgr mxx msu) := hD
          exact hret _ _ _ _ r_2 (mln_2, mli_2) dX4_bound_37 h hP hD hK hS
      · have h := h.2 hcd
        refine lv_iconst (v := xw_i (-1)) hx hb dX4_bound_16 (by decide) ?_
        exact hret _ _ _ _ (-1) (mln, mli) dX4_bound_17 h hP hD hK hS
set_option maxHeartbeats 4000000 in
set_option maxRecDepth 100000 in
theorem c_X4_add (l : Launch) (dC : Nat → ClassId) (dI : Nat → Nat → Nat) (qM aM0 aM1 aM2 aM3 aM4 aM5 aM6 aM7 aM8 aM9 aM10 aM11 aM12 : Nat) (kM0 kM1 kM2 kM3 kM4 kM5 kM6 kM7 kM8 kM9 kM10 kM11 kM12 : ClassId) (sz : Nat) (mrw : Int) (mly : Int) (mln : Int) (msp : Int) (mwh : Int) (mcl : Int) (mtr : Int) (mfo : Int) (mki : Nat → Int) (mro : Nat → Int) (mlf : Nat → Int) (mli : Nat → Int) (msw : Nat → Int) (msa : Nat → Int) (msc : Nat → Int) (msl : Nat → Int) (mff : Nat → Int) (mlt : Nat → Int) (mgr : Nat → Int) (mxx : Nat → Int) (msu : Nat → Int) (p1 : Int) (p2 : Int) (p3 : Int) (p4 : Int) (post : Int → Int → (Nat → Int) → Prop) (h : wp_X4_add post mrw mly mln msp mwh mcl mtr mfo mki mro mlf mli msw msa msc msl mff mlt mgr mxx msu p1 p2 p3 p4) : Met l yX4_add wsX4_add ({ frames := 1, cells := 0, slots := 0, locals := 23 }) (va_Pc [.ref qM, .int (xw_i p1), .int (xw_i p2), .int (xw_i p3), .int (xw_i p4)] (xw_Pre (dC, dI) vwCl (wd_X4 qM aM0 aM1 aM2 aM3 aM4 aM5 aM6 aM7 aM8 aM9 aM10 aM11 aM12 kM0 kM1 kM2 kM3 kM4 kM5 kM6 kM7 kM8 kM9 kM10 kM11 kM12 mrw mly mln msp mwh mcl mtr mfo mki mro mlf mli msw msa msc msl mff mlt mgr mxx msu) [(kM0, .int), (kM1, .int), (kM2, .int), (kM3, .long), (kM4, .int), (kM5, .int), (kM6, .int), (kM7, .int), (kM8, .int), (kM9, .int), (kM10, .int), (kM11, .int), (kM12, .int)] sz)) (va_Qi (xw_pi (fun v (u : Int × (Nat → Int)) => post v u.1 u.2)) (xw_B (dC, dI) vwCl (fun (_ : Int × (Nat → Int)) => [(kM0, .int), (kM1, .int), (kM2, .int), (kM3, .long), (kM4, .int), (kM5, .int), (kM6, .int), (kM7, .int), (kM8, .int), (kM9, .int), (kM10, .int), (kM11, .int), (kM12, .int)]) (va_A (wd_X4 qM aM0 aM1 aM2 aM3 aM4 aM5 aM6 aM7 aM8 aM9 aM10 aM11 aM12 kM0 kM1 kM2 kM3 kM4 kM5 kM6 kM7 kM8 kM9 kM10 kM11 kM12 mrw mly mln msp mwh mcl mtr mfo mki mro mlf mli msw msa msc msl mff mlt mgr mxx msu) sz) (fun (u : Int × (Nat → Int)) => (wd_X4 qM aM0 aM1 aM2 aM3 aM4 aM5 aM6 aM7 aM8 aM9 aM10 aM11 aM12 kM0 kM1 kM2 kM3 kM4 kM5 kM6 kM7 kM8 kM9 kM10 kM11 kM12 mrw mly u.1 msp mwh mcl mtr mfo mki mro mlf u.2 msw msa msc msl mff mlt mgr mxx msu))) (va_A (wd_X4 qM aM0 aM1 aM2 aM3 aM4 aM5 aM6 aM7 aM8 aM9 aM10 aM11 aM12 kM0 kM1 kM2 kM3 kM4 kM5 kM6 kM7 kM8 kM9 kM10 kM11 kM12 mrw mly mln msp mwh mcl mtr mfo mki mro mlf mli msw msa msc msl mff mlt mgr mxx msu) sz)) 0 0 (va_A (wd_X4 qM aM0 aM1 aM2 aM3 aM4 aM5 aM6 aM7 aM8 aM9 aM10 aM11 aM12 kM0 kM1 kM2 kM3 kM4 kM5 kM6 kM7 kM8 kM9 kM10 kM11 kM12 mrw mly mln msp mwh mcl mtr mfo mki mro mlf mli msw msa msc msl mff mlt mgr mxx msu) sz) := by
  refine xw_ofI (cc := cX4_add) (maxL := 8) (by decide +kernel) rfl (Nat.le_of_ble_eq_true rfl) ?_
  intro p e s m args below meth c hx hb hml hown hts A hA hP hD hK Q hret ls hl hS
  have hl : lv_has ls 8 [(0, .ref qM), (1, .int (xw_i p1)), (2, .int (xw_i p2)), (3, .int (xw_i p3)), (4, .int (xw_i p4))] := hl
  have hwsX40 : ∀ w ∈ wsX40, w ∈ wsX4_add := fun _ h => List.mem_cons_of_mem _ (List.mem_append_right _ h)
  unfold wp_X4_add at h
  refine lv_aload_n hx hb dX4_add_0 rfl (lv_at hl 0 rfl) ?_
  refine lv_iload_n hx hb dX4_add_1 rfl (lv_at hl 1 rfl) ?_
  refine xw_backi (wc := (wd_X4 qM aM0 aM1 aM2 aM3 aM4 aM5 aM6 aM7 aM8 aM9 aM10 aM11 aM12 kM0 kM1 kM2 kM3 kM4 kM5 kM6 kM7 kM8 kM9 kM10 kM11 kM12 mrw mly mln msp mwh mcl mtr mfo mki mro mlf mli msw msa msc msl mff mlt mgr mxx msu)) (wr := []) (va_runV (As := [.int (xw_i p1)]) (rest := []) ⟨hx, hb, hml, hown, hts⟩ (c_X4_isLine l dC dI qM aM0 aM1 aM2 aM3 aM4 aM5 aM6 aM7 aM8 aM9 aM10 aM11 aM12 kM0 kM1 kM2 kM3 kM4 kM5 kM6 kM7 kM8 kM9 kM10 kM11 kM12 s.heap.size mrw mly mln msp mwh mcl mtr mfo mki mro mlf mli msw msa msc msl mff mlt mgr mxx msu p1 _ h) (cwV 1 hts gX4_add_X4_isLine rfl rfl rfl (by decide +kernel) ⟨Nat.le_of_ble_eq_true rfl, Nat.le_of_ble_eq_true rfl⟩) (xw_preV (ci := 4) hK hP hD [0, 1, 2, 3, 4, 5, 6, 7, 8, 9, 10, 11, 12, 13] rfl rfl (by decide) [0, 1, 2, 3, 4, 5, 6, 7, 8, 9, 10, 11, 12] rfl rfl rfl) rfl rfl hl.1 rfl (lv_room (Nat.le_of_ble_eq_true rfl)) dX4_add_2 ⟨Nat.le_of_ble_eq_true rfl, Nat.le_of_ble_eq_true rfl⟩) hK hP hD hS hA [0, 1, 2, 3, 4, 5, 6, 7, 8, 9, 10, 11, 12, 13] [] rfl rfl (by decide) (by decide) (fun r u H locs h hP hD hK2 hS => ?_)
  try dsimp only at h
  have hP : va_P (dC, dI) vwCl (wd_X4 qM aM0 aM1 aM2 aM3 aM4 aM5 aM6 aM7 aM8 aM9 aM10 aM11 aM12 kM0 kM1 kM2 kM3 kM4 kM5 kM6 kM7 kM8 kM9 kM10 kM11 kM12 mrw mly mln msp mwh mcl mtr mfo mki mro mlf mli msw msa msc msl mff mlt mgr mxx msu) H := hP
  have hD : va_D A (wd_X4 qM aM0 aM1 aM2 aM3 aM4 aM5 aM6 aM7 aM8 aM9 aM10 aM11 aM12 kM0 kM1 kM2 kM3 kM4 kM5 kM6 kM7 kM8 kM9 kM10 kM11 kM12 mrw mly mln msp mwh mcl mtr mfo mki mro mlf mli msw msa msc msl mff mlt mgr mxx msu) := hD
  obtain ⟨hr1, h⟩ := h
  refine xw_if_eq (tgt := 47) hx hb hr1 dX4_add_5 (by decide) (fun hcd => ?_) (fun hcd => ?_)
  · have h := h.1 hcd
    refine lv_iconst (v := xw_i (-1)) hx hb dX4_add_47 (by decide) ?_
    exact hret _ _ _ _ (-1) (mln, mli) dX4_add_48 h hP hD hK hS
  · have h := h.2 hcd
    refine lv_aload_n hx hb dX4_add_8 rfl (lv_at hl 0 rfl) ?_
    refine lv_iload_n hx hb dX4_add_9 rfl (lv_at hl 3 rfl) ?_
    refine xw_backi (wc := (wd_X4 qM aM0 aM1 aM2 aM3 aM4 aM5 aM6 aM7 aM8 aM9 aM10 aM11 aM12 kM0 kM1 kM2 kM3 kM4 kM5 kM6 kM7 kM8 kM9 kM10 kM11 kM12 mrw mly mln msp mwh mcl mtr mfo mki mro mlf mli msw msa msc msl mff mlt mgr mxx msu)) (wr := []) (va_runV (As := [.int (xw_i p3)]) (rest := []) ⟨hx, hb, hml, hown, hts⟩ (c_X4_isLine l dC dI qM aM0 aM1 aM2 aM3 aM4 aM5 aM6 aM7 aM8 aM9 aM10 aM11 aM12 kM0 kM1 kM2 kM3 kM4 kM5 kM6 kM7 kM8 kM9 kM10 kM11 kM12 H.size mrw mly mln msp mwh mcl mtr mfo mki mro mlf mli msw msa msc msl mff mlt mgr mxx msu p3 _ h) (cwV 1 hts gX4_add_X4_isLine rfl rfl rfl (by decide +kernel) ⟨Nat.le_of_ble_eq_true rfl, Nat.le_of_ble_eq_true rfl⟩) (xw_preV (ci := 4) hK hP hD [0, 1, 2, 3, 4, 5, 6, 7, 8, 9, 10, 11, 12, 13] rfl rfl (by decide) [0, 1, 2, 3, 4, 5, 6, 7, 8, 9, 10, 11, 12] rfl rfl rfl) rfl rfl hl.1 rfl (lv_room (Nat.le_of_ble_eq_true rfl)) dX4_add_10 ⟨Nat.le_of_ble_eq_true rfl, Nat.le_of_ble_eq_true rfl⟩) hK hP hD hS hA [0, 1, 2, 3, 4, 5, 6, 7, 8, 9, 10, 11, 12, 13] [] rfl rfl (by decide) (by decide) (fun r_1 u H locs h hP hD hK2 hS => ?_)
    try dsimp only at h
    have hP : va_P (dC, dI) vwCl (wd_X4 qM aM0 aM1 aM2 aM3 aM4 aM5 aM6 aM7 aM8 aM9 aM10 aM11 aM12 kM0 kM1 kM2 kM3 kM4 kM5 kM6 kM7 kM8 kM9 kM10 kM11 kM12 mrw mly mln msp mwh mcl mtr mfo mki mro mlf mli msw msa msc msl mff mlt mgr mxx msu) H := hP
    have hD : va_D A (wd_X4 qM aM0 aM1 aM2 aM3 aM4 aM5 aM6 aM7 aM8 aM9 aM10 aM11 aM12 kM0 kM1 kM2 kM3 kM4 kM5 kM6 kM7 kM8 kM9 kM10 kM11 kM12 mrw mly mln msp mwh mcl mtr mfo mki mro mlf mli msw msa msc msl mff mlt mgr mxx msu) := hD
    obtain ⟨hr2, h⟩ := h
    refine xw_if_eq (tgt := 47) hx hb hr2 dX4_add_13 (by decide) (fun hcd => ?_) (fun hcd => ?_)
    · have h := h.1 hcd
      refine lv_iconst (v := xw_i (-1)) hx hb dX4_add_47 (by decide) ?_
      exact hret _ _ _ _ (-1) (mln, mli) dX4_add_48 h hP hD hK hS
    · have h := h.2 hcd
      refine lv_iload_n hx hb dX4_add_16 rfl (lv_at hl 2 rfl) ?_
      obtain ⟨hr3, h⟩ := h
      refine xw_if_lt (tgt := 47) hx hb hr3 dX4_add_17 (by decide) (fun hcd => ?_) (fun hcd => ?_)
      · have h := h.1 hcd
        refine lv_iconst (v := xw_i (-1)) hx hb dX4_add_47 (by decide) ?_
        exact hret _ _ _ _ (-1) (mln, mli) dX4_add_48 h hP hD hK hS
      · have h := h.2 hcd
        refine lv_iload_n hx hb dX4_add_20 rfl (lv_at hl 2 rfl) ?_
        refine lv_sipush (v := xw_i 1000) hx hb dX4_add_21 (by decide) ?_
        refine xw_icmp_gt (tgt := 47) hx hb ⟨hr3, ⟨by decide, by decide⟩⟩ dX4_add_24 (by decide) (fun hcd => ?_) (fun hcd => ?_)
        · have h := h.1 hcd
          refine lv_iconst (v := xw_i (-1)) hx hb dX4_add_47 (by decide) ?_
          exact hret _ _ _ _ (-1) (mln, mli) dX4_add_48 h hP hD hK hS
        · have h := h.2 hcd
          refine lv_iload hx hb dX4_add_27 (lv_at hl 4 rfl) ?_
          obtain ⟨hr4, h⟩ := h
          refine xw_if_lt (tgt := 47) hx hb hr4 dX4_add_29 (by decide) (fun hcd => ?_) (fun hcd => ?_)
          · have h := h.1 hcd
            refine lv_iconst (v := xw_i (-1)) hx hb dX4_add_47 (by decide) ?_
            exact hret _ _ _ _ (-1) (mln, mli) dX4_add_48 h hP hD hK hS
          · have h := h.2 hcd
            refine lv_iload hx hb dX4_add_32 (lv_at hl 4 rfl) ?_
            refine lv_sipush (v := xw_i 1000) hx hb dX4_add_34 (by decide) ?_
            refine xw_icmp_gt (tgt := 47) hx hb ⟨hr4, ⟨by decide, by decide⟩⟩ dX4_add_37 (by decide) (fun hcd => ?_) (fun hcd => ?_)
            · have h := h.1 hcd
              refine lv_iconst (v := xw_i (-1)) hx hb dX4_add_47 (by decide) ?_
              exact hret _ _ _ _ (-1) (mln, mli) dX4_add_48 h hP hD hK hS
            · have h := h.2 hcd
              refine lv_aload_n hx hb dX4_add_40 rfl (lv_at hl 0 rfl) ?_
              refine xw_backi (wc := (wd_X4 qM aM0 aM1 aM2 aM3 aM4 aM5 aM6 aM7 aM8 aM9 aM10 aM11 aM12 kM0 kM1 kM2 kM3 kM4 kM5 kM6 kM7 kM8 kM9 kM10 kM11 kM12 mrw mly mln msp mwh mcl mtr mfo mki mro mlf mli msw msa msc msl mff mlt mgr mxx msu)) (wr := []) (va_runV (As := []) (rest := []) ⟨hx, hb, hml, hown, hts⟩ (c_X4_isFull l dC dI qM aM0 aM1 aM2 aM3 aM4 aM5 aM6 aM7 aM8 aM9 aM10 aM11 aM12 kM0 kM1 kM2 kM3 kM4 kM5 kM6 kM7 kM8 kM9 kM10 kM11 kM12 H.size mrw mly mln msp mwh mcl mtr mfo mki mro mlf mli msw msa msc msl mff mlt mgr mxx msu _ h) (cwV 0 hts gX4_add_X4_isFull rfl rfl rfl (by decide +kernel) ⟨Nat.le_of_ble_eq_true rfl, Nat.le_of_ble_eq_true rfl⟩) (xw_preV (ci := 4) hK hP hD [0, 1, 2, 3, 4, 5, 6, 7, 8, 9, 10, 11, 12, 13] rfl rfl (by decide) [0, 1, 2, 3, 4, 5, 6, 7, 8, 9, 10, 11, 12] rfl rfl rfl) rfl rfl hl.1 rfl (lv_room (Nat.le_of_ble_eq_true rfl)) dX4_add_41 ⟨Nat.le_of_ble_eq_true rfl, Nat.le_of_ble_eq_true rfl⟩) hK hP hD hS hA [0, 1, 2, 3, 4, 5, 6, 7, 8, 9, 10, 11, 12, 13] [] rfl rfl (by decide) (by decide) (fun r_2 u H locs h hP hD hK2 hS => ?_)
              try dsimp only at h
              have hP : va_P (dC, dI) vwCl (wd_X4 qM aM0 aM1 aM2 aM3 aM4 aM5 aM6 aM7 aM8 aM9 aM10 aM11 aM12 kM0 kM1 kM2 kM3 kM4 kM5 kM6 kM7 kM8 kM9 kM10 kM11 kM12 mrw mly mln msp mwh mcl mtr mfo mki mro mlf mli msw msa msc msl mff mlt mgr mxx msu) H := hP
              have hD : va_D A (wd_X4 qM aM0 aM1 aM2 aM3 aM4 aM5 aM6 aM7 aM8 aM9 aM10 aM11 aM12 kM0 kM1 kM2 kM3 kM4 kM5 kM6 kM7 kM8 kM9 kM10 kM11 kM12 mrw mly mln msp mwh mcl mtr mfo mki mro mlf mli msw msa msc msl mff mlt mgr mxx msu) := hD
              obtain ⟨hr5, h⟩ := h
              refine xw_if_eq (tgt := 49) hx hb hr5 dX4_add_44 (by decide) (fun hcd => ?_) (fun hcd => ?_)
              · have h := h.1 hcd
                refine lv_iconst (v := xw_i 5) hx hb dX4_add_49 (by decide) ?_
                refine lv_aload_n hx hb dX4_add_50 rfl (lv_at hl 0 rfl) ?_
                refine va_get (D := (dC, dI)) (ci := 4) (v := .int (xw_i mln)) (C := RX4) (T := TX4) (N := 21) hx hb hts hwsX40 hown hK hP 0 rfl rfl 5 (by decide) (hts (.fieldLink RX4 58 "BoxProverModel" "lines" "I") (by decide +kernel)) (fun _ h9 => h9) rfl dX4_add_51 ?_
                refine xw_imul hx hb dX4_add_54 ?_
                refine xw_topi (fun x5 ex5 => ?_)
                have h := h x5 ex5
                refine lv_istore (lv' := [(5, .int (xw_i x5)), (0, .ref qM), (1, .int (xw_i p1)), (2, .int (xw_i p2)), (3, .int (xw_i p3)), (4, .int (xw_i p4))]) hx hb dX4_add_55 hl (by decide) rfl (fun ls hl => ?_)
                refine lv_iconst (v := xw_i 1) hx hb dX4_add_57 (by decide) ?_
                refine lv_istore (lv' := [(6, .int (xw_i 1)), (5, .int (xw_i x5)), (0, .ref qM), (1, .int (xw_i p1)), (2, .int (xw_i p2)), (3, .int (xw_i p3)), (4, .int (xw_i p4))]) hx hb dX4_add_58 hl (by decide) rfl (fun ls hl => ?_)
                refine lv_iconst (v := xw_i 0) hx hb dX4_add_60 (by decide) ?_
                refine lv_istore (lv' := [(7, .int (xw_i 0)), (6, .int (xw_i 1)), (5, .int (xw_i x5)), (0, .ref qM), (1, .int (xw_i p1)), (2, .int (xw_i p2)), (3, .int (xw_i p3)), (4, .int (xw_i p4))]) hx hb dX4_add_61 hl (by decide) rfl (fun ls hl => ?_)
                have k_63 : ∀ (n_63 : Nat) (mln_1 : Int) (mli_1 : Nat → Int) (x7 : Int) (x6 : Int) (H : Heap) (locs : List Loc) (ls : Array Slot), wp_X4_add_63 p1 p2 p3 p4 post x5 n_63 mln_1 mli_1 x7 x6 → va_P (dC, dI) vwCl (wd_X4 qM aM0 aM1 aM2 aM3 aM4 aM5 aM6 aM7 aM8 aM9 aM10 aM11 aM12 kM0 kM1 kM2 kM3 kM4 kM5 kM6 kM7 kM8 kM9 kM10 kM11 kM12 mrw mly mln_1 msp mwh mcl mtr mfo mki mro mlf mli_1 msw msa msc msl mff mlt mgr mxx msu) H → va_D A (wd_X4 qM aM0 aM1 aM2 aM3 aM4 aM5 aM6 aM7 aM8 aM9 aM10 aM11 aM12 kM0 kM1 kM2 kM3 kM4 kM5 kM6 kM7 kM8 kM9 kM10 kM11 kM12 mrw mly mln_1 msp mwh mcl mtr mfo mki mro mlf mli_1 msw msa msc msl mff mlt mgr mxx msu) → va_S A s.heap H locs → lv_has ls 8 [(7, .int (xw_i x7)), (6, .int (xw_i x6)), (5, .int (xw_i x5)), (0, .ref qM), (1, .int (xw_i p1)), (2, .int (xw_i p2)), (3, .int (xw_i p3)), (4, .int (xw_i p4))] → W p l e ({ frames := 1, cells := 0, slots := 0, locals := 23 } : Room) s m args below meth c H locs 0 0 Q (F0 m 63 ls []) := by
                  intro n_63
                  induction n_63 with
                  | zero => intro mln_1 mli_1 x7 x6 H locs ls h; exact False.elim h
                  | succ n_63 ih_63 =>
                    intro mln_1 mli_1 x7 x6 H locs ls h hP hD hS hl
                    have h : wl_X4_add_63 p1 p2 p3 p4 post x5 (wp_X4_add_63 p1 p2 p3 p4 post x5 n_63) mln_1 mli_1 x7 x6 := h
                    unfold wl_X4_add_63 at h
                    refine lv_iload hx hb dX4_add_63 (lv_at hl 0 rfl) ?_
                    refine lv_iconst (v := xw_i 5) hx hb dX4_add_65 (by decide) ?_
                    obtain ⟨hr6, h⟩ := h
                    refine xw_icmp_ge (tgt := 148) hx hb ⟨hr6, ⟨by decide, by decide⟩⟩ dX4_add_66 (by decide) (fun hcd => ?_) (fun hcd => ?_)
                    · have h := h.1 hcd
                      refine lv_iload hx hb dX4_add_148 (lv_at hl 1 rfl) ?_
                      obtain ⟨hr7, h⟩ := h
                      refine xw_if_ne (tgt := 155) hx hb hr7 dX4_add_150 (by decide) (fun hcd => ?_) (fun hcd => ?_)
                      · have h := h.2 hcd
                        refine lv_aload_n hx hb dX4_add_155 rfl (lv_at hl 3 rfl) ?_
                        refine lv_dup hx hb dX4_add_156 rfl ?_
                        refine va_get (D := (dC, dI)) (ci := 4) (v := .int (xw_i mln_1)) (C := RX4) (T := TX4) (N := 21) hx hb hts hwsX40 hown hK hP 0 rfl rfl 5 (by decide) (hts (.fieldLink RX4 58 "BoxProverModel" "lines" "I") (by decide +kernel)) (fun _ h9 => h9) rfl dX4_add_157 ?_
                        refine lv_iconst (v := xw_i 1) hx hb dX4_add_160 (by decide) ?_
                        refine xw_iadd hx hb dX4_add_161 ?_
                        refine xw_topi (fun lf elf => ?_)
                        have h := h lf elf
                        refine va_put (D := (dC, dI)) (ci := 4) (v := .int (xw_i lf)) (ty := .int) (C := RX4) (T := TX4) (N := 21) hx hb hts hwsX40 tyX4 tyX4_ok nmX4 hown hK hP hD hS 0 rfl rfl 5 (by decide) (hts (.fieldLink RX4 58 "BoxProverModel" "lines" "I") (by decide +kernel)) (fun _ h9 => h9) rfl (by decide +kernel) rfl rfl (Nat.le_of_ble_eq_true rfl) dX4_add_162 (fun H locs hP hD hS => ?_)
                        have hP : va_P (dC, dI) vwCl (wd_X4 qM aM0 aM1 aM2 aM3 aM4 aM5 aM6 aM7 aM8 aM9 aM10 aM11 aM12 kM0 kM1 kM2 kM3 kM4 kM5 kM6 kM7 kM8 kM9 kM10 kM11 kM12 mrw mly lf msp mwh mcl mtr mfo mki mro mlf mli_1 msw msa msc msl mff mlt mgr mxx msu) H := hP
                        have hD : va_D A (wd_X4 qM aM0 aM1 aM2 aM3 aM4 aM5 aM6 aM7 aM8 aM9 aM10 aM11 aM12 kM0 kM1 kM2 kM3 kM4 kM5 kM6 kM7 kM8 kM9 kM10 kM11 kM12 mrw mly lf msp mwh mcl mtr mfo mki mro mlf mli_1 msw msa msc msl mff mlt mgr mxx msu) := hD
                        refine lv_aload_n hx hb dX4_add_165 rfl (lv_at hl 3 rfl) ?_
                        refine va_get (D := (dC, dI)) (ci := 4) (v := .int (xw_i lf)) (C := RX4) (T := TX4) (N := 21) hx hb hts hwsX40 hown hK hP 0 rfl rfl 5 (by decide) (hts (.fieldLink RX4 58 "BoxProverModel" "lines" "I") (by decide +kernel)) (fun _ h9 => h9) rfl dX4_add_166 ?_
                        refine lv_iconst (v := xw_i 1) hx hb dX4_add_169 (by decide) ?_
                        refine xw_isub hx hb dX4_add_170 ?_
                        exact hret _ _ _ _ (lf - 1) (lf, mli_1) dX4_add_171 h hP hD hK hS
                      · have h := h.1 hcd
                        refine lv_iconst (v := xw_i (-1)) hx hb dX4_add_153 (by decide) ?_
                        exact hret _ _ _ _ (-1) (mln_1, mli_1) dX4_add_154 h hP hD hK hS
                    · have h := h.2 hcd
                      refine lv_aload_n hx hb dX4_add_69 rfl (lv_at hl 3 rfl) ?_
                      refine va_get (D := (dC, dI)) (ci := 4) (v := .ref aM3) (C := RX4) (T := TX4) (N := 21) hx hb hts hwsX40 hown hK hP 0 rfl rfl 6 (by decide) (hts (.fieldLink RX4 19 "BoxProverModel" "line" "[J") (by decide +kernel)) (fun _ h9 => h9) rfl dX4_add_70 ?_
                      refine lv_iload hx hb dX4_add_73 (lv_at hl 2 rfl) ?_
                      refine lv_iload hx hb dX4_add_75 (lv_at hl 0 rfl) ?_
                      refine xw_iadd hx hb dX4_add_77 ?_
                      refine lv_iload_n hx hb dX4_add_78 rfl (lv_at hl 5 rfl) ?_
                      refine xw_i2l hx hb hr3 dX4_add_79 ?_
                      refine lv_aload_n hx hb dX4_add_80 rfl (lv_at hl 3 rfl) ?_
                      refine va_get (D := (dC, dI)) (ci := 4) (v := .ref aM3) (C := RX4) (T := TX4) (N := 21) hx hb hts hwsX40 hown hK hP 0 rfl rfl 6 (by decide) (hts (.fieldLink RX4 19 "BoxProverModel" "line" "[J") (by decide +kernel)) (fun _ h9 => h9) rfl dX4_add_81 ?_
                      refine lv_iconst (v := xw_i 5) hx hb dX4_add_84 (by decide) ?_
                      refine lv_iload_n hx hb dX4_add_85 rfl (lv_at hl 4 rfl) ?_
                      refine xw_imul hx hb dX4_add_86 ?_
                      refine lv_iload hx hb dX4_add_87 (lv_at hl 0 rfl) ?_
                      refine xw_iadd hx hb dX4_add_89 ?_
                      obtain ⟨hin, h⟩ := h
                      refine xw_lald (n := 1000) hx hb hK hP 4 3 rfl rfl (by decide) hin dX4_add_90 ?_
                      refine xw_lmul hx hb dX4_add_91 ?_
                      refine lv_iload hx hb dX4_add_92 (lv_at hl 7 rfl) ?_
                      refine xw_i2l hx hb hr4 dX4_add_94 ?_
                      refine lv_aload_n hx hb dX4_add_95 rfl (lv_at hl 3 rfl) ?_
                      refine va_get (D := (dC, dI)) (ci := 4) (v := .ref aM3) (C := RX4) (T := TX4) (N := 21) hx hb hts hwsX40 hown hK hP 0 rfl rfl 6 (by decide) (hts (.fieldLink RX4 19 "BoxProverModel" "line" "[J") (by decide +kernel)) (fun _ h9 => h9) rfl dX4_add_96 ?_
                      refine lv_iconst (v := xw_i 5) hx hb dX4_add_99 (by decide) ?_
                      refine lv_iload_n hx hb dX4_add_100 rfl (lv_at hl 6 rfl) ?_
                      refine xw_imul hx hb dX4_add_101 ?_
                      refine lv_iload hx hb dX4_add_102 (lv_at hl 0 rfl) ?_
                      refine xw_iadd hx hb dX4_add_104 ?_
                      obtain ⟨hin, h⟩ := h
                      refine xw_lald (n := 1000) hx hb hK hP 4 3 rfl rfl (by decide) hin dX4_add_105 ?_
                      refine xw_lmul hx hb dX4_add_106 ?_
                      refine xw_ladd hx hb dX4_add_107 ?_
                      obtain ⟨hin, h⟩ := h
                      obtain ⟨mli_2, emli_2⟩ : ∃ z : Nat → Int, z = xw_u mli_1 (x5 + x7) ((p2 * (mli_1 ((5 * p1) + x7).toNat)) + (p4 * (mli_1 ((5 * p3) + x7).toNat))) := ⟨_, rfl⟩
                      have h := h mli_2 emli_2
                      refine xw_last (n := 1000) hx hb hK hP hD hS 4 3 rfl rfl (by decide) hin emli_2 dX4_add_108 (fun H locs hP hD hS => ?_)
                      have hP : va_P (dC, dI) vwCl (wd_X4 qM aM0 aM1 aM2 aM3 aM4 aM5 aM6 aM7 aM8 aM9 aM10 aM11 aM12 kM0 kM1 kM2 kM3 kM4 kM5 kM6 kM7 kM8 kM9 kM10 kM11 kM12 mrw mly mln_1 msp mwh mcl mtr mfo mki mro mlf mli_2 msw msa msc msl mff mlt mgr mxx msu) H := hP
                      have hD : va_D A (wd_X4 qM aM0 aM1 aM2 aM3 aM4 aM5 aM6 aM7 aM8 aM9 aM10 aM11 aM12 kM0 kM1 kM2 kM3 kM4 kM5 kM6 kM7 kM8 kM9 kM10 kM11 kM12 mrw mly mln_1 msp mwh mcl mtr mfo mki mro mlf mli_2 msw msa msc msl mff mlt mgr mxx msu) := hD
                      refine lv_iload hx hb dX4_add_109 (lv_at hl 1 rfl) ?_
                      refine lv_aload_n hx hb dX4_add_111 rfl (lv_at hl 3 rfl) ?_
                      refine va_get (D := (dC, dI)) (ci := 4) (v := .ref aM3) (C := RX4) (T := TX4) (N := 21) hx hb hts hwsX40 hown hK hP 0 rfl rfl 6 (by decide) (hts (.fieldLink RX4 19 "BoxProverModel" "line" "[J") (by decide +kernel)) (fun _ h9 => h9) rfl dX4_add_112 ?_
                      refine lv_iload hx hb dX4_add_115 (lv_at hl 2 rfl) ?_
                      refine lv_iload hx hb dX4_add_117 (lv_at hl 0 rfl) ?_
                      refine xw_iadd hx hb dX4_add_119 ?_
                      obtain ⟨hin, h⟩ := h
                      refine xw_lald (n := 1000) hx hb hK hP 4 3 rfl rfl (by decide) hin dX4_add_120 ?_
                      refine lv_iload hx hb dX4_add_121 (lv_at hl 0 rfl) ?_
                      refine lv_iconst (v := xw_i 4) hx hb dX4_add_123 (by decide) ?_
                      have k_136 : ∀ (mln_2 : Int) (mli_3 : Nat → Int) (z0 : Int) (z1 : Int) (z2 : Int) (H : Heap) (locs : List Loc) (ls : Array Slot), wp_X4_add_136 (wp_X4_add_63 p1 p2 p3 p4 post x5 n_63) x7 mln_2 mli_3 z0 z1 z2 → va_P (dC, dI) vwCl (wd_X4 qM aM0 aM1 aM2 aM3 aM4 aM5 aM6 aM7 aM8 aM9 aM10 aM11 aM12 kM0 kM1 kM2 kM3 kM4 kM5 kM6 kM7 kM8 kM9 kM10 kM11 kM12 mrw mly mln_2 msp mwh mcl mtr mfo mki mro mlf mli_3 msw msa msc msl mff mlt mgr mxx msu) H → va_D A (wd_X4 qM aM0 aM1 aM2 aM3 aM4 aM5 aM6 aM7 aM8 aM9 aM10 aM11 aM12 kM0 kM1 kM2 kM3 kM4 kM5 kM6 kM7 kM8 kM9 kM10 kM11 kM12 mrw mly mln_2 msp mwh mcl mtr mfo mki mro mlf mli_3 msw msa msc msl mff mlt mgr mxx msu) → va_S A s.heap H locs → lv_has ls 8 [(7, .int (xw_i x7)), (5, .int (xw_i x5)), (0, .ref qM), (1, .int (xw_i p1)), (2, .int (xw_i p2)), (3, .int (xw_i p3)), (4, .int (xw_i p4))] → W p l e ({ frames := 1, cells := 0, slots := 0, locals := 23 } : Room) s m args below meth c H locs 0 0 Q (F0 m 136 ls [.long (xw_j z0), .long (xw_j z1), .int (xw_i z2)]) := by
                        intro mln_2 mli_3 z0 z1 z2 H locs ls h hP hD hS hl
                        unfold wp_X4_add_136 at h
                        refine xw_backi (wc := []) (wr := [(qM, .inr (4, [.int (xw_i mrw), .ref aM0, .ref aM1, .int (xw_i mly), .ref aM2, .int (xw_i mln_2), .ref aM3, .int (xw_i msp), .ref aM4, .ref aM5, .ref aM6, .ref aM7, .int (xw_i mwh), .int (xw_i mcl), .int (xw_i mtr), .int (xw_i mfo), .ref aM8, .ref aM9, .ref aM10, .ref aM11, .ref aM12])), (aM0, .inl (kM0, 16, .inl (xw_a mki))), (aM1, .inl (kM1, 80, .inl (xw_a mro))), (aM2, .inl (kM2, 8, .inl (xw_a mlf))), (aM3, .inl (kM3, 1000, .inr (.inl (xw_b mli_3)))), (aM4, .inl (kM4, 10, .inl (xw_a msw))), (aM5, .inl (kM5, 10, .inl (xw_a msa))), (aM6, .inl (kM6, 10, .inl (xw_a msc))), (aM7, .inl (kM7, 10, .inl (xw_a msl))), (aM8, .inl (kM8, 4, .inl (xw_a mff))), (aM9, .inl (kM9, 4, .inl (xw_a mlt))), (aM10, .inl (kM10, 4, .inl (xw_a mgr))), (aM11, .inl (kM11, 4, .inl (xw_a mxx))), (aM12, .inl (kM12, 16, .inl (xw_a msu)))]) (va_runS (As := [.long (xw_j z1), .long (xw_j z0)]) (rest := [.int (xw_i z2)]) ⟨hx, hb, hml, hown, hts⟩ (c_X4_isIn l dC dI H.size z1 z0 _ h) (va_cwS 2 hts gX4_add_X4_isIn rfl rfl rfl (by decide +kernel) ⟨Nat.le_of_ble_eq_true rfl, Nat.le_of_ble_eq_true rfl⟩) (xw_preS hK hP hD [] rfl rfl (by decide) [] rfl) rfl rfl hl.1 rfl (lv_room (Nat.le_of_ble_eq_true rfl)) dX4_add_136 ⟨Nat.le_of_ble_eq_true rfl, Nat.le_of_ble_eq_true rfl⟩) hK hP hD hS hA [] [0, 1, 2, 3, 4, 5, 6, 7, 8, 9, 10, 11, 12, 13] rfl rfl (by decide) (by decide) (fun r_3 u H locs h hP hD hK2 hS => ?_)
                        try dsimp only at h
                        have hP : va_P (dC, dI) vwCl (wd_X4 qM aM0 aM1 aM2 aM3 aM4 aM5 aM6 aM7 aM8 aM9 aM10 aM11 aM12 kM0 kM1 kM2 kM3 kM4 kM5 kM6 kM7 kM8 kM9 kM10 kM11 kM12 mrw mly mln_2 msp mwh mcl mtr mfo mki mro mlf mli_3 msw msa msc msl mff mlt mgr mxx msu) H := hP
                        have hD : va_D A (wd_X4 qM aM0 aM1 aM2 aM3 aM4 aM5 aM6 aM7 aM8 aM9 aM10 aM11 aM12 kM0 kM1 kM2 kM3 kM4 kM5 kM6 kM7 kM8 kM9 kM10 kM11 kM12 mrw mly mln_2 msp mwh mcl mtr mfo mki mro mlf mli_3 msw msa msc msl mff mlt mgr mxx msu) := hD
                        obtain ⟨hbo, h⟩ := h
                        refine xw_iand hx hb hbo dX4_add_139 ?_
                        refine xw_topi (fun x6_1 ex6_1 => ?_)
                        have h := h x6_1 ex6_1
                        refine lv_istore (lv' := [(6, .int (xw_i x6_1)), (7, .int (xw_i x7)), (5, .int (xw_i x5)), (0, .ref qM), (1, .int (xw_i p1)), (2, .int (xw_i p2)), (3, .int (xw_i p3)), (4, .int (xw_i p4))]) hx hb dX4_add_140 hl (by decide) rfl (fun ls hl => ?_)
                        obtain ⟨x7_1, ex7_1⟩ : ∃ y : Int, y = x7 + 1 := ⟨_, rfl⟩
                        have h := h x7_1 ex7_1
                        refine lv_iinc (v := xw_i x7_1) (lv' := [(7, .int (xw_i x7_1)), (6, .int (xw_i x6_1)), (5, .int (xw_i x5)), (0, .ref qM), (1, .int (xw_i p1)), (2, .int (xw_i p2)), (3, .int (xw_i p3)), (4, .int (xw_i p4))]) hx hb dX4_add_142 hl (k := 1) rfl (xw_inc ex7_1) (by decide) rfl (fun ls hl => ?_)
                        refine lv_goto (tgt := 63) hx hb dX4_add_145 (by decide) ?_
                        exact ih_63 mln_2 mli_3 x7_1 x6_1 _ _ _ h hP hD hS (lv_sub hl [0, 1, 2, 3, 4, 5, 6, 7] rfl)
                      refine xw_icmp_ge (tgt := 133) hx hb ⟨hr6, ⟨by decide, by decide⟩⟩ dX4_add_124 (by decide) (fun hcd => ?_) (fun hcd => ?_)
                      · have h := h.1 hcd
                        refine lv_ldc2 (v := xw_j 1000000000000) hx hb hown (hts (.constantLong RX4 122 (xw_j 1000000000000)) (by decide +kernel)) dX4_add_133 ?_
                        exact k_136 mln_1 mli_2 1000000000000 (mli_2 (x5 + x7).toNat) x6 _ _ _ h hP hD hS (lv_sub hl [0, 2, 3, 4, 5, 6, 7] rfl)
                      · have h := h.2 hcd
                        refine lv_ldc2 (v := xw_j 1000000000) hx hb hown (hts (.constantLong RX4 120 (xw_j 1000000000)) (by decide +kernel)) dX4_add_127 ?_
                        refine lv_goto (tgt := 136) hx hb dX4_add_130 (by decide) ?_
                        exact k_136 mln_1 mli_2 1000000000 (mli_2 (x5 + x7).toNat) x6 _ _ _ h hP hD hS (lv_sub hl [0, 2, 3, 4, 5, 6, 7] rfl)
                obtain ⟨fu, h⟩ := h
                exact k_63 fu mln mli 0 1 _ _ _ h hP hD hS (lv_sub hl [0, 1, 2, 3, 4, 5, 6, 7] rfl)
              · have h := h.2 hcd
                refine lv_iconst (v := xw_i (-1)) hx hb dX4_add_47 (by decide) ?_
                exact hret _ _ _ _ (-1) (mln, mli) dX4_add_48 h hP hD hK hS
set_option maxHeartbeats 4000000 in
set_option maxRecDepth 100000 in
theorem c_X4_divide (l : Launch) (dC : Nat → ClassId) (dI : Nat → Nat → Nat) (qM aM0 aM1 aM2 aM3 aM4 aM5 aM6 aM7 aM8 aM9 aM10 aM11 aM12 : Nat) (kM0 kM1 kM2 kM3 kM4 kM5 kM6 kM7 kM8 kM9 kM10 kM11 kM12 : ClassId) (sz : Nat) (mrw : Int) (mly : Int) (mln : Int) (msp : Int) (mwh : Int) (mcl : Int) (mtr : Int) (mfo : Int) (mki : Nat → Int) (mro : Nat → Int) (mlf : Nat → Int) (mli : Nat → Int) (msw : Nat → Int) (msa : Nat → Int) (msc : Nat → Int) (msl : Nat → Int) (mff : Nat → Int) (mlt : Nat → Int) (mgr : Nat → Int) (mxx : Nat → Int) (msu : Nat → Int) (p1 : Int) (p2 : Int) (post : Int → Int → (Nat → Int) → Prop) (h : wp_X4_divide post mrw mly mln msp mwh mcl mtr mfo mki mro mlf mli msw msa msc msl mff mlt mgr mxx msu p1 p2) : Met l yX4_divide wsX4_divide ({ frames := 1, cells := 0, slots := 0, locals := 21 }) (va_Pc [.ref qM, .int (xw_i p1), .int (xw_i p2)] (xw_Pre (dC, dI) vwCl (wd_X4 qM aM0 aM1 aM2 aM3 aM4 aM5 aM6 aM7 aM8 aM9 aM10 aM11 aM12 kM0 kM1 kM2 kM3 kM4 kM5 kM6 kM7 kM8 kM9 kM10 kM11 kM12 mrw mly mln msp mwh mcl mtr mfo mki mro mlf mli msw msa msc msl mff mlt mgr mxx msu) [(kM0, .int), (kM1, .int), (kM2, .int), (kM3, .long), (kM4, .int), (kM5, .int), (kM6, .int), (kM7, .int), (kM8, .int), (kM9, .int), (kM10, .int), (kM11, .int), (kM12, .int)] sz)) (va_Qi (xw_pi (fun v (u : Int × (Nat → Int)) => post v u.1 u.2)) (xw_B (dC, dI) vwCl (fun (_ : Int × (Nat → Int)) => [(kM0, .int), (kM1, .int), (kM2, .int), (kM3, .long), (kM4, .int), (kM5, .int), (kM6, .int), (kM7, .int), (kM8, .int), (kM9, .int), (kM10, .int), (kM11, .int), (kM12, .int)]) (va_A (wd_X4 qM aM0 aM1 aM2 aM3 aM4 aM5 aM6 aM7 aM8 aM9 aM10 aM11 aM12 kM0 kM1 kM2 kM3 kM4 kM5 kM6 kM7 kM8 kM9 kM10 kM11 kM12 mrw mly mln msp mwh mcl mtr mfo mki mro mlf mli msw msa msc msl mff mlt mgr mxx msu) sz) (fun (u : Int × (Nat → Int)) => (wd_X4 qM aM0 aM1 aM2 aM3 aM4 aM5 aM6 aM7 aM8 aM9 aM10 aM11 aM12 kM0 kM1 kM2 kM3 kM4 kM5 kM6 kM7 kM8 kM9 kM10 kM11 kM12 mrw mly u.1 msp mwh mcl mtr mfo mki mro mlf u.2 msw msa msc msl mff mlt mgr mxx msu))) (va_A (wd_X4 qM aM0 aM1 aM2 aM3 aM4 aM5 aM6 aM7 aM8 aM9 aM10 aM11 aM12 kM0 kM1 kM2 kM3 kM4 kM5 kM6 kM7 kM8 kM9 kM10 kM11 kM12 mrw mly mln msp mwh mcl mtr mfo mki mro mlf mli msw msa msc msl mff mlt mgr mxx msu) sz)) 0 0 (va_A (wd_X4 qM aM0 aM1 aM2 aM3 aM4 aM5 aM6 aM7 aM8 aM9 aM10 aM11 aM12 kM0 kM1 kM2 kM3 kM4 kM5 kM6 kM7 kM8 kM9 kM10 kM11 kM12 mrw mly mln msp mwh mcl mtr mfo mki mro mlf mli msw msa msc msl mff mlt mgr mxx msu) sz) := by
  refine xw_ofI (cc := cX4_divide) (maxL := 8) (by decide +kernel) rfl (Nat.le_of_ble_eq_true rfl) ?_
  intro p e s m args below meth c hx hb hml hown hts A hA hP hD hK Q hret ls hl hS
  have hl : lv_has ls 8 [(0, .ref qM), (1, .int (xw_i p1)), (2, .int (xw_i p2))] := hl
  have hwsX40 : ∀ w ∈ wsX40, w ∈ wsX4_divide := fun _ h => List.mem_cons_of_mem _ (List.mem_append_right _ h)
  unfold wp_X4_divide at h
  refine lv_aload_n hx hb dX4_divide_0 rfl (lv_at hl 0 rfl) ?_
  refine lv_iload_n hx hb dX4_divide_1 rfl (lv_at hl 1 rfl) ?_
  refine xw_backi (wc := (wd_X4 qM aM0 aM1 aM2 aM3 aM4 aM5 aM6 aM7 aM8 aM9 aM10 aM11 aM12 kM0 kM1 kM2 kM3 kM4 kM5 kM6 kM7 kM8 kM9 kM10 kM11 kM12 mrw mly mln msp mwh mcl mtr mfo mki mro mlf mli msw msa msc msl mff mlt mgr mxx msu)) (wr := []) (va_runV (As := [.int (xw_i p1)]) (rest := []) ⟨hx, hb, hml, hown, hts⟩ (c_X4_isLine l dC dI qM aM0 aM1 aM2 aM3 aM4 aM5 aM6 aM7 aM8 aM9 aM10 aM11 aM12 kM0 kM1 kM2 kM3 kM4 kM5 kM6 kM7 kM8 kM9 kM10 kM11 kM12 s.heap.size mrw mly mln msp mwh mcl mtr mfo mki mro mlf mli msw msa msc msl mff mlt mgr mxx msu p1 _ h) (cwV 1 hts gX4_divide_X4_isLine rfl rfl rfl (by decide +kernel) ⟨Nat.le_of_ble_eq_true rfl, Nat.le_of_ble_eq_true rfl⟩) (xw_preV (ci := 4) hK hP hD [0, 1, 2, 3, 4, 5, 6, 7, 8, 9, 10, 11, 12, 13] rfl rfl (by decide) [0, 1, 2, 3, 4, 5, 6, 7, 8, 9, 10, 11, 12] rfl rfl rfl) rfl rfl hl.1 rfl (lv_room (Nat.le_of_ble_eq_true rfl)) dX4_divide_2 ⟨Nat.le_of_ble_eq_true rfl, Nat.le_of_ble_eq_true rfl⟩) hK hP hD hS hA [0, 1, 2, 3, 4, 5, 6, 7, 8, 9, 10, 11, 12, 13] [] rfl rfl (by decide) (by decide) (fun r u H locs h hP hD hK2 hS => ?_)
  try dsimp only at h
  have hP : va_P (dC, dI) vwCl (wd_X4 qM aM0 aM1 aM2 aM3 aM4 aM5 aM6 aM7 aM8 aM9 aM10 aM11 aM12 kM0 kM1 kM2 kM3 kM4 kM5 kM6 kM7 kM8 kM9 kM10 kM11 kM12 mrw mly mln msp mwh mcl mtr mfo mki mro mlf mli msw msa msc msl mff mlt mgr mxx msu) H := hP
  have hD : va_D A (wd_X4 qM aM0 aM1 aM2 aM3 aM4 aM5 aM6 aM7 aM8 aM9 aM10 aM11 aM12 kM0 kM1 kM2 kM3 kM4 kM5 kM6 kM7 kM8 kM9 kM10 kM11 kM12 mrw mly mln msp mwh mcl mtr mfo mki mro mlf mli msw msa msc msl mff mlt mgr mxx msu) := hD
  obtain ⟨hr1, h⟩ := h
  refine xw_if_eq (tgt := 26) hx hb hr1 dX4_divide_5 (by decide) (fun hcd => ?_) (fun hcd => ?_)
  · have h := h.1 hcd
    refine lv_iconst (v := xw_i (-1)) hx hb dX4_divide_26 (by decide) ?_
    exact hret _ _ _ _ (-1) (mln, mli) dX4_divide_27 h hP hD hK hS
  · have h := h.2 hcd
    refine lv_iload_n hx hb dX4_divide_8 rfl (lv_at hl 2 rfl) ?_
    refine lv_iconst (v := xw_i 1) hx hb dX4_divide_9 (by decide) ?_
    obtain ⟨hr2, h⟩ := h
    refine xw_icmp_lt (tgt := 26) hx hb ⟨hr2, ⟨by decide, by decide⟩⟩ dX4_divide_10 (by decide) (fun hcd => ?_) (fun hcd => ?_)
    · have h := h.1 hcd
      refine lv_iconst (v := xw_i (-1)) hx hb dX4_divide_26 (by decide) ?_
      exact hret _ _ _ _ (-1) (mln, mli) dX4_divide_27 h hP hD hK hS
    · have h := h.2 hcd
      refine lv_iload_n hx hb dX4_divide_13 rfl (lv_at hl 2 rfl) ?_
      refine lv_ldc (v := xw_i 1000000000) hx hb hown (hts (.constant RX4 124 (xw_i 1000000000)) (by decide +kernel)) dX4_divide_14 ?_
      refine xw_icmp_gt (tgt := 26) hx hb ⟨hr2, ⟨by decide, by decide⟩⟩ dX4_divide_16 (by decide) (fun hcd => ?_) (fun hcd => ?_)
      · have h := h.1 hcd
        refine lv_iconst (v := xw_i (-1)) hx hb dX4_divide_26 (by decide) ?_
        exact hret _ _ _ _ (-1) (mln, mli) dX4_divide_27 h hP hD hK hS
      · have h := h.2 hcd
        refine lv_aload_n hx hb dX4_divide_19 rfl (lv_at hl 0 rfl) ?_
        refine xw_backi (wc := (wd_X4 qM aM0 aM1 aM2 aM3 aM4 aM5 aM6 aM7 aM8 aM9 aM10 aM11 aM12 kM0 kM1 kM2 kM3 kM4 kM5 kM6 kM7 kM8 kM9 kM10 kM11 kM12 mrw mly mln msp mwh mcl mtr mfo mki mro mlf mli msw msa msc msl mff mlt mgr mxx msu)) (wr := []) (va_runV (As := []) (rest := []) ⟨hx, hb, hml, hown, hts⟩ (c_X4_isFull l dC dI qM aM0 aM1 aM2 aM3 aM4 aM5 aM6 aM7 aM8 aM9 aM10 aM11 aM12 kM0 kM1 kM2 kM3 kM4 kM5 kM6 kM7 kM8 kM9 kM10 kM11 kM12 H.size mrw mly mln msp mwh mcl mtr mfo mki mro mlf mli msw msa msc msl mff mlt mgr mxx msu _ h) (cwV 0 hts gX4_divide_X4_isFull rfl rfl rfl (by decide +kernel) ⟨Nat.le_of_ble_eq_true rfl, Nat.le_of_ble_eq_true rfl⟩) (xw_preV (ci := 4) hK hP hD [0, 1, 2, 3, 4, 5, 6, 7, 8, 9, 10, 11, 12, 13] rfl rfl (by decide) [0, 1, 2, 3, 4, 5, 6, 7, 8, 9, 10, 11, 12] rfl rfl rfl) rfl rfl hl.1 rfl (lv_room (Nat.le_of_ble_eq_true rfl)) dX4_divide_20 ⟨Nat.le_of_ble_eq_true rfl, Nat.le_of_ble_eq_true rfl⟩) hK hP hD hS hA [0, 1, 2, 3, 4, 5, 6, 7, 8, 9, 10, 11, 12, 13] [] rfl rfl (by decide) (by decide) (fun r_1 u H locs h hP hD hK2 hS => ?_)
        try dsimp only at h
        have hP : va_P (dC, dI) vwCl (wd_X4 qM aM0 aM1 aM2 aM3 aM4 aM5 aM6 aM7 aM8 aM9 aM10 aM11 aM12 kM0 kM1 kM2 kM3 kM4 kM5 kM6 kM7 kM8 kM9 kM10 kM11 kM12 mrw mly mln msp mwh mcl mtr mfo mki mro mlf mli msw msa msc msl mff mlt mgr mxx msu) H := hP
        have hD : va_D A (wd_X4 qM aM0 aM1 aM2 aM3 aM4 aM5 aM6 aM7 aM8 aM9 aM10 aM11 aM12 kM0 kM1 kM2 kM3 kM4 kM5 kM6 kM7 kM8 kM9 kM10 kM11 kM12 mrw mly mln msp mwh mcl mtr mfo mki mro mlf mli msw msa msc msl mff mlt mgr mxx msu) := hD
        obtain ⟨hr3, h⟩ := h
        refine xw_if_eq (tgt := 28) hx hb hr3 dX4_divide_23 (by decide) (fun hcd => ?_) (fun hcd => ?_)
        · have h := h.1 hcd
          refine lv_iconst (v := xw_i 5) hx hb dX4_divide_28 (by decide) ?_
          refine lv_aload_n hx hb dX4_divide_29 rfl (lv_at hl 0 rfl) ?_
          refine va_get (D := (dC, dI)) (ci := 4) (v := .int (xw_i mln)) (C := RX4) (T := TX4) (N := 21) hx hb hts hwsX40 hown hK hP 0 rfl rfl 5 (by decide) (hts (.fieldLink RX4 58 "BoxProverModel" "lines" "I") (by decide +kernel)) (fun _ h9 => h9) rfl dX4_divide_30 ?_
          refine xw_imul hx hb dX4_divide_33 ?_
          refine xw_topi (fun x3 ex3 => ?_)
          have h := h x3 ex3
          refine lv_istore_n (lv' := [(3, .int (xw_i x3)), (0, .ref qM), (1, .int (xw_i p1)), (2, .int (xw_i p2))]) hx hb dX4_divide_34 rfl hl (by decide) rfl (fun ls hl => ?_)
          refine lv_iconst (v := xw_i 1) hx hb dX4_divide_35 (by decide) ?_
          refine lv_istore (lv' := [(4, .int (xw_i 1)), (3, .int (xw_i x3)), (0, .ref qM), (1, .int (xw_i p1)), (2, .int (xw_i p2))]) hx hb dX4_divide_36 hl (by decide) rfl (fun ls hl => ?_)
          refine lv_iconst (v := xw_i 0) hx hb dX4_divide_38 (by decide) ?_
          refine lv_istore (lv' := [(5, .int (xw_i 0)), (4, .int (xw_i 1)), (3, .int (xw_i x3)), (0, .ref qM), (1, .int (xw_i p1)), (2, .int (xw_i p2))]) hx hb dX4_divide_39 hl (by decide) rfl (fun ls hl => ?_)
          have k_41 : ∀ (n_41 : Nat) (mln_1 : Int) (mli_1 : Nat → Int) (x5 : Int) (x4 : Int) (H : Heap) (locs : List Loc) (ls : Array Slot), wp_X4_divide_41 p1 p2 post x3 n_41 mln_1 mli_1 x5 x4 → va_P (dC, dI) vwCl (wd_X4 qM aM0 aM1 aM2 aM3 aM4 aM5 aM6 aM7 aM8 aM9 aM10 aM11 aM12 kM0 kM1 kM2 kM3 kM4 kM5 kM6 kM7 kM8 kM9 kM10 kM11 kM12 mrw mly mln_1 msp mwh mcl mtr mfo mki mro mlf mli_1 msw msa msc msl mff mlt mgr mxx msu) H → va_D A (wd_X4 qM aM0 aM1 aM2 aM3 aM4 aM5 aM6 aM7 aM8 aM9 aM10 aM11 aM12 kM0 kM1 kM2 kM3 kM4 kM5 kM6 kM7 kM8 kM9 kM10 kM11 kM12 mrw mly mln_1 msp mwh mcl mtr mfo mki mro mlf mli_1 msw msa msc msl mff mlt mgr mxx msu) → va_S A s.heap H locs → lv_has ls 8 [(5, .int (xw_i x5)), (4, .int (xw_i x4)), (3, .int (xw_i x3)), (0, .ref qM), (1, .int (xw_i p1)), (2, .int (xw_i p2))] → W p l e ({ frames := 1, cells := 0, slots := 0, locals := 21 } : Room) s m args below meth c H locs 0 0 Q (F0 m 41 ls []) := by
            intro n_41
            induction n_41 with
            | zero => intro mln_1 mli_1 x5 x4 H locs ls h; exact False.elim h
            | succ n_41 ih_41 =>
              intro mln_1 mli_1 x5 x4 H locs ls h hP hD hS hl
              have h : wl_X4_divide_41 p1 p2 post x3 (wp_X4_divide_41 p1 p2 post x3 n_41) mln_1 mli_1 x5 x4 := h
              unfold wl_X4_divide_41 at h
              refine lv_iload hx hb dX4_divide_41 (lv_at hl 0 rfl) ?_
              refine lv_iconst (v := xw_i 5) hx hb dX4_divide_43 (by decide) ?_
              obtain ⟨hr4, h⟩ := h
              refine xw_icmp_ge (tgt := 122) hx hb ⟨hr4, ⟨by decide, by decide⟩⟩ dX4_divide_44 (by decide) (fun hcd => ?_) (fun hcd => ?_)
              · have h := h.1 hcd
                refine lv_iload hx hb dX4_divide_122 (lv_at hl 1 rfl) ?_
                obtain ⟨hr5, h⟩ := h
                refine xw_if_ne (tgt := 129) hx hb hr5 dX4_divide_124 (by decide) (fun hcd => ?_) (fun hcd => ?_)
                · have h := h.2 hcd
                  refine lv_aload_n hx hb dX4_divide_129 rfl (lv_at hl 3 rfl) ?_
                  refine lv_dup hx hb dX4_divide_130 rfl ?_
                  refine va_get (D := (dC, dI)) (ci := 4) (v := .int (xw_i mln_1)) (C := RX4) (T := TX4) (N := 21) hx hb hts hwsX40 hown hK hP 0 rfl rfl 5 (by decide) (hts (.fieldLink RX4 58 "BoxProverModel" "lines" "I") (by decide +kernel)) (fun _ h9 => h9) rfl dX4_divide_131 ?_
                  refine lv_iconst (v := xw_i 1) hx hb dX4_divide_134 (by decide) ?_
                  refine xw_iadd hx hb dX4_divide_135 ?_
                  refine xw_topi (fun lf elf => ?_)
                  have h := h lf elf
                  refine va_put (D := (dC, dI)) (ci := 4) (v := .int (xw_i lf)) (ty := .int) (C := RX4) (T := TX4) (N := 21) hx hb hts hwsX40 tyX4 tyX4_ok nmX4 hown hK hP hD hS 0 rfl rfl 5 (by decide) (hts (.fieldLink RX4 58 "BoxProverModel" "lines" "I") (by decide +kernel)) (fun _ h9 => h9) rfl (by decide +kernel) rfl rfl (Nat.le_of_ble_eq_true rfl) dX4_divide_136 (fun H locs hP hD hS => ?_)
                  have hP : va_P (dC, dI) vwCl (wd_X4 qM aM0 aM1 aM2 aM3 aM4 aM5 aM6 aM7 aM8 aM9 aM10 aM11 aM12 kM0 kM1 kM2 kM3 kM4 kM5 kM6 kM7 kM8 kM9 kM10 kM11 kM12 mrw mly lf msp mwh mcl mtr mfo mki mro mlf mli_1 msw msa msc msl mff mlt mgr mxx msu) H := hP
                  have hD : va_D A (wd_X4 qM aM0 aM1 aM2 aM3 aM4 aM5 aM6 aM7 aM8 aM9 aM10 aM11 aM12 kM0 kM1 kM2 kM3 kM4 kM5 kM6 kM7 kM8 kM9 kM10 kM11 kM12 mrw mly lf msp mwh mcl mtr mfo mki mro mlf mli_1 msw msa msc msl mff mlt mgr mxx msu) := hD
                  refine lv_aload_n hx hb dX4_divide_139 rfl (lv_at hl 3 rfl) ?_
                  refine va_get (D := (dC, dI)) (ci := 4) (v := .int (xw_i lf)) (C := RX4) (T := TX4) (N := 21) hx hb hts hwsX40 hown hK hP 0 rfl rfl 5 (by decide) (hts (.fieldLink RX4 58 "BoxProverModel" "lines" "I") (by decide +kernel)) (fun _ h9 => h9) rfl dX4_divide_140 ?_
                  refine lv_iconst (v := xw_i 1) hx hb dX4_divide_143 (by decide) ?_
                  refine xw_isub hx hb dX4_divide_144 ?_
                  exact hret _ _ _ _ (lf - 1) (lf, mli_1) dX4_divide_145 h hP hD hK hS
                · have h := h.1 hcd
                  refine lv_iconst (v := xw_i (-1)) hx hb dX4_divide_127 (by decide) ?_
                  exact hret _ _ _ _ (-1) (mln_1, mli_1) dX4_divide_128 h hP hD hK hS
              · have h := h.2 hcd
                refine lv_aload_n hx hb dX4_divide_47 rfl (lv_at hl 3 rfl) ?_
                refine va_get (D := (dC, dI)) (ci := 4) (v := .ref aM3) (C := RX4) (T := TX4) (N := 21) hx hb hts hwsX40 hown hK hP 0 rfl rfl 6 (by decide) (hts (.fieldLink RX4 19 "BoxProverModel" "line" "[J") (by decide +kernel)) (fun _ h9 => h9) rfl dX4_divide_48 ?_
                refine lv_iconst (v := xw_i 5) hx hb dX4_divide_51 (by decide) ?_
                refine lv_iload_n hx hb dX4_divide_52 rfl (lv_at hl 4 rfl) ?_
                refine xw_imul hx hb dX4_divide_53 ?_
                refine lv_iload hx hb dX4_divide_54 (lv_at hl 0 rfl) ?_
                refine xw_iadd hx hb dX4_divide_56 ?_
                obtain ⟨hin, h⟩ := h
                refine xw_lald (n := 1000) hx hb hK hP 4 3 rfl rfl (by decide) hin dX4_divide_57 ?_
                refine xw_topl (fun x6 ex6 => ?_)
                have h := h x6 ex6
                refine lv_lstore (lv' := [(6, .long (xw_j x6)), (5, .int (xw_i x5)), (4, .int (xw_i x4)), (3, .int (xw_i x3)), (0, .ref qM), (1, .int (xw_i p1)), (2, .int (xw_i p2))]) hx hb dX4_divide_58 hl (by decide) rfl (fun ls hl => ?_)
                refine lv_iload hx hb dX4_divide_60 (lv_at hl 2 rfl) ?_
                refine lv_iload hx hb dX4_divide_62 (lv_at hl 1 rfl) ?_
                refine lv_iconst (v := xw_i 4) hx hb dX4_divide_64 (by decide) ?_
                have k_83 : ∀ (mln_2 : Int) (mli_2 : Nat → Int) (z0 : Int) (z1 : Int) (H : Heap) (locs : List Loc) (ls : Array Slot), wp_X4_divide_83 (wp_X4_divide_41 p1 p2 post x3 n_41) p2 x3 x5 x6 mln_2 mli_2 z0 z1 → va_P (dC, dI) vwCl (wd_X4 qM aM0 aM1 aM2 aM3 aM4 aM5 aM6 aM7 aM8 aM9 aM10 aM11 aM12 kM0 kM1 kM2 kM3 kM4 kM5 kM6 kM7 kM8 kM9 kM10 kM11 kM12 mrw mly mln_2 msp mwh mcl mtr mfo mki mro mlf mli_2 msw msa msc msl mff mlt mgr mxx msu) H → va_D A (wd_X4 qM aM0 aM1 aM2 aM3 aM4 aM5 aM6 aM7 aM8 aM9 aM10 aM11 aM12 kM0 kM1 kM2 kM3 kM4 kM5 kM6 kM7 kM8 kM9 kM10 kM11 kM12 mrw mly mln_2 msp mwh mcl mtr mfo mki mro mlf mli_2 msw msa msc msl mff mlt mgr mxx msu) → va_S A s.heap H locs → lv_has ls 8 [(6, .long (xw_j x6)), (5, .int (xw_i x5)), (3, .int (xw_i x3)), (0, .ref qM), (1, .int (xw_i p1)), (2, .int (xw_i p2))] → W p l e ({ frames := 1, cells := 0, slots := 0, locals := 21 } : Room) s m args below meth c H locs 0 0 Q (F0 m 83 ls [.int (xw_i z0), .int (xw_i z1)]) := by
                  intro mln_2 mli_2 z0 z1 H locs ls h hP hD hS hl
                  unfold wp_X4_divide_83 at h
                  obtain ⟨hbo, h⟩ := h
                  refine xw_iand hx hb hbo dX4_divide_83 ?_
                  refine xw_topi (fun x4_1 ex4_1 => ?_)
                  have h := h x4_1 ex4_1
                  refine lv_istore (lv' := [(4, .int (xw_i x4_1)), (6, .long (xw_j x6)), (5, .int (xw_i x5)), (3, .int (xw_i x3)), (0, .ref qM), (1, .int (xw_i p1)), (2, .int (xw_i p2))]) hx hb dX4_divide_84 hl (by decide) rfl (fun ls hl => ?_)
                  refine lv_aload_n hx hb dX4_divide_86 rfl (lv_at hl 4 rfl) ?_
                  refine va_get (D := (dC, dI)) (ci := 4) (v := .ref aM3) (C := RX4) (T := TX4) (N := 21) hx hb hts hwsX40 hown hK hP 0 rfl rfl 6 (by decide) (hts (.fieldLink RX4 19 "BoxProverModel" "line" "[J") (by decide +kernel)) (fun _ h9 => h9) rfl dX4_divide_87 ?_
                  refine lv_iload_n hx hb dX4_divide_90 rfl (lv_at hl 3 rfl) ?_
                  refine lv_iload hx hb dX4_divide_91 (lv_at hl 2 rfl) ?_
                  refine xw_iadd hx hb dX4_divide_93 ?_
                  refine lv_lload hx hb dX4_divide_94 (lv_at hl 1 rfl) ?_
                  refine lv_iload_n hx hb dX4_divide_96 rfl (lv_at hl 6 rfl) ?_
                  refine xw_i2l hx hb hr2 dX4_divide_97 ?_
                  obtain ⟨hr6, h⟩ := h
                  obtain ⟨hr7, h⟩ := h
                  obtain ⟨hne, h⟩ := h
                  refine xw_ldiv hx hb ⟨hr6, hr7⟩ hne dX4_divide_98 ?_
                  refine lv_lload hx hb dX4_divide_99 (lv_at hl 1 rfl) ?_
                  refine lv_iload_n hx hb dX4_divide_101 rfl (lv_at hl 6 rfl) ?_
                  refine xw_i2l hx hb hr2 dX4_divide_102 ?_
                  obtain ⟨hne, h⟩ := h
                  refine xw_lrem hx hb ⟨hr6, hr7⟩ hne dX4_divide_103 ?_
                  refine lv_lconst (v := xw_j 0) hx hb dX4_divide_104 (by decide) ?_
                  refine W.lcmp hx hb dX4_divide_105 ?_
                  have k_114 : ∀ (mln_3 : Int) (mli_3 : Nat → Int) (z0_1 : Int) (z1_1 : Int) (z2 : Int) (H : Heap) (locs : List Loc) (ls : Array Slot), wp_X4_divide_114 (wp_X4_divide_41 p1 p2 post x3 n_41) x5 x4_1 mln_3 mli_3 z0_1 z1_1 z2 → va_P (dC, dI) vwCl (wd_X4 qM aM0 aM1 aM2 aM3 aM4 aM5 aM6 aM7 aM8 aM9 aM10 aM11 aM12 kM0 kM1 kM2 kM3 kM4 kM5 kM6 kM7 kM8 kM9 kM10 kM11 kM12 mrw mly mln_3 msp mwh mcl mtr mfo mki mro mlf mli_3 msw msa msc msl mff mlt mgr mxx msu) H → va_D A (wd_X4 qM aM0 aM1 aM2 aM3 aM4 aM5 aM6 aM7 aM8 aM9 aM10 aM11 aM12 kM0 kM1 kM2 kM3 kM4 kM5 kM6 kM7 kM8 kM9 kM10 kM11 kM12 mrw mly mln_3 msp mwh mcl mtr mfo mki mro mlf mli_3 msw msa msc msl mff mlt mgr mxx msu) → va_S A s.heap H locs → lv_has ls 8 [(4, .int (xw_i x4_1)), (5, .int (xw_i x5)), (3, .int (xw_i x3)), (0, .ref qM), (1, .int (xw_i p1)), (2, .int (xw_i p2))] → W p l e ({ frames := 1, cells := 0, slots := 0, locals := 21 } : Room) s m args below meth c H locs 0 0 Q (F0 m 114 ls [.long (xw_j z0_1), .long (xw_j z1_1), .int (xw_i z2), .ref aM3]) := by
                    intro mln_3 mli_3 z0_1 z1_1 z2 H locs ls h hP hD hS hl
                    unfold wp_X4_divide_114 at h
                    refine xw_lsub hx hb dX4_divide_114 ?_
                    obtain ⟨hin, h⟩ := h
                    obtain ⟨mli_4, emli_4⟩ : ∃ z : Nat → Int, z = xw_u mli_3 z2 (z1_1 - z0_1) := ⟨_, rfl⟩
                    have h := h mli_4 emli_4
                    refine xw_last (n := 1000) hx hb hK hP hD hS 4 3 rfl rfl (by decide) hin emli_4 dX4_divide_115 (fun H locs hP hD hS => ?_)
                    have hP : va_P (dC, dI) vwCl (wd_X4 qM aM0 aM1 aM2 aM3 aM4 aM5 aM6 aM7 aM8 aM9 aM10 aM11 aM12 kM0 kM1 kM2 kM3 kM4 kM5 kM6 kM7 kM8 kM9 kM10 kM11 kM12 mrw mly mln_3 msp mwh mcl mtr mfo mki mro mlf mli_4 msw msa msc msl mff mlt mgr mxx msu) H := hP
                    have hD : va_D A (wd_X4 qM aM0 aM1 aM2 aM3 aM4 aM5 aM6 aM7 aM8 aM9 aM10 aM11 aM12 kM0 kM1 kM2 kM3 kM4 kM5 kM6 kM7 kM8 kM9 kM10 kM11 kM12 mrw mly mln_3 msp mwh mcl mtr mfo mki mro mlf mli_4 msw msa msc msl mff mlt mgr mxx msu) := hD
                    obtain ⟨x5_1, ex5_1⟩ : ∃ y : Int, y = x5 + 1 := ⟨_, rfl⟩
                    have h := h x5_1 ex5_1
                    refine lv_iinc (v := xw_i x5_1) (lv' := [(5, .int (xw_i x5_1)), (4, .int (xw_i x4_1)), (3, .int (xw_i x3)), (0, .ref qM), (1, .int (xw_i p1)), (2, .int (xw_i p2))]) hx hb dX4_divide_116 hl (k := 1) rfl (xw_inc ex5_1) (by decide) rfl (fun ls hl => ?_)
                    refine lv_goto (tgt := 41) hx hb dX4_divide_119 (by decide) ?_
                    exact ih_41 mln_3 mli_4 x5_1 x4_1 _ _ _ h hP hD hS (lv_sub hl [0, 1, 2, 3, 4, 5] rfl)
                  obtain ⟨hr8, h⟩ := h
                  refine xw_lif_ge (tgt := 113) hx hb ⟨hr8, ⟨by decide, by decide⟩⟩ dX4_divide_106 (by decide) (fun hcd => ?_) (fun hcd => ?_)
                  · have h := h.1 hcd
                    refine lv_lconst (v := xw_j 0) hx hb dX4_divide_113 (by decide) ?_
                    exact k_114 mln_2 mli_2 0 (Int.tdiv x6 p2) (x3 + x5) _ _ _ h hP hD hS (lv_sub hl [0, 2, 3, 4, 5, 6] rfl)
                  · have h := h.2 hcd
                    refine lv_lconst (v := xw_j 1) hx hb dX4_divide_109 (by decide) ?_
                    refine lv_goto (tgt := 114) hx hb dX4_divide_110 (by decide) ?_
                    exact k_114 mln_2 mli_2 1 (Int.tdiv x6 p2) (x3 + x5) _ _ _ h hP hD hS (lv_sub hl [0, 2, 3, 4, 5, 6] rfl)
                have k_78 : ∀ (mln_4 : Int) (mli_5 : Nat → Int) (z0_2 : Int) (H : Heap) (locs : List Loc) (ls : Array Slot), wp_X4_divide_78 (wp_X4_divide_41 p1 p2 post x3 n_41) p2 x3 x5 x6 mln_4 mli_5 z0_2 → va_P (dC, dI) vwCl (wd_X4 qM aM0 aM1 aM2 aM3 aM4 aM5 aM6 aM7 aM8 aM9 aM10 aM11 aM12 kM0 kM1 kM2 kM3 kM4 kM5 kM6 kM7 kM8 kM9 kM10 kM11 kM12 mrw mly mln_4 msp mwh mcl mtr mfo mki mro mlf mli_5 msw msa msc msl mff mlt mgr mxx msu) H → va_D A (wd_X4 qM aM0 aM1 aM2 aM3 aM4 aM5 aM6 aM7 aM8 aM9 aM10 aM11 aM12 kM0 kM1 kM2 kM3 kM4 kM5 kM6 kM7 kM8 kM9 kM10 kM11 kM12 mrw mly mln_4 msp mwh mcl mtr mfo mki mro mlf mli_5 msw msa msc msl mff mlt mgr mxx msu) → va_S A s.heap H locs → lv_has ls 8 [(6, .long (xw_j x6)), (5, .int (xw_i x5)), (3, .int (xw_i x3)), (0, .ref qM), (1, .int (xw_i p1)), (2, .int (xw_i p2))] → W p l e ({ frames := 1, cells := 0, slots := 0, locals := 21 } : Room) s m args below meth c H locs 0 0 Q (F0 m 78 ls [.int (xw_i z0_2)]) := by
                  intro mln_4 mli_5 z0_2 H locs ls h hP hD hS hl
                  unfold wp_X4_divide_78 at h
                  refine lv_iconst (v := xw_i 1) hx hb dX4_divide_78 (by decide) ?_
                  refine lv_goto (tgt := 83) hx hb dX4_divide_79 (by decide) ?_
                  exact k_83 mln_4 mli_5 1 z0_2 _ _ _ h hP hD hS (lv_sub hl [0, 1, 2, 3, 4, 5] rfl)
                refine xw_icmp_eq (tgt := 78) hx hb ⟨hr4, ⟨by decide, by decide⟩⟩ dX4_divide_65 (by decide) (fun hcd => ?_) (fun hcd => ?_)
                · have h := h.1 hcd
                  exact k_78 mln_1 mli_1 x4 _ _ _ h hP hD hS (lv_sub hl [0, 1, 3, 4, 5, 6] rfl)
                · have h := h.2 hcd
                  refine lv_lload hx hb dX4_divide_68 (lv_at hl 0 rfl) ?_
                  refine lv_iload_n hx hb dX4_divide_70 rfl (lv_at hl 6 rfl) ?_
                  refine xw_i2l hx hb hr2 dX4_divide_71 ?_
                  obtain ⟨hr9, h⟩ := h
                  obtain ⟨hr10, h⟩ := h
                  obtain ⟨hne, h⟩ := h
                  refine xw_lrem hx hb ⟨hr9, hr10⟩ hne dX4_divide_72 ?_
                  refine lv_lconst (v := xw_j 0) hx hb dX4_divide_73 (by decide) ?_
                  refine W.lcmp hx hb dX4_divide_74 ?_
                  obtain ⟨hr11, h⟩ := h
                  refine xw_lif_ne (tgt := 82) hx hb ⟨hr11, ⟨by decide, by decide⟩⟩ dX4_divide_75 (by decide) (fun hcd => ?_) (fun hcd => ?_)
                  · have h := h.2 hcd
                    refine lv_iconst (v := xw_i 0) hx hb dX4_divide_82 (by decide) ?_
                    exact k_83 mln_1 mli_1 0 x4 _ _ _ h hP hD hS (lv_sub hl [0, 1, 3, 4, 5, 6] rfl)
                  · have h := h.1 hcd
                    exact k_78 mln_1 mli_1 x4 _ _ _ h hP hD hS (lv_sub hl [0, 1, 3, 4, 5, 6] rfl)
          obtain ⟨fu, h⟩ := h
          exact k_41 fu mln mli 0 1 _ _ _ h hP hD hS (lv_sub hl [0, 1, 2, 3, 4, 5] rfl)
        · have h := h.2 hcd
          refine lv_iconst (v := xw_i (-1)) hx hb dX4_divide_26 (by decide) ?_
          exact hret _ _ _ _ (-1) (mln, mli) dX4_divide_27 h hP hD hK hS
set_option maxHeartbeats 4000000 in
set_option maxRecDepth 100000 in
theorem c_X4_split (l : Launch) (dC : Nat → ClassId) (dI : Nat → Nat → Nat) (qM aM0 aM1 aM2 aM3 aM4 aM5 aM6 aM7 aM8 aM9 aM10 aM11 aM12 : Nat) (kM0 kM1 kM2 kM3 kM4 kM5 kM6 kM7 kM8 kM9 kM10 kM11 kM12 : ClassId) (sz : Nat) (mrw : Int) (mly : Int) (mln : Int) (msp : Int) (mwh : Int) (mcl : Int) (mtr : Int) (mfo : Int) (mki : Nat → Int) (mro : Nat → Int) (mlf : Nat → Int) (mli : Nat → Int) (msw : Nat → Int) (msa : Nat → Int) (msc : Nat → Int) (msl : Nat → Int) (mff : Nat → Int) (mlt : Nat → Int) (mgr : Nat → Int) (mxx : Nat → Int) (msu : Nat → Int) (p1 : Int) (p2 : Int) (post : Int → Int → Int → (Nat → Int) → (Nat → Int) → (Nat → Int) → (Nat → Int) → (Nat → Int) → Prop) (h : wp_X4_split post mrw mly mln msp mwh mcl mtr mfo mki mro mlf mli msw msa msc msl mff mlt mgr mxx msu p1 p2) : Met l yX4_split wsX4_split ({ frames := 2, cells := 0, slots := 0, locals := 56 }) (va_Pc [.ref qM, .int (xw_i p1), .int (xw_i p2)] (xw_Pre (dC, dI) vwCl (wd_X4 qM aM0 aM1 aM2 aM3 aM4 aM5 aM6 aM7 aM8 aM9 aM10 aM11 aM12 kM0 kM1 kM2 kM3 kM4 kM5 kM6 kM7 kM8 kM9 kM10 kM11 kM12 mrw mly mln msp mwh mcl mtr mfo mki mro mlf mli msw msa msc msl mff mlt mgr mxx msu) [(kM0, .int), (kM1, .int), (kM2, .int), (kM3, .long), (kM4, .int), (kM5, .int), (kM6, .int), (kM7, .int), (kM8, .int), (kM9, .int), (kM10, .int), (kM11, .int), (kM12, .int)] sz)) (va_Qi (xw_pi (fun v (u : Int × Int × (Nat → Int) × (Nat → Int) × (Nat → Int) × (Nat → Int) × (Nat → Int)) => post v u.1 u.2.1 u.2.2.1 u.2.2.2.1 u.2.2.2.2.1 u.2.2.2.2.2.1 u.2.2.2.2.2.2)) (xw_B (dC, dI) vwCl (fun (_ : Int × Int × (Nat → Int) × (Nat → Int) × (Nat → Int) × (Nat → Int) × (Nat → Int)) => [(kM0, .int), (kM1, .int), (kM2, .int), (kM3, .long), (kM4, .int), (kM5, .int), (kM6, .int), (kM7, .int), (kM8, .int), (kM9, .int), (kM10, .int), (kM11, .int), (kM12, .int)]) (va_A (wd_X4 qM aM0 aM1 aM2 aM3 aM4 aM5 aM6 aM7 aM8 aM9 aM10 aM11 aM12 kM0 kM1 kM2 kM3 kM4 kM5 kM6 kM7 kM8 kM9 kM10 kM11 kM12 mrw mly mln msp mwh mcl mtr mfo mki mro mlf mli msw msa msc msl mff mlt mgr mxx msu) sz) (fun (u : Int × Int × (Nat → Int) × (Nat → Int) × (Nat → Int) × (Nat → Int) × (Nat → Int)) => (wd_X4 qM aM0 aM1 aM2 aM3 aM4 aM5 aM6 aM7 aM8 aM9 aM10 aM11 aM12 kM0 kM1 kM2 kM3 kM4 kM5 kM6 kM7 kM8 kM9 kM10 kM11 kM12 mrw mly u.1 u.2.1 mwh mcl mtr mfo mki mro mlf u.2.2.1 u.2.2.2.1 u.2.2.2.2.1 u.2.2.2.2.2.1 u.2.2.2.2.2.2 mff mlt mgr mxx msu))) (va_A (wd_X4 qM aM0 aM1 aM2 aM3 aM4 aM5 aM6 aM7 aM8 aM9 aM10 aM11 aM12 kM0 kM1 kM2 kM3 kM4 kM5 kM6 kM7 kM8 kM9 kM10 kM11 kM12 mrw mly mln msp mwh mcl mtr mfo mki mro mlf mli msw msa msc msl mff mlt mgr mxx msu) sz)) 0 0 (va_A (wd_X4 qM aM0 aM1 aM2 aM3 aM4 aM5 aM6 aM7 aM8 aM9 aM10 aM11 aM12 kM0 kM1 kM2 kM3 kM4 kM5 kM6 kM7 kM8 kM9 kM10 kM11 kM12 mrw mly mln msp mwh mcl mtr mfo mki mro mlf mli msw msa msc msl mff mlt mgr mxx msu) sz) := by
  refine xw_ofI (cc := cX4_split) (maxL := 3) (by decide +kernel) rfl (Nat.le_of_ble_eq_true rfl) ?_
  intro p e s m args below meth c hx hb hml hown hts A hA hP hD hK Q hret ls hl hS
  have hl : lv_has ls 3 [(0, .ref qM), (1, .int (xw_i p1)), (2, .int (xw_i p2))] := hl
  have hwsX40 : ∀ w ∈ wsX40, w ∈ wsX4_split := fun _ h => List.mem_cons_of_mem _ (List.mem_append_right _ h)
  unfold wp_X4_split at h
  refine lv_iload_n hx hb dX4_split_0 rfl (lv_at hl 1 rfl) ?_
  obtain ⟨hr1, h⟩ := h
  refine xw_if_lt (tgt := 37) hx hb hr1 dX4_split_1 (by decide) (fun hcd => ?_) (fun hcd => ?_)
  · have h := h.1 hcd
    refine lv_iconst (v := xw_i (-1)) hx hb dX4_split_37 (by decide) ?_
    exact hret _ _ _ _ (-1) (mln, msp, mli, msw, msa, msc, msl) dX4_split_38 h hP hD hK hS
  · have h := h.2 hcd
    refine lv_iload_n hx hb dX4_split_4 rfl (lv_at hl 1 rfl) ?_
    refine lv_iconst (v := xw_i 3) hx hb dX4_split_5 (by decide) ?_
    refine xw_icmp_gt (tgt := 37) hx hb ⟨hr1, ⟨by decide, by decide⟩⟩ dX4_split_6 (by decide) (fun hcd => ?_) (fun hcd => ?_)
    · have h := h.1 hcd
      refine lv_iconst (v := xw_i (-1)) hx hb dX4_split_37 (by decide) ?_
      exact hret _ _ _ _ (-1) (mln, msp, mli, msw, msa, msc, msl) dX4_split_38 h hP hD hK hS
    · have h := h.2 hcd
      refine lv_iload_n hx hb dX4_split_9 rfl (lv_at hl 2 rfl) ?_
      refine lv_bipush (v := xw_i (-16)) hx hb dX4_split_10 (by decide) ?_
      obtain ⟨hr2, h⟩ := h
      refine xw_icmp_lt (tgt := 37) hx hb ⟨hr2, ⟨by decide, by decide⟩⟩ dX4_split_12 (by decide) (fun hcd => ?_) (fun hcd => ?_)
      · have h := h.1 hcd
        refine lv_iconst (v := xw_i (-1)) hx hb dX4_split_37 (by decide) ?_
        exact hret _ _ _ _ (-1) (mln, msp, mli, msw, msa, msc, msl) dX4_split_38 h hP hD hK hS
      · have h := h.2 hcd
        refine lv_iload_n hx hb dX4_split_15 rfl (lv_at hl 2 rfl) ?_
        refine lv_bipush (v := xw_i 15) hx hb dX4_split_16 (by decide) ?_
        refine xw_icmp_gt (tgt := 37) hx hb ⟨hr2, ⟨by decide, by decide⟩⟩ dX4_split_18 (by decide) (fun hcd => ?_) (fun hcd => ?_)
        · have h := h.1 hcd
          refine lv_iconst (v := xw_i (-1)) hx hb dX4_split_37 (by decide) ?_
          exact hret _ _ _ _ (-1) (mln, msp, mli, msw, msa, msc, msl) dX4_split_38 h hP hD hK hS
        · have h := h.2 hcd
          refine lv_aload_n hx hb dX4_split_21 rfl (lv_at hl 0 rfl) ?_
          refine va_get (D := (dC, dI)) (ci := 4) (v := .int (xw_i msp)) (C := RX4) (T := TX4) (N := 21) hx hb hts hwsX40 hown hK hP 0 rfl rfl 7 (by decide) (hts (.fieldLink RX4 61 "BoxProverModel" "splits" "I") (by decide +kernel)) (fun _ h9 => h9) rfl dX4_split_22 ?_
          refine lv_bipush (v := xw_i 10) hx hb dX4_split_25 (by decide) ?_
          obtain ⟨hr3, h⟩ := h
          refine xw_icmp_eq (tgt := 37) hx hb ⟨hr3, ⟨by decide, by decide⟩⟩ dX4_split_27 (by decide) (fun hcd => ?_) (fun hcd => ?_)
          · have h := h.1 hcd
            refine lv_iconst (v := xw_i (-1)) hx hb dX4_split_37 (by decide) ?_
            exact hret _ _ _ _ (-1) (mln, msp, mli, msw, msa, msc, msl) dX4_split_38 h hP hD hK hS
          · have h := h.2 hcd
            refine lv_aload_n hx hb dX4_split_30 rfl (lv_at hl 0 rfl) ?_
            refine xw_backi (wc := (wd_X4 qM aM0 aM1 aM2 aM3 aM4 aM5 aM6 aM7 aM8 aM9 aM10 aM11 aM12 kM0 kM1 kM2 kM3 kM4 kM5 kM6 kM7 kM8 kM9 kM10 kM11 kM12 mrw mly mln msp mwh mcl mtr mfo mki mro mlf mli msw msa msc msl mff mlt mgr mxx msu)) (wr := []) (va_runV (As := []) (rest := []) ⟨hx, hb, hml, hown, hts⟩ (c_X4_isFull l dC dI qM aM0 aM1 aM2 aM3 aM4 aM5 aM6 aM7 aM8 aM9 aM10 aM11 aM12 kM0 kM1 kM2 kM3 kM4 kM5 kM6 kM7 kM8 kM9 kM10 kM11 kM12 s.heap.size mrw mly mln msp mwh mcl mtr mfo mki mro mlf mli msw msa msc msl mff mlt mgr mxx msu _ h) (cwV 0 hts gX4_split_X4_isFull rfl rfl rfl (by decide +kernel) ⟨Nat.le_of_ble_eq_true rfl, Nat.le_of_ble_eq_true rfl⟩) (xw_preV (ci := 4) hK hP hD [0, 1, 2, 3, 4, 5, 6, 7, 8, 9, 10, 11, 12, 13] rfl rfl (by decide) [0, 1, 2, 3, 4, 5, 6, 7, 8, 9, 10, 11, 12] rfl rfl rfl) rfl rfl hl.1 rfl (lv_room (Nat.le_of_ble_eq_true rfl)) dX4_split_31 ⟨Nat.le_of_ble_eq_true rfl, Nat.le_of_ble_eq_true rfl⟩) hK hP hD hS hA [0, 1, 2, 3, 4, 5, 6, 7, 8, 9, 10, 11, 12, 13] [] rfl rfl (by decide) (by decide) (fun r u H locs h hP hD hK2 hS => ?_)
            try dsimp only at h
            have hP : va_P (dC, dI) vwCl (wd_X4 qM aM0 aM1 aM2 aM3 aM4 aM5 aM6 aM7 aM8 aM9 aM10 aM11 aM12 kM0 kM1 kM2 kM3 kM4 kM5 kM6 kM7 kM8 kM9 kM10 kM11 kM12 mrw mly mln msp mwh mcl mtr mfo mki mro mlf mli msw msa msc msl mff mlt mgr mxx msu) H := hP
            have hD : va_D A (wd_X4 qM aM0 aM1 aM2 aM3 aM4 aM5 aM6 aM7 aM8 aM9 aM10 aM11 aM12 kM0 kM1 kM2 kM3 kM4 kM5 kM6 kM7 kM8 kM9 kM10 kM11 kM12 mrw mly mln msp mwh mcl mtr mfo mki mro mlf mli msw msa msc msl mff mlt mgr mxx msu) := hD
            obtain ⟨hr4, h⟩ := h
            refine xw_if_eq (tgt := 39) hx hb hr4 dX4_split_34 (by decide) (fun hcd => ?_) (fun hcd => ?_)
            · have h := h.1 hcd
              refine lv_aload_n hx hb dX4_split_39 rfl (lv_at hl 0 rfl) ?_
              refine va_get (D := (dC, dI)) (ci := 4) (v := .ref aM4) (C := RX4) (T := TX4) (N := 21) hx hb hts hwsX40 hown hK hP 0 rfl rfl 8 (by decide) (hts (.fieldLink RX4 23 "BoxProverModel" "splitWord" "[I") (by decide +kernel)) (fun _ h9 => h9) rfl dX4_split_40 ?_
              refine lv_aload_n hx hb dX4_split_43 rfl (lv_at hl 0 rfl) ?_
              refine va_get (D := (dC, dI)) (ci := 4) (v := .int (xw_i msp)) (C := RX4) (T := TX4) (N := 21) hx hb hts hwsX40 hown hK hP 0 rfl rfl 7 (by decide) (hts (.fieldLink RX4 61 "BoxProverModel" "splits" "I") (by decide +kernel)) (fun _ h9 => h9) rfl dX4_split_44 ?_
              refine lv_iload_n hx hb dX4_split_47 rfl (lv_at hl 1 rfl) ?_
              obtain ⟨hin, h⟩ := h
              obtain ⟨msw_1, emsw_1⟩ : ∃ z : Nat → Int, z = xw_u msw msp p1 := ⟨_, rfl⟩
              have h := h msw_1 emsw_1
              refine xw_iast (n := 10) hx hb hK hP hD hS 5 4 rfl rfl (by decide) hin emsw_1 dX4_split_48 (fun H locs hP hD hS => ?_)
              have hP : va_P (dC, dI) vwCl (wd_X4 qM aM0 aM1 aM2 aM3 aM4 aM5 aM6 aM7 aM8 aM9 aM10 aM11 aM12 kM0 kM1 kM2 kM3 kM4 kM5 kM6 kM7 kM8 kM9 kM10 kM11 kM12 mrw mly mln msp mwh mcl mtr mfo mki mro mlf mli msw_1 msa msc msl mff mlt mgr mxx msu) H := hP
              have hD : va_D A (wd_X4 qM aM0 aM1 aM2 aM3 aM4 aM5 aM6 aM7 aM8 aM9 aM10 aM11 aM12 kM0 kM1 kM2 kM3 kM4 kM5 kM6 kM7 kM8 kM9 kM10 kM11 kM12 mrw mly mln msp mwh mcl mtr mfo mki mro mlf mli msw_1 msa msc msl mff mlt mgr mxx msu) := hD
              refine lv_aload_n hx hb dX4_split_49 rfl (lv_at hl 0 rfl) ?_
              refine va_get (D := (dC, dI)) (ci := 4) (v := .ref aM5) (C := RX4) (T := TX4) (N := 21) hx hb hts hwsX40 hown hK hP 0 rfl rfl 9 (by decide) (hts (.fieldLink RX4 26 "BoxProverModel" "splitAt" "[I") (by decide +kernel)) (fun _ h9 => h9) rfl dX4_split_50 ?_
              refine lv_aload_n hx hb dX4_split_53 rfl (lv_at hl 0 rfl) ?_
              refine va_get (D := (dC, dI)) (ci := 4) (v := .int (xw_i msp)) (C := RX4) (T := TX4) (N := 21) hx hb hts hwsX40 hown hK hP 0 rfl rfl 7 (by decide) (hts (.fieldLink RX4 61 "BoxProverModel" "splits" "I") (by decide +kernel)) (fun _ h9 => h9) rfl dX4_split_54 ?_
              refine lv_iload_n hx hb dX4_split_57 rfl (lv_at hl 2 rfl) ?_
              obtain ⟨hin, h⟩ := h
              obtain ⟨msa_1, emsa_1⟩ : ∃ z : Nat → Int, z = xw_u msa msp p2 := ⟨_, rfl⟩
              have h := h msa_1 emsa_1
              refine xw_iast (n := 10) hx hb hK hP hD hS 6 5 rfl rfl (by decide) hin emsa_1 dX4_split_58 (fun H locs hP hD hS => ?_)
              have hP : va_P (dC, dI) vwCl (wd_X4 qM aM0 aM1 aM2 aM3 aM4 aM5 aM6 aM7 aM8 aM9 aM10 aM11 aM12 kM0 kM1 kM2 kM3 kM4 kM5 kM6 kM7 kM8 kM9 kM10 kM11 kM12 mrw mly mln msp mwh mcl mtr mfo mki mro mlf mli msw_1 msa_1 msc msl mff mlt mgr mxx msu) H := hP
              have hD : va_D A (wd_X4 qM aM0 aM1 aM2 aM3 aM4 aM5 aM6 aM7 aM8 aM9 aM10 aM11 aM12 kM0 kM1 kM2 kM3 kM4 kM5 kM6 kM7 kM8 kM9 kM10 kM11 kM12 mrw mly mln msp mwh mcl mtr mfo mki mro mlf mli msw_1 msa_1 msc msl mff mlt mgr mxx msu) := hD
              refine lv_aload_n hx hb dX4_split_59 rfl (lv_at hl 0 rfl) ?_
              refine va_get (D := (dC, dI)) (ci := 4) (v := .ref aM6) (C := RX4) (T := TX4) (N := 21) hx hb hts hwsX40 hown hK hP 0 rfl rfl 10 (by decide) (hts (.fieldLink RX4 29 "BoxProverModel" "splitCase" "[I") (by decide +kernel)) (fun _ h9 => h9) rfl dX4_split_60 ?_
              refine lv_aload_n hx hb dX4_split_63 rfl (lv_at hl 0 rfl) ?_
              refine va_get (D := (dC, dI)) (ci := 4) (v := .int (xw_i msp)) (C := RX4) (T := TX4) (N := 21) hx hb hts hwsX40 hown hK hP 0 rfl rfl 7 (by decide) (hts (.fieldLink RX4 61 "BoxProverModel" "splits" "I") (by decide +kernel)) (fun _ h9 => h9) rfl dX4_split_64 ?_
              refine lv_iconst (v := xw_i 1) hx hb dX4_split_67 (by decide) ?_
              obtain ⟨hin, h⟩ := h
              obtain ⟨msc_1, emsc_1⟩ : ∃ z : Nat → Int, z = xw_u msc msp 1 := ⟨_, rfl⟩
              have h := h msc_1 emsc_1
              refine xw_iast (n := 10) hx hb hK hP hD hS 7 6 rfl rfl (by decide) hin emsc_1 dX4_split_68 (fun H locs hP hD hS => ?_)
              have hP : va_P (dC, dI) vwCl (wd_X4 qM aM0 aM1 aM2 aM3 aM4 aM5 aM6 aM7 aM8 aM9 aM10 aM11 aM12 kM0 kM1 kM2 kM3 kM4 kM5 kM6 kM7 kM8 kM9 kM10 kM11 kM12 mrw mly mln msp mwh mcl mtr mfo mki mro mlf mli msw_1 msa_1 msc_1 msl mff mlt mgr mxx msu) H := hP
              have hD : va_D A (wd_X4 qM aM0 aM1 aM2 aM3 aM4 aM5 aM6 aM7 aM8 aM9 aM10 aM11 aM12 kM0 kM1 kM2 kM3 kM4 kM5 kM6 kM7 kM8 kM9 kM10 kM11 kM12 mrw mly mln msp mwh mcl mtr mfo mki mro mlf mli msw_1 msa_1 msc_1 msl mff mlt mgr mxx msu) := hD
              refine lv_aload_n hx hb dX4_split_69 rfl (lv_at hl 0 rfl) ?_
              refine va_get (D := (dC, dI)) (ci := 4) (v := .ref aM7) (C := RX4) (T := TX4) (N := 21) hx hb hts hwsX40 hown hK hP 0 rfl rfl 11 (by decide) (hts (.fieldLink RX4 32 "BoxProverModel" "splitLines" "[I") (by decide +kernel)) (fun _ h9 => h9) rfl dX4_split_70 ?_
              refine lv_aload_n hx hb dX4_split_73 rfl (lv_at hl 0 rfl) ?_
              refine va_get (D := (dC, dI)) (ci := 4) (v := .int (xw_i msp)) (C := RX4) (T := TX4) (N := 21) hx hb hts hwsX40 hown hK hP 0 rfl rfl 7 (by decide) (hts (.fieldLink RX4 61 "BoxProverModel" "splits" "I") (by decide +kernel)) (fun _ h9 => h9) rfl dX4_split_74 ?_
              refine lv_aload_n hx hb dX4_split_77 rfl (lv_at hl 0 rfl) ?_
              refine va_get (D := (dC, dI)) (ci := 4) (v := .int (xw_i mln)) (C := RX4) (T := TX4) (N := 21) hx hb hts hwsX40 hown hK hP 0 rfl rfl 5 (by decide) (hts (.fieldLink RX4 58 "BoxProverModel" "lines" "I") (by decide +kernel)) (fun _ h9 => h9) rfl dX4_split_78 ?_
              obtain ⟨hin, h⟩ := h
              obtain ⟨msl_1, emsl_1⟩ : ∃ z : Nat → Int, z = xw_u msl msp mln := ⟨_, rfl⟩
              have h := h msl_1 emsl_1
              refine xw_iast (n := 10) hx hb hK hP hD hS 8 7 rfl rfl (by decide) hin emsl_1 dX4_split_81 (fun H locs hP hD hS => ?_)
              have hP : va_P (dC, dI) vwCl (wd_X4 qM aM0 aM1 aM2 aM3 aM4 aM5 aM6 aM7 aM8 aM9 aM10 aM11 aM12 kM0 kM1 kM2 kM3 kM4 kM5 kM6 kM7 kM8 kM9 kM10 kM11 kM12 mrw mly mln msp mwh mcl mtr mfo mki mro mlf mli msw_1 msa_1 msc_1 msl_1 mff mlt mgr mxx msu) H := hP
              have hD : va_D A (wd_X4 qM aM0 aM1 aM2 aM3 aM4 aM5 aM6 aM7 aM8 aM9 aM10 aM11 aM12 kM0 kM1 kM2 kM3 kM4 kM5 kM6 kM7 kM8 kM9 kM10 kM11 kM12 mrw mly mln msp mwh mcl mtr mfo mki mro mlf mli msw_1 msa_1 msc_1 msl_1 mff mlt mgr mxx msu) := hD
              refine lv_aload_n hx hb dX4_split_82 rfl (lv_at hl 0 rfl) ?_
              refine lv_dup hx hb dX4_split_83 rfl ?_
              refine va_get (D := (dC, dI)) (ci := 4) (v := .int (xw_i msp)) (C := RX4) (T := TX4) (N := 21) hx hb hts hwsX40 hown hK hP 0 rfl rfl 7 (by decide) (hts (.fieldLink RX4 61 "BoxProverModel" "splits" "I") (by decide +kernel)) (fun _ h9 => h9) rfl dX4_split_84 ?_
              refine lv_iconst (v := xw_i 1) hx hb dX4_split_87 (by decide) ?_
              refine xw_iadd hx hb dX4_split_88 ?_
              refine xw_topi (fun sf esf => ?_)
              have h := h sf esf
              refine va_put (D := (dC, dI)) (ci := 4) (v := .int (xw_i sf)) (ty := .int) (C := RX4) (T := TX4) (N := 21) hx hb hts hwsX40 tyX4 tyX4_ok nmX4 hown hK hP hD hS 0 rfl rfl 7 (by decide) (hts (.fieldLink RX4 61 "BoxProverModel" "splits" "I") (by decide +kernel)) (fun _ h9 => h9) rfl (by decide +kernel) rfl rfl (Nat.le_of_ble_eq_true rfl) dX4_split_89 (fun H locs hP hD hS => ?_)
              have hP : va_P (dC, dI) vwCl (wd_X4 qM aM0 aM1 aM2 aM3 aM4 aM5 aM6 aM7 aM8 aM9 aM10 aM11 aM12 kM0 kM1 kM2 kM3 kM4 kM5 kM6 kM7 kM8 kM9 kM10 kM11 kM12 mrw mly mln sf mwh mcl mtr mfo mki mro mlf mli msw_1 msa_1 msc_1 msl_1 mff mlt mgr mxx msu) H := hP
              have hD : va_D A (wd_X4 qM aM0 aM1 aM2 aM3 aM4 aM5 aM6 aM7 aM8 aM9 aM10 aM11 aM12 kM0 kM1 kM2 kM3 kM4 kM5 kM6 kM7 kM8 kM9 kM10 kM11 kM12 mrw mly mln sf mwh mcl mtr mfo mki mro mlf mli msw_1 msa_1 msc_1 msl_1 mff mlt mgr mxx msu) := hD
              refine lv_aload_n hx hb dX4_split_92 rfl (lv_at hl 0 rfl) ?_
              refine lv_iload_n hx hb dX4_split_93 rfl (lv_at hl 1 rfl) ?_
              refine lv_lconst (v := xw_j 1) hx hb dX4_split_94 (by decide) ?_
              refine lv_iload_n hx hb dX4_split_95 rfl (lv_at hl 2 rfl) ?_
              refine xw_i2l hx hb hr2 dX4_split_96 ?_
              refine xw_backi (wc := (wd_X4 qM aM0 aM1 aM2 aM3 aM4 aM5 aM6 aM7 aM8 aM9 aM10 aM11 aM12 kM0 kM1 kM2 kM3 kM4 kM5 kM6 kM7 kM8 kM9 kM10 kM11 kM12 mrw mly mln sf mwh mcl mtr mfo mki mro mlf mli msw_1 msa_1 msc_1 msl_1 mff mlt mgr mxx msu)) (wr := []) (va_runV (As := [.int (xw_i p1), .long (xw_j 1), .long (xw_j p2)]) (rest := []) ⟨hx, hb, hml, hown, hts⟩ (c_X4_putWord l dC dI qM aM0 aM1 aM2 aM3 aM4 aM5 aM6 aM7 aM8 aM9 aM10 aM11 aM12 kM0 kM1 kM2 kM3 kM4 kM5 kM6 kM7 kM8 kM9 kM10 kM11 kM12 H.size mrw mly mln sf mwh mcl mtr mfo mki mro mlf mli msw_1 msa_1 msc_1 msl_1 mff mlt mgr mxx msu p1 1 p2 _ h) (cwV 3 hts gX4_split_X4_putWord rfl rfl rfl (by decide +kernel) ⟨Nat.le_of_ble_eq_true rfl, Nat.le_of_ble_eq_true rfl⟩) (xw_preV (ci := 4) hK hP hD [0, 1, 2, 3, 4, 5, 6, 7, 8, 9, 10, 11, 12, 13] rfl rfl (by decide) [0, 1, 2, 3, 4, 5, 6, 7, 8, 9, 10, 11, 12] rfl rfl rfl) rfl rfl hl.1 rfl (lv_room (Nat.le_of_ble_eq_true rfl)) dX4_split_97 ⟨Nat.le_of_ble_eq_true rfl, Nat.le_of_ble_eq_true rfl⟩) hK hP hD hS hA [0, 1, 2, 3, 4, 5, 6, 7, 8, 9, 10, 11, 12, 13] [] rfl rfl (by decide) (by decide) (fun r_1 u H locs h hP hD hK2 hS => ?_)
              obtain ⟨mln_1, mli_1⟩ := u
              try dsimp only at h
              have hP : va_P (dC, dI) vwCl (wd_X4 qM aM0 aM1 aM2 aM3 aM4 aM5 aM6 aM7 aM8 aM9 aM10 aM11 aM12 kM0 kM1 kM2 kM3 kM4 kM5 kM6 kM7 kM8 kM9 kM10 kM11 kM12 mrw mly mln_1 sf mwh mcl mtr mfo mki mro mlf mli_1 msw_1 msa_1 msc_1 msl_1 mff mlt mgr mxx msu) H := hP
              have hD : va_D A (wd_X4 qM aM0 aM1 aM2 aM3 aM4 aM5 aM6 aM7 aM8 aM9 aM10 aM11 aM12 kM0 kM1 kM2 kM3 kM4 kM5 kM6 kM7 kM8 kM9 kM10 kM11 kM12 mrw mly mln_1 sf mwh mcl mtr mfo mki mro mlf mli_1 msw_1 msa_1 msc_1 msl_1 mff mlt mgr mxx msu) := hD
              exact hret _ _ _ _ r_1 (mln_1, sf, mli_1, msw_1, msa_1, msc_1, msl_1) dX4_split_100 h hP hD hK hS
            · have h := h.2 hcd
              refine lv_iconst (v := xw_i (-1)) hx hb dX4_split_37 (by decide) ?_
              exact hret _ _ _ _ (-1) (mln, msp, mli, msw, msa, msc, msl) dX4_split_38 h hP hD hK hS
set_option maxHeartbeats 4000000 in
set_option maxRecDepth 100000 in
theorem c_X4_close (l : Launch) (dC : Nat → ClassId) (dI : Nat → Nat → Nat) (qM aM0 aM1 aM2 aM3 aM4 aM5 aM6 aM7 aM8 aM9 aM10 aM11 aM12 : Nat) (kM0 kM1 kM2 kM3 kM4 kM5 kM6 kM7 kM8 kM9 kM10 kM11 kM12 : ClassId) (sz : Nat) (mrw : Int) (mly : Int) (mln : Int) (msp : Int) (mwh : Int) (mcl : Int) (mtr : Int) (mfo : Int) (mki : Nat → Int) (mro : Nat → Int) (mlf : Nat → Int) (mli : Nat → Int) (msw : Nat → Int) (msa : Nat → Int) (msc : Nat → Int) (msl : Nat → Int) (mff : Nat → Int) (mlt : Nat → Int) (mgr : Nat → Int) (mxx : Nat → Int) (msu : Nat → Int) (p1 : Int) (post : Int → Int → Int → Int → Int → (Nat → Int) → (Nat → Int) → Prop) (h : wp_X4_close post mrw mly mln msp mwh mcl mtr mfo mki mro mlf mli msw msa msc msl mff mlt mgr mxx msu p1) : Met l yX4_close wsX4_close ({ frames := 2, cells := 0, slots := 0, locals := 56 }) (va_Pc [.ref qM, .int (xw_i p1)] (xw_Pre (dC, dI) vwCl (wd_X4 qM aM0 aM1 aM2 aM3 aM4 aM5 aM6 aM7 aM8 aM9 aM10 aM11 aM12 kM0 kM1 kM2 kM3 kM4 kM5 kM6 kM7 kM8 kM9 kM10 kM11 kM12 mrw mly mln msp mwh mcl mtr mfo mki mro mlf mli msw msa msc msl mff mlt mgr mxx msu) [(kM0, .int), (kM1, .int), (kM2, .int), (kM3, .long), (kM4, .int), (kM5, .int), (kM6, .int), (kM7, .int), (kM8, .int), (kM9, .int), (kM10, .int), (kM11, .int), (kM12, .int)] sz)) (va_Qi (xw_pi (fun v (u : Int × Int × Int × Int × (Nat → Int) × (Nat → Int)) => post v u.1 u.2.1 u.2.2.1 u.2.2.2.1 u.2.2.2.2.1 u.2.2.2.2.2)) (xw_B (dC, dI) vwCl (fun (_ : Int × Int × Int × Int × (Nat → Int) × (Nat → Int)) => [(kM0, .int), (kM1, .int), (kM2, .int), (kM3, .long), (kM4, .int), (kM5, .int), (kM6, .int), (kM7, .int), (kM8, .int), (kM9, .int), (kM10, .int), (kM11, .int), (kM12, .int)]) (va_A (wd_X4 qM aM0 aM1 aM2 aM3 aM4 aM5 aM6 aM7 aM8 aM9 aM10 aM11 aM12 kM0 kM1 kM2 kM3 kM4 kM5 kM6 kM7 kM8 kM9 kM10 kM11 kM12 mrw mly mln msp mwh mcl mtr mfo mki mro mlf mli msw msa msc msl mff mlt mgr mxx msu) sz) (fun (u : Int × Int × Int × Int × (Nat → Int) × (Nat → Int)) => (wd_X4 qM aM0 aM1 aM2 aM3 aM4 aM5 aM6 aM7 aM8 aM9 aM10 aM11 aM12 kM0 kM1 kM2 kM3 kM4 kM5 kM6 kM7 kM8 kM9 kM10 kM11 kM12 mrw mly u.1 u.2.1 u.2.2.1 u.2.2.2.1 mtr mfo mki mro mlf u.2.2.2.2.1 msw msa u.2.2.2.2.2 msl mff mlt mgr mxx msu))) (va_A (wd_X4 qM aM0 aM1 aM2 aM3 aM4 aM5 aM6 aM7 aM8 aM9 aM10 aM11 aM12 kM0 kM1 kM2 kM3 kM4 kM5 kM6 kM7 kM8 kM9 kM10 kM11 kM12 mrw mly mln msp mwh mcl mtr mfo mki mro mlf mli msw msa msc msl mff mlt mgr mxx msu) sz)) 0 0 (va_A (wd_X4 qM aM0 aM1 aM2 aM3 aM4 aM5 aM6 aM7 aM8 aM9 aM10 aM11 aM12 kM0 kM1 kM2 kM3 kM4 kM5 kM6 kM7 kM8 kM9 kM10 kM11 kM12 mrw mly mln msp mwh mcl mtr mfo mki mro mlf mli msw msa msc msl mff mlt mgr mxx msu) sz) := by
  refine xw_ofI (cc := cX4_close) (maxL := 4) (by decide +kernel) rfl (Nat.le_of_ble_eq_true rfl) ?_
  intro p e s m args below meth c hx hb hml hown hts A hA hP hD hK Q hret ls hl hS
  have hl : lv_has ls 4 [(0, .ref qM), (1, .int (xw_i p1))] := hl
  have hwsX40 : ∀ w ∈ wsX40, w ∈ wsX4_close := fun _ h => List.mem_cons_of_mem _ (List.mem_append_right _ h)
  unfold wp_X4_close at h
  refine lv_aload_n hx hb dX4_close_0 rfl (lv_at hl 0 rfl) ?_
  refine va_get (D := (dC, dI)) (ci := 4) (v := .int (xw_i mwh)) (C := RX4) (T := TX4) (N := 21) hx hb hts hwsX40 hown hK hP 0 rfl rfl 12 (by decide) (hts (.fieldLink RX4 64 "BoxProverModel" "isWhole" "Z") (by decide +kernel)) (fun _ h9 => h9) rfl dX4_close_1 ?_
  obtain ⟨hr1, h⟩ := h
  refine xw_if_ne (tgt := 15) hx hb hr1 dX4_close_4 (by decide) (fun hcd => ?_) (fun hcd => ?_)
  · have h := h.2 hcd
    refine lv_iconst (v := xw_i (-1)) hx hb dX4_close_15 (by decide) ?_
    exact hret _ _ _ _ (-1) (mln, msp, mwh, mcl, mli, msc) dX4_close_16 h hP hD hK hS
  · have h := h.1 hcd
    refine lv_aload_n hx hb dX4_close_7 rfl (lv_at hl 0 rfl) ?_
    refine lv_iload_n hx hb dX4_close_8 rfl (lv_at hl 1 rfl) ?_
    refine xw_backi (wc := (wd_X4 qM aM0 aM1 aM2 aM3 aM4 aM5 aM6 aM7 aM8 aM9 aM10 aM11 aM12 kM0 kM1 kM2 kM3 kM4 kM5 kM6 kM7 kM8 kM9 kM10 kM11 kM12 mrw mly mln msp mwh mcl mtr mfo mki mro mlf mli msw msa msc msl mff mlt mgr mxx msu)) (wr := []) (va_runV (As := [.int (xw_i p1)]) (rest := []) ⟨hx, hb, hml, hown, hts⟩ (c_X4_isLine l dC dI qM aM0 aM1 aM2 aM3 aM4 aM5 aM6 aM7 aM8 aM9 aM10 aM11 aM12 kM0 kM1 kM2 kM3 kM4 kM5 kM6 kM7 kM8 kM9 kM10 kM11 kM12 s.heap.size mrw mly mln msp mwh mcl mtr mfo mki mro mlf mli msw msa msc msl mff mlt mgr mxx msu p1 _ h) (cwV 1 hts gX4_close_X4_isLine rfl rfl rfl (by decide +kernel) ⟨Nat.le_of_ble_eq_true rfl, Nat.le_of_ble_eq_true rfl⟩) (xw_preV (ci := 4) hK hP hD [0, 1, 2, 3, 4, 5, 6, 7, 8, 9, 10, 11, 12, 13] rfl rfl (by decide) [0, 1, 2, 3, 4, 5, 6, 7, 8, 9, 10, 11, 12] rfl rfl rfl) rfl rfl hl.1 rfl (lv_room (Nat.le_of_ble_eq_true rfl)) dX4_close_9 ⟨Nat.le_of_ble_eq_true rfl, Nat.le_of_ble_eq_true rfl⟩) hK hP hD hS hA [0, 1, 2, 3, 4, 5, 6, 7, 8, 9, 10, 11, 12, 13] [] rfl rfl (by decide) (by decide) (fun r u H locs h hP hD hK2 hS => ?_)
    try dsimp only at h
    have hP : va_P (dC, dI) vwCl (wd_X4 qM aM0 aM1 aM2 aM3 aM4 aM5 aM6 aM7 aM8 aM9 aM10 aM11 aM12 kM0 kM1 kM2 kM3 kM4 kM5 kM6 kM7 kM8 kM9 kM10 kM11 kM12 mrw mly mln msp mwh mcl mtr mfo mki mro mlf mli msw msa msc msl mff mlt mgr mxx msu) H := hP
    have hD : va_D A (wd_X4 qM aM0 aM1 aM2 aM3 aM4 aM5 aM6 aM7 aM8 aM9 aM10 aM11 aM12 kM0 kM1 kM2 kM3 kM4 kM5 kM6 kM7 kM8 kM9 kM10 kM11 kM12 mrw mly mln msp mwh mcl mtr mfo mki mro mlf mli msw msa msc msl mff mlt mgr mxx msu) := hD
    obtain ⟨hr2, h⟩ := h
    refine xw_if_ne (tgt := 17) hx hb hr2 dX4_close_12 (by decide) (fun hcd => ?_) (fun hcd => ?_)
    · have h := h.2 hcd
      refine lv_iconst (v := xw_i 5) hx hb dX4_close_17 (by decide) ?_
      refine lv_iload_n hx hb dX4_close_18 rfl (lv_at hl 1 rfl) ?_
      refine xw_imul hx hb dX4_close_19 ?_
      refine xw_topi (fun x2 ex2 => ?_)
      have h := h x2 ex2
      refine lv_istore_n (lv' := [(2, .int (xw_i x2)), (0, .ref qM), (1, .int (xw_i p1))]) hx hb dX4_close_20 rfl hl (by decide) rfl (fun ls hl => ?_)
      refine lv_aload_n hx hb dX4_close_21 rfl (lv_at hl 1 rfl) ?_
      refine va_get (D := (dC, dI)) (ci := 4) (v := .ref aM3) (C := RX4) (T := TX4) (N := 21) hx hb hts hwsX40 hown hK hP 0 rfl rfl 6 (by decide) (hts (.fieldLink RX4 19 "BoxProverModel" "line" "[J") (by decide +kernel)) (fun _ h9 => h9) rfl dX4_close_22 ?_
      refine lv_iload_n hx hb dX4_close_25 rfl (lv_at hl 0 rfl) ?_
      obtain ⟨hin, h⟩ := h
      refine xw_lald (n := 1000) hx hb hK hP 4 3 rfl rfl (by decide) hin dX4_close_26 ?_
      refine lv_lconst (v := xw_j 0) hx hb dX4_close_27 (by decide) ?_
      refine W.lcmp hx hb dX4_close_28 ?_
      obtain ⟨hr3, h⟩ := h
      refine xw_lif_ne (tgt := 84) hx hb ⟨hr3, ⟨by decide, by decide⟩⟩ dX4_close_29 (by decide) (fun hcd => ?_) (fun hcd => ?_)
      · have h := h.2 hcd
        refine lv_iconst (v := xw_i (-1)) hx hb dX4_close_84 (by decide) ?_
        exact hret _ _ _ _ (-1) (mln, msp, mwh, mcl, mli, msc) dX4_close_85 h hP hD hK hS
      · have h := h.1 hcd
        refine lv_aload_n hx hb dX4_close_32 rfl (lv_at hl 1 rfl) ?_
        refine va_get (D := (dC, dI)) (ci := 4) (v := .ref aM3) (C := RX4) (T := TX4) (N := 21) hx hb hts hwsX40 hown hK hP 0 rfl rfl 6 (by decide) (hts (.fieldLink RX4 19 "BoxProverModel" "line" "[J") (by decide +kernel)) (fun _ h9 => h9) rfl dX4_close_33 ?_
        refine lv_iload_n hx hb dX4_close_36 rfl (lv_at hl 0 rfl) ?_
        refine lv_iconst (v := xw_i 1) hx hb dX4_close_37 (by decide) ?_
        refine xw_iadd hx hb dX4_close_38 ?_
        obtain ⟨hin, h⟩ := h
        refine xw_lald (n := 1000) hx hb hK hP 4 3 rfl rfl (by decide) hin dX4_close_39 ?_
        refine lv_lconst (v := xw_j 0) hx hb dX4_close_40 (by decide) ?_
        refine W.lcmp hx hb dX4_close_41 ?_
        obtain ⟨hr4, h⟩ := h
        refine xw_lif_ne (tgt := 84) hx hb ⟨hr4, ⟨by decide, by decide⟩⟩ dX4_close_42 (by decide) (fun hcd => ?_) (fun hcd => ?_)
        · have h := h.2 hcd
          refine lv_iconst (v := xw_i (-1)) hx hb dX4_close_84 (by decide) ?_
          exact hret _ _ _ _ (-1) (mln, msp, mwh, mcl, mli, msc) dX4_close_85 h hP hD hK hS
        · have h := h.1 hcd
          refine lv_aload_n hx hb dX4_close_45 rfl (lv_at hl 1 rfl) ?_
          refine va_get (D := (dC, dI)) (ci := 4) (v := .ref aM3) (C := RX4) (T := TX4) (N := 21) hx hb hts hwsX40 hown hK hP 0 rfl rfl 6 (by decide) (hts (.fieldLink RX4 19 "BoxProverModel" "line" "[J") (by decide +kernel)) (fun _ h9 => h9) rfl dX4_close_46 ?_
          refine lv_iload_n hx hb dX4_close_49 rfl (lv_at hl 0 rfl) ?_
          refine lv_iconst (v := xw_i 2) hx hb dX4_close_50 (by decide) ?_
          refine xw_iadd hx hb dX4_close_51 ?_
          obtain ⟨hin, h⟩ := h
          refine xw_lald (n := 1000) hx hb hK hP 4 3 rfl rfl (by decide) hin dX4_close_52 ?_
          refine lv_lconst (v := xw_j 0) hx hb dX4_close_53 (by decide) ?_
          refine W.lcmp hx hb dX4_close_54 ?_
          obtain ⟨hr5, h⟩ := h
          refine xw_lif_ne (tgt := 84) hx hb ⟨hr5, ⟨by decide, by decide⟩⟩ dX4_close_55 (by decide) (fun hcd => ?_) (fun hcd => ?_)
          · have h := h.2 hcd
            refine lv_iconst (v := xw_i (-1)) hx hb dX4_close_84 (by decide) ?_
            exact hret _ _ _ _ (-1) (mln, msp, mwh, mcl, mli, msc) dX4_close_85 h hP hD hK hS
          · have h := h.1 hcd
            refine lv_aload_n hx hb dX4_close_58 rfl (lv_at hl 1 rfl) ?_
            refine va_get (D := (dC, dI)) (ci := 4) (v := .ref aM3) (C := RX4) (T := TX4) (N := 21) hx hb hts hwsX40 hown hK hP 0 rfl rfl 6 (by decide) (hts (.fieldLink RX4 19 "BoxProverModel" "line" "[J") (by decide +kernel)) (fun _ h9 => h9) rfl dX4_close_59 ?_
            refine lv_iload_n hx hb dX4_close_62 rfl (lv_at hl 0 rfl) ?_
            refine lv_iconst (v := xw_i 3) hx hb dX4_close_63 (by decide) ?_
            refine xw_iadd hx hb dX4_close_64 ?_
            obtain ⟨hin, h⟩ := h
            refine xw_lald (n := 1000) hx hb hK hP 4 3 rfl rfl (by decide) hin dX4_close_65 ?_
            refine lv_lconst (v := xw_j 0) hx hb dX4_close_66 (by decide) ?_
            refine W.lcmp hx hb dX4_close_67 ?_
            obtain ⟨hr6, h⟩ := h
            refine xw_lif_ne (tgt := 84) hx hb ⟨hr6, ⟨by decide, by decide⟩⟩ dX4_close_68 (by decide) (fun hcd => ?_) (fun hcd => ?_)
            · have h := h.2 hcd
              refine lv_iconst (v := xw_i (-1)) hx hb dX4_close_84 (by decide) ?_
              exact hret _ _ _ _ (-1) (mln, msp, mwh, mcl, mli, msc) dX4_close_85 h hP hD hK hS
            · have h := h.1 hcd
              refine lv_aload_n hx hb dX4_close_71 rfl (lv_at hl 1 rfl) ?_
              refine va_get (D := (dC, dI)) (ci := 4) (v := .ref aM3) (C := RX4) (T := TX4) (N := 21) hx hb hts hwsX40 hown hK hP 0 rfl rfl 6 (by decide) (hts (.fieldLink RX4 19 "BoxProverModel" "line" "[J") (by decide +kernel)) (fun _ h9 => h9) rfl dX4_close_72 ?_
              refine lv_iload_n hx hb dX4_close_75 rfl (lv_at hl 0 rfl) ?_
              refine lv_iconst (v := xw_i 4) hx hb dX4_close_76 (by decide) ?_
              refine xw_iadd hx hb dX4_close_77 ?_
              obtain ⟨hin, h⟩ := h
              refine xw_lald (n := 1000) hx hb hK hP 4 3 rfl rfl (by decide) hin dX4_close_78 ?_
              refine lv_lconst (v := xw_j 0) hx hb dX4_close_79 (by decide) ?_
              refine W.lcmp hx hb dX4_close_80 ?_
              obtain ⟨hr7, h⟩ := h
              refine xw_lif_lt (tgt := 86) hx hb ⟨hr7, ⟨by decide, by decide⟩⟩ dX4_close_81 (by decide) (fun hcd => ?_) (fun hcd => ?_)
              · have h := h.1 hcd
                refine lv_aload_n hx hb dX4_close_86 rfl (lv_at hl 1 rfl) ?_
                refine lv_dup hx hb dX4_close_87 rfl ?_
                refine va_get (D := (dC, dI)) (ci := 4) (v := .int (xw_i mcl)) (C := RX4) (T := TX4) (N := 21) hx hb hts hwsX40 hown hK hP 0 rfl rfl 13 (by decide) (hts (.fieldLink RX4 67 "BoxProverModel" "closings" "I") (by decide +kernel)) (fun _ h9 => h9) rfl dX4_close_88 ?_
                refine lv_iconst (v := xw_i 1) hx hb dX4_close_91 (by decide) ?_
                refine xw_iadd hx hb dX4_close_92 ?_
                refine xw_topi (fun cf ecf => ?_)
                have h := h cf ecf
                refine va_put (D := (dC, dI)) (ci := 4) (v := .int (xw_i cf)) (ty := .int) (C := RX4) (T := TX4) (N := 21) hx hb hts hwsX40 tyX4 tyX4_ok nmX4 hown hK hP hD hS 0 rfl rfl 13 (by decide) (hts (.fieldLink RX4 67 "BoxProverModel" "closings" "I") (by decide +kernel)) (fun _ h9 => h9) rfl (by decide +kernel) rfl rfl (Nat.le_of_ble_eq_true rfl) dX4_close_93 (fun H locs hP hD hS => ?_)
                have hP : va_P (dC, dI) vwCl (wd_X4 qM aM0 aM1 aM2 aM3 aM4 aM5 aM6 aM7 aM8 aM9 aM10 aM11 aM12 kM0 kM1 kM2 kM3 kM4 kM5 kM6 kM7 kM8 kM9 kM10 kM11 kM12 mrw mly mln msp mwh cf mtr mfo mki mro mlf mli msw msa msc msl mff mlt mgr mxx msu) H := hP
                have hD : va_D A (wd_X4 qM aM0 aM1 aM2 aM3 aM4 aM5 aM6 aM7 aM8 aM9 aM10 aM11 aM12 kM0 kM1 kM2 kM3 kM4 kM5 kM6 kM7 kM8 kM9 kM10 kM11 kM12 mrw mly mln msp mwh cf mtr mfo mki mro mlf mli msw msa msc msl mff mlt mgr mxx msu) := hD
                have k_96 : ∀ (n_96 : Nat) (mln_1 : Int) (msp_1 : Int) (mwh_1 : Int) (mcl_1 : Int) (mli_1 : Nat → Int) (msc_1 : Nat → Int) (H : Heap) (locs : List Loc) (ls : Array Slot), wp_X4_close_96 mrw mly mtr mfo mki mro mlf msw msa msl mff mlt mgr mxx msu post n_96 mln_1 msp_1 mwh_1 mcl_1 mli_1 msc_1 → va_P (dC, dI) vwCl (wd_X4 qM aM0 aM1 aM2 aM3 aM4 aM5 aM6 aM7 aM8 aM9 aM10 aM11 aM12 kM0 kM1 kM2 kM3 kM4 kM5 kM6 kM7 kM8 kM9 kM10 kM11 kM12 mrw mly mln_1 msp_1 mwh_1 mcl_1 mtr mfo mki mro mlf mli_1 msw msa msc_1 msl mff mlt mgr mxx msu) H → va_D A (wd_X4 qM aM0 aM1 aM2 aM3 aM4 aM5 aM6 aM7 aM8 aM9 aM10 aM11 aM12 kM0 kM1 kM2 kM3 kM4 kM5 kM6 kM7 kM8 kM9 kM10 kM11 kM12 mrw mly mln_1 msp_1 mwh_1 mcl_1 mtr mfo mki mro mlf mli_1 msw msa msc_1 msl mff mlt mgr mxx msu) → va_S A s.heap H locs → lv_has ls 4 [(0, .ref qM)] → W p l e ({ frames := 2, cells := 0, slots := 0, locals := 56 } : Room) s m args below meth c H locs 0 0 Q (F0 m 96 ls []) := by
                  intro n_96
                  induction n_96 with
                  | zero => intro mln_1 msp_1 mwh_1 mcl_1 mli_1 msc_1 H locs ls h; exact False.elim h
                  | succ n_96 ih_96 =>
                    intro mln_1 msp_1 mwh_1 mcl_1 mli_1 msc_1 H locs ls h hP hD hS hl
                    have h : wl_X4_close_96 mrw mly mtr mfo mki mro mlf msw msa msl mff mlt mgr mxx msu post (wp_X4_close_96 mrw mly mtr mfo mki mro mlf msw msa msl mff mlt mgr mxx msu post n_96) mln_1 msp_1 mwh_1 mcl_1 mli_1 msc_1 := h
                    unfold wl_X4_close_96 at h
                    refine lv_aload_n hx hb dX4_close_96 rfl (lv_at hl 0 rfl) ?_
                    refine va_get (D := (dC, dI)) (ci := 4) (v := .int (xw_i msp_1)) (C := RX4) (T := TX4) (N := 21) hx hb hts hwsX40 hown hK hP 0 rfl rfl 7 (by decide) (hts (.fieldLink RX4 61 "BoxProverModel" "splits" "I") (by decide +kernel)) (fun _ h9 => h9) rfl dX4_close_97 ?_
                    have k_144 : ∀ (mln_2 : Int) (msp_2 : Int) (mwh_2 : Int) (mcl_2 : Int) (mli_2 : Nat → Int) (msc_2 : Nat → Int) (H : Heap) (locs : List Loc) (ls : Array Slot), wp_X4_close_144 mrw mly mtr mfo mki mro mlf msw msa msl mff mlt mgr mxx msu post mln_2 msp_2 mwh_2 mcl_2 mli_2 msc_2 → va_P (dC, dI) vwCl (wd_X4 qM aM0 aM1 aM2 aM3 aM4 aM5 aM6 aM7 aM8 aM9 aM10 aM11 aM12 kM0 kM1 kM2 kM3 kM4 kM5 kM6 kM7 kM8 kM9 kM10 kM11 kM12 mrw mly mln_2 msp_2 mwh_2 mcl_2 mtr mfo mki mro mlf mli_2 msw msa msc_2 msl mff mlt mgr mxx msu) H → va_D A (wd_X4 qM aM0 aM1 aM2 aM3 aM4 aM5 aM6 aM7 aM8 aM9 aM10 aM11 aM12 kM0 kM1 kM2 kM3 kM4 kM5 kM6 kM7 kM8 kM9 kM10 kM11 kM12 mrw mly mln_2 msp_2 mwh_2 mcl_2 mtr mfo mki mro mlf mli_2 msw msa msc_2 msl mff mlt mgr mxx msu) → va_S A s.heap H locs → lv_has ls 4 [(0, .ref qM)] → W p l e ({ frames := 2, cells := 0, slots := 0, locals := 56 } : Room) s m args below meth c H locs 0 0 Q (F0 m 144 ls []) := by
                      intro mln_2 msp_2 mwh_2 mcl_2 mli_2 msc_2 H locs ls h hP hD hS hl
                      unfold wp_X4_close_144 at h
                      refine lv_aload_n hx hb dX4_close_144 rfl (lv_at hl 0 rfl) ?_
                      refine va_get (D := (dC, dI)) (ci := 4) (v := .int (xw_i msp_2)) (C := RX4) (T := TX4) (N := 21) hx hb hts hwsX40 hown hK hP 0 rfl rfl 7 (by decide) (hts (.fieldLink RX4 61 "BoxProverModel" "splits" "I") (by decide +kernel)) (fun _ h9 => h9) rfl dX4_close_145 ?_
                      obtain ⟨hr8, h⟩ := h
                      refine xw_if_ne (tgt := 159) hx hb hr8 dX4_close_148 (by decide) (fun hcd => ?_) (fun hcd => ?_)
                      · have h := h.2 hcd
                        refine lv_aload_n hx hb dX4_close_159 rfl (lv_at hl 0 rfl) ?_
                        refine va_get (D := (dC, dI)) (ci := 4) (v := .int (xw_i msp_2)) (C := RX4) (T := TX4) (N := 21) hx hb hts hwsX40 hown hK hP 0 rfl rfl 7 (by decide) (hts (.fieldLink RX4 61 "BoxProverModel" "splits" "I") (by decide +kernel)) (fun _ h9 => h9) rfl dX4_close_160 ?_
                        refine lv_iconst (v := xw_i 1) hx hb dX4_close_163 (by decide) ?_
                        refine xw_isub hx hb dX4_close_164 ?_
                        refine xw_topi (fun x3 ex3 => ?_)
                        have h := h x3 ex3
                        refine lv_istore_n (lv' := [(3, .int (xw_i x3)), (0, .ref qM)]) hx hb dX4_close_165 rfl hl (by decide) rfl (fun ls hl => ?_)
                        refine lv_aload_n hx hb dX4_close_166 rfl (lv_at hl 1 rfl) ?_
                        refine lv_aload_n hx hb dX4_close_167 rfl (lv_at hl 1 rfl) ?_
                        refine va_get (D := (dC, dI)) (ci := 4) (v := .ref aM7) (C := RX4) (T := TX4) (N := 21) hx hb hts hwsX40 hown hK hP 0 rfl rfl 11 (by decide) (hts (.fieldLink RX4 32 "BoxProverModel" "splitLines" "[I") (by decide +kernel)) (fun _ h9 => h9) rfl dX4_close_168 ?_
                        refine lv_iload_n hx hb dX4_close_171 rfl (lv_at hl 0 rfl) ?_
                        obtain ⟨hin, h⟩ := h
                        refine xw_iald (n := 10) hx hb hK hP 8 7 rfl rfl (by decide) hin dX4_close_172 ?_
                        refine xw_topi (fun lf elf => ?_)
                        have h := h lf elf
                        refine va_put (D := (dC, dI)) (ci := 4) (v := .int (xw_i lf)) (ty := .int) (C := RX4) (T := TX4) (N := 21) hx hb hts hwsX40 tyX4 tyX4_ok nmX4 hown hK hP hD hS 0 rfl rfl 5 (by decide) (hts (.fieldLink RX4 58 "BoxProverModel" "lines" "I") (by decide +kernel)) (fun _ h9 => h9) rfl (by decide +kernel) rfl rfl (Nat.le_of_ble_eq_true rfl) dX4_close_173 (fun H locs hP hD hS => ?_)
                        have hP : va_P (dC, dI) vwCl (wd_X4 qM aM0 aM1 aM2 aM3 aM4 aM5 aM6 aM7 aM8 aM9 aM10 aM11 aM12 kM0 kM1 kM2 kM3 kM4 kM5 kM6 kM7 kM8 kM9 kM10 kM11 kM12 mrw mly lf msp_2 mwh_2 mcl_2 mtr mfo mki mro mlf mli_2 msw msa msc_2 msl mff mlt mgr mxx msu) H := hP
                        have hD : va_D A (wd_X4 qM aM0 aM1 aM2 aM3 aM4 aM5 aM6 aM7 aM8 aM9 aM10 aM11 aM12 kM0 kM1 kM2 kM3 kM4 kM5 kM6 kM7 kM8 kM9 kM10 kM11 kM12 mrw mly lf msp_2 mwh_2 mcl_2 mtr mfo mki mro mlf mli_2 msw msa msc_2 msl mff mlt mgr mxx msu) := hD
                        refine lv_aload_n hx hb dX4_close_176 rfl (lv_at hl 1 rfl) ?_
                        refine va_get (D := (dC, dI)) (ci := 4) (v := .ref aM6) (C := RX4) (T := TX4) (N := 21) hx hb hts hwsX40 hown hK hP 0 rfl rfl 10 (by decide) (hts (.fieldLink RX4 29 "BoxProverModel" "splitCase" "[I") (by decide +kernel)) (fun _ h9 => h9) rfl dX4_close_177 ?_
                        refine lv_iload_n hx hb dX4_close_180 rfl (lv_at hl 0 rfl) ?_
                        refine lv_iconst (v := xw_i 2) hx hb dX4_close_181 (by decide) ?_
                        obtain ⟨hin, h⟩ := h
                        obtain ⟨msc_3, emsc_3⟩ : ∃ z : Nat → Int, z = xw_u msc_2 x3 2 := ⟨_, rfl⟩
                        have h := h msc_3 emsc_3
                        refine xw_iast (n := 10) hx hb hK hP hD hS 7 6 rfl rfl (by decide) hin emsc_3 dX4_close_182 (fun H locs hP hD hS => ?_)
                        have hP : va_P (dC, dI) vwCl (wd_X4 qM aM0 aM1 aM2 aM3 aM4 aM5 aM6 aM7 aM8 aM9 aM10 aM11 aM12 kM0 kM1 kM2 kM3 kM4 kM5 kM6 kM7 kM8 kM9 kM10 kM11 kM12 mrw mly lf msp_2 mwh_2 mcl_2 mtr mfo mki mro mlf mli_2 msw msa msc_3 msl mff mlt mgr mxx msu) H := hP
                        have hD : va_D A (wd_X4 qM aM0 aM1 aM2 aM3 aM4 aM5 aM6 aM7 aM8 aM9 aM10 aM11 aM12 kM0 kM1 kM2 kM3 kM4 kM5 kM6 kM7 kM8 kM9 kM10 kM11 kM12 mrw mly lf msp_2 mwh_2 mcl_2 mtr mfo mki mro mlf mli_2 msw msa msc_3 msl mff mlt mgr mxx msu) := hD
                        refine lv_aload_n hx hb dX4_close_183 rfl (lv_at hl 1 rfl) ?_
                        refine lv_aload_n hx hb dX4_close_184 rfl (lv_at hl 1 rfl) ?_
                        refine va_get (D := (dC, dI)) (ci := 4) (v := .ref aM4) (C := RX4) (T := TX4) (N := 21) hx hb hts hwsX40 hown hK hP 0 rfl rfl 8 (by decide) (hts (.fieldLink RX4 23 "BoxProverModel" "splitWord" "[I") (by decide +kernel)) (fun _ h9 => h9) rfl dX4_close_185 ?_
                        refine lv_iload_n hx hb dX4_close_188 rfl (lv_at hl 0 rfl) ?_
                        obtain ⟨hin, h⟩ := h
                        refine xw_iald (n := 10) hx hb hK hP 5 4 rfl rfl (by decide) hin dX4_close_189 ?_
                        refine lv_ldc2 (v := xw_j (-1)) hx hb hown (hts (.constantLong RX4 109 (xw_j (-1))) (by decide +kernel)) dX4_close_190 ?_
                        refine lv_aload_n hx hb dX4_close_193 rfl (lv_at hl 1 rfl) ?_
                        refine va_get (D := (dC, dI)) (ci := 4) (v := .ref aM5) (C := RX4) (T := TX4) (N := 21) hx hb hts hwsX40 hown hK hP 0 rfl rfl 9 (by decide) (hts (.fieldLink RX4 26 "BoxProverModel" "splitAt" "[I") (by decide +kernel)) (fun _ h9 => h9) rfl dX4_close_194 ?_
                        refine lv_iload_n hx hb dX4_close_197 rfl (lv_at hl 0 rfl) ?_
                        obtain ⟨hin, h⟩ := h
                        refine xw_iald (n := 10) hx hb hK hP 6 5 rfl rfl (by decide) hin dX4_close_198 ?_
                        refine xw_ineg hx hb dX4_close_199 ?_
                        obtain ⟨hr9, h⟩ := h
                        refine xw_i2l hx hb hr9 dX4_close_200 ?_
                        refine lv_lconst (v := xw_j 1) hx hb dX4_close_201 (by decide) ?_
                        refine xw_lsub hx hb dX4_close_202 ?_
                        refine xw_backi (wc := (wd_X4 qM aM0 aM1 aM2 aM3 aM4 aM5 aM6 aM7 aM8 aM9 aM10 aM11 aM12 kM0 kM1 kM2 kM3 kM4 kM5 kM6 kM7 kM8 kM9 kM10 kM11 kM12 mrw mly lf msp_2 mwh_2 mcl_2 mtr mfo mki mro mlf mli_2 msw msa msc_3 msl mff mlt mgr mxx msu)) (wr := []) (va_runV (As := [.int (xw_i (msw x3.toNat)), .long (xw_j (-1)), .long (xw_j ((-(msa x3.toNat)) - 1))]) (rest := []) ⟨hx, hb, hml, hown, hts⟩ (c_X4_putWord l dC dI qM aM0 aM1 aM2 aM3 aM4 aM5 aM6 aM7 aM8 aM9 aM10 aM11 aM12 kM0 kM1 kM2 kM3 kM4 kM5 kM6 kM7 kM8 kM9 kM10 kM11 kM12 H.size mrw mly lf msp_2 mwh_2 mcl_2 mtr mfo mki mro mlf mli_2 msw msa msc_3 msl mff mlt mgr mxx msu (msw x3.toNat) (-1) ((-(msa x3.toNat)) - 1) _ h) (cwV 3 hts gX4_close_X4_putWord rfl rfl rfl (by decide +kernel) ⟨Nat.le_of_ble_eq_true rfl, Nat.le_of_ble_eq_true rfl⟩) (xw_preV (ci := 4) hK hP hD [0, 1, 2, 3, 4, 5, 6, 7, 8, 9, 10, 11, 12, 13] rfl rfl (by decide) [0, 1, 2, 3, 4, 5, 6, 7, 8, 9, 10, 11, 12] rfl rfl rfl) rfl rfl hl.1 rfl (lv_room (Nat.le_of_ble_eq_true rfl)) dX4_close_203 ⟨Nat.le_of_ble_eq_true rfl, Nat.le_of_ble_eq_true rfl⟩) hK hP hD hS hA [0, 1, 2, 3, 4, 5, 6, 7, 8, 9, 10, 11, 12, 13] [] rfl rfl (by decide) (by decide) (fun r_1 u H locs h hP hD hK2 hS => ?_)
                        obtain ⟨lf_1, mli_3⟩ := u
                        try dsimp only at h
                        have hP : va_P (dC, dI) vwCl (wd_X4 qM aM0 aM1 aM2 aM3 aM4 aM5 aM6 aM7 aM8 aM9 aM10 aM11 aM12 kM0 kM1 kM2 kM3 kM4 kM5 kM6 kM7 kM8 kM9 kM10 kM11 kM12 mrw mly lf_1 msp_2 mwh_2 mcl_2 mtr mfo mki mro mlf mli_3 msw msa msc_3 msl mff mlt mgr mxx msu) H := hP
                        have hD : va_D A (wd_X4 qM aM0 aM1 aM2 aM3 aM4 aM5 aM6 aM7 aM8 aM9 aM10 aM11 aM12 kM0 kM1 kM2 kM3 kM4 kM5 kM6 kM7 kM8 kM9 kM10 kM11 kM12 mrw mly lf_1 msp_2 mwh_2 mcl_2 mtr mfo mki mro mlf mli_3 msw msa msc_3 msl mff mlt mgr mxx msu) := hD
                        refine lv_pop hx hb dX4_close_206 rfl ?_
                        refine lv_aload_n hx hb dX4_close_207 rfl (lv_at hl 1 rfl) ?_
                        refine va_get (D := (dC, dI)) (ci := 4) (v := .int (xw_i msp_2)) (C := RX4) (T := TX4) (N := 21) hx hb hts hwsX40 hown hK hP 0 rfl rfl 7 (by decide) (hts (.fieldLink RX4 61 "BoxProverModel" "splits" "I") (by decide +kernel)) (fun _ h9 => h9) rfl dX4_close_208 ?_
                        exact hret _ _ _ _ msp_2 (lf_1, msp_2, mwh_2, mcl_2, mli_3, msc_3) dX4_close_211 h hP hD hK hS
                      · have h := h.1 hcd
                        refine lv_aload_n hx hb dX4_close_151 rfl (lv_at hl 0 rfl) ?_
                        refine lv_iconst (v := xw_i 1) hx hb dX4_close_152 (by decide) ?_
                        refine va_put (D := (dC, dI)) (ci := 4) (v := .int (xw_i 1)) (ty := .boolean) (C := RX4) (T := TX4) (N := 21) hx hb hts hwsX40 tyX4 tyX4_ok nmX4 hown hK hP hD hS 0 rfl rfl 12 (by decide) (hts (.fieldLink RX4 64 "BoxProverModel" "isWhole" "Z") (by decide +kernel)) (fun _ h9 => h9) rfl (by decide +kernel) rfl rfl (Nat.le_of_ble_eq_true rfl) dX4_close_153 (fun H locs hP hD hS => ?_)
                        have hP : va_P (dC, dI) vwCl (wd_X4 qM aM0 aM1 aM2 aM3 aM4 aM5 aM6 aM7 aM8 aM9 aM10 aM11 aM12 kM0 kM1 kM2 kM3 kM4 kM5 kM6 kM7 kM8 kM9 kM10 kM11 kM12 mrw mly mln_2 msp_2 1 mcl_2 mtr mfo mki mro mlf mli_2 msw msa msc_2 msl mff mlt mgr mxx msu) H := hP
                        have hD : va_D A (wd_X4 qM aM0 aM1 aM2 aM3 aM4 aM5 aM6 aM7 aM8 aM9 aM10 aM11 aM12 kM0 kM1 kM2 kM3 kM4 kM5 kM6 kM7 kM8 kM9 kM10 kM11 kM12 mrw mly mln_2 msp_2 1 mcl_2 mtr mfo mki mro mlf mli_2 msw msa msc_2 msl mff mlt mgr mxx msu) := hD
                        refine lv_goto (tgt := 207) hx hb dX4_close_156 (by decide) ?_
                        refine lv_aload_n hx hb dX4_close_207 rfl (lv_at hl 0 rfl) ?_
                        refine va_get (D := (dC, dI)) (ci := 4) (v := .int (xw_i msp_2)) (C := RX4) (T := TX4) (N := 21) hx hb hts hwsX40 hown hK hP 0 rfl rfl 7 (by decide) (hts (.fieldLink RX4 61 "BoxProverModel" "splits" "I") (by decide +kernel)) (fun _ h9 => h9) rfl dX4_close_208 ?_
                        exact hret _ _ _ _ msp_2 (mln_2, msp_2, 1, mcl_2, mli_2, msc_2) dX4_close_211 h hP hD hK hS
                    obtain ⟨hr10, h⟩ := h
                    refine xw_if_le (tgt := 144) hx hb hr10 dX4_close_100 (by decide) (fun hcd => ?_) (fun hcd => ?_)
                    · have h := h.1 hcd
                      exact k_144 mln_1 msp_1 mwh_1 mcl_1 mli_1 msc_1 _ _ _ h hP hD hS (lv_sub hl [0] rfl)
                    · have h := h.2 hcd
                      refine lv_aload_n hx hb dX4_close_103 rfl (lv_at hl 0 rfl) ?_
                      refine va_get (D := (dC, dI)) (ci := 4) (v := .ref aM6) (C := RX4) (T := TX4) (N := 21) hx hb hts hwsX40 hown hK hP 0 rfl rfl 10 (by decide) (hts (.fieldLink RX4 29 "BoxProverModel" "splitCase" "[I") (by decide +kernel)) (fun _ h9 => h9) rfl dX4_close_104 ?_
                      refine lv_aload_n hx hb dX4_close_107 rfl (lv_at hl 0 rfl) ?_
                      refine va_get (D := (dC, dI)) (ci := 4) (v := .int (xw_i msp_1)) (C := RX4) (T := TX4) (N := 21) hx hb hts hwsX40 hown hK hP 0 rfl rfl 7 (by decide) (hts (.fieldLink RX4 61 "BoxProverModel" "splits" "I") (by decide +kernel)) (fun _ h9 => h9) rfl dX4_close_108 ?_
                      refine lv_iconst (v := xw_i 1) hx hb dX4_close_111 (by decide) ?_
                      refine xw_isub hx hb dX4_close_112 ?_
                      obtain ⟨hin, h⟩ := h
                      refine xw_iald (n := 10) hx hb hK hP 7 6 rfl rfl (by decide) hin dX4_close_113 ?_
                      refine lv_iconst (v := xw_i 2) hx hb dX4_close_114 (by decide) ?_
                      obtain ⟨hr11, h⟩ := h
                      refine xw_icmp_ne (tgt := 144) hx hb ⟨hr11, ⟨by decide, by decide⟩⟩ dX4_close_115 (by decide) (fun hcd => ?_) (fun hcd => ?_)
                      · have h := h.2 hcd
                        exact k_144 mln_1 msp_1 mwh_1 mcl_1 mli_1 msc_1 _ _ _ h hP hD hS (lv_sub hl [0] rfl)
                      · have h := h.1 hcd
                        refine lv_aload_n hx hb dX4_close_118 rfl (lv_at hl 0 rfl) ?_
                        refine lv_dup hx hb dX4_close_119 rfl ?_
                        refine va_get (D := (dC, dI)) (ci := 4) (v := .int (xw_i msp_1)) (C := RX4) (T := TX4) (N := 21) hx hb hts hwsX40 hown hK hP 0 rfl rfl 7 (by decide) (hts (.fieldLink RX4 61 "BoxProverModel" "splits" "I") (by decide +kernel)) (fun _ h9 => h9) rfl dX4_close_120 ?_
                        refine lv_iconst (v := xw_i 1) hx hb dX4_close_123 (by decide) ?_
                        refine xw_isub hx hb dX4_close_124 ?_
                        refine xw_topi (fun sf esf => ?_)
                        have h := h sf esf
                        refine va_put (D := (dC, dI)) (ci := 4) (v := .int (xw_i sf)) (ty := .int) (C := RX4) (T := TX4) (N := 21) hx hb hts hwsX40 tyX4 tyX4_ok nmX4 hown hK hP hD hS 0 rfl rfl 7 (by decide) (hts (.fieldLink RX4 61 "BoxProverModel" "splits" "I") (by decide +kernel)) (fun _ h9 => h9) rfl (by decide +kernel) rfl rfl (Nat.le_of_ble_eq_true rfl) dX4_close_125 (fun H locs hP hD hS => ?_)
                        have hP : va_P (dC, dI) vwCl (wd_X4 qM aM0 aM1 aM2 aM3 aM4 aM5 aM6 aM7 aM8 aM9 aM10 aM11 aM12 kM0 kM1 kM2 kM3 kM4 kM5 kM6 kM7 kM8 kM9 kM10 kM11 kM12 mrw mly mln_1 sf mwh_1 mcl_1 mtr mfo mki mro mlf mli_1 msw msa msc_1 msl mff mlt mgr mxx msu) H := hP
                        have hD : va_D A (wd_X4 qM aM0 aM1 aM2 aM3 aM4 aM5 aM6 aM7 aM8 aM9 aM10 aM11 aM12 kM0 kM1 kM2 kM3 kM4 kM5 kM6 kM7 kM8 kM9 kM10 kM11 kM12 mrw mly mln_1 sf mwh_1 mcl_1 mtr mfo mki mro mlf mli_1 msw msa msc_1 msl mff mlt mgr mxx msu) := hD
                        refine lv_aload_n hx hb dX4_close_128 rfl (lv_at hl 0 rfl) ?_
                        refine lv_aload_n hx hb dX4_close_129 rfl (lv_at hl 0 rfl) ?_
                        refine va_get (D := (dC, dI)) (ci := 4) (v := .ref aM7) (C := RX4) (T := TX4) (N := 21) hx hb hts hwsX40 hown hK hP 0 rfl rfl 11 (by decide) (hts (.fieldLink RX4 32 "BoxProverModel" "splitLines" "[I") (by decide +kernel)) (fun _ h9 => h9) rfl dX4_close_130 ?_
                        refine lv_aload_n hx hb dX4_close_133 rfl (lv_at hl 0 rfl) ?_
                        refine va_get (D := (dC, dI)) (ci := 4) (v := .int (xw_i sf)) (C := RX4) (T := TX4) (N := 21) hx hb hts hwsX40 hown hK hP 0 rfl rfl 7 (by decide) (hts (.fieldLink RX4 61 "BoxProverModel" "splits" "I") (by decide +kernel)) (fun _ h9 => h9) rfl dX4_close_134 ?_
                        obtain ⟨hin, h⟩ := h
                        refine xw_iald (n := 10) hx hb hK hP 8 7 rfl rfl (by decide) hin dX4_close_137 ?_
                        refine xw_topi (fun lf_2 elf_2 => ?_)
                        have h := h lf_2 elf_2
                        refine va_put (D := (dC, dI)) (ci := 4) (v := .int (xw_i lf_2)) (ty := .int) (C := RX4) (T := TX4) (N := 21) hx hb hts hwsX40 tyX4 tyX4_ok nmX4 hown hK hP hD hS 0 rfl rfl 5 (by decide) (hts (.fieldLink RX4 58 "BoxProverModel" "lines" "I") (by decide +kernel)) (fun _ h9 => h9) rfl (by decide +kernel) rfl rfl (Nat.le_of_ble_eq_true rfl) dX4_close_138 (fun H locs hP hD hS => ?_)
                        have hP : va_P (dC, dI) vwCl (wd_X4 qM aM0 aM1 aM2 aM3 aM4 aM5 aM6 aM7 aM8 aM9 aM10 aM11 aM12 kM0 kM1 kM2 kM3 kM4 kM5 kM6 kM7 kM8 kM9 kM10 kM11 kM12 mrw mly lf_2 sf mwh_1 mcl_1 mtr mfo mki mro mlf mli_1 msw msa msc_1 msl mff mlt mgr mxx msu) H := hP
                        have hD : va_D A (wd_X4 qM aM0 aM1 aM2 aM3 aM4 aM5 aM6 aM7 aM8 aM9 aM10 aM11 aM12 kM0 kM1 kM2 kM3 kM4 kM5 kM6 kM7 kM8 kM9 kM10 kM11 kM12 mrw mly lf_2 sf mwh_1 mcl_1 mtr mfo mki mro mlf mli_1 msw msa msc_1 msl mff mlt mgr mxx msu) := hD
                        refine lv_goto (tgt := 96) hx hb dX4_close_141 (by decide) ?_
                        exact ih_96 lf_2 sf mwh_1 mcl_1 mli_1 msc_1 _ _ _ h hP hD hS (lv_sub hl [0] rfl)
                obtain ⟨fu, h⟩ := h
                exact k_96 fu mln msp mwh cf mli msc _ _ _ h hP hD hS (lv_sub hl [1] rfl)
              · have h := h.2 hcd
                refine lv_iconst (v := xw_i (-1)) hx hb dX4_close_84 (by decide) ?_
                exact hret _ _ _ _ (-1) (mln, msp, mwh, mcl, mli, msc) dX4_close_85 h hP hD hK hS
    · have h := h.1 hcd
      refine lv_iconst (v := xw_i (-1)) hx hb dX4_close_15 (by decide) ?_
      exact hret _ _ _ _ (-1) (mln, msp, mwh, mcl, mli, msc) dX4_close_16 h hP hD hK hS
set_option maxHeartbeats 4000000 in
set_option maxRecDepth 100000 in
theorem c_X4_isInCase (l : Launch) (dC : Nat → ClassId) (dI : Nat → Nat → Nat) (qM aM0 aM1 aM2 aM3 aM4 aM5 aM6 aM7 aM8 aM9 aM10 aM11 aM12 : Nat) (kM0 kM1 kM2 kM3 kM4 kM5 kM6 kM7 kM8 kM9 kM10 kM11 kM12 : ClassId) (sz : Nat) (mrw : Int) (mly : Int) (mln : Int) (msp : Int) (mwh : Int) (mcl : Int) (mtr : Int) (mfo : Int) (mki : Nat → Int) (mro : Nat → Int) (mlf : Nat → Int) (mli : Nat → Int) (msw : Nat → Int) (msa : Nat → Int) (msc : Nat → Int) (msl : Nat → Int) (mff : Nat → Int) (mlt : Nat → Int) (mgr : Nat → Int) (mxx : Nat → Int) (msu : Nat → Int) (p1 : Int) (p2 : Int) (post : Int → Prop) (h : wp_X4_isInCase post mrw mly mln msp mwh mcl mtr mfo mki mro mlf mli msw msa msc msl mff mlt mgr mxx msu p1 p2) : Met l yX4_isInCase wsX4_isInCase ({ frames := 0, cells := 0, slots := 0, locals := 0 }) (va_Pc [.ref qM, .int (xw_i p1), .int (xw_i p2)] (xw_Pre (dC, dI) vwCl (wd_X4 qM aM0 aM1 aM2 aM3 aM4 aM5 aM6 aM7 aM8 aM9 aM10 aM11 aM12 kM0 kM1 kM2 kM3 kM4 kM5 kM6 kM7 kM8 kM9 kM10 kM11 kM12 mrw mly mln msp mwh mcl mtr mfo mki mro mlf mli msw msa msc msl mff mlt mgr mxx msu) [(kM0, .int), (kM1, .int), (kM2, .int), (kM3, .long), (kM4, .int), (kM5, .int), (kM6, .int), (kM7, .int), (kM8, .int), (kM9, .int), (kM10, .int), (kM11, .int), (kM12, .int)] sz)) (va_Qi (xw_pi (fun v (u : Unit) => post v)) (xw_B (dC, dI) vwCl (fun (_ : Unit) => [(kM0, .int), (kM1, .int), (kM2, .int), (kM3, .long), (kM4, .int), (kM5, .int), (kM6, .int), (kM7, .int), (kM8, .int), (kM9, .int), (kM10, .int), (kM11, .int), (kM12, .int)]) (va_A (wd_X4 qM aM0 aM1 aM2 aM3 aM4 aM5 aM6 aM7 aM8 aM9 aM10 aM11 aM12 kM0 kM1 kM2 kM3 kM4 kM5 kM6 kM7 kM8 kM9 kM10 kM11 kM12 mrw mly mln msp mwh mcl mtr mfo mki mro mlf mli msw msa msc msl mff mlt mgr mxx msu) sz) (fun (u : Unit) => (wd_X4 qM aM0 aM1 aM2 aM3 aM4 aM5 aM6 aM7 aM8 aM9 aM10 aM11 aM12 kM0 kM1 kM2 kM3 kM4 kM5 kM6 kM7 kM8 kM9 kM10 kM11 kM12 mrw mly mln msp mwh mcl mtr mfo mki mro mlf mli msw msa msc msl mff mlt mgr mxx msu))) (va_A (wd_X4 qM aM0 aM1 aM2 aM3 aM4 aM5 aM6 aM7 aM8 aM9 aM10 aM11 aM12 kM0 kM1 kM2 kM3 kM4 kM5 kM6 kM7 kM8 kM9 kM10 kM11 kM12 mrw mly mln msp mwh mcl mtr mfo mki mro mlf mli msw msa msc msl mff mlt mgr mxx msu) sz)) 0 0 (va_A (wd_X4 qM aM0 aM1 aM2 aM3 aM4 aM5 aM6 aM7 aM8 aM9 aM10 aM11 aM12 kM0 kM1 kM2 kM3 kM4 kM5 kM6 kM7 kM8 kM9 kM10 kM11 kM12 mrw mly mln msp mwh mcl mtr mfo mki mro mlf mli msw msa msc msl mff mlt mgr mxx msu) sz) := by
  refine xw_ofZ (cc := cX4_isInCase) (maxL := 4) (by decide +kernel) rfl (Nat.le_of_ble_eq_true rfl) ?_
  intro p e s m args below meth c hx hb hml hown hts A hA hP hD hK Q hret ls hl hS
  have hl : lv_has ls 4 [(0, .ref qM), (1, .int (xw_i p1)), (2, .int (xw_i p2))] := hl
  have hwsX40 : ∀ w ∈ wsX40, w ∈ wsX4_isInCase := fun _ h => List.mem_cons_of_mem _ (List.mem_append_right _ h)
  unfold wp_X4_isInCase at h
  refine lv_aload_n hx hb dX4_isInCase_0 rfl (lv_at hl 0 rfl) ?_
  refine va_get (D := (dC, dI)) (ci := 4) (v := .ref aM11) (C := RX4) (T := TX4) (N := 21) hx hb hts hwsX40 hown hK hP 0 rfl rfl 19 (by decide) (hts (.fieldLink RX4 44 "BoxProverModel" "x" "[I") (by decide +kernel)) (fun _ h9 => h9) rfl dX4_isInCase_1 ?_
  refine lv_aload_n hx hb dX4_isInCase_4 rfl (lv_at hl 0 rfl) ?_
  refine va_get (D := (dC, dI)) (ci := 4) (v := .ref aM4) (C := RX4) (T := TX4) (N := 21) hx hb hts hwsX40 hown hK hP 0 rfl rfl 8 (by decide) (hts (.fieldLink RX4 23 "BoxProverModel" "splitWord" "[I") (by decide +kernel)) (fun _ h9 => h9) rfl dX4_isInCase_5 ?_
  refine lv_iload_n hx hb dX4_isInCase_8 rfl (lv_at hl 1 rfl) ?_
  obtain ⟨hin, h⟩ := h
  refine xw_iald (n := 10) hx hb hK hP 5 4 rfl rfl (by decide) hin dX4_isInCase_9 ?_
  obtain ⟨hin, h⟩ := h
  refine xw_iald (n := 4) hx hb hK hP 12 11 rfl rfl (by decide) hin dX4_isInCase_10 ?_
  refine lv_aload_n hx hb dX4_isInCase_11 rfl (lv_at hl 0 rfl) ?_
  refine va_get (D := (dC, dI)) (ci := 4) (v := .ref aM5) (C := RX4) (T := TX4) (N := 21) hx hb hts hwsX40 hown hK hP 0 rfl rfl 9 (by decide) (hts (.fieldLink RX4 26 "BoxProverModel" "splitAt" "[I") (by decide +kernel)) (fun _ h9 => h9) rfl dX4_isInCase_12 ?_
  refine lv_iload_n hx hb dX4_isInCase_15 rfl (lv_at hl 1 rfl) ?_
  obtain ⟨hin, h⟩ := h
  refine xw_iald (n := 10) hx hb hK hP 6 5 rfl rfl (by decide) hin dX4_isInCase_16 ?_
  obtain ⟨hr1, h⟩ := h
  obtain ⟨hr2, h⟩ := h
  refine xw_icmp_gt (tgt := 24) hx hb ⟨hr1, hr2⟩ dX4_isInCase_17 (by decide) (fun hcd => ?_) (fun hcd => ?_)
  · have h := h.1 hcd
    refine lv_iconst (v := xw_i 0) hx hb dX4_isInCase_24 (by decide) ?_
    refine lv_istore_n (lv' := [(3, .int (xw_i 0)), (0, .ref qM), (1, .int (xw_i p1)), (2, .int (xw_i p2))]) hx hb dX4_isInCase_25 rfl hl (by decide) rfl (fun ls hl => ?_)
    refine lv_iload_n hx hb dX4_isInCase_26 rfl (lv_at hl 0 rfl) ?_
    refine lv_iload_n hx hb dX4_isInCase_27 rfl (lv_at hl 3 rfl) ?_
    refine lv_iconst (v := xw_i 1) hx hb dX4_isInCase_28 (by decide) ?_
    obtain ⟨hr3, h⟩ := h
    refine xw_icmp_ne (tgt := 36) hx hb ⟨hr3, ⟨by decide, by decide⟩⟩ dX4_isInCase_29 (by decide) (fun hcd => ?_) (fun hcd => ?_)
    · have h := h.2 hcd
      refine lv_iconst (v := xw_i 0) hx hb dX4_isInCase_36 (by decide) ?_
      refine xw_icmp_ne (tgt := 44) hx hb ⟨⟨by decide, by decide⟩, ⟨by decide, by decide⟩⟩ dX4_isInCase_37 (by decide) (fun hcd => ?_) (fun hcd => ?_)
      · have h := h.2 hcd
        refine lv_iconst (v := xw_i 0) hx hb dX4_isInCase_44 (by decide) ?_
        exact hret _ _ _ _ 0 () dX4_isInCase_45 (by decide) h hP hD hK hS
      · have h := h.1 hcd
        refine lv_iconst (v := xw_i 1) hx hb dX4_isInCase_40 (by decide) ?_
        refine lv_goto (tgt := 45) hx hb dX4_isInCase_41 (by decide) ?_
        exact hret _ _ _ _ 1 () dX4_isInCase_45 (by decide) h hP hD hK hS
    · have h := h.1 hcd
      refine lv_iconst (v := xw_i 1) hx hb dX4_isInCase_32 (by decide) ?_
      refine lv_goto (tgt := 37) hx hb dX4_isInCase_33 (by decide) ?_
      refine xw_icmp_ne (tgt := 44) hx hb ⟨⟨by decide, by decide⟩, ⟨by decide, by decide⟩⟩ dX4_isInCase_37 (by decide) (fun hcd => ?_) (fun hcd => ?_)
      · have h := h.2 hcd
        refine lv_iconst (v := xw_i 0) hx hb dX4_isInCase_44 (by decide) ?_
        exact hret _ _ _ _ 0 () dX4_isInCase_45 (by decide) h hP hD hK hS
      · have h := h.1 hcd
        refine lv_iconst (v := xw_i 1) hx hb dX4_isInCase_40 (by decide) ?_
        refine lv_goto (tgt := 45) hx hb dX4_isInCase_41 (by decide) ?_
        exact hret _ _ _ _ 1 () dX4_isInCase_45 (by decide) h hP hD hK hS
  · have h := h.2 hcd
    refine lv_iconst (v := xw_i 1) hx hb dX4_isInCase_20 (by decide) ?_
    refine lv_goto (tgt := 25) hx hb dX4_isInCase_21 (by decide) ?_
    refine lv_istore_n (lv' := [(3, .int (xw_i 1)), (0, .ref qM), (1, .int (xw_i p1)), (2, .int (xw_i p2))]) hx hb dX4_isInCase_25 rfl hl (by decide) rfl (fun ls hl => ?_)
    refine lv_iload_n hx hb dX4_isInCase_26 rfl (lv_at hl 0 rfl) ?_
    refine lv_iload_n hx hb dX4_isInCase_27 rfl (lv_at hl 3 rfl) ?_
    refine lv_iconst (v := xw_i 1) hx hb dX4_isInCase_28 (by decide) ?_
    obtain ⟨hr4, h⟩ := h
    refine xw_icmp_ne (tgt := 36) hx hb ⟨hr4, ⟨by decide, by decide⟩⟩ dX4_isInCase_29 (by decide) (fun hcd => ?_) (fun hcd => ?_)
    · have h := h.2 hcd
      refine lv_iconst (v := xw_i 0) hx hb dX4_isInCase_36 (by decide) ?_
      refine xw_icmp_ne (tgt := 44) hx hb ⟨⟨by decide, by decide⟩, ⟨by decide, by decide⟩⟩ dX4_isInCase_37 (by decide) (fun hcd => ?_) (fun hcd => ?_)
      · have h := h.2 hcd
        refine lv_iconst (v := xw_i 0) hx hb dX4_isInCase_44 (by decide) ?_
        exact hret _ _ _ _ 0 () dX4_isInCase_45 (by decide) h hP hD hK hS
      · have h := h.1 hcd
        refine lv_iconst (v := xw_i 1) hx hb dX4_isInCase_40 (by decide) ?_
        refine lv_goto (tgt := 45) hx hb dX4_isInCase_41 (by decide) ?_
        exact hret _ _ _ _ 1 () dX4_isInCase_45 (by decide) h hP hD hK hS
    · have h := h.1 hcd
      refine lv_iconst (v := xw_i 1) hx hb dX4_isInCase_32 (by decide) ?_
      refine lv_goto (tgt := 37) hx hb dX4_isInCase_33 (by decide) ?_
      refine xw_icmp_ne (tgt := 44) hx hb ⟨⟨by decide, by decide⟩, ⟨by decide, by decide⟩⟩ dX4_isInCase_37 (by decide) (fun hcd => ?_) (fun hcd => ?_)
      · have h := h.2 hcd
        refine lv_iconst (v := xw_i 0) hx hb dX4_isInCase_44 (by decide) ?_
        exact hret _ _ _ _ 0 () dX4_isInCase_45 (by decide) h hP hD hK hS
      · have h := h.1 hcd
        refine lv_iconst (v := xw_i 1) hx hb dX4_isInCase_40 (by decide) ?_
        refine lv_goto (tgt := 45) hx hb dX4_isInCase_41 (by decide) ?_
        exact hret _ _ _ _ 1 () dX4_isInCase_45 (by decide) h hP hD hK hS
set_option maxHeartbeats 4000000 in
set_option maxRecDepth 100000 in
theorem c_X4_isOpen (l : Launch) (dC : Nat → ClassId) (dI : Nat → Nat → Nat) (qM aM0 aM1 aM2 aM3 aM4 aM5 aM6 aM7 aM8 aM9 aM10 aM11 aM12 : Nat) (kM0 kM1 kM2 kM3 kM4 kM5 kM6 kM7 kM8 kM9 kM10 kM11 kM12 : ClassId) (sz : Nat) (mrw : Int) (mly : Int) (mln : Int) (msp : Int) (mwh : Int) (mcl : Int) (mtr : Int) (mfo : Int) (mki : Nat → Int) (mro : Nat → Int) (mlf : Nat → Int) (mli : Nat → Int) (msw : Nat → Int) (msa : Nat → Int) (msc : Nat → Int) (msl : Nat → Int) (mff : Nat → Int) (mlt : Nat → Int) (mgr : Nat → Int) (mxx : Nat → Int) (msu : Nat → Int) (post : Int → Prop) (h : wp_X4_isOpen post mrw mly mln msp mwh mcl mtr mfo mki mro mlf mli msw msa msc msl mff mlt mgr mxx msu) : Met l yX4_isOpen wsX4_isOpen ({ frames := 1, cells := 0, slots := 0, locals := 23 }) (va_Pc [.ref qM] (xw_Pre (dC, dI) vwCl (wd_X4 qM aM0 aM1 aM2 aM3 aM4 aM5 aM6 aM7 aM8 aM9 aM10 aM11 aM12 kM0 kM1 kM2 kM3 kM4 kM5 kM6 kM7 kM8 kM9 kM10 kM11 kM12 mrw mly mln msp mwh mcl mtr mfo mki mro mlf mli msw msa msc msl mff mlt mgr mxx msu) [(kM0, .int), (kM1, .int), (kM2, .int), (kM3, .long), (kM4, .int), (kM5, .int), (kM6, .int), (kM7, .int), (kM8, .int), (kM9, .int), (kM10, .int), (kM11, .int), (kM12, .int)] sz)) (va_Qi (xw_pi (fun v (u : Unit) => post v)) (xw_B (dC, dI) vwCl (fun (_ : Unit) => [(kM0, .int), (kM1, .int), (kM2, .int), (kM3, .long), (kM4, .int), (kM5, .int), (kM6, .int), (kM7, .int), (kM8, .int), (kM9, .int), (kM10, .int), (kM11, .int), (kM12, .int)]) (va_A (wd_X4 qM aM0 aM1 aM2 aM3 aM4 aM5 aM6 aM7 aM8 aM9 aM10 aM11 aM12 kM0 kM1 kM2 kM3 kM4 kM5 kM6 kM7 kM8 kM9 kM10 kM11 kM12 mrw mly mln msp mwh mcl mtr mfo mki mro mlf mli msw msa msc msl mff mlt mgr mxx msu) sz) (fun (u : Unit) => (wd_X4 qM aM0 aM1 aM2 aM3 aM4 aM5 aM6 aM7 aM8 aM9 aM10 aM11 aM12 kM0 kM1 kM2 kM3 kM4 kM5 kM6 kM7 kM8 kM9 kM10 kM11 kM12 mrw mly mln msp mwh mcl mtr mfo mki mro mlf mli msw msa msc msl mff mlt mgr mxx msu))) (va_A (wd_X4 qM aM0 aM1 aM2 aM3 aM4 aM5 aM6 aM7 aM8 aM9 aM10 aM11 aM12 kM0 kM1 kM2 kM3 kM4 kM5 kM6 kM7 kM8 kM9 kM10 kM11 kM12 mrw mly mln msp mwh mcl mtr mfo mki mro mlf mli msw msa msc msl mff mlt mgr mxx msu) sz)) 0 0 (va_A (wd_X4 qM aM0 aM1 aM2 aM3 aM4 aM5 aM6 aM7 aM8 aM9 aM10 aM11 aM12 kM0 kM1 kM2 kM3 kM4 kM5 kM6 kM7 kM8 kM9 kM10 kM11 kM12 mrw mly mln msp mwh mcl mtr mfo mki mro mlf mli msw msa msc msl mff mlt mgr mxx msu) sz) := by
  refine xw_ofZ (cc := cX4_isOpen) (maxL := 2) (by decide +kernel) rfl (Nat.le_of_ble_eq_true rfl) ?_
  intro p e s m args below meth c hx hb hml hown hts A hA hP hD hK Q hret ls hl hS
  have hl : lv_has ls 2 [(0, .ref qM)] := hl
  have hwsX40 : ∀ w ∈ wsX40, w ∈ wsX4_isOpen := fun _ h => List.mem_cons_of_mem _ (List.mem_append_right _ h)
  unfold wp_X4_isOpen at h
  refine lv_iconst (v := xw_i 0) hx hb dX4_isOpen_0 (by decide) ?_
  refine lv_istore_n (lv' := [(1, .int (xw_i 0)), (0, .ref qM)]) hx hb dX4_isOpen_1 rfl hl (by decide) rfl (fun ls hl => ?_)
  have k_2 : ∀ (n_2 : Nat) (x1 : Int) (H : Heap) (locs : List Loc) (ls : Array Slot), wp_X4_isOpen_2 mrw mly mln msp mwh mcl mtr mfo mki mro mlf mli msw msa msc msl mff mlt mgr mxx msu post n_2 x1 → va_P (dC, dI) vwCl (wd_X4 qM aM0 aM1 aM2 aM3 aM4 aM5 aM6 aM7 aM8 aM9 aM10 aM11 aM12 kM0 kM1 kM2 kM3 kM4 kM5 kM6 kM7 kM8 kM9 kM10 kM11 kM12 mrw mly mln msp mwh mcl mtr mfo mki mro mlf mli msw msa msc msl mff mlt mgr mxx msu) H → va_D A (wd_X4 qM aM0 aM1 aM2 aM3 aM4 aM5 aM6 aM7 aM8 aM9 aM10 aM11 aM12 kM0 kM1 kM2 kM3 kM4 kM5 kM6 kM7 kM8 kM9 kM10 kM11 kM12 mrw mly mln msp mwh mcl mtr mfo mki mro mlf mli msw msa msc msl mff mlt mgr mxx msu) → va_S A s.heap H locs → lv_has ls 2 [(1, .int (xw_i x1)), (0, .ref qM)] → W p l e ({ frames := 1, cells := 0, slots := 0, locals := 23 } : Room) s m args below meth c H locs 0 0 Q (F0 m 2 ls []) := by
    intro n_2
    induction n_2 with
    | zero => intro x1 H locs ls h; exact False.elim h
    | succ n_2 ih_2 =>
      intro x1 H locs ls h hP hD hS hl
      have h : wl_X4_isOpen_2 mrw mly mln msp mwh mcl mtr mfo mki mro mlf mli msw msa msc msl mff mlt mgr mxx msu post (wp_X4_isOpen_2 mrw mly mln msp mwh mcl mtr mfo mki mro mlf mli msw msa msc msl mff mlt mgr mxx msu post n_2) x1 := h
      unfold wl_X4_isOpen_2 at h
      refine lv_iload_n hx hb dX4_isOpen_2 rfl (lv_at hl 0 rfl) ?_
      refine lv_aload_n hx hb dX4_isOpen_3 rfl (lv_at hl 1 rfl) ?_
      refine va_get (D := (dC, dI)) (ci := 4) (v := .int (xw_i msp)) (C := RX4) (T := TX4) (N := 21) hx hb hts hwsX40 hown hK hP 0 rfl rfl 7 (by decide) (hts (.fieldLink RX4 61 "BoxProverModel" "splits" "I") (by decide +kernel)) (fun _ h9 => h9) rfl dX4_isOpen_4 ?_
      obtain ⟨hr1, h⟩ := h
      obtain ⟨hr2, h⟩ := h
      refine xw_icmp_ge (tgt := 46) hx hb ⟨hr1, hr2⟩ dX4_isOpen_7 (by decide) (fun hcd => ?_) (fun hcd => ?_)
      · have h := h.1 hcd
        refine lv_iconst (v := xw_i 1) hx hb dX4_isOpen_46 (by decide) ?_
        exact hret _ _ _ _ 1 () dX4_isOpen_47 (by decide) h hP hD hK hS
      · have h := h.2 hcd
        refine lv_aload_n hx hb dX4_isOpen_10 rfl (lv_at hl 1 rfl) ?_
        refine lv_iload_n hx hb dX4_isOpen_11 rfl (lv_at hl 0 rfl) ?_
        refine lv_aload_n hx hb dX4_isOpen_12 rfl (lv_at hl 1 rfl) ?_
        refine va_get (D := (dC, dI)) (ci := 4) (v := .ref aM6) (C := RX4) (T := TX4) (N := 21) hx hb hts hwsX40 hown hK hP 0 rfl rfl 10 (by decide) (hts (.fieldLink RX4 29 "BoxProverModel" "splitCase" "[I") (by decide +kernel)) (fun _ h9 => h9) rfl dX4_isOpen_13 ?_
        refine lv_iload_n hx hb dX4_isOpen_16 rfl (lv_at hl 0 rfl) ?_
        obtain ⟨hin, h⟩ := h
        refine xw_iald (n := 10) hx hb hK hP 7 6 rfl rfl (by decide) hin dX4_isOpen_17 ?_
        refine xw_backi (wc := (wd_X4 qM aM0 aM1 aM2 aM3 aM4 aM5 aM6 aM7 aM8 aM9 aM10 aM11 aM12 kM0 kM1 kM2 kM3 kM4 kM5 kM6 kM7 kM8 kM9 kM10 kM11 kM12 mrw mly mln msp mwh mcl mtr mfo mki mro mlf mli msw msa msc msl mff mlt mgr mxx msu)) (wr := []) (va_runV (As := [.int (xw_i x1), .int (xw_i (msc x1.toNat))]) (rest := []) ⟨hx, hb, hml, hown, hts⟩ (c_X4_isInCase l dC dI qM aM0 aM1 aM2 aM3 aM4 aM5 aM6 aM7 aM8 aM9 aM10 aM11 aM12 kM0 kM1 kM2 kM3 kM4 kM5 kM6 kM7 kM8 kM9 kM10 kM11 kM12 H.size mrw mly mln msp mwh mcl mtr mfo mki mro mlf mli msw msa msc msl mff mlt mgr mxx msu x1 (msc x1.toNat) _ h) (cwV 2 hts gX4_isOpen_X4_isInCase rfl rfl rfl (by decide +kernel) ⟨Nat.le_of_ble_eq_true rfl, Nat.le_of_ble_eq_true rfl⟩) (xw_preV (ci := 4) hK hP hD [0, 1, 2, 3, 4, 5, 6, 7, 8, 9, 10, 11, 12, 13] rfl rfl (by decide) [0, 1, 2, 3, 4, 5, 6, 7, 8, 9, 10, 11, 12] rfl rfl rfl) rfl rfl hl.1 rfl (lv_room (Nat.le_of_ble_eq_true rfl)) dX4_isOpen_18 ⟨Nat.le_of_ble_eq_true rfl, Nat.le_of_ble_eq_true rfl⟩) hK hP hD hS hA [0, 1, 2, 3, 4, 5, 6, 7, 8, 9, 10, 11, 12, 13] [] rfl rfl (by decide) (by decide) (fun r u H locs h hP hD hK2 hS => ?_)
        try dsimp only at h
        have hP : va_P (dC, dI) vwCl (wd_X4 qM aM0 aM1 aM2 aM3 aM4 aM5 aM6 aM7 aM8 aM9 aM10 aM11 aM12 kM0 kM1 kM2 kM3 kM4 kM5 kM6 kM7 kM8 kM9 kM10 kM11 kM12 mrw mly mln msp mwh mcl mtr mfo mki mro mlf mli msw msa msc msl mff mlt mgr mxx msu) H := hP
        have hD : va_D A (wd_X4 qM aM0 aM1 aM2 aM3 aM4 aM5 aM6 aM7 aM8 aM9 aM10 aM11 aM12 kM0 kM1 kM2 kM3 kM4 kM5 kM6 kM7 kM8 kM9 kM10 kM11 kM12 mrw mly mln msp mwh mcl mtr mfo mki mro mlf mli msw msa msc msl mff mlt mgr mxx msu) := hD
        obtain ⟨hr3, h⟩ := h
        refine xw_if_ne (tgt := 40) hx hb hr3 dX4_isOpen_21 (by decide) (fun hcd => ?_) (fun hcd => ?_)
        · have h := h.2 hcd
          obtain ⟨x1_1, ex1_1⟩ : ∃ y : Int, y = x1 + 1 := ⟨_, rfl⟩
          have h := h x1_1 ex1_1
          refine lv_iinc (v := xw_i x1_1) (lv' := [(1, .int (xw_i x1_1)), (0, .ref qM)]) hx hb dX4_isOpen_40 hl (k := 0) rfl (xw_inc ex1_1) (by decide) rfl (fun ls hl => ?_)
          refine lv_goto (tgt := 2) hx hb dX4_isOpen_43 (by decide) ?_
          exact ih_2 x1_1 _ _ _ h hP hD hS (lv_sub hl [0, 1] rfl)
        · have h := h.1 hcd
          refine lv_aload_n hx hb dX4_isOpen_24 rfl (lv_at hl 1 rfl) ?_
          refine va_get (D := (dC, dI)) (ci := 4) (v := .ref aM6) (C := RX4) (T := TX4) (N := 21) hx hb hts hwsX40 hown hK hP 0 rfl rfl 10 (by decide) (hts (.fieldLink RX4 29 "BoxProverModel" "splitCase" "[I") (by decide +kernel)) (fun _ h9 => h9) rfl dX4_isOpen_25 ?_
          refine lv_iload_n hx hb dX4_isOpen_28 rfl (lv_at hl 0 rfl) ?_
          obtain ⟨hin, h⟩ := h
          refine xw_iald (n := 10) hx hb hK hP 7 6 rfl rfl (by decide) hin dX4_isOpen_29 ?_
          refine lv_iconst (v := xw_i 1) hx hb dX4_isOpen_30 (by decide) ?_
          obtain ⟨hr4, h⟩ := h
          refine xw_icmp_ne (tgt := 38) hx hb ⟨hr4, ⟨by decide, by decide⟩⟩ dX4_isOpen_31 (by decide) (fun hcd => ?_) (fun hcd => ?_)
          · have h := h.2 hcd
            refine lv_iconst (v := xw_i 0) hx hb dX4_isOpen_38 (by decide) ?_
            exact hret _ _ _ _ 0 () dX4_isOpen_39 (by decide) h hP hD hK hS
          · have h := h.1 hcd
            refine lv_iconst (v := xw_i 1) hx hb dX4_isOpen_34 (by decide) ?_
            refine lv_goto (tgt := 39) hx hb dX4_isOpen_35 (by decide) ?_
            exact hret _ _ _ _ 1 () dX4_isOpen_39 (by decide) h hP hD hK hS
  obtain ⟨fu, h⟩ := h
  exact k_2 fu 0 _ _ _ h hP hD hS (lv_sub hl [0, 1] rfl)
set_option maxHeartbeats 4000000 in
set_option maxRecDepth 100000 in
theorem c_X4_finish (l : Launch) (dC : Nat → ClassId) (dI : Nat → Nat → Nat) (qM aM0 aM1 aM2 aM3 aM4 aM5 aM6 aM7 aM8 aM9 aM10 aM11 aM12 : Nat) (kM0 kM1 kM2 kM3 kM4 kM5 kM6 kM7 kM8 kM9 kM10 kM11 kM12 : ClassId) (sz : Nat) (mrw : Int) (mly : Int) (mln : Int) (msp : Int) (mwh : Int) (mcl : Int) (mtr : Int) (mfo : Int) (mki : Nat → Int) (mro : Nat → Int) (mlf : Nat → Int) (mli : Nat → Int) (msw : Nat → Int) (msa : Nat → Int) (msc : Nat → Int) (msl : Nat → Int) (mff : Nat → Int) (mlt : Nat → Int) (mgr : Nat → Int) (mxx : Nat → Int) (msu : Nat → Int) (post : Int → Int → Int → Int → (Nat → Int) → (Nat → Int) → Prop) (h : wp_X4_finish post mrw mly mln msp mwh mcl mtr mfo mki mro mlf mli msw msa msc msl mff mlt mgr mxx msu) : Met l yX4_finish wsX4_finish ({ frames := 2, cells := 0, slots := 0, locals := 44 }) (va_Pc [.ref qM] (xw_Pre (dC, dI) vwCl (wd_X4 qM aM0 aM1 aM2 aM3 aM4 aM5 aM6 aM7 aM8 aM9 aM10 aM11 aM12 kM0 kM1 kM2 kM3 kM4 kM5 kM6 kM7 kM8 kM9 kM10 kM11 kM12 mrw mly mln msp mwh mcl mtr mfo mki mro mlf mli msw msa msc msl mff mlt mgr mxx msu) [(kM0, .int), (kM1, .int), (kM2, .int), (kM3, .long), (kM4, .int), (kM5, .int), (kM6, .int), (kM7, .int), (kM8, .int), (kM9, .int), (kM10, .int), (kM11, .int), (kM12, .int)] sz)) (va_Qi (xw_pi (fun v (u : Int × Int × Int × (Nat → Int) × (Nat → Int)) => post v u.1 u.2.1 u.2.2.1 u.2.2.2.1 u.2.2.2.2)) (xw_B (dC, dI) vwCl (fun (_ : Int × Int × Int × (Nat → Int) × (Nat → Int)) => [(kM0, .int), (kM1, .int), (kM2, .int), (kM3, .long), (kM4, .int), (kM5, .int), (kM6, .int), (kM7, .int), (kM8, .int), (kM9, .int), (kM10, .int), (kM11, .int), (kM12, .int)]) (va_A (wd_X4 qM aM0 aM1 aM2 aM3 aM4 aM5 aM6 aM7 aM8 aM9 aM10 aM11 aM12 kM0 kM1 kM2 kM3 kM4 kM5 kM6 kM7 kM8 kM9 kM10 kM11 kM12 mrw mly mln msp mwh mcl mtr mfo mki mro mlf mli msw msa msc msl mff mlt mgr mxx msu) sz) (fun (u : Int × Int × Int × (Nat → Int) × (Nat → Int)) => (wd_X4 qM aM0 aM1 aM2 aM3 aM4 aM5 aM6 aM7 aM8 aM9 aM10 aM11 aM12 kM0 kM1 kM2 kM3 kM4 kM5 kM6 kM7 kM8 kM9 kM10 kM11 kM12 mrw mly u.1 u.2.1 u.2.2.1 mcl mtr mfo mki mro mlf mli msw msa msc msl mff mlt mgr u.2.2.2.1 u.2.2.2.2))) (va_A (wd_X4 qM aM0 aM1 aM2 aM3 aM4 aM5 aM6 aM7 aM8 aM9 aM10 aM11 aM12 kM0 kM1 kM2 kM3 kM4 kM5 kM6 kM7 kM8 kM9 kM10 kM11 kM12 mrw mly mln msp mwh mcl mtr mfo mki mro mlf mli msw msa msc msl mff mlt mgr mxx msu) sz)) 0 0 (va_A (wd_X4 qM aM0 aM1 aM2 aM3 aM4 aM5 aM6 aM7 aM8 aM9 aM10 aM11 aM12 kM0 kM1 kM2 kM3 kM4 kM5 kM6 kM7 kM8 kM9 kM10 kM11 kM12 mrw mly mln msp mwh mcl mtr mfo mki mro mlf mli msw msa msc msl mff mlt mgr mxx msu) sz) := by
  refine xw_ofI (cc := cX4_finish) (maxL := 5) (by decide +kernel) rfl (Nat.le_of_ble_eq_true rfl) ?_
  intro p e s m args below meth c hx hb hml hown hts A hA hP hD hK Q hret ls hl hS
  have hl : lv_has ls 5 [(0, .ref qM)] := hl
  have hwsX40 : ∀ w ∈ wsX40, w ∈ wsX4_finish := fun _ h => List.mem_cons_of_mem _ (List.mem_append_right _ h)
  unfold wp_X4_finish at h
  refine lv_aload_n hx hb dX4_finish_0 rfl (lv_at hl 0 rfl) ?_
  refine va_get (D := (dC, dI)) (ci := 4) (v := .int (xw_i mwh)) (C := RX4) (T := TX4) (N := 21) hx hb hts hwsX40 hown hK hP 0 rfl rfl 12 (by decide) (hts (.fieldLink RX4 64 "BoxProverModel" "isWhole" "Z") (by decide +kernel)) (fun _ h9 => h9) rfl dX4_finish_1 ?_
  obtain ⟨hr1, h⟩ := h
  refine xw_if_eq (tgt := 9) hx hb hr1 dX4_finish_4 (by decide) (fun hcd => ?_) (fun hcd => ?_)
  · have h := h.1 hcd
    refine lv_bipush (v := xw_i (-15)) hx hb dX4_finish_9 (by decide) ?_
    refine lv_istore_n (lv' := [(1, .int (xw_i (-15))), (0, .ref qM)]) hx hb dX4_finish_11 rfl hl (by decide) rfl (fun ls hl => ?_)
    have k_12 : ∀ (n_12 : Nat) (mln_1 : Int) (msp_1 : Int) (mwh_1 : Int) (mxx_1 : Nat → Int) (msu_1 : Nat → Int) (x1 : Int) (H : Heap) (locs : List Loc) (ls : Array Slot), wp_X4_finish_12 mrw mly mcl mtr mfo mki mro mlf mli msw msa msc msl mff mlt mgr post n_12 mln_1 msp_1 mwh_1 mxx_1 msu_1 x1 → va_P (dC, dI) vwCl (wd_X4 qM aM0 aM1 aM2 aM3 aM4 aM5 aM6 aM7 aM8 aM9 aM10 aM11 aM12 kM0 kM1 kM2 kM3 kM4 kM5 kM6 kM7 kM8 kM9 kM10 kM11 kM12 mrw mly mln_1 msp_1 mwh_1 mcl mtr mfo mki mro mlf mli msw msa msc msl mff mlt mgr mxx_1 msu_1) H → va_D A (wd_X4 qM aM0 aM1 aM2 aM3 aM4 aM5 aM6 aM7 aM8 aM9 aM10 aM11 aM12 kM0 kM1 kM2 kM3 kM4 kM5 kM6 kM7 kM8 kM9 kM10 kM11 kM12 mrw mly mln_1 msp_1 mwh_1 mcl mtr mfo mki mro mlf mli msw msa msc msl mff mlt mgr mxx_1 msu_1) → va_S A s.heap H locs → lv_has ls 5 [(1, .int (xw_i x1)), (0, .ref qM)] → W p l e ({ frames := 2, cells := 0, slots := 0, locals := 44 } : Room) s m args below meth c H locs 0 0 Q (F0 m 12 ls []) := by
      intro n_12
      induction n_12 with
      | zero => intro mln_1 msp_1 mwh_1 mxx_1 msu_1 x1 H locs ls h; exact False.elim h
      | succ n_12 ih_12 =>
        intro mln_1 msp_1 mwh_1 mxx_1 msu_1 x1 H locs ls h hP hD hS hl
        have h : wl_X4_finish_12 mrw mly mcl mtr mfo mki mro mlf mli msw msa msc msl mff mlt mgr post (wp_X4_finish_12 mrw mly mcl mtr mfo mki mro mlf mli msw msa msc msl mff mlt mgr post n_12) mln_1 msp_1 mwh_1 mxx_1 msu_1 x1 := h
        unfold wl_X4_finish_12 at h
        refine lv_iload_n hx hb dX4_finish_12 rfl (lv_at hl 0 rfl) ?_
        refine lv_bipush (v := xw_i 15) hx hb dX4_finish_13 (by decide) ?_
        obtain ⟨hr2, h⟩ := h
        refine xw_icmp_gt (tgt := 122) hx hb ⟨hr2, ⟨by decide, by decide⟩⟩ dX4_finish_15 (by decide) (fun hcd => ?_) (fun hcd => ?_)
        · have h := h.1 hcd
          refine lv_aload_n hx hb dX4_finish_122 rfl (lv_at hl 1 rfl) ?_
          refine lv_aload_n hx hb dX4_finish_123 rfl (lv_at hl 1 rfl) ?_
          refine va_get (D := (dC, dI)) (ci := 4) (v := .int (xw_i msp_1)) (C := RX4) (T := TX4) (N := 21) hx hb hts hwsX40 hown hK hP 0 rfl rfl 7 (by decide) (hts (.fieldLink RX4 61 "BoxProverModel" "splits" "I") (by decide +kernel)) (fun _ h9 => h9) rfl dX4_finish_124 ?_
          obtain ⟨hr3, h⟩ := h
          refine xw_if_le (tgt := 139) hx hb hr3 dX4_finish_127 (by decide) (fun hcd => ?_) (fun hcd => ?_)
          · have h := h.1 hcd
            refine lv_aload_n hx hb dX4_finish_139 rfl (lv_at hl 1 rfl) ?_
            refine va_get (D := (dC, dI)) (ci := 4) (v := .int (xw_i mln_1)) (C := RX4) (T := TX4) (N := 21) hx hb hts hwsX40 hown hK hP 0 rfl rfl 5 (by decide) (hts (.fieldLink RX4 58 "BoxProverModel" "lines" "I") (by decide +kernel)) (fun _ h9 => h9) rfl dX4_finish_140 ?_
            refine va_put (D := (dC, dI)) (ci := 4) (v := .int (xw_i mln_1)) (ty := .int) (C := RX4) (T := TX4) (N := 21) hx hb hts hwsX40 tyX4 tyX4_ok nmX4 hown hK hP hD hS 0 rfl rfl 5 (by decide) (hts (.fieldLink RX4 58 "BoxProverModel" "lines" "I") (by decide +kernel)) (fun _ h9 => h9) rfl (by decide +kernel) rfl rfl (Nat.le_of_ble_eq_true rfl) dX4_finish_143 (fun H locs hP hD hS => ?_)
            have hP : va_P (dC, dI) vwCl (wd_X4 qM aM0 aM1 aM2 aM3 aM4 aM5 aM6 aM7 aM8 aM9 aM10 aM11 aM12 kM0 kM1 kM2 kM3 kM4 kM5 kM6 kM7 kM8 kM9 kM10 kM11 kM12 mrw mly mln_1 msp_1 mwh_1 mcl mtr mfo mki mro mlf mli msw msa msc msl mff mlt mgr mxx_1 msu_1) H := hP
            have hD : va_D A (wd_X4 qM aM0 aM1 aM2 aM3 aM4 aM5 aM6 aM7 aM8 aM9 aM10 aM11 aM12 kM0 kM1 kM2 kM3 kM4 kM5 kM6 kM7 kM8 kM9 kM10 kM11 kM12 mrw mly mln_1 msp_1 mwh_1 mcl mtr mfo mki mro mlf mli msw msa msc msl mff mlt mgr mxx_1 msu_1) := hD
            refine lv_aload_n hx hb dX4_finish_146 rfl (lv_at hl 1 rfl) ?_
            refine lv_iconst (v := xw_i 0) hx hb dX4_finish_147 (by decide) ?_
            refine va_put (D := (dC, dI)) (ci := 4) (v := .int (xw_i 0)) (ty := .int) (C := RX4) (T := TX4) (N := 21) hx hb hts hwsX40 tyX4 tyX4_ok nmX4 hown hK hP hD hS 0 rfl rfl 7 (by decide) (hts (.fieldLink RX4 61 "BoxProverModel" "splits" "I") (by decide +kernel)) (fun _ h9 => h9) rfl (by decide +kernel) rfl rfl (Nat.le_of_ble_eq_true rfl) dX4_finish_148 (fun H locs hP hD hS => ?_)
            have hP : va_P (dC, dI) vwCl (wd_X4 qM aM0 aM1 aM2 aM3 aM4 aM5 aM6 aM7 aM8 aM9 aM10 aM11 aM12 kM0 kM1 kM2 kM3 kM4 kM5 kM6 kM7 kM8 kM9 kM10 kM11 kM12 mrw mly mln_1 0 mwh_1 mcl mtr mfo mki mro mlf mli msw msa msc msl mff mlt mgr mxx_1 msu_1) H := hP
            have hD : va_D A (wd_X4 qM aM0 aM1 aM2 aM3 aM4 aM5 aM6 aM7 aM8 aM9 aM10 aM11 aM12 kM0 kM1 kM2 kM3 kM4 kM5 kM6 kM7 kM8 kM9 kM10 kM11 kM12 mrw mly mln_1 0 mwh_1 mcl mtr mfo mki mro mlf mli msw msa msc msl mff mlt mgr mxx_1 msu_1) := hD
            refine lv_aload_n hx hb dX4_finish_151 rfl (lv_at hl 1 rfl) ?_
            refine lv_iconst (v := xw_i 1) hx hb dX4_finish_152 (by decide) ?_
            refine va_put (D := (dC, dI)) (ci := 4) (v := .int (xw_i 1)) (ty := .boolean) (C := RX4) (T := TX4) (N := 21) hx hb hts hwsX40 tyX4 tyX4_ok nmX4 hown hK hP hD hS 0 rfl rfl 12 (by decide) (hts (.fieldLink RX4 64 "BoxProverModel" "isWhole" "Z") (by decide +kernel)) (fun _ h9 => h9) rfl (by decide +kernel) rfl rfl (Nat.le_of_ble_eq_true rfl) dX4_finish_153 (fun H locs hP hD hS => ?_)
            have hP : va_P (dC, dI) vwCl (wd_X4 qM aM0 aM1 aM2 aM3 aM4 aM5 aM6 aM7 aM8 aM9 aM10 aM11 aM12 kM0 kM1 kM2 kM3 kM4 kM5 kM6 kM7 kM8 kM9 kM10 kM11 kM12 mrw mly mln_1 0 1 mcl mtr mfo mki mro mlf mli msw msa msc msl mff mlt mgr mxx_1 msu_1) H := hP
            have hD : va_D A (wd_X4 qM aM0 aM1 aM2 aM3 aM4 aM5 aM6 aM7 aM8 aM9 aM10 aM11 aM12 kM0 kM1 kM2 kM3 kM4 kM5 kM6 kM7 kM8 kM9 kM10 kM11 kM12 mrw mly mln_1 0 1 mcl mtr mfo mki mro mlf mli msw msa msc msl mff mlt mgr mxx_1 msu_1) := hD
            refine lv_iconst (v := xw_i 1) hx hb dX4_finish_156 (by decide) ?_
            exact hret _ _ _ _ 1 (mln_1, 0, 1, mxx_1, msu_1) dX4_finish_157 h hP hD hK hS
          · have h := h.2 hcd
            refine lv_aload_n hx hb dX4_finish_130 rfl (lv_at hl 1 rfl) ?_
            refine va_get (D := (dC, dI)) (ci := 4) (v := .ref aM7) (C := RX4) (T := TX4) (N := 21) hx hb hts hwsX40 hown hK hP 0 rfl rfl 11 (by decide) (hts (.fieldLink RX4 32 "BoxProverModel" "splitLines" "[I") (by decide +kernel)) (fun _ h9 => h9) rfl dX4_finish_131 ?_
            refine lv_iconst (v := xw_i 0) hx hb dX4_finish_134 (by decide) ?_
            obtain ⟨hin, h⟩ := h
            refine xw_iald (n := 10) hx hb hK hP 8 7 rfl rfl (by decide) hin dX4_finish_135 ?_
            refine lv_goto (tgt := 143) hx hb dX4_finish_136 (by decide) ?_
            refine xw_topi (fun lf elf => ?_)
            have h := h lf elf
            refine va_put (D := (dC, dI)) (ci := 4) (v := .int (xw_i lf)) (ty := .int) (C := RX4) (T := TX4) (N := 21) hx hb hts hwsX40 tyX4 tyX4_ok nmX4 hown hK hP hD hS 0 rfl rfl 5 (by decide) (hts (.fieldLink RX4 58 "BoxProverModel" "lines" "I") (by decide +kernel)) (fun _ h9 => h9) rfl (by decide +kernel) rfl rfl (Nat.le_of_ble_eq_true rfl) dX4_finish_143 (fun H locs hP hD hS => ?_)
            have hP : va_P (dC, dI) vwCl (wd_X4 qM aM0 aM1 aM2 aM3 aM4 aM5 aM6 aM7 aM8 aM9 aM10 aM11 aM12 kM0 kM1 kM2 kM3 kM4 kM5 kM6 kM7 kM8 kM9 kM10 kM11 kM12 mrw mly lf msp_1 mwh_1 mcl mtr mfo mki mro mlf mli msw msa msc msl mff mlt mgr mxx_1 msu_1) H := hP
            have hD : va_D A (wd_X4 qM aM0 aM1 aM2 aM3 aM4 aM5 aM6 aM7 aM8 aM9 aM10 aM11 aM12 kM0 kM1 kM2 kM3 kM4 kM5 kM6 kM7 kM8 kM9 kM10 kM11 kM12 mrw mly lf msp_1 mwh_1 mcl mtr mfo mki mro mlf mli msw msa msc msl mff mlt mgr mxx_1 msu_1) := hD
            refine lv_aload_n hx hb dX4_finish_146 rfl (lv_at hl 1 rfl) ?_
            refine lv_iconst (v := xw_i 0) hx hb dX4_finish_147 (by decide) ?_
            refine va_put (D := (dC, dI)) (ci := 4) (v := .int (xw_i 0)) (ty := .int) (C := RX4) (T := TX4) (N := 21) hx hb hts hwsX40 tyX4 tyX4_ok nmX4 hown hK hP hD hS 0 rfl rfl 7 (by decide) (hts (.fieldLink RX4 61 "BoxProverModel" "splits" "I") (by decide +kernel)) (fun _ h9 => h9) rfl (by decide +kernel) rfl rfl (Nat.le_of_ble_eq_true rfl) dX4_finish_148 (fun H locs hP hD hS => ?_)
            have hP : va_P (dC, dI) vwCl (wd_X4 qM aM0 aM1 aM2 aM3 aM4 aM5 aM6 aM7 aM8 aM9 aM10 aM11 aM12 kM0 kM1 kM2 kM3 kM4 kM5 kM6 kM7 kM8 kM9 kM10 kM11 kM12 mrw mly lf 0 mwh_1 mcl mtr mfo mki mro mlf mli msw msa msc msl mff mlt mgr mxx_1 msu_1) H := hP
            have hD : va_D A (wd_X4 qM aM0 aM1 aM2 aM3 aM4 aM5 aM6 aM7 aM8 aM9 aM10 aM11 aM12 kM0 kM1 kM2 kM3 kM4 kM5 kM6 kM7 kM8 kM9 kM10 kM11 kM12 mrw mly lf 0 mwh_1 mcl mtr mfo mki mro mlf mli msw msa msc msl mff mlt mgr mxx_1 msu_1) := hD
            refine lv_aload_n hx hb dX4_finish_151 rfl (lv_at hl 1 rfl) ?_
            refine lv_iconst (v := xw_i 1) hx hb dX4_finish_152 (by decide) ?_
            refine va_put (D := (dC, dI)) (ci := 4) (v := .int (xw_i 1)) (ty := .boolean) (C := RX4) (T := TX4) (N := 21) hx hb hts hwsX40 tyX4 tyX4_ok nmX4 hown hK hP hD hS 0 rfl rfl 12 (by decide) (hts (.fieldLink RX4 64 "BoxProverModel" "isWhole" "Z") (by decide +kernel)) (fun _ h9 => h9) rfl (by decide +kernel) rfl rfl (Nat.le_of_ble_eq_true rfl) dX4_finish_153 (fun H locs hP hD hS => ?_)
            have hP : va_P (dC, dI) vwCl (wd_X4 qM aM0 aM1 aM2 aM3 aM4 aM5 aM6 aM7 aM8 aM9 aM10 aM11 aM12 kM0 kM1 kM2 kM3 kM4 kM5 kM6 kM7 kM8 kM9 kM10 kM11 kM12 mrw mly lf 0 1 mcl mtr mfo mki mro mlf mli msw msa msc msl mff mlt mgr mxx_1 msu_1) H := hP
            have hD : va_D A (wd_X4 qM aM0 aM1 aM2 aM3 aM4 aM5 aM6 aM7 aM8 aM9 aM10 aM11 aM12 kM0 kM1 kM2 kM3 kM4 kM5 kM6 kM7 kM8 kM9 kM10 kM11 kM12 mrw mly lf 0 1 mcl mtr mfo mki mro mlf mli msw msa msc msl mff mlt mgr mxx_1 msu_1) := hD
            refine lv_iconst (v := xw_i 1) hx hb dX4_finish_156 (by decide) ?_
            exact hret _ _ _ _ 1 (lf, 0, 1, mxx_1, msu_1) dX4_finish_157 h hP hD hK hS
        · have h := h.2 hcd
          refine lv_bipush (v := xw_i (-15)) hx hb dX4_finish_18 (by decide) ?_
          refine lv_istore_n (lv' := [(2, .int (xw_i (-15))), (1, .int (xw_i x1)), (0, .ref qM)]) hx hb dX4_finish_20 rfl hl (by decide) rfl (fun ls hl => ?_)
          have k_21 : ∀ (n_21 : Nat) (mln_2 : Int) (msp_2 : Int) (mwh_2 : Int) (mxx_2 : Nat → Int) (msu_2 : Nat → Int) (x2 : Int) (H : Heap) (locs : List Loc) (ls : Array Slot), wp_X4_finish_21 (wp_X4_finish_12 mrw mly mcl mtr mfo mki mro mlf mli msw msa msc msl mff mlt mgr post n_12) mrw mly mcl mtr mfo mki mro mlf mli msw msa msc msl mff mlt mgr post x1 n_21 mln_2 msp_2 mwh_2 mxx_2 msu_2 x2 → va_P (dC, dI) vwCl (wd_X4 qM aM0 aM1 aM2 aM3 aM4 aM5 aM6 aM7 aM8 aM9 aM10 aM11 aM12 kM0 kM1 kM2 kM3 kM4 kM5 kM6 kM7 kM8 kM9 kM10 kM11 kM12 mrw mly mln_2 msp_2 mwh_2 mcl mtr mfo mki mro mlf mli msw msa msc msl mff mlt mgr mxx_2 msu_2) H → va_D A (wd_X4 qM aM0 aM1 aM2 aM3 aM4 aM5 aM6 aM7 aM8 aM9 aM10 aM11 aM12 kM0 kM1 kM2 kM3 kM4 kM5 kM6 kM7 kM8 kM9 kM10 kM11 kM12 mrw mly mln_2 msp_2 mwh_2 mcl mtr mfo mki mro mlf mli msw msa msc msl mff mlt mgr mxx_2 msu_2) → va_S A s.heap H locs → lv_has ls 5 [(2, .int (xw_i x2)), (1, .int (xw_i x1)), (0, .ref qM)] → W p l e ({ frames := 2, cells := 0, slots := 0, locals := 44 } : Room) s m args below meth c H locs 0 0 Q (F0 m 21 ls []) := by
            intro n_21
            induction n_21 with
            | zero => intro mln_2 msp_2 mwh_2 mxx_2 msu_2 x2 H locs ls h; exact False.elim h
            | succ n_21 ih_21 =>
              intro mln_2 msp_2 mwh_2 mxx_2 msu_2 x2 H locs ls h hP hD hS hl
              have h : wl_X4_finish_21 (wp_X4_finish_12 mrw mly mcl mtr mfo mki mro mlf mli msw msa msc msl mff mlt mgr post n_12) mrw mly mcl mtr mfo mki mro mlf mli msw msa msc msl mff mlt mgr post x1 (wp_X4_finish_21 (wp_X4_finish_12 mrw mly mcl mtr mfo mki mro mlf mli msw msa msc msl mff mlt mgr post n_12) mrw mly mcl mtr mfo mki mro mlf mli msw msa msc msl mff mlt mgr post x1 n_21) mln_2 msp_2 mwh_2 mxx_2 msu_2 x2 := h
              unfold wl_X4_finish_21 at h
              refine lv_iload_n hx hb dX4_finish_21 rfl (lv_at hl 0 rfl) ?_
              refine lv_bipush (v := xw_i 15) hx hb dX4_finish_22 (by decide) ?_
              obtain ⟨hr4, h⟩ := h
              refine xw_icmp_gt (tgt := 116) hx hb ⟨hr4, ⟨by decide, by decide⟩⟩ dX4_finish_24 (by decide) (fun hcd => ?_) (fun hcd => ?_)
              · have h := h.1 hcd
                obtain ⟨x1_1, ex1_1⟩ : ∃ y : Int, y = x1 + 1 := ⟨_, rfl⟩
                have h := h x1_1 ex1_1
                refine lv_iinc (v := xw_i x1_1) (lv' := [(1, .int (xw_i x1_1)), (2, .int (xw_i x2)), (0, .ref qM)]) hx hb dX4_finish_116 hl (k := 1) rfl (xw_inc ex1_1) (by decide) rfl (fun ls hl => ?_)
                refine lv_goto (tgt := 12) hx hb dX4_finish_119 (by decide) ?_
                exact ih_12 mln_2 msp_2 mwh_2 mxx_2 msu_2 x1_1 _ _ _ h hP hD hS (lv_sub hl [0, 2] rfl)
              · have h := h.2 hcd
                refine lv_bipush (v := xw_i (-15)) hx hb dX4_finish_27 (by decide) ?_
                refine lv_istore_n (lv' := [(3, .int (xw_i (-15))), (2, .int (xw_i x2)), (1, .int (xw_i x1)), (0, .ref qM)]) hx hb dX4_finish_29 rfl hl (by decide) rfl (fun ls hl => ?_)
                have k_30 : ∀ (n_30 : Nat) (mln_3 : Int) (msp_3 : Int) (mwh_3 : Int) (mxx_3 : Nat → Int) (msu_3 : Nat → Int) (x3 : Int) (H : Heap) (locs : List Loc) (ls : Array Slot), wp_X4_finish_30 (wp_X4_finish_21 (wp_X4_finish_12 mrw mly mcl mtr mfo mki mro mlf mli msw msa msc msl mff mlt mgr post n_12) mrw mly mcl mtr mfo mki mro mlf mli msw msa msc msl mff mlt mgr post x1 n_21) mrw mly mcl mtr mfo mki mro mlf mli msw msa msc msl mff mlt mgr post x1 x2 n_30 mln_3 msp_3 mwh_3 mxx_3 msu_3 x3 → va_P (dC, dI) vwCl (wd_X4 qM aM0 aM1 aM2 aM3 aM4 aM5 aM6 aM7 aM8 aM9 aM10 aM11 aM12 kM0 kM1 kM2 kM3 kM4 kM5 kM6 kM7 kM8 kM9 kM10 kM11 kM12 mrw mly mln_3 msp_3 mwh_3 mcl mtr mfo mki mro mlf mli msw msa msc msl mff mlt mgr mxx_3 msu_3) H → va_D A (wd_X4 qM aM0 aM1 aM2 aM3 aM4 aM5 aM6 aM7 aM8 aM9 aM10 aM11 aM12 kM0 kM1 kM2 kM3 kM4 kM5 kM6 kM7 kM8 kM9 kM10 kM11 kM12 mrw mly mln_3 msp_3 mwh_3 mcl mtr mfo mki mro mlf mli msw msa msc msl mff mlt mgr mxx_3 msu_3) → va_S A s.heap H locs → lv_has ls 5 [(3, .int (xw_i x3)), (2, .int (xw_i x2)), (1, .int (xw_i x1)), (0, .ref qM)] → W p l e ({ frames := 2, cells := 0, slots := 0, locals := 44 } : Room) s m args below meth c H locs 0 0 Q (F0 m 30 ls []) := by
                  intro n_30
                  induction n_30 with
                  | zero => intro mln_3 msp_3 mwh_3 mxx_3 msu_3 x3 H locs ls h; exact False.elim h
                  | succ n_30 ih_30 =>
                    intro mln_3 msp_3 mwh_3 mxx_3 msu_3 x3 H locs ls h hP hD hS hl
                    have h : wl_X4_finish_30 (wp_X4_finish_21 (wp_X4_finish_12 mrw mly mcl mtr mfo mki mro mlf mli msw msa msc msl mff mlt mgr post n_12) mrw mly mcl mtr mfo mki mro mlf mli msw msa msc msl mff mlt mgr post x1 n_21) mrw mly mcl mtr mfo mki mro mlf mli msw msa msc msl mff mlt mgr post x1 x2 (wp_X4_finish_30 (wp_X4_finish_21 (wp_X4_finish_12 mrw mly mcl mtr mfo mki mro mlf mli msw msa msc msl mff mlt mgr post n_12) mrw mly mcl mtr mfo mki mro mlf mli msw msa msc msl mff mlt mgr post x1 n_21) mrw mly mcl mtr mfo mki mro mlf mli msw msa msc msl mff mlt mgr post x1 x2 n_30) mln_3 msp_3 mwh_3 mxx_3 msu_3 x3 := h
                    unfold wl_X4_finish_30 at h
                    refine lv_iload_n hx hb dX4_finish_30 rfl (lv_at hl 0 rfl) ?_
                    refine lv_bipush (v := xw_i 15) hx hb dX4_finish_31 (by decide) ?_
                    obtain ⟨hr5, h⟩ := h
                    refine xw_icmp_gt (tgt := 110) hx hb ⟨hr5, ⟨by decide, by decide⟩⟩ dX4_finish_33 (by decide) (fun hcd => ?_) (fun hcd => ?_)
                    · have h := h.1 hcd
                      obtain ⟨x2_1, ex2_1⟩ : ∃ y : Int, y = x2 + 1 := ⟨_, rfl⟩
                      have h := h x2_1 ex2_1
                      refine lv_iinc (v := xw_i x2_1) (lv' := [(2, .int (xw_i x2_1)), (3, .int (xw_i x3)), (1, .int (xw_i x1)), (0, .ref qM)]) hx hb dX4_finish_110 hl (k := 1) rfl (xw_inc ex2_1) (by decide) rfl (fun ls hl => ?_)
                      refine lv_goto (tgt := 21) hx hb dX4_finish_113 (by decide) ?_
                      exact ih_21 mln_3 msp_3 mwh_3 mxx_3 msu_3 x2_1 _ _ _ h hP hD hS (lv_sub hl [0, 2, 3] rfl)
                    · have h := h.2 hcd
                      refine lv_aload_n hx hb dX4_finish_36 rfl (lv_at hl 3 rfl) ?_
                      refine va_get (D := (dC, dI)) (ci := 4) (v := .ref aM11) (C := RX4) (T := TX4) (N := 21) hx hb hts hwsX40 hown hK hP 0 rfl rfl 19 (by decide) (hts (.fieldLink RX4 44 "BoxProverModel" "x" "[I") (by decide +kernel)) (fun _ h9 => h9) rfl dX4_finish_37 ?_
                      refine lv_iconst (v := xw_i 0) hx hb dX4_finish_40 (by decide) ?_
                      refine lv_iload_n hx hb dX4_finish_41 rfl (lv_at hl 2 rfl) ?_
                      obtain ⟨hin, h⟩ := h
                      obtain ⟨mxx_4, emxx_4⟩ : ∃ z : Nat → Int, z = xw_u mxx_3 0 x1 := ⟨_, rfl⟩
                      have h := h mxx_4 emxx_4
                      refine xw_iast (n := 4) hx hb hK hP hD hS 12 11 rfl rfl (by decide) hin emxx_4 dX4_finish_42 (fun H locs hP hD hS => ?_)
                      have hP : va_P (dC, dI) vwCl (wd_X4 qM aM0 aM1 aM2 aM3 aM4 aM5 aM6 aM7 aM8 aM9 aM10 aM11 aM12 kM0 kM1 kM2 kM3 kM4 kM5 kM6 kM7 kM8 kM9 kM10 kM11 kM12 mrw mly mln_3 msp_3 mwh_3 mcl mtr mfo mki mro mlf mli msw msa msc msl mff mlt mgr mxx_4 msu_3) H := hP
                      have hD : va_D A (wd_X4 qM aM0 aM1 aM2 aM3 aM4 aM5 aM6 aM7 aM8 aM9 aM10 aM11 aM12 kM0 kM1 kM2 kM3 kM4 kM5 kM6 kM7 kM8 kM9 kM10 kM11 kM12 mrw mly mln_3 msp_3 mwh_3 mcl mtr mfo mki mro mlf mli msw msa msc msl mff mlt mgr mxx_4 msu_3) := hD
                      refine lv_aload_n hx hb dX4_finish_43 rfl (lv_at hl 3 rfl) ?_
                      refine va_get (D := (dC, dI)) (ci := 4) (v := .ref aM11) (C := RX4) (T := TX4) (N := 21) hx hb hts hwsX40 hown hK hP 0 rfl rfl 19 (by decide) (hts (.fieldLink RX4 44 "BoxProverModel" "x" "[I") (by decide +kernel)) (fun _ h9 => h9) rfl dX4_finish_44 ?_
                      refine lv_iconst (v := xw_i 1) hx hb dX4_finish_47 (by decide) ?_
                      refine lv_iload_n hx hb dX4_finish_48 rfl (lv_at hl 1 rfl) ?_
                      obtain ⟨hin, h⟩ := h
                      obtain ⟨mxx_5, emxx_5⟩ : ∃ z : Nat → Int, z = xw_u mxx_4 1 x2 := ⟨_, rfl⟩
                      have h := h mxx_5 emxx_5
                      refine xw_iast (n := 4) hx hb hK hP hD hS 12 11 rfl rfl (by decide) hin emxx_5 dX4_finish_49 (fun H locs hP hD hS => ?_)
                      have hP : va_P (dC, dI) vwCl (wd_X4 qM aM0 aM1 aM2 aM3 aM4 aM5 aM6 aM7 aM8 aM9 aM10 aM11 aM12 kM0 kM1 kM2 kM3 kM4 kM5 kM6 kM7 kM8 kM9 kM10 kM11 kM12 mrw mly mln_3 msp_3 mwh_3 mcl mtr mfo mki mro mlf mli msw msa msc msl mff mlt mgr mxx_5 msu_3) H := hP
                      have hD : va_D A (wd_X4 qM aM0 aM1 aM2 aM3 aM4 aM5 aM6 aM7 aM8 aM9 aM10 aM11 aM12 kM0 kM1 kM2 kM3 kM4 kM5 kM6 kM7 kM8 kM9 kM10 kM11 kM12 mrw mly mln_3 msp_3 mwh_3 mcl mtr mfo mki mro mlf mli msw msa msc msl mff mlt mgr mxx_5 msu_3) := hD
                      refine lv_aload_n hx hb dX4_finish_50 rfl (lv_at hl 3 rfl) ?_
                      refine va_get (D := (dC, dI)) (ci := 4) (v := .ref aM11) (C := RX4) (T := TX4) (N := 21) hx hb hts hwsX40 hown hK hP 0 rfl rfl 19 (by decide) (hts (.fieldLink RX4 44 "BoxProverModel" "x" "[I") (by decide +kernel)) (fun _ h9 => h9) rfl dX4_finish_51 ?_
                      refine lv_iconst (v := xw_i 2) hx hb dX4_finish_54 (by decide) ?_
                      refine lv_iload_n hx hb dX4_finish_55 rfl (lv_at hl 0 rfl) ?_
                      obtain ⟨hin, h⟩ := h
                      obtain ⟨mxx_6, emxx_6⟩ : ∃ z : Nat → Int, z = xw_u mxx_5 2 x3 := ⟨_, rfl⟩
                      have h := h mxx_6 emxx_6
                      refine xw_iast (n := 4) hx hb hK hP hD hS 12 11 rfl rfl (by decide) hin emxx_6 dX4_finish_56 (fun H locs hP hD hS => ?_)
                      have hP : va_P (dC, dI) vwCl (wd_X4 qM aM0 aM1 aM2 aM3 aM4 aM5 aM6 aM7 aM8 aM9 aM10 aM11 aM12 kM0 kM1 kM2 kM3 kM4 kM5 kM6 kM7 kM8 kM9 kM10 kM11 kM12 mrw mly mln_3 msp_3 mwh_3 mcl mtr mfo mki mro mlf mli msw msa msc msl mff mlt mgr mxx_6 msu_3) H := hP
                      have hD : va_D A (wd_X4 qM aM0 aM1 aM2 aM3 aM4 aM5 aM6 aM7 aM8 aM9 aM10 aM11 aM12 kM0 kM1 kM2 kM3 kM4 kM5 kM6 kM7 kM8 kM9 kM10 kM11 kM12 mrw mly mln_3 msp_3 mwh_3 mcl mtr mfo mki mro mlf mli msw msa msc msl mff mlt mgr mxx_6 msu_3) := hD
                      refine lv_aload_n hx hb dX4_finish_57 rfl (lv_at hl 3 rfl) ?_
                      refine xw_backv (wc := (wd_X4 qM aM0 aM1 aM2 aM3 aM4 aM5 aM6 aM7 aM8 aM9 aM10 aM11 aM12 kM0 kM1 kM2 kM3 kM4 kM5 kM6 kM7 kM8 kM9 kM10 kM11 kM12 mrw mly mln_3 msp_3 mwh_3 mcl mtr mfo mki mro mlf mli msw msa msc msl mff mlt mgr mxx_6 msu_3)) (wr := []) (va_runV (As := []) (rest := []) ⟨hx, hb, hml, hown, hts⟩ (c_X4_addUp l dC dI qM aM0 aM1 aM2 aM3 aM4 aM5 aM6 aM7 aM8 aM9 aM10 aM11 aM12 kM0 kM1 kM2 kM3 kM4 kM5 kM6 kM7 kM8 kM9 kM10 kM11 kM12 H.size mrw mly mln_3 msp_3 mwh_3 mcl mtr mfo mki mro mlf mli msw msa msc msl mff mlt mgr mxx_6 msu_3 _ h) (cwV 0 hts gX4_finish_X4_addUp rfl rfl rfl (by decide +kernel) ⟨Nat.le_of_ble_eq_true rfl, Nat.le_of_ble_eq_true rfl⟩) (xw_preV (ci := 4) hK hP hD [0, 1, 2, 3, 4, 5, 6, 7, 8, 9, 10, 11, 12, 13] rfl rfl (by decide) [0, 1, 2, 3, 4, 5, 6, 7, 8, 9, 10, 11, 12] rfl rfl rfl) rfl rfl hl.1 rfl (lv_room (Nat.le_of_ble_eq_true rfl)) dX4_finish_58 ⟨Nat.le_of_ble_eq_true rfl, Nat.le_of_ble_eq_true rfl⟩) hK hP hD hS hA [0, 1, 2, 3, 4, 5, 6, 7, 8, 9, 10, 11, 12, 13] [] rfl rfl (by decide) (by decide) (fun msu_4 H locs h hP hD hK2 hS => ?_)
                      try dsimp only at h
                      have hP : va_P (dC, dI) vwCl (wd_X4 qM aM0 aM1 aM2 aM3 aM4 aM5 aM6 aM7 aM8 aM9 aM10 aM11 aM12 kM0 kM1 kM2 kM3 kM4 kM5 kM6 kM7 kM8 kM9 kM10 kM11 kM12 mrw mly mln_3 msp_3 mwh_3 mcl mtr mfo mki mro mlf mli msw msa msc msl mff mlt mgr mxx_6 msu_4) H := hP
                      have hD : va_D A (wd_X4 qM aM0 aM1 aM2 aM3 aM4 aM5 aM6 aM7 aM8 aM9 aM10 aM11 aM12 kM0 kM1 kM2 kM3 kM4 kM5 kM6 kM7 kM8 kM9 kM10 kM11 kM12 mrw mly mln_3 msp_3 mwh_3 mcl mtr mfo mki mro mlf mli msw msa msc msl mff mlt mgr mxx_6 msu_4) := hD
                      refine lv_bipush (v := xw_i (-15)) hx hb dX4_finish_61 (by decide) ?_
                      refine lv_istore (lv' := [(4, .int (xw_i (-15))), (3, .int (xw_i x3)), (2, .int (xw_i x2)), (1, .int (xw_i x1)), (0, .ref qM)]) hx hb dX4_finish_63 hl (by decide) rfl (fun ls hl => ?_)
                      have k_65 : ∀ (n_65 : Nat) (mln_4 : Int) (msp_4 : Int) (mwh_4 : Int) (mxx_7 : Nat → Int) (msu_5 : Nat → Int) (x4 : Int) (H : Heap) (locs : List Loc) (ls : Array Slot), wp_X4_finish_65 (wp_X4_finish_30 (wp_X4_finish_21 (wp_X4_finish_12 mrw mly mcl mtr mfo mki mro mlf mli msw msa msc msl mff mlt mgr post n_12) mrw mly mcl mtr mfo mki mro mlf mli msw msa msc msl mff mlt mgr post x1 n_21) mrw mly mcl mtr mfo mki mro mlf mli msw msa msc msl mff mlt mgr post x1 x2 n_30) mrw mly mcl mtr mfo mki mro mlf mli msw msa msc msl mff mlt mgr post x3 n_65 mln_4 msp_4 mwh_4 mxx_7 msu_5 x4 → va_P (dC, dI) vwCl (wd_X4 qM aM0 aM1 aM2 aM3 aM4 aM5 aM6 aM7 aM8 aM9 aM10 aM11 aM12 kM0 kM1 kM2 kM3 kM4 kM5 kM6 kM7 kM8 kM9 kM10 kM11 kM12 mrw mly mln_4 msp_4 mwh_4 mcl mtr mfo mki mro mlf mli msw msa msc msl mff mlt mgr mxx_7 msu_5) H → va_D A (wd_X4 qM aM0 aM1 aM2 aM3 aM4 aM5 aM6 aM7 aM8 aM9 aM10 aM11 aM12 kM0 kM1 kM2 kM3 kM4 kM5 kM6 kM7 kM8 kM9 kM10 kM11 kM12 mrw mly mln_4 msp_4 mwh_4 mcl mtr mfo mki mro mlf mli msw msa msc msl mff mlt mgr mxx_7 msu_5) → va_S A s.heap H locs → lv_has ls 5 [(4, .int (xw_i x4)), (3, .int (xw_i x3)), (2, .int (xw_i x2)), (1, .int (xw_i x1)), (0, .ref qM)] → W p l e ({ frames := 2, cells := 0, slots := 0, locals := 44 } : Room) s m args below meth c H locs 0 0 Q (F0 m 65 ls []) := by
                        intro n_65
                        induction n_65 with
                        | zero => intro mln_4 msp_4 mwh_4 mxx_7 msu_5 x4 H locs ls h; exact False.elim h
                        | succ n_65 ih_65 =>
                          intro mln_4 msp_4 mwh_4 mxx_7 msu_5 x4 H locs ls h hP hD hS hl
                          have h : wl_X4_finish_65 (wp_X4_finish_30 (wp_X4_finish_21 (wp_X4_finish_12 mrw mly mcl mtr mfo mki mro mlf mli msw msa msc msl mff mlt mgr post n_12) mrw mly mcl mtr mfo mki mro mlf mli msw msa msc msl mff mlt mgr post x1 n_21) mrw mly mcl mtr mfo mki mro mlf mli msw msa msc msl mff mlt mgr post x1 x2 n_30) mrw mly mcl mtr mfo mki mro mlf mli msw msa msc msl mff mlt mgr post x3 (wp_X4_finish_65 (wp_X4_finish_30 (wp_X4_finish_21 (wp_X4_finish_12 mrw mly mcl mtr mfo mki mro mlf mli msw msa msc msl mff mlt mgr post n_12) mrw mly mcl mtr mfo mki mro mlf mli msw msa msc msl mff mlt mgr post x1 n_21) mrw mly mcl mtr mfo mki mro mlf mli msw msa msc msl mff mlt mgr post x1 x2 n_30) mrw mly mcl mtr mfo mki mro mlf mli msw msa msc msl mff mlt mgr post x3 n_65) mln_4 msp_4 mwh_4 mxx_7 msu_5 x4 := h
                          unfold wl_X4_finish_65 at h
                          refine lv_iload hx hb dX4_finish_65 (lv_at hl 0 rfl) ?_
                          refine lv_bipush (v := xw_i 15) hx hb dX4_finish_67 (by decide) ?_
                          obtain ⟨hr6, h⟩ := h
                          refine xw_icmp_gt (tgt := 104) hx hb ⟨hr6, ⟨by decide, by decide⟩⟩ dX4_finish_69 (by decide) (fun hcd => ?_) (fun hcd => ?_)
                          · have h := h.1 hcd
                            obtain ⟨x3_1, ex3_1⟩ : ∃ y : Int, y = x3 + 1 := ⟨_, rfl⟩
                            have h := h x3_1 ex3_1
                            refine lv_iinc (v := xw_i x3_1) (lv' := [(3, .int (xw_i x3_1)), (4, .int (xw_i x4)), (2, .int (xw_i x2)), (1, .int (xw_i x1)), (0, .ref qM)]) hx hb dX4_finish_104 hl (k := 1) rfl (xw_inc ex3_1) (by decide) rfl (fun ls hl => ?_)
                            refine lv_goto (tgt := 30) hx hb dX4_finish_107 (by decide) ?_
                            exact ih_30 mln_4 msp_4 mwh_4 mxx_7 msu_5 x3_1 _ _ _ h hP hD hS (lv_sub hl [0, 2, 3, 4] rfl)
                          · have h := h.2 hcd
                            refine lv_aload_n hx hb dX4_finish_72 rfl (lv_at hl 4 rfl) ?_
                            refine va_get (D := (dC, dI)) (ci := 4) (v := .ref aM11) (C := RX4) (T := TX4) (N := 21) hx hb hts hwsX40 hown hK hP 0 rfl rfl 19 (by decide) (hts (.fieldLink RX4 44 "BoxProverModel" "x" "[I") (by decide +kernel)) (fun _ h9 => h9) rfl dX4_finish_73 ?_
                            refine lv_iconst (v := xw_i 3) hx hb dX4_finish_76 (by decide) ?_
                            refine lv_iload hx hb dX4_finish_77 (lv_at hl 0 rfl) ?_
                            obtain ⟨hin, h⟩ := h
                            obtain ⟨mxx_8, emxx_8⟩ : ∃ z : Nat → Int, z = xw_u mxx_7 3 x4 := ⟨_, rfl⟩
                            have h := h mxx_8 emxx_8
                            refine xw_iast (n := 4) hx hb hK hP hD hS 12 11 rfl rfl (by decide) hin emxx_8 dX4_finish_79 (fun H locs hP hD hS => ?_)
                            have hP : va_P (dC, dI) vwCl (wd_X4 qM aM0 aM1 aM2 aM3 aM4 aM5 aM6 aM7 aM8 aM9 aM10 aM11 aM12 kM0 kM1 kM2 kM3 kM4 kM5 kM6 kM7 kM8 kM9 kM10 kM11 kM12 mrw mly mln_4 msp_4 mwh_4 mcl mtr mfo mki mro mlf mli msw msa msc msl mff mlt mgr mxx_8 msu_5) H := hP
                            have hD : va_D A (wd_X4 qM aM0 aM1 aM2 aM3 aM4 aM5 aM6 aM7 aM8 aM9 aM10 aM11 aM12 kM0 kM1 kM2 kM3 kM4 kM5 kM6 kM7 kM8 kM9 kM10 kM11 kM12 mrw mly mln_4 msp_4 mwh_4 mcl mtr mfo mki mro mlf mli msw msa msc msl mff mlt mgr mxx_8 msu_5) := hD
                            refine lv_aload_n hx hb dX4_finish_80 rfl (lv_at hl 4 rfl) ?_
                            refine lv_iload hx hb dX4_finish_81 (lv_at hl 0 rfl) ?_
                            refine xw_backi (wc := (wd_X4 qM aM0 aM1 aM2 aM3 aM4 aM5 aM6 aM7 aM8 aM9 aM10 aM11 aM12 kM0 kM1 kM2 kM3 kM4 kM5 kM6 kM7 kM8 kM9 kM10 kM11 kM12 mrw mly mln_4 msp_4 mwh_4 mcl mtr mfo mki mro mlf mli msw msa msc msl mff mlt mgr mxx_8 msu_5)) (wr := []) (va_runV (As := [.int (xw_i x4)]) (rest := []) ⟨hx, hb, hml, hown, hts⟩ (c_X4_holds l dC dI qM aM0 aM1 aM2 aM3 aM4 aM5 aM6 aM7 aM8 aM9 aM10 aM11 aM12 kM0 kM1 kM2 kM3 kM4 kM5 kM6 kM7 kM8 kM9 kM10 kM11 kM12 H.size mrw mly mln_4 msp_4 mwh_4 mcl mtr mfo mki mro mlf mli msw msa msc msl mff mlt mgr mxx_8 msu_5 x4 _ h) (cwV 1 hts gX4_finish_X4_holds rfl rfl rfl (by decide +kernel) ⟨Nat.le_of_ble_eq_true rfl, Nat.le_of_ble_eq_true rfl⟩) (xw_preV (ci := 4) hK hP hD [0, 1, 2, 3, 4, 5, 6, 7, 8, 9, 10, 11, 12, 13] rfl rfl (by decide) [0, 1, 2, 3, 4, 5, 6, 7, 8, 9, 10, 11, 12] rfl rfl rfl) rfl rfl hl.1 rfl (lv_room (Nat.le_of_ble_eq_true rfl)) dX4_finish_83 ⟨Nat.le_of_ble_eq_true rfl, Nat.le_of_ble_eq_true rfl⟩) hK hP hD hS hA [0, 1, 2, 3, 4, 5, 6, 7, 8, 9, 10, 11, 12, 13] [] rfl rfl (by decide) (by decide) (fun r u H locs h hP hD hK2 hS => ?_)
                            try dsimp only at h
                            have hP : va_P (dC, dI) vwCl (wd_X4 qM aM0 aM1 aM2 aM3 aM4 aM5 aM6 aM7 aM8 aM9 aM10 aM11 aM12 kM0 kM1 kM2 kM3 kM4 kM5 kM6 kM7 kM8 kM9 kM10 kM11 kM12 mrw mly mln_4 msp_4 mwh_4 mcl mtr mfo mki mro mlf mli msw msa msc msl mff mlt mgr mxx_8 msu_5) H := hP
                            have hD : va_D A (wd_X4 qM aM0 aM1 aM2 aM3 aM4 aM5 aM6 aM7 aM8 aM9 aM10 aM11 aM12 kM0 kM1 kM2 kM3 kM4 kM5 kM6 kM7 kM8 kM9 kM10 kM11 kM12 mrw mly mln_4 msp_4 mwh_4 mcl mtr mfo mki mro mlf mli msw msa msc msl mff mlt mgr mxx_8 msu_5) := hD
                            have k_98 : ∀ (mln_5 : Int) (msp_5 : Int) (mwh_5 : Int) (mxx_9 : Nat → Int) (msu_6 : Nat → Int) (x4_1 : Int) (H : Heap) (locs : List Loc) (ls : Array Slot), wp_X4_finish_98 (wp_X4_finish_65 (wp_X4_finish_30 (wp_X4_finish_21 (wp_X4_finish_12 mrw mly mcl mtr mfo mki mro mlf mli msw msa msc msl mff mlt mgr post n_12) mrw mly mcl mtr mfo mki mro mlf mli msw msa msc msl mff mlt mgr post x1 n_21) mrw mly mcl mtr mfo mki mro mlf mli msw msa msc msl mff mlt mgr post x1 x2 n_30) mrw mly mcl mtr mfo mki mro mlf mli msw msa msc msl mff mlt mgr post x3 n_65) mln_5 msp_5 mwh_5 mxx_9 msu_6 x4_1 → va_P (dC, dI) vwCl (wd_X4 qM aM0 aM1 aM2 aM3 aM4 aM5 aM6 aM7 aM8 aM9 aM10 aM11 aM12 kM0 kM1 kM2 kM3 kM4 kM5 kM6 kM7 kM8 kM9 kM10 kM11 kM12 mrw mly mln_5 msp_5 mwh_5 mcl mtr mfo mki mro mlf mli msw msa msc msl mff mlt mgr mxx_9 msu_6) H → va_D A (wd_X4 qM aM0 aM1 aM2 aM3 aM4 aM5 aM6 aM7 aM8 aM9 aM10 aM11 aM12 kM0 kM1 kM2 kM3 kM4 kM5 kM6 kM7 kM8 kM9 kM10 kM11 kM12 mrw mly mln_5 msp_5 mwh_5 mcl mtr mfo mki mro mlf mli msw msa msc msl mff mlt mgr mxx_9 msu_6) → va_S A s.heap H locs → lv_has ls 5 [(4, .int (xw_i x4_1)), (3, .int (xw_i x3)), (2, .int (xw_i x2)), (1, .int (xw_i x1)), (0, .ref qM)] → W p l e ({ frames := 2, cells := 0, slots := 0, locals := 44 } : Room) s m args below meth c H locs 0 0 Q (F0 m 98 ls []) := by
                              intro mln_5 msp_5 mwh_5 mxx_9 msu_6 x4_1 H locs ls h hP hD hS hl
                              unfold wp_X4_finish_98 at h
                              obtain ⟨x4_2, ex4_2⟩ : ∃ y : Int, y = x4_1 + 1 := ⟨_, rfl⟩
                              have h := h x4_2 ex4_2
                              refine lv_iinc (v := xw_i x4_2) (lv' := [(4, .int (xw_i x4_2)), (3, .int (xw_i x3)), (2, .int (xw_i x2)), (1, .int (xw_i x1)), (0, .ref qM)]) hx hb dX4_finish_98 hl (k := 0) rfl (xw_inc ex4_2) (by decide) rfl (fun ls hl => ?_)
                              refine lv_goto (tgt := 65) hx hb dX4_finish_101 (by decide) ?_
                              exact ih_65 mln_5 msp_5 mwh_5 mxx_9 msu_6 x4_2 _ _ _ h hP hD hS (lv_sub hl [0, 1, 2, 3, 4] rfl)
                            obtain ⟨hr7, h⟩ := h
                            refine xw_if_eq (tgt := 98) hx hb hr7 dX4_finish_86 (by decide) (fun hcd => ?_) (fun hcd => ?_)
                            · have h := h.1 hcd
                              exact k_98 mln_4 msp_4 mwh_4 mxx_8 msu_5 x4 _ _ _ h hP hD hS (lv_sub hl [0, 1, 2, 3, 4] rfl)
                            · have h := h.2 hcd
                              refine lv_aload_n hx hb dX4_finish_89 rfl (lv_at hl 4 rfl) ?_
                              refine xw_backi (wc := (wd_X4 qM aM0 aM1 aM2 aM3 aM4 aM5 aM6 aM7 aM8 aM9 aM10 aM11 aM12 kM0 kM1 kM2 kM3 kM4 kM5 kM6 kM7 kM8 kM9 kM10 kM11 kM12 mrw mly mln_4 msp_4 mwh_4 mcl mtr mfo mki mro mlf mli msw msa msc msl mff mlt mgr mxx_8 msu_5)) (wr := []) (va_runV (As := []) (rest := []) ⟨hx, hb, hml, hown, hts⟩ (c_X4_isOpen l dC dI qM aM0 aM1 aM2 aM3 aM4 aM5 aM6 aM7 aM8 aM9 aM10 aM11 aM12 kM0 kM1 kM2 kM3 kM4 kM5 kM6 kM7 kM8 kM9 kM10 kM11 kM12 H.size mrw mly mln_4 msp_4 mwh_4 mcl mtr mfo mki mro mlf mli msw msa msc msl mff mlt mgr mxx_8 msu_5 _ h) (cwV 0 hts gX4_finish_X4_isOpen rfl rfl rfl (by decide +kernel) ⟨Nat.le_of_ble_eq_true rfl, Nat.le_of_ble_eq_true rfl⟩) (xw_preV (ci := 4) hK hP hD [0, 1, 2, 3, 4, 5, 6, 7, 8, 9, 10, 11, 12, 13] rfl rfl (by decide) [0, 1, 2, 3, 4, 5, 6, 7, 8, 9, 10, 11, 12] rfl rfl rfl) rfl rfl hl.1 rfl (lv_room (Nat.le_of_ble_eq_true rfl)) dX4_finish_90 ⟨Nat.le_of_ble_eq_true rfl, Nat.le_of_ble_eq_true rfl⟩) hK hP hD hS hA [0, 1, 2, 3, 4, 5, 6, 7, 8, 9, 10, 11, 12, 13] [] rfl rfl (by decide) (by decide) (fun r_1 u H locs h hP hD hK2 hS => ?_)
                              try dsimp only at h
                              have hP : va_P (dC, dI) vwCl (wd_X4 qM aM0 aM1 aM2 aM3 aM4 aM5 aM6 aM7 aM8 aM9 aM10 aM11 aM12 kM0 kM1 kM2 kM3 kM4 kM5 kM6 kM7 kM8 kM9 kM10 kM11 kM12 mrw mly mln_4 msp_4 mwh_4 mcl mtr mfo mki mro mlf mli msw msa msc msl mff mlt mgr mxx_8 msu_5) H := hP
                              have hD : va_D A (wd_X4 qM aM0 aM1 aM2 aM3 aM4 aM5 aM6 aM7 aM8 aM9 aM10 aM11 aM12 kM0 kM1 kM2 kM3 kM4 kM5 kM6 kM7 kM8 kM9 kM10 kM11 kM12 mrw mly mln_4 msp_4 mwh_4 mcl mtr mfo mki mro mlf mli msw msa msc msl mff mlt mgr mxx_8 msu_5) := hD
                              obtain ⟨hr8, h⟩ := h
                              refine xw_if_eq (tgt := 98) hx hb hr8 dX4_finish_93 (by decide) (fun hcd => ?_) (fun hcd => ?_)
                              · have h := h.1 hcd
                                exact k_98 mln_4 msp_4 mwh_4 mxx_8 msu_5 x4 _ _ _ h hP hD hS (lv_sub hl [0, 1, 2, 3, 4] rfl)
                              · have h := h.2 hcd
                                refine lv_iconst (v := xw_i 0) hx hb dX4_finish_96 (by decide) ?_
                                exact hret _ _ _ _ 0 (mln_4, msp_4, mwh_4, mxx_8, msu_5) dX4_finish_97 h hP hD hK hS
                      obtain ⟨fu, h⟩ := h
                      exact k_65 fu mln_3 msp_3 mwh_3 mxx_6 msu_4 (-15) _ _ _ h hP hD hS (lv_sub hl [0, 1, 2, 3, 4] rfl)
                obtain ⟨fu, h⟩ := h
                exact k_30 fu mln_2 msp_2 mwh_2 mxx_2 msu_2 (-15) _ _ _ h hP hD hS (lv_sub hl [0, 1, 2, 3] rfl)
          obtain ⟨fu, h⟩ := h
          exact k_21 fu mln_1 msp_1 mwh_1 mxx_1 msu_1 (-15) _ _ _ h hP hD hS (lv_sub hl [0, 1, 2] rfl)
    obtain ⟨fu, h⟩ := h
    exact k_12 fu mln msp mwh mxx msu (-15) _ _ _ h hP hD hS (lv_sub hl [0, 1] rfl)
  · have h := h.2 hcd
    refine lv_iconst (v := xw_i (-1)) hx hb dX4_finish_7 (by decide) ?_
    exact hret _ _ _ _ (-1) (mln, msp, mwh, mxx, msu) dX4_finish_8 h hP hD hK hS
set_option maxHeartbeats 4000000 in
set_option maxRecDepth 100000 in
theorem c_X4_lines (l : Launch) (dC : Nat → ClassId) (dI : Nat → Nat → Nat) (qM aM0 aM1 aM2 aM3 aM4 aM5 aM6 aM7 aM8 aM9 aM10 aM11 aM12 : Nat) (kM0 kM1 kM2 kM3 kM4 kM5 kM6 kM7 kM8 kM9 kM10 kM11 kM12 : ClassId) (sz : Nat) (mrw : Int) (mly : Int) (mln : Int) (msp : Int) (mwh : Int) (mcl : Int) (mtr : Int) (mfo : Int) (mki : Nat → Int) (mro : Nat → Int) (mlf : Nat → Int) (mli : Nat → Int) (msw : Nat → Int) (msa : Nat → Int) (msc : Nat → Int) (msl : Nat → Int) (mff : Nat → Int) (mlt : Nat → Int) (mgr : Nat → Int) (mxx : Nat → Int) (msu : Nat → Int) (post : Int → Prop) (h : wp_X4_lines post mrw mly mln msp mwh mcl mtr mfo mki mro mlf mli msw msa msc msl mff mlt mgr mxx msu) : Met l yX4_lines wsX4_lines ({ frames := 0, cells := 0, slots := 0, locals := 0 }) (va_Pc [.ref qM] (xw_Pre (dC, dI) vwCl (wd_X4 qM aM0 aM1 aM2 aM3 aM4 aM5 aM6 aM7 aM8 aM9 aM10 aM11 aM12 kM0 kM1 kM2 kM3 kM4 kM5 kM6 kM7 kM8 kM9 kM10 kM11 kM12 mrw mly mln msp mwh mcl mtr mfo mki mro mlf mli msw msa msc msl mff mlt mgr mxx msu) [(kM0, .int), (kM1, .int), (kM2, .int), (kM3, .long), (kM4, .int), (kM5, .int), (kM6, .int), (kM7, .int), (kM8, .int), (kM9, .int), (kM10, .int), (kM11, .int), (kM12, .int)] sz)) (va_Qi (xw_pi (fun v (u : Unit) => post v)) (xw_B (dC, dI) vwCl (fun (_ : Unit) => [(kM0, .int), (kM1, .int), (kM2, .int), (kM3, .long), (kM4, .int), (kM5, .int), (kM6, .int), (kM7, .int), (kM8, .int), (kM9, .int), (kM10, .int), (kM11, .int), (kM12, .int)]) (va_A (wd_X4 qM aM0 aM1 aM2 aM3 aM4 aM5 aM6 aM7 aM8 aM9 aM10 aM11 aM12 kM0 kM1 kM2 kM3 kM4 kM5 kM6 kM7 kM8 kM9 kM10 kM11 kM12 mrw mly mln msp mwh mcl mtr mfo mki mro mlf mli msw msa msc msl mff mlt mgr mxx msu) sz) (fun (u : Unit) => (wd_X4 qM aM0 aM1 aM2 aM3 aM4 aM5 aM6 aM7 aM8 aM9 aM10 aM11 aM12 kM0 kM1 kM2 kM3 kM4 kM5 kM6 kM7 kM8 kM9 kM10 kM11 kM12 mrw mly mln msp mwh mcl mtr mfo mki mro mlf mli msw msa msc msl mff mlt mgr mxx msu))) (va_A (wd_X4 qM aM0 aM1 aM2 aM3 aM4 aM5 aM6 aM7 aM8 aM9 aM10 aM11 aM12 kM0 kM1 kM2 kM3 kM4 kM5 kM6 kM7 kM8 kM9 kM10 kM11 kM12 mrw mly mln msp mwh mcl mtr mfo mki mro mlf mli msw msa msc msl mff mlt mgr mxx msu) sz)) 0 0 (va_A (wd_X4 qM aM0 aM1 aM2 aM3 aM4 aM5 aM6 aM7 aM8 aM9 aM10 aM11 aM12 kM0 kM1 kM2 kM3 kM4 kM5 kM6 kM7 kM8 kM9 kM10 kM11 kM12 mrw mly mln msp mwh mcl mtr mfo mki mro mlf mli msw msa msc msl mff mlt mgr mxx msu) sz) := by
  refine xw_ofI (cc := cX4_lines) (maxL := 1) (by decide +kernel) rfl (Nat.le_of_ble_eq_true rfl) ?_
  intro p e s m args below meth c hx hb hml hown hts A hA hP hD hK Q hret ls hl hS
  have hl : lv_has ls 1 [(0, .ref qM)] := hl
  have hwsX40 : ∀ w ∈ wsX40, w ∈ wsX4_lines := fun _ h => List.mem_cons_of_mem _ (List.mem_append_right _ h)
  unfold wp_X4_lines at h
  refine lv_aload_n hx hb dX4_lines_0 rfl (lv_at hl 0 rfl) ?_
  refine va_get (D := (dC, dI)) (ci := 4) (v := .int (xw_i mln)) (C := RX4) (T := TX4) (N := 21) hx hb hts hwsX40 hown hK hP 0 rfl rfl 5 (by decide) (hts (.fieldLink RX4 58 "BoxProverModel" "lines" "I") (by decide +kernel)) (fun _ h9 => h9) rfl dX4_lines_1 ?_
  exact hret _ _ _ _ mln () dX4_lines_4 h hP hD hK hS
set_option maxHeartbeats 4000000 in
set_option maxRecDepth 100000 in
theorem c_X4_line (l : Launch) (dC : Nat → ClassId) (dI : Nat → Nat → Nat) (qM aM0 aM1 aM2 aM3 aM4 aM5 aM6 aM7 aM8 aM9 aM10 aM11 aM12 : Nat) (kM0 kM1 kM2 kM3 kM4 kM5 kM6 kM7 kM8 kM9 kM10 kM11 kM12 : ClassId) (sz : Nat) (mrw : Int) (mly : Int) (mln : Int) (msp : Int) (mwh : Int) (mcl : Int) (mtr : Int) (mfo : Int) (mki : Nat → Int) (mro : Nat → Int) (mlf : Nat → Int) (mli : Nat → Int) (msw : Nat → Int) (msa : Nat → Int) (msc : Nat → Int) (msl : Nat → Int) (mff : Nat → Int) (mlt : Nat → Int) (mgr : Nat → Int) (mxx : Nat → Int) (msu : Nat → Int) (p1 : Int) (p2 : Int) (post : Int → Prop) (h : wp_X4_line post mrw mly mln msp mwh mcl mtr mfo mki mro mlf mli msw msa msc msl mff mlt mgr mxx msu p1 p2) : Met l yX4_line wsX4_line ({ frames := 1, cells := 0, slots := 0, locals := 21 }) (va_Pc [.ref qM, .int (xw_i p1), .int (xw_i p2)] (xw_Pre (dC, dI) vwCl (wd_X4 qM aM0 aM1 aM2 aM3 aM4 aM5 aM6 aM7 aM8 aM9 aM10 aM11 aM12 kM0 kM1 kM2 kM3 kM4 kM5 kM6 kM7 kM8 kM9 kM10 kM11 kM12 mrw mly mln msp mwh mcl mtr mfo mki mro mlf mli msw msa msc msl mff mlt mgr mxx msu) [(kM0, .int), (kM1, .int), (kM2, .int), (kM3, .long), (kM4, .int), (kM5, .int), (kM6, .int), (kM7, .int), (kM8, .int), (kM9, .int), (kM10, .int), (kM11, .int), (kM12, .int)] sz)) (va_Ql (xw_pl (fun v (u : Unit) => post v)) (xw_B (dC, dI) vwCl (fun (_ : Unit) => [(kM0, .int), (kM1, .int), (kM2, .int), (kM3, .long), (kM4, .int), (kM5, .int), (kM6, .int), (kM7, .int), (kM8, .int), (kM9, .int), (kM10, .int), (kM11, .int), (kM12, .int)]) (va_A (wd_X4 qM aM0 aM1 aM2 aM3 aM4 aM5 aM6 aM7 aM8 aM9 aM10 aM11 aM12 kM0 kM1 kM2 kM3 kM4 kM5 kM6 kM7 kM8 kM9 kM10 kM11 kM12 mrw mly mln msp mwh mcl mtr mfo mki mro mlf mli msw msa msc msl mff mlt mgr mxx msu) sz) (fun (u : Unit) => (wd_X4 qM aM0 aM1 aM2 aM3 aM4 aM5 aM6 aM7 aM8 aM9 aM10 aM11 aM12 kM0 kM1 kM2 kM3 kM4 kM5 kM6 kM7 kM8 kM9 kM10 kM11 kM12 mrw mly mln msp mwh mcl mtr mfo mki mro mlf mli msw msa msc msl mff mlt mgr mxx msu))) (va_A (wd_X4 qM aM0 aM1 aM2 aM3 aM4 aM5 aM6 aM7 aM8 aM9 aM10 aM11 aM12 kM0 kM1 kM2 kM3 kM4 kM5 kM6 kM7 kM8 kM9 kM10 kM11 kM12 mrw mly mln msp mwh mcl mtr mfo mki mro mlf mli msw msa msc msl mff mlt mgr mxx msu) sz)) 0 0 (va_A (wd_X4 qM aM0 aM1 aM2 aM3 aM4 aM5 aM6 aM7 aM8 aM9 aM10 aM11 aM12 kM0 kM1 kM2 kM3 kM4 kM5 kM6 kM7 kM8 kM9 kM10 kM11 kM12 mrw mly mln msp mwh mcl mtr mfo mki mro mlf mli msw msa msc msl mff mlt mgr mxx msu) sz) := by
  refine xw_ofL (cc := cX4_line) (maxL := 3) (by decide +kernel) rfl (Nat.le_of_ble_eq_true rfl) ?_
  intro p e s m args below meth c hx hb hml hown hts A hA hP hD hK Q hret ls hl hS
  have hl : lv_has ls 3 [(0, .ref qM), (1, .int (xw_i p1)), (2, .int (xw_i p2))] := hl
  have hwsX40 : ∀ w ∈ wsX40, w ∈ wsX4_line := fun _ h => List.mem_cons_of_mem _ (List.mem_append_right _ h)
  unfold wp_X4_line at h
  refine lv_aload_n hx hb dX4_line_0 rfl (lv_at hl 0 rfl) ?_
  refine lv_iload_n hx hb dX4_line_1 rfl (lv_at hl 1 rfl) ?_
  refine xw_backi (wc := (wd_X4 qM aM0 aM1 aM2 aM3 aM4 aM5 aM6 aM7 aM8 aM9 aM10 aM11 aM12 kM0 kM1 kM2 kM3 kM4 kM5 kM6 kM7 kM8 kM9 kM10 kM11 kM12 mrw mly mln msp mwh mcl mtr mfo mki mro mlf mli msw msa msc msl mff mlt mgr mxx msu)) (wr := []) (va_runV (As := [.int (xw_i p1)]) (rest := []) ⟨hx, hb, hml, hown, hts⟩ (c_X4_isLine l dC dI qM aM0 aM1 aM2 aM3 aM4 aM5 aM6 aM7 aM8 aM9 aM10 aM11 aM12 kM0 kM1 kM2 kM3 kM4 kM5 kM6 kM7 kM8 kM9 kM10 kM11 kM12 s.heap.size mrw mly mln msp mwh mcl mtr mfo mki mro mlf mli msw msa msc msl mff mlt mgr mxx msu p1 _ h) (cwV 1 hts gX4_line_X4_isLine rfl rfl rfl (by decide +kernel) ⟨Nat.le_of_ble_eq_true rfl, Nat.le_of_ble_eq_true rfl⟩) (xw_preV (ci := 4) hK hP hD [0, 1, 2, 3, 4, 5, 6, 7, 8, 9, 10, 11, 12, 13] rfl rfl (by decide) [0, 1, 2, 3, 4, 5, 6, 7, 8, 9, 10, 11, 12] rfl rfl rfl) rfl rfl hl.1 rfl (lv_room (Nat.le_of_ble_eq_true rfl)) dX4_line_2 ⟨Nat.le_of_ble_eq_true rfl, Nat.le_of_ble_eq_true rfl⟩) hK hP hD hS hA [0, 1, 2, 3, 4, 5, 6, 7, 8, 9, 10, 11, 12, 13] [] rfl rfl (by decide) (by decide) (fun r u H locs h hP hD hK2 hS => ?_)
  try dsimp only at h
  have hP : va_P (dC, dI) vwCl (wd_X4 qM aM0 aM1 aM2 aM3 aM4 aM5 aM6 aM7 aM8 aM9 aM10 aM11 aM12 kM0 kM1 kM2 kM3 kM4 kM5 kM6 kM7 kM8 kM9 kM10 kM11 kM12 mrw mly mln msp mwh mcl mtr mfo mki mro mlf mli msw msa msc msl mff mlt mgr mxx msu) H := hP
  have hD : va_D A (wd_X4 qM aM0 aM1 aM2 aM3 aM4 aM5 aM6 aM7 aM8 aM9 aM10 aM11 aM12 kM0 kM1 kM2 kM3 kM4 kM5 kM6 kM7 kM8 kM9 kM10 kM11 kM12 mrw mly mln msp mwh mcl mtr mfo mki mro mlf mli msw msa msc msl mff mlt mgr mxx msu) := hD
  obtain ⟨hr1, h⟩ := h
  refine xw_if_eq (tgt := 30) hx hb hr1 dX4_line_5 (by decide) (fun hcd => ?_) (fun hcd => ?_)
  · have h := h.1 hcd
    refine lv_ldc2 (v := xw_j (-9223372036854775808)) hx hb hown (hts (.constantLong RX4 132 (xw_j (-9223372036854775808))) (by decide +kernel)) dX4_line_30 ?_
    exact hret _ _ _ _ (-9223372036854775808) () dX4_line_33 h hP hD hK hS
  · have h := h.2 hcd
    refine lv_iload_n hx hb dX4_line_8 rfl (lv_at hl 2 rfl) ?_
    obtain ⟨hr2, h⟩ := h
    refine xw_if_lt (tgt := 30) hx hb hr2 dX4_line_9 (by decide) (fun hcd => ?_) (fun hcd => ?_)
    · have h := h.1 hcd
      refine lv_ldc2 (v := xw_j (-9223372036854775808)) hx hb hown (hts (.constantLong RX4 132 (xw_j (-9223372036854775808))) (by decide +kernel)) dX4_line_30 ?_
      exact hret _ _ _ _ (-9223372036854775808) () dX4_line_33 h hP hD hK hS
    · have h := h.2 hcd
      refine lv_iload_n hx hb dX4_line_12 rfl (lv_at hl 2 rfl) ?_
      refine lv_iconst (v := xw_i 4) hx hb dX4_line_13 (by decide) ?_
      refine xw_icmp_gt (tgt := 30) hx hb ⟨hr2, ⟨by decide, by decide⟩⟩ dX4_line_14 (by decide) (fun hcd => ?_) (fun hcd => ?_)
      · have h := h.1 hcd
        refine lv_ldc2 (v := xw_j (-9223372036854775808)) hx hb hown (hts (.constantLong RX4 132 (xw_j (-9223372036854775808))) (by decide +kernel)) dX4_line_30 ?_
        exact hret _ _ _ _ (-9223372036854775808) () dX4_line_33 h hP hD hK hS
      · have h := h.2 hcd
        refine lv_aload_n hx hb dX4_line_17 rfl (lv_at hl 0 rfl) ?_
        refine va_get (D := (dC, dI)) (ci := 4) (v := .ref aM3) (C := RX4) (T := TX4) (N := 21) hx hb hts hwsX40 hown hK hP 0 rfl rfl 6 (by decide) (hts (.fieldLink RX4 19 "BoxProverModel" "line" "[J") (by decide +kernel)) (fun _ h9 => h9) rfl dX4_line_18 ?_
        refine lv_iconst (v := xw_i 5) hx hb dX4_line_21 (by decide) ?_
        refine lv_iload_n hx hb dX4_line_22 rfl (lv_at hl 1 rfl) ?_
        refine xw_imul hx hb dX4_line_23 ?_
        refine lv_iload_n hx hb dX4_line_24 rfl (lv_at hl 2 rfl) ?_
        refine xw_iadd hx hb dX4_line_25 ?_
        obtain ⟨hin, h⟩ := h
        refine xw_lald (n := 1000) hx hb hK hP 4 3 rfl rfl (by decide) hin dX4_line_26 ?_
        refine lv_goto (tgt := 33) hx hb dX4_line_27 (by decide) ?_
        exact hret _ _ _ _ (mli ((5 * p1) + p2).toNat) () dX4_line_33 h hP hD hK hS
set_option maxHeartbeats 4000000 in
set_option maxRecDepth 100000 in
theorem c_X4_ofSplit (l : Launch) (dC : Nat → ClassId) (dI : Nat → Nat → Nat) (qM aM0 aM1 aM2 aM3 aM4 aM5 aM6 aM7 aM8 aM9 aM10 aM11 aM12 : Nat) (kM0 kM1 kM2 kM3 kM4 kM5 kM6 kM7 kM8 kM9 kM10 kM11 kM12 : ClassId) (sz : Nat) (mrw : Int) (mly : Int) (mln : Int) (msp : Int) (mwh : Int) (mcl : Int) (mtr : Int) (mfo : Int) (mki : Nat → Int) (mro : Nat → Int) (mlf : Nat → Int) (mli : Nat → Int) (msw : Nat → Int) (msa : Nat → Int) (msc : Nat → Int) (msl : Nat → Int) (mff : Nat → Int) (mlt : Nat → Int) (mgr : Nat → Int) (mxx : Nat → Int) (msu : Nat → Int) (p1 : Int) (p2 : Int) (post : Int → Prop) (h : wp_X4_ofSplit post mrw mly mln msp mwh mcl mtr mfo mki mro mlf mli msw msa msc msl mff mlt mgr mxx msu p1 p2) : Met l yX4_ofSplit wsX4_ofSplit ({ frames := 0, cells := 0, slots := 0, locals := 0 }) (va_Pc [.ref qM, .int (xw_i p1), .int (xw_i p2)] (xw_Pre (dC, dI) vwCl (wd_X4 qM aM0 aM1 aM2 aM3 aM4 aM5 aM6 aM7 aM8 aM9 aM10 aM11 aM12 kM0 kM1 kM2 kM3 kM4 kM5 kM6 kM7 kM8 kM9 kM10 kM11 kM12 mrw mly mln msp mwh mcl mtr mfo mki mro mlf mli msw msa msc msl mff mlt mgr mxx msu) [(kM0, .int), (kM1, .int), (kM2, .int), (kM3, .long), (kM4, .int), (kM5, .int), (kM6, .int), (kM7, .int), (kM8, .int), (kM9, .int), (kM10, .int), (kM11, .int), (kM12, .int)] sz)) (va_Qi (xw_pi (fun v (u : Unit) => post v)) (xw_B (dC, dI) vwCl (fun (_ : Unit) => [(kM0, .int), (kM1, .int), (kM2, .int), (kM3, .long), (kM4, .int), (kM5, .int), (kM6, .int), (kM7, .int), (kM8, .int), (kM9, .int), (kM10, .int), (kM11, .int), (kM12, .int)]) (va_A (wd_X4 qM aM0 aM1 aM2 aM3 aM4 aM5 aM6 aM7 aM8 aM9 aM10 aM11 aM12 kM0 kM1 kM2 kM3 kM4 kM5 kM6 kM7 kM8 kM9 kM10 kM11 kM12 mrw mly mln msp mwh mcl mtr mfo mki mro mlf mli msw msa msc msl mff mlt mgr mxx msu) sz) (fun (u : Unit) => (wd_X4 qM aM0 aM1 aM2 aM3 aM4 aM5 aM6 aM7 aM8 aM9 aM10 aM11 aM12 kM0 kM1 kM2 kM3 kM4 kM5 kM6 kM7 kM8 kM9 kM10 kM11 kM12 mrw mly mln msp mwh mcl mtr mfo mki mro mlf mli msw msa msc msl mff mlt mgr mxx msu))) (va_A (wd_X4 qM aM0 aM1 aM2 aM3 aM4 aM5 aM6 aM7 aM8 aM9 aM10 aM11 aM12 kM0 kM1 kM2 kM3 kM4 kM5 kM6 kM7 kM8 kM9 kM10 kM11 kM12 mrw mly mln msp mwh mcl mtr mfo mki mro mlf mli msw msa msc msl mff mlt mgr mxx msu) sz)) 0 0 (va_A (wd_X4 qM aM0 aM1 aM2 aM3 aM4 aM5 aM6 aM7 aM8 aM9 aM10 aM11 aM12 kM0 kM1 kM2 kM3 kM4 kM5 kM6 kM7 kM8 kM9 kM10 kM11 kM12 mrw mly mln msp mwh mcl mtr mfo mki mro mlf mli msw msa msc msl mff mlt mgr mxx msu) sz) := by
  refine xw_ofI (cc := cX4_ofSplit) (maxL := 3) (by decide +kernel) rfl (Nat.le_of_ble_eq_true rfl) ?_
  intro p e s m args below meth c hx hb hml hown hts A hA hP hD hK Q hret ls hl hS
  have hl : lv_has ls 3 [(0, .ref qM), (1, .int (xw_i p1)), (2, .int (xw_i p2))] := hl
  have hwsX40 : ∀ w ∈ wsX40, w ∈ wsX4_ofSplit := fun _ h => List.mem_cons_of_mem _ (List.mem_append_right _ h)
  unfold wp_X4_ofSplit at h
  refine lv_iload_n hx hb dX4_ofSplit_0 rfl (lv_at hl 1 rfl) ?_
  obtain ⟨hr1, h⟩ := h
  refine xw_if_lt (tgt := 12) hx hb hr1 dX4_ofSplit_1 (by decide) (fun hcd => ?_) (fun hcd => ?_)
  · have h := h.1 hcd
    refine lv_ldc (v := xw_i (-2147483648)) hx hb hown (hts (.constant RX4 84 (xw_i (-2147483648))) (by decide +kernel)) dX4_ofSplit_12 ?_
    exact hret _ _ _ _ (-2147483648) () dX4_ofSplit_14 h hP hD hK hS
  · have h := h.2 hcd
    refine lv_iload_n hx hb dX4_ofSplit_4 rfl (lv_at hl 1 rfl) ?_
    refine lv_aload_n hx hb dX4_ofSplit_5 rfl (lv_at hl 0 rfl) ?_
    refine va_get (D := (dC, dI)) (ci := 4) (v := .int (xw_i msp)) (C := RX4) (T := TX4) (N := 21) hx hb hts hwsX40 hown hK hP 0 rfl rfl 7 (by decide) (hts (.fieldLink RX4 61 "BoxProverModel" "splits" "I") (by decide +kernel)) (fun _ h9 => h9) rfl dX4_ofSplit_6 ?_
    obtain ⟨hr2, h⟩ := h
    refine xw_icmp_lt (tgt := 15) hx hb ⟨hr1, hr2⟩ dX4_ofSplit_9 (by decide) (fun hcd => ?_) (fun hcd => ?_)
    · have h := h.1 hcd
      refine lv_iload_n hx hb dX4_ofSplit_15 rfl (lv_at hl 2 rfl) ?_
      obtain ⟨hr3, h⟩ := h
      refine xw_if_ne (tgt := 28) hx hb hr3 dX4_ofSplit_16 (by decide) (fun hcd => ?_) (fun hcd => ?_)
      · have h := h.2 hcd
        refine lv_iload_n hx hb dX4_ofSplit_28 rfl (lv_at hl 2 rfl) ?_
        refine lv_iconst (v := xw_i 1) hx hb dX4_ofSplit_29 (by decide) ?_
        refine xw_icmp_ne (tgt := 42) hx hb ⟨hr3, ⟨by decide, by decide⟩⟩ dX4_ofSplit_30 (by decide) (fun hcd => ?_) (fun hcd => ?_)
        · have h := h.2 hcd
          refine lv_iload_n hx hb dX4_ofSplit_42 rfl (lv_at hl 2 rfl) ?_
          refine lv_iconst (v := xw_i 2) hx hb dX4_ofSplit_43 (by decide) ?_
          refine xw_icmp_ne (tgt := 56) hx hb ⟨hr3, ⟨by decide, by decide⟩⟩ dX4_ofSplit_44 (by decide) (fun hcd => ?_) (fun hcd => ?_)
          · have h := h.2 hcd
            refine lv_iload_n hx hb dX4_ofSplit_56 rfl (lv_at hl 2 rfl) ?_
            refine lv_iconst (v := xw_i 3) hx hb dX4_ofSplit_57 (by decide) ?_
            refine xw_icmp_ne (tgt := 70) hx hb ⟨hr3, ⟨by decide, by decide⟩⟩ dX4_ofSplit_58 (by decide) (fun hcd => ?_) (fun hcd => ?_)
            · have h := h.2 hcd
              refine lv_ldc (v := xw_i (-2147483648)) hx hb hown (hts (.constant RX4 84 (xw_i (-2147483648))) (by decide +kernel)) dX4_ofSplit_70 ?_
              exact hret _ _ _ _ (-2147483648) () dX4_ofSplit_72 h hP hD hK hS
            · have h := h.1 hcd
              refine lv_aload_n hx hb dX4_ofSplit_61 rfl (lv_at hl 0 rfl) ?_
              refine va_get (D := (dC, dI)) (ci := 4) (v := .ref aM7) (C := RX4) (T := TX4) (N := 21) hx hb hts hwsX40 hown hK hP 0 rfl rfl 11 (by decide) (hts (.fieldLink RX4 32 "BoxProverModel" "splitLines" "[I") (by decide +kernel)) (fun _ h9 => h9) rfl dX4_ofSplit_62 ?_
              refine lv_iload_n hx hb dX4_ofSplit_65 rfl (lv_at hl 1 rfl) ?_
              obtain ⟨hin, h⟩ := h
              refine xw_iald (n := 10) hx hb hK hP 8 7 rfl rfl (by decide) hin dX4_ofSplit_66 ?_
              refine lv_goto (tgt := 72) hx hb dX4_ofSplit_67 (by decide) ?_
              exact hret _ _ _ _ (msl p1.toNat) () dX4_ofSplit_72 h hP hD hK hS
          · have h := h.1 hcd
            refine lv_aload_n hx hb dX4_ofSplit_47 rfl (lv_at hl 0 rfl) ?_
            refine va_get (D := (dC, dI)) (ci := 4) (v := .ref aM6) (C := RX4) (T := TX4) (N := 21) hx hb hts hwsX40 hown hK hP 0 rfl rfl 10 (by decide) (hts (.fieldLink RX4 29 "BoxProverModel" "splitCase" "[I") (by decide +kernel)) (fun _ h9 => h9) rfl dX4_ofSplit_48 ?_
            refine lv_iload_n hx hb dX4_ofSplit_51 rfl (lv_at hl 1 rfl) ?_
            obtain ⟨hin, h⟩ := h
            refine xw_iald (n := 10) hx hb hK hP 7 6 rfl rfl (by decide) hin dX4_ofSplit_52 ?_
            refine lv_goto (tgt := 72) hx hb dX4_ofSplit_53 (by decide) ?_
            exact hret _ _ _ _ (msc p1.toNat) () dX4_ofSplit_72 h hP hD hK hS
        · have h := h.1 hcd
          refine lv_aload_n hx hb dX4_ofSplit_33 rfl (lv_at hl 0 rfl) ?_
          refine va_get (D := (dC, dI)) (ci := 4) (v := .ref aM5) (C := RX4) (T := TX4) (N := 21) hx hb hts hwsX40 hown hK hP 0 rfl rfl 9 (by decide) (hts (.fieldLink RX4 26 "BoxProverModel" "splitAt" "[I") (by decide +kernel)) (fun _ h9 => h9) rfl dX4_ofSplit_34 ?_
          refine lv_iload_n hx hb dX4_ofSplit_37 rfl (lv_at hl 1 rfl) ?_
          obtain ⟨hin, h⟩ := h
          refine xw_iald (n := 10) hx hb hK hP 6 5 rfl rfl (by decide) hin dX4_ofSplit_38 ?_
          refine lv_goto (tgt := 72) hx hb dX4_ofSplit_39 (by decide) ?_
          exact hret _ _ _ _ (msa p1.toNat) () dX4_ofSplit_72 h hP hD hK hS
      · have h := h.1 hcd
        refine lv_aload_n hx hb dX4_ofSplit_19 rfl (lv_at hl 0 rfl) ?_
        refine va_get (D := (dC, dI)) (ci := 4) (v := .ref aM4) (C := RX4) (T := TX4) (N := 21) hx hb hts hwsX40 hown hK hP 0 rfl rfl 8 (by decide) (hts (.fieldLink RX4 23 "BoxProverModel" "splitWord" "[I") (by decide +kernel)) (fun _ h9 => h9) rfl dX4_ofSplit_20 ?_
        refine lv_iload_n hx hb dX4_ofSplit_23 rfl (lv_at hl 1 rfl) ?_
        obtain ⟨hin, h⟩ := h
        refine xw_iald (n := 10) hx hb hK hP 5 4 rfl rfl (by decide) hin dX4_ofSplit_24 ?_
        refine lv_goto (tgt := 72) hx hb dX4_ofSplit_25 (by decide) ?_
        exact hret _ _ _ _ (msw p1.toNat) () dX4_ofSplit_72 h hP hD hK hS
    · have h := h.2 hcd
      refine lv_ldc (v := xw_i (-2147483648)) hx hb hown (hts (.constant RX4 84 (xw_i (-2147483648))) (by decide +kernel)) dX4_ofSplit_12 ?_
      exact hret _ _ _ _ (-2147483648) () dX4_ofSplit_14 h hP hD hK hS
set_option maxHeartbeats 4000000 in
set_option maxRecDepth 100000 in
theorem c_X4_count (l : Launch) (dC : Nat → ClassId) (dI : Nat → Nat → Nat) (qM aM0 aM1 aM2 aM3 aM4 aM5 aM6 aM7 aM8 aM9 aM10 aM11 aM12 : Nat) (kM0 kM1 kM2 kM3 kM4 kM5 kM6 kM7 kM8 kM9 kM10 kM11 kM12 : ClassId) (sz : Nat) (mrw : Int) (mly : Int) (mln : Int) (msp : Int) (mwh : Int) (mcl : Int) (mtr : Int) (mfo : Int) (mki : Nat → Int) (mro : Nat → Int) (mlf : Nat → Int) (mli : Nat → Int) (msw : Nat → Int) (msa : Nat → Int) (msc : Nat → Int) (msl : Nat → Int) (mff : Nat → Int) (mlt : Nat → Int) (mgr : Nat → Int) (mxx : Nat → Int) (msu : Nat → Int) (p1 : Int) (post : Int → Prop) (h : wp_X4_count post mrw mly mln msp mwh mcl mtr mfo mki mro mlf mli msw msa msc msl mff mlt mgr mxx msu p1) : Met l yX4_count wsX4_count ({ frames := 0, cells := 0, slots := 0, locals := 0 }) (va_Pc [.ref qM, .int (xw_i p1)] (xw_Pre (dC, dI) vwCl (wd_X4 qM aM0 aM1 aM2 aM3 aM4 aM5 aM6 aM7 aM8 aM9 aM10 aM11 aM12 kM0 kM1 kM2 kM3 kM4 kM5 kM6 kM7 kM8 kM9 kM10 kM11 kM12 mrw mly mln msp mwh mcl mtr mfo mki mro mlf mli msw msa msc msl mff mlt mgr mxx msu) [(kM0, .int), (kM1, .int), (kM2, .int), (kM3, .long), (kM4, .int), (kM5, .int), (kM6, .int), (kM7, .int), (kM8, .int), (kM9, .int), (kM10, .int), (kM11, .int), (kM12, .int)] sz)) (va_Qi (xw_pi (fun v (u : Unit) => post v)) (xw_B (dC, dI) vwCl (fun (_ : Unit) => [(kM0, .int), (kM1, .int), (kM2, .int), (kM3, .long), (kM4, .int), (kM5, .int), (kM6, .int), (kM7, .int), (kM8, .int), (kM9, .int), (kM10, .int), (kM11, .int), (kM12, .int)]) (va_A (wd_X4 qM aM0 aM1 aM2 aM3 aM4 aM5 aM6 aM7 aM8 aM9 aM10 aM11 aM12 kM0 kM1 kM2 kM3 kM4 kM5 kM6 kM7 kM8 kM9 kM10 kM11 kM12 mrw mly mln msp mwh mcl mtr mfo mki mro mlf mli msw msa msc msl mff mlt mgr mxx msu) sz) (fun (u : Unit) => (wd_X4 qM aM0 aM1 aM2 aM3 aM4 aM5 aM6 aM7 aM8 aM9 aM10 aM11 aM12 kM0 kM1 kM2 kM3 kM4 kM5 kM6 kM7 kM8 kM9 kM10 kM11 kM12 mrw mly mln msp mwh mcl mtr mfo mki mro mlf mli msw msa msc msl mff mlt mgr mxx msu))) (va_A (wd_X4 qM aM0 aM1 aM2 aM3 aM4 aM5 aM6 aM7 aM8 aM9 aM10 aM11 aM12 kM0 kM1 kM2 kM3 kM4 kM5 kM6 kM7 kM8 kM9 kM10 kM11 kM12 mrw mly mln msp mwh mcl mtr mfo mki mro mlf mli msw msa msc msl mff mlt mgr mxx msu) sz)) 0 0 (va_A (wd_X4 qM aM0 aM1 aM2 aM3 aM4 aM5 aM6 aM7 aM8 aM9 aM10 aM11 aM12 kM0 kM1 kM2 kM3 kM4 kM5 kM6 kM7 kM8 kM9 kM10 kM11 kM12 mrw mly mln msp mwh mcl mtr mfo mki mro mlf mli msw msa msc msl mff mlt mgr mxx msu) sz) := by
  refine xw_ofI (cc := cX4_count) (maxL := 2) (by decide +kernel) rfl (Nat.le_of_ble_eq_true rfl) ?_
  intro p e s m args below meth c hx hb hml hown hts A hA hP hD hK Q hret ls hl hS
  have hl : lv_has ls 2 [(0, .ref qM), (1, .int (xw_i p1))] := hl
  have hwsX40 : ∀ w ∈ wsX40, w ∈ wsX4_count := fun _ h => List.mem_cons_of_mem _ (List.mem_append_right _ h)
  unfold wp_X4_count at h
  refine lv_iload_n hx hb dX4_count_0 rfl (lv_at hl 1 rfl) ?_
  obtain ⟨hr1, h⟩ := h
  rcases (show (p1 < 0 ∨ 4 < p1) ∨ p1 = 0 ∨ p1 = 1 ∨ p1 = 2 ∨ p1 = 3 ∨ p1 = 4 by omega) with hsw | c0 | c1 | c2 | c3 | c4
  · have h := h.1 hsw
    refine xw_tabOut (tgt := 69) hx hb hr1 dX4_count_1 hsw (by decide) ?_
    refine lv_iconst (v := xw_i (-1)) hx hb dX4_count_69 (by decide) ?_
    exact hret _ _ _ _ (-1) () dX4_count_70 h hP hD hK hS
  · have h := h.2.1 c0
    refine xw_tabIn (tgt := 36) hx hb hr1 c0 dX4_count_1 (by decide) (by decide) rfl (by decide) ?_
    refine lv_aload_n hx hb dX4_count_36 rfl (lv_at hl 0 rfl) ?_
    refine va_get (D := (dC, dI)) (ci := 4) (v := .int (xw_i mrw)) (C := RX4) (T := TX4) (N := 21) hx hb hts hwsX40 hown hK hP 0 rfl rfl 0 (by decide) (hts (.fieldLink RX4 50 "BoxProverModel" "rows" "I") (by decide +kernel)) (fun _ h9 => h9) rfl dX4_count_37 ?_
    exact hret _ _ _ _ mrw () dX4_count_40 h hP hD hK hS
  · have h := h.2.2.1 c1
    refine xw_tabIn (tgt := 41) hx hb hr1 c1 dX4_count_1 (by decide) (by decide) rfl (by decide) ?_
    refine lv_aload_n hx hb dX4_count_41 rfl (lv_at hl 0 rfl) ?_
    refine va_get (D := (dC, dI)) (ci := 4) (v := .int (xw_i mly)) (C := RX4) (T := TX4) (N := 21) hx hb hts hwsX40 hown hK hP 0 rfl rfl 3 (by decide) (hts (.fieldLink RX4 81 "BoxProverModel" "layers" "I") (by decide +kernel)) (fun _ h9 => h9) rfl dX4_count_42 ?_
    exact hret _ _ _ _ mly () dX4_count_45 h hP hD hK hS
  · have h := h.2.2.2.1 c2
    refine xw_tabIn (tgt := 46) hx hb hr1 c2 dX4_count_1 (by decide) (by decide) rfl (by decide) ?_
    refine lv_aload_n hx hb dX4_count_46 rfl (lv_at hl 0 rfl) ?_
    refine va_get (D := (dC, dI)) (ci := 4) (v := .int (xw_i mwh)) (C := RX4) (T := TX4) (N := 21) hx hb hts hwsX40 hown hK hP 0 rfl rfl 12 (by decide) (hts (.fieldLink RX4 64 "BoxProverModel" "isWhole" "Z") (by decide +kernel)) (fun _ h9 => h9) rfl dX4_count_47 ?_
    obtain ⟨hr2, h⟩ := h
    refine xw_if_eq (tgt := 57) hx hb hr2 dX4_count_50 (by decide) (fun hcd => ?_) (fun hcd => ?_)
    · have h := h.1 hcd
      refine lv_iconst (v := xw_i 0) hx hb dX4_count_57 (by decide) ?_
      exact hret _ _ _ _ 0 () dX4_count_58 h hP hD hK hS
    · have h := h.2 hcd
      refine lv_iconst (v := xw_i 1) hx hb dX4_count_53 (by decide) ?_
      refine lv_goto (tgt := 58) hx hb dX4_count_54 (by decide) ?_
      exact hret _ _ _ _ 1 () dX4_count_58 h hP hD hK hS
  · have h := h.2.2.2.2.1 c3
    refine xw_tabIn (tgt := 59) hx hb hr1 c3 dX4_count_1 (by decide) (by decide) rfl (by decide) ?_
    refine lv_aload_n hx hb dX4_count_59 rfl (lv_at hl 0 rfl) ?_
    refine va_get (D := (dC, dI)) (ci := 4) (v := .int (xw_i msp)) (C := RX4) (T := TX4) (N := 21) hx hb hts hwsX40 hown hK hP 0 rfl rfl 7 (by decide) (hts (.fieldLink RX4 61 "BoxProverModel" "splits" "I") (by decide +kernel)) (fun _ h9 => h9) rfl dX4_count_60 ?_
    exact hret _ _ _ _ msp () dX4_count_63 h hP hD hK hS
  · have h := h.2.2.2.2.2.1 c4
    refine xw_tabIn (tgt := 64) hx hb hr1 c4 dX4_count_1 (by decide) (by decide) rfl (by decide) ?_
    refine lv_aload_n hx hb dX4_count_64 rfl (lv_at hl 0 rfl) ?_
    refine va_get (D := (dC, dI)) (ci := 4) (v := .int (xw_i mcl)) (C := RX4) (T := TX4) (N := 21) hx hb hts hwsX40 hown hK hP 0 rfl rfl 13 (by decide) (hts (.fieldLink RX4 67 "BoxProverModel" "closings" "I") (by decide +kernel)) (fun _ h9 => h9) rfl dX4_count_65 ?_
    exact hret _ _ _ _ mcl () dX4_count_68 h hP hD hK hS
