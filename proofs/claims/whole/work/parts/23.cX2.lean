def wp_X2_found (post : Int → Prop) (sid : Int) (sfo : Int) (soe : Int) (sfa : Nat → Int) (sre : Nat → Int) (sle : Nat → Int) (spe : Nat → Int) (spc : Nat → Int) (sfr : Nat → Int) (sto : Nat → Int) (sva : Nat → Int) (sff : Nat → Int) (slf : Nat → Int) (sgf : Nat → Int) (rsz : Int) (rly : Int) (rce : Nat → Int) (rst : Nat → Int) : Prop := post sfo
def wp_X2_firstValue (post : Int → Prop) (sid : Int) (sfo : Int) (soe : Int) (sfa : Nat → Int) (sre : Nat → Int) (sle : Nat → Int) (spe : Nat → Int) (spc : Nat → Int) (sfr : Nat → Int) (sto : Nat → Int) (sva : Nat → Int) (sff : Nat → Int) (slf : Nat → Int) (sgf : Nat → Int) (rsz : Int) (rly : Int) (rce : Nat → Int) (rst : Nat → Int) (p1 : Int) : Prop := (0 ≤ p1 ∧ p1 < 4) ∧ (post (sff p1.toNat))
def wp_X2_leastValue (post : Int → Prop) (sid : Int) (sfo : Int) (soe : Int) (sfa : Nat → Int) (sre : Nat → Int) (sle : Nat → Int) (spe : Nat → Int) (spc : Nat → Int) (sfr : Nat → Int) (sto : Nat → Int) (sva : Nat → Int) (sff : Nat → Int) (slf : Nat → Int) (sgf : Nat → Int) (rsz : Int) (rly : Int) (rce : Nat → Int) (rst : Nat → Int) (p1 : Int) : Prop := (0 ≤ p1 ∧ p1 < 4) ∧ (post (slf p1.toNat))
def wp_X2_greatestValue (post : Int → Prop) (sid : Int) (sfo : Int) (soe : Int) (sfa : Nat → Int) (sre : Nat → Int) (sle : Nat → Int) (spe : Nat → Int) (spc : Nat → Int) (sfr : Nat → Int) (sto : Nat → Int) (sva : Nat → Int) (sff : Nat → Int) (slf : Nat → Int) (sgf : Nat → Int) (rsz : Int) (rly : Int) (rce : Nat → Int) (rst : Nat → Int) (p1 : Int) : Prop := (0 ≤ p1 ∧ p1 < 4) ∧ (post (sgf p1.toNat))
def wl_X2_takeSide_26 (p1 : Int) (p2 : Int) (rsz : Int) (rly : Int) (rce : Nat → Int) (rst : Nat → Int) (post : Int → (Nat → Int) → (Nat → Int) → (Nat → Int) → (Nat → Int) → Prop) (J_26 : Int → (Nat → Int) → (Nat → Int) → (Nat → Int) → (Nat → Int) → Int → Prop) (sid_1 : Int) (sfa_1 : Nat → Int) (sre_2 : Nat → Int) (sle_1 : Nat → Int) (spe_1 : Nat → Int) (x3 : Int) : Prop := xw_r x3 ∧ ((x3 < 0 → (wp_X1_limit (fun r => ((0 ≤ sid_1 ∧ sid_1 < 128) ∧ (∀ sle_2 : Nat → Int, sle_2 = xw_u sle_1 sid_1 (p2 * r) → ((0 ≤ sid_1 ∧ sid_1 < 160) ∧ (∀ spe_2 : Nat → Int, spe_2 = xw_u spe_1 sid_1 sid_1 → (∀ sf : Int, sf = sid_1 + 1 → (post sf sfa_1 sre_2 sle_2 spe_2))))))) rsz rly rce rst p1)) ∧ (¬ x3 < 0 → (∀ x4 : Int, x4 = (x3 * 32) + sid_1 → (wp_X1_factor (fun r_1 => ((0 ≤ x4 ∧ x4 < 128) ∧ (∀ sfa_2 : Nat → Int, sfa_2 = xw_u sfa_1 x4 (p2 * r_1) → ((0 ≤ x4 + 32 ∧ x4 + 32 < 160) ∧ ((0 ≤ x4 ∧ x4 < 128) ∧ (xw_r (sfa_2 x4.toNat) ∧ ((0 ≤ x4 ∧ x4 < 160) ∧ (∀ sre_3 : Nat → Int, sre_3 = xw_u sre_2 x4 ((sre_2 (x4 + 32).toNat) + ((if 0 ≤ sfa_2 x4.toNat then sfa_2 x4.toNat else 0 - (sfa_2 x4.toNat)) * 15)) → (∀ x3_1 : Int, x3_1 = x3 + (-1) → (J_26 sid_1 sfa_2 sre_3 sle_1 spe_1 x3_1)))))))))) rsz rly rce rst p1 x3))))
def wp_X2_takeSide_26 (p1 : Int) (p2 : Int) (rsz : Int) (rly : Int) (rce : Nat → Int) (rst : Nat → Int) (post : Int → (Nat → Int) → (Nat → Int) → (Nat → Int) → (Nat → Int) → Prop) : Nat → Int → (Nat → Int) → (Nat → Int) → (Nat → Int) → (Nat → Int) → Int → Prop
  | 0 => fun _ _ _ _ _ _ => False
  | n + 1 => fun sid_1 sfa_1 sre_2 sle_1 spe_1 x3 => wl_X2_takeSide_26 p1 p2 rsz rly rce rst post (wp_X2_takeSide_26 p1 p2 rsz rly rce rst post n) sid_1 sfa_1 sre_2 sle_1 spe_1 x3
def wp_X2_takeSide (post : Int → (Nat → Int) → (Nat → Int) → (Nat → Int) → (Nat → Int) → Prop) (sid : Int) (sfo : Int) (soe : Int) (sfa : Nat → Int) (sre : Nat → Int) (sle : Nat → Int) (spe : Nat → Int) (spc : Nat → Int) (sfr : Nat → Int) (sto : Nat → Int) (sva : Nat → Int) (sff : Nat → Int) (slf : Nat → Int) (sgf : Nat → Int) (rsz : Int) (rly : Int) (rce : Nat → Int) (rst : Nat → Int) (p1 : Int) (p2 : Int) : Prop := xw_r sid ∧ ((sid < 32 → ((0 ≤ 128 + sid ∧ 128 + sid < 160) ∧ (∀ sre_1 : Nat → Int, sre_1 = xw_u sre (128 + sid) 0 → (∃ fu : Nat, wp_X2_takeSide_26 p1 p2 rsz rly rce rst post fu sid sfa sre_1 sle spe 3)))) ∧ (¬ sid < 32 → (post sid sfa sre sle spe)))
def wp_X2_isEnough (post : Int → Prop) (sid : Int) (sfo : Int) (soe : Int) (sfa : Nat → Int) (sre : Nat → Int) (sle : Nat → Int) (spe : Nat → Int) (spc : Nat → Int) (sfr : Nat → Int) (sto : Nat → Int) (sva : Nat → Int) (sff : Nat → Int) (slf : Nat → Int) (sgf : Nat → Int) (rsz : Int) (rly : Int) (rce : Nat → Int) (rst : Nat → Int) : Prop := xw_r soe ∧ ((soe = 0 → (post 0)) ∧ (¬ soe = 0 → (xw_r sfo ∧ ((sfo ≤ 0 → (post 0)) ∧ (¬ sfo ≤ 0 → (post 1))))))
def wp_X2_keepAtMost (post : (Nat → Int) → (Nat → Int) → Prop) (sid : Int) (sfo : Int) (soe : Int) (sfa : Nat → Int) (sre : Nat → Int) (sle : Nat → Int) (spe : Nat → Int) (spc : Nat → Int) (sfr : Nat → Int) (sto : Nat → Int) (sva : Nat → Int) (sff : Nat → Int) (slf : Nat → Int) (sgf : Nat → Int) (rsz : Int) (rly : Int) (rce : Nat → Int) (rst : Nat → Int) (p1 : Int) (p2 : Int) (p3 : Int) : Prop := xw_r p2 ∧ ((p2 ≤ 0 → ((0 ≤ p2 → (xw_r p3 ∧ ((0 ≤ p3 → (post sfr sto)) ∧ (¬ 0 ≤ p3 → ((0 ≤ p1 ∧ p1 < 4) ∧ (∀ sto_1 : Nat → Int, sto_1 = xw_u sto p1 (-16) → (post sfr sto_1))))))) ∧ (¬ 0 ≤ p2 → ((0 ≤ p1 ∧ p1 < 4) ∧ (xw_r (p2 * (sfr p1.toNat)) ∧ (xw_r p3 ∧ ((p2 * (sfr p1.toNat) ≤ p3 → (post sfr sto)) ∧ (¬ p2 * (sfr p1.toNat) ≤ p3 → (wp_J9_floorDiv_7cf53 (fun r => ((0 ≤ p1 ∧ p1 < 4) ∧ (∀ sfr_1 : Nat → Int, sfr_1 = xw_u sfr p1 (-r) → (post sfr_1 sto)))) p3 (-p2)))))))))) ∧ (¬ p2 ≤ 0 → ((0 ≤ p1 ∧ p1 < 4) ∧ (xw_r (p2 * (sto p1.toNat)) ∧ (xw_r p3 ∧ ((p2 * (sto p1.toNat) ≤ p3 → (post sfr sto)) ∧ (¬ p2 * (sto p1.toNat) ≤ p3 → (wp_J9_floorDiv_7cf53 (fun r_1 => ((0 ≤ p1 ∧ p1 < 4) ∧ (∀ sto_2 : Nat → Int, sto_2 = xw_u sto p1 r_1 → (post sfr sto_2)))) p3 p2))))))))
def wp_X2_narrow_137 (J_28 : (Nat → Int) → (Nat → Int) → (Nat → Int) → (Nat → Int) → Int → Int → Prop) (spe_2 : Nat → Int) (spc_4 : Nat → Int) (sfr_3 : Nat → Int) (sto_3 : Nat → Int) (x4_1 : Int) (x3_1 : Int) : Prop := ∀ x4_2 : Int, x4_2 = x4_1 + 1 → (J_28 spe_2 spc_4 sfr_3 sto_3 x4_2 x3_1)
def wl_X2_narrow_28 (p1 : Int) (sid : Int) (sfo : Int) (soe : Int) (sfa : Nat → Int) (sre : Nat → Int) (sle : Nat → Int) (sva : Nat → Int) (sff : Nat → Int) (slf : Nat → Int) (sgf : Nat → Int) (rsz : Int) (rly : Int) (rce : Nat → Int) (rst : Nat → Int) (post : (Nat → Int) → (Nat → Int) → (Nat → Int) → (Nat → Int) → Prop) (x2 : Int) (J_28 : (Nat → Int) → (Nat → Int) → (Nat → Int) → (Nat → Int) → Int → Int → Prop) (spe_1 : Nat → Int) (spc_1 : Nat → Int) (sfr_2 : Nat → Int) (sto_2 : Nat → Int) (x4 : Int) (x3 : Int) : Prop := xw_r x4 ∧ (xw_r x2 ∧ ((x2 ≤ x4 → ((0 ≤ p1 + 1 ∧ p1 + 1 < 5) ∧ (∀ spc_2 : Nat → Int, spc_2 = xw_u spc_1 (p1 + 1) x3 → (post spe_1 spc_2 sfr_2 sto_2)))) ∧ (¬ x2 ≤ x4 → ((0 ≤ p1 ∧ p1 < 4) ∧ ((0 ≤ p1 ∧ p1 < 4) ∧ (xw_r (sfr_2 p1.toNat) ∧ (xw_r (sto_2 p1.toNat) ∧ ((sto_2 p1.toNat < sfr_2 p1.toNat → ((0 ≤ p1 + 1 ∧ p1 + 1 < 5) ∧ (∀ spc_3 : Nat → Int, spc_3 = xw_u spc_1 (p1 + 1) x3 → (post spe_1 spc_3 sfr_2 sto_2)))) ∧ (¬ sto_2 p1.toNat < sfr_2 p1.toNat → ((0 ≤ (p1 * 32) + x4 ∧ (p1 * 32) + x4 < 160) ∧ (∀ x5 : Int, x5 = spe_1 ((p1 * 32) + x4).toNat → (∀ x6 : Int, x6 = (p1 * 32) + x5 → ((0 ≤ x6 ∧ x6 < 160) ∧ ((0 ≤ x6 ∧ x6 < 128) ∧ (xw_r (sre x6.toNat) ∧ (xw_r (sle x6.toNat) ∧ ((sre x6.toNat ≤ sle x6.toNat → (wp_X2_narrow_137 J_28 spe_1 spc_1 sfr_2 sto_2 x4 x3)) ∧ (¬ sre x6.toNat ≤ sle x6.toNat → ((0 ≤ x6 ∧ x6 < 128) ∧ ((0 ≤ x6 ∧ x6 < 128) ∧ ((0 ≤ x6 + 32 ∧ x6 + 32 < 160) ∧ (wp_X2_keepAtMost (fun sfr_4 sto_4 => ((0 ≤ ((p1 + 1) * 32) + x3 ∧ ((p1 + 1) * 32) + x3 < 160) ∧ (∀ spe_3 : Nat → Int, spe_3 = xw_u spe_1 (((p1 + 1) * 32) + x3) x5 → (∀ x3_2 : Int, x3_2 = x3 + 1 → (wp_X2_narrow_137 J_28 spe_3 spc_1 sfr_4 sto_4 x4 x3_2))))) sid sfo soe sfa sre sle spe_1 spc_1 sfr_2 sto_2 sva sff slf sgf rsz rly rce rst p1 (sfa x6.toNat) ((sle x6.toNat) + (sre (x6 + 32).toNat))))))))))))))))))))))))
def wp_X2_narrow_28 (p1 : Int) (sid : Int) (sfo : Int) (soe : Int) (sfa : Nat → Int) (sre : Nat → Int) (sle : Nat → Int) (sva : Nat → Int) (sff : Nat → Int) (slf : Nat → Int) (sgf : Nat → Int) (rsz : Int) (rly : Int) (rce : Nat → Int) (rst : Nat → Int) (post : (Nat → Int) → (Nat → Int) → (Nat → Int) → (Nat → Int) → Prop) (x2 : Int) : Nat → (Nat → Int) → (Nat → Int) → (Nat → Int) → (Nat → Int) → Int → Int → Prop
  | 0 => fun _ _ _ _ _ _ => False
  | n + 1 => fun spe_1 spc_1 sfr_2 sto_2 x4 x3 => wl_X2_narrow_28 p1 sid sfo soe sfa sre sle sva sff slf sgf rsz rly rce rst post x2 (wp_X2_narrow_28 p1 sid sfo soe sfa sre sle sva sff slf sgf rsz rly rce rst post x2 n) spe_1 spc_1 sfr_2 sto_2 x4 x3
def wp_X2_narrow (post : (Nat → Int) → (Nat → Int) → (Nat → Int) → (Nat → Int) → Prop) (sid : Int) (sfo : Int) (soe : Int) (sfa : Nat → Int) (sre : Nat → Int) (sle : Nat → Int) (spe : Nat → Int) (spc : Nat → Int) (sfr : Nat → Int) (sto : Nat → Int) (sva : Nat → Int) (sff : Nat → Int) (slf : Nat → Int) (sgf : Nat → Int) (rsz : Int) (rly : Int) (rce : Nat → Int) (rst : Nat → Int) (p1 : Int) : Prop := (0 ≤ p1 ∧ p1 < 4) ∧ (∀ sfr_1 : Nat → Int, sfr_1 = xw_u sfr p1 (-15) → ((0 ≤ p1 ∧ p1 < 4) ∧ (∀ sto_1 : Nat → Int, sto_1 = xw_u sto p1 15 → ((0 ≤ p1 ∧ p1 < 5) ∧ (∀ x2 : Int, x2 = spc p1.toNat → (∃ fu : Nat, wp_X2_narrow_28 p1 sid sfo soe sfa sre sle sva sff slf sgf rsz rly rce rst post x2 fu spe spc sfr_1 sto_1 0 0))))))
def wl_X2_setWord_19 (p1 : Int) (p2 : Int) (sfa : Nat → Int) (spe : Nat → Int) (post : (Nat → Int) → (Nat → Int) → Prop) (x3 : Int) (J_19 : (Nat → Int) → (Nat → Int) → Int → Prop) (sle_1 : Nat → Int) (sva_2 : Nat → Int) (x4 : Int) : Prop := xw_r x4 ∧ (xw_r x3 ∧ ((x3 ≤ x4 → (post sle_1 sva_2)) ∧ (¬ x3 ≤ x4 → ((0 ≤ ((p1 + 1) * 32) + x4 ∧ ((p1 + 1) * 32) + x4 < 160) ∧ (∀ x5 : Int, x5 = (p1 * 32) + (spe (((p1 + 1) * 32) + x4).toNat) → ((0 ≤ x5 ∧ x5 < 128) ∧ ((0 ≤ x5 ∧ x5 < 128) ∧ ((0 ≤ x5 + 32 ∧ x5 + 32 < 128) ∧ (∀ sle_2 : Nat → Int, sle_2 = xw_u sle_1 (x5 + 32) ((sle_1 x5.toNat) - ((sfa x5.toNat) * p2)) → (∀ x4_1 : Int, x4_1 = x4 + 1 → (J_19 sle_2 sva_2 x4_1)))))))))))
def wp_X2_setWord_19 (p1 : Int) (p2 : Int) (sfa : Nat → Int) (spe : Nat → Int) (post : (Nat → Int) → (Nat → Int) → Prop) (x3 : Int) : Nat → (Nat → Int) → (Nat → Int) → Int → Prop
  | 0 => fun _ _ _ => False
  | n + 1 => fun sle_1 sva_2 x4 => wl_X2_setWord_19 p1 p2 sfa spe post x3 (wp_X2_setWord_19 p1 p2 sfa spe post x3 n) sle_1 sva_2 x4
def wp_X2_setWord (post : (Nat → Int) → (Nat → Int) → Prop) (sid : Int) (sfo : Int) (soe : Int) (sfa : Nat → Int) (sre : Nat → Int) (sle : Nat → Int) (spe : Nat → Int) (spc : Nat → Int) (sfr : Nat → Int) (sto : Nat → Int) (sva : Nat → Int) (sff : Nat → Int) (slf : Nat → Int) (sgf : Nat → Int) (rsz : Int) (rly : Int) (rce : Nat → Int) (rst : Nat → Int) (p1 : Int) (p2 : Int) : Prop := (0 ≤ p1 ∧ p1 < 4) ∧ (∀ sva_1 : Nat → Int, sva_1 = xw_u sva p1 p2 → ((0 ≤ p1 + 1 ∧ p1 + 1 < 5) ∧ (∀ x3 : Int, x3 = spc (p1 + 1).toNat → (∃ fu : Nat, wp_X2_setWord_19 p1 p2 sfa spe post x3 fu sle sva_1 0))))
def wp_X2_noteSolutions_151 (J_4 : Int → (Nat → Int) → (Nat → Int) → (Nat → Int) → Int → Int → Prop) (x2_1 : Int) (sfo_4 : Int) (sff_4 : Nat → Int) (slf_4 : Nat → Int) (sgf_4 : Nat → Int) (x3_1 : Int) : Prop := ∀ x3_2 : Int, x3_2 = x3_1 + 1 → (J_4 sfo_4 sff_4 slf_4 sgf_4 x3_2 x2_1)
def wp_X2_noteSolutions_71 (J_4 : Int → (Nat → Int) → (Nat → Int) → (Nat → Int) → Int → Int → Prop) (x3 : Int) (x2 : Int) (z0 : Int) (sfo_3 : Int) (sff_3 : Nat → Int) (slf_3 : Nat → Int) (sgf_3 : Nat → Int) (z0_1 : Int) : Prop := ∀ x2_1 : Int, x2_1 = x2 * ((z0_1 - z0) + 1) → (xw_r sfo_3 ∧ ((sfo_3 = 0 → ((0 ≤ x3 ∧ x3 < 4) ∧ (∀ sff_5 : Nat → Int, sff_5 = xw_u sff_3 x3 z0 → ((0 ≤ x3 ∧ x3 < 4) ∧ (∀ slf_6 : Nat → Int, slf_6 = xw_u slf_3 x3 z0 → ((0 ≤ x3 ∧ x3 < 4) ∧ (∀ sgf_6 : Nat → Int, sgf_6 = xw_u sgf_3 x3 z0_1 → (wp_X2_noteSolutions_151 J_4 x2_1 sfo_3 sff_5 slf_6 sgf_6 x3)))))))) ∧ (¬ sfo_3 = 0 → ((0 ≤ x3 ∧ x3 < 4) ∧ (xw_r (slf_3 x3.toNat) ∧ (xw_r z0 ∧ ((0 ≤ x3 ∧ x3 < 4) ∧ (∀ slf_5 : Nat → Int, slf_5 = xw_u slf_3 x3 (if z0 < slf_3 x3.toNat then z0 else slf_3 x3.toNat) → ((0 ≤ x3 ∧ x3 < 4) ∧ (xw_r (sgf_3 x3.toNat) ∧ (xw_r z0_1 ∧ ((0 ≤ x3 ∧ x3 < 4) ∧ (∀ sgf_5 : Nat → Int, sgf_5 = xw_u sgf_3 x3 (if sgf_3 x3.toNat < z0_1 then z0_1 else sgf_3 x3.toNat) → (wp_X2_noteSolutions_151 J_4 x2_1 sfo_3 sff_3 slf_5 sgf_5 x3))))))))))))))
def wp_X2_noteSolutions_39 (J_4 : Int → (Nat → Int) → (Nat → Int) → (Nat → Int) → Int → Int → Prop) (p1 : Int) (sto : Nat → Int) (sva : Nat → Int) (x3 : Int) (x2 : Int) (sfo_2 : Int) (sff_2 : Nat → Int) (slf_2 : Nat → Int) (sgf_2 : Nat → Int) (z0 : Int) : Prop := xw_r p1 ∧ ((p1 ≤ x3 → ((x3 = p1 → ((0 ≤ x3 ∧ x3 < 4) ∧ (wp_X2_noteSolutions_71 J_4 x3 x2 z0 sfo_2 sff_2 slf_2 sgf_2 (sto x3.toNat)))) ∧ (¬ x3 = p1 → (wp_X2_noteSolutions_71 J_4 x3 x2 z0 sfo_2 sff_2 slf_2 sgf_2 15)))) ∧ (¬ p1 ≤ x3 → ((0 ≤ x3 ∧ x3 < 4) ∧ (wp_X2_noteSolutions_71 J_4 x3 x2 z0 sfo_2 sff_2 slf_2 sgf_2 (sva x3.toNat)))))
def wl_X2_noteSolutions_4 (p1 : Int) (sfr : Nat → Int) (sto : Nat → Int) (sva : Nat → Int) (post : Int → (Nat → Int) → (Nat → Int) → (Nat → Int) → Prop) (J_4 : Int → (Nat → Int) → (Nat → Int) → (Nat → Int) → Int → Int → Prop) (sfo_1 : Int) (sff_1 : Nat → Int) (slf_1 : Nat → Int) (sgf_1 : Nat → Int) (x3 : Int) (x2 : Int) : Prop := xw_r x3 ∧ ((4 ≤ x3 → (∀ ff : Int, ff = sfo_1 + x2 → (post ff sff_1 slf_1 sgf_1))) ∧ (¬ 4 ≤ x3 → (xw_r p1 ∧ ((p1 ≤ x3 → ((x3 = p1 → ((0 ≤ x3 ∧ x3 < 4) ∧ (wp_X2_noteSolutions_39 J_4 p1 sto sva x3 x2 sfo_1 sff_1 slf_1 sgf_1 (sfr x3.toNat)))) ∧ (¬ x3 = p1 → (wp_X2_noteSolutions_39 J_4 p1 sto sva x3 x2 sfo_1 sff_1 slf_1 sgf_1 (-15))))) ∧ (¬ p1 ≤ x3 → ((0 ≤ x3 ∧ x3 < 4) ∧ (wp_X2_noteSolutions_39 J_4 p1 sto sva x3 x2 sfo_1 sff_1 slf_1 sgf_1 (sva x3.toNat))))))))
def wp_X2_noteSolutions_4 (p1 : Int) (sfr : Nat → Int) (sto : Nat → Int) (sva : Nat → Int) (post : Int → (Nat → Int) → (Nat → Int) → (Nat → Int) → Prop) : Nat → Int → (Nat → Int) → (Nat → Int) → (Nat → Int) → Int → Int → Prop
  | 0 => fun _ _ _ _ _ _ => False
  | n + 1 => fun sfo_1 sff_1 slf_1 sgf_1 x3 x2 => wl_X2_noteSolutions_4 p1 sfr sto sva post (wp_X2_noteSolutions_4 p1 sfr sto sva post n) sfo_1 sff_1 slf_1 sgf_1 x3 x2
def wp_X2_noteSolutions (post : Int → (Nat → Int) → (Nat → Int) → (Nat → Int) → Prop) (sid : Int) (sfo : Int) (soe : Int) (sfa : Nat → Int) (sre : Nat → Int) (sle : Nat → Int) (spe : Nat → Int) (spc : Nat → Int) (sfr : Nat → Int) (sto : Nat → Int) (sva : Nat → Int) (sff : Nat → Int) (slf : Nat → Int) (sgf : Nat → Int) (rsz : Int) (rly : Int) (rce : Nat → Int) (rst : Nat → Int) (p1 : Int) : Prop := ∃ fu : Nat, wp_X2_noteSolutions_4 p1 sfr sto sva post fu sfo sff slf sgf 0 1
set_option maxHeartbeats 4000000 in
set_option maxRecDepth 100000 in
theorem c_X2_init (l : Launch) (dC : Nat → ClassId) (dI : Nat → Nat → Nat) (sz : Nat) (qS : Nat) (p1 : Nat) : Met l yX2_init wsX2_init ({ frames := 1, cells := 11, slots := 605, locals := 12 }) (va_Pc [.ref qS, .ref p1] (xw_Pre (dC, dI) vwCl [(qS, .inr (2, [.null, .null, .null, .null, .null, .null, .null, .null, .null, .null, .null, .null, .int (xw_i 0), .int (xw_i 0), .int (xw_i 0)]))] [] sz)) (va_Qv (fun (_ : Nat × ClassId × Nat × ClassId × Nat × ClassId × Nat × ClassId × Nat × ClassId × Nat × ClassId × Nat × ClassId × Nat × ClassId × Nat × ClassId × Nat × ClassId × Nat × ClassId) => True) (xw_B (dC, dI) vwCl (fun (u : Nat × ClassId × Nat × ClassId × Nat × ClassId × Nat × ClassId × Nat × ClassId × Nat × ClassId × Nat × ClassId × Nat × ClassId × Nat × ClassId × Nat × ClassId × Nat × ClassId) => [(u.2.1, .int), (u.2.2.2.1, .int), (u.2.2.2.2.2.1, .int), (u.2.2.2.2.2.2.2.1, .int), (u.2.2.2.2.2.2.2.2.2.1, .int), (u.2.2.2.2.2.2.2.2.2.2.2.1, .int), (u.2.2.2.2.2.2.2.2.2.2.2.2.2.1, .int), (u.2.2.2.2.2.2.2.2.2.2.2.2.2.2.2.1, .int), (u.2.2.2.2.2.2.2.2.2.2.2.2.2.2.2.2.2.1, .int), (u.2.2.2.2.2.2.2.2.2.2.2.2.2.2.2.2.2.2.2.1, .int), (u.2.2.2.2.2.2.2.2.2.2.2.2.2.2.2.2.2.2.2.2.2, .int)]) (va_A [(qS, .inr (2, [.null, .null, .null, .null, .null, .null, .null, .null, .null, .null, .null, .null, .int (xw_i 0), .int (xw_i 0), .int (xw_i 0)]))] sz) (fun (u : Nat × ClassId × Nat × ClassId × Nat × ClassId × Nat × ClassId × Nat × ClassId × Nat × ClassId × Nat × ClassId × Nat × ClassId × Nat × ClassId × Nat × ClassId × Nat × ClassId) => [(qS, .inr (2, [.ref p1, .ref u.1, .ref u.2.2.1, .ref u.2.2.2.2.1, .ref u.2.2.2.2.2.2.1, .ref u.2.2.2.2.2.2.2.2.1, .ref u.2.2.2.2.2.2.2.2.2.2.1, .ref u.2.2.2.2.2.2.2.2.2.2.2.2.1, .ref u.2.2.2.2.2.2.2.2.2.2.2.2.2.2.1, .ref u.2.2.2.2.2.2.2.2.2.2.2.2.2.2.2.2.1, .ref u.2.2.2.2.2.2.2.2.2.2.2.2.2.2.2.2.2.2.1, .ref u.2.2.2.2.2.2.2.2.2.2.2.2.2.2.2.2.2.2.2.2.1, .int (xw_i 0), .int (xw_i 0), .int (xw_i 0)])), (u.1, .inl (u.2.1, 128, .inl (xw_a (fun _ => 0)))), (u.2.2.1, .inl (u.2.2.2.1, 160, .inl (xw_a (fun _ => 0)))), (u.2.2.2.2.1, .inl (u.2.2.2.2.2.1, 128, .inl (xw_a (fun _ => 0)))), (u.2.2.2.2.2.2.1, .inl (u.2.2.2.2.2.2.2.1, 160, .inl (xw_a (fun _ => 0)))), (u.2.2.2.2.2.2.2.2.1, .inl (u.2.2.2.2.2.2.2.2.2.1, 5, .inl (xw_a (fun _ => 0)))), (u.2.2.2.2.2.2.2.2.2.2.1, .inl (u.2.2.2.2.2.2.2.2.2.2.2.1, 4, .inl (xw_a (fun _ => 0)))), (u.2.2.2.2.2.2.2.2.2.2.2.2.1, .inl (u.2.2.2.2.2.2.2.2.2.2.2.2.2.1, 4, .inl (xw_a (fun _ => 0)))), (u.2.2.2.2.2.2.2.2.2.2.2.2.2.2.1, .inl (u.2.2.2.2.2.2.2.2.2.2.2.2.2.2.2.1, 4, .inl (xw_a (fun _ => 0)))), (u.2.2.2.2.2.2.2.2.2.2.2.2.2.2.2.2.1, .inl (u.2.2.2.2.2.2.2.2.2.2.2.2.2.2.2.2.2.1, 4, .inl (xw_a (fun _ => 0)))), (u.2.2.2.2.2.2.2.2.2.2.2.2.2.2.2.2.2.2.1, .inl (u.2.2.2.2.2.2.2.2.2.2.2.2.2.2.2.2.2.2.2.1, 4, .inl (xw_a (fun _ => 0)))), (u.2.2.2.2.2.2.2.2.2.2.2.2.2.2.2.2.2.2.2.2.1, .inl (u.2.2.2.2.2.2.2.2.2.2.2.2.2.2.2.2.2.2.2.2.2, 4, .inl (xw_a (fun _ => 0))))])) (va_A [(qS, .inr (2, [.null, .null, .null, .null, .null, .null, .null, .null, .null, .null, .null, .null, .int (xw_i 0), .int (xw_i 0), .int (xw_i 0)]))] sz)) 11 605 (va_A [(qS, .inr (2, [.null, .null, .null, .null, .null, .null, .null, .null, .null, .null, .null, .null, .int (xw_i 0), .int (xw_i 0), .int (xw_i 0)]))] sz) := by
  refine xw_ofV (cc := cX2_init) (maxL := 2) (by decide +kernel) rfl (Nat.le_of_ble_eq_true rfl) ?_
  intro p e s m args below meth c hx hb hml hown hts hin A hA hP hD hK Q hret ls hl hS
  have hl : lv_has ls 2 [(0, .ref qS), (1, .ref p1)] := hl
  have hwsX20 : ∀ w ∈ wsX20, w ∈ wsX2_init := fun _ h => List.mem_cons_of_mem _ (List.mem_append_right _ h)
  refine lv_aload_n hx hb dX2_init_0 rfl (lv_at hl 0 rfl) ?_
  refine W.objInit hx hb hown (hts (.methodLink RX2 5 objectInit) (by decide +kernel)) (hts (.instanceMethod objectInit) (by decide +kernel)) (hts (.code objectInit ⟨#[0xb1]⟩ 1 none) (by decide +kernel)) rfl (by rw [hml]; exact hl.1) rfl dX2_init_1 (Nat.le_of_ble_eq_true rfl) (Nat.le_of_ble_eq_true rfl) ?_
  refine W.eq (g2 := F0 m 4 ls []) rfl ?_
  refine lv_aload_n hx hb dX2_init_4 rfl (lv_at hl 0 rfl) ?_
  refine lv_aload_n hx hb dX2_init_5 rfl (lv_at hl 1 rfl) ?_
  refine va_putF (D := (dC, dI)) (ci := 2) (v := .ref p1) (ty := (.object "BoxProver$Rows")) (C := RX2) (T := TX2) (N := 15) hx hb hts hwsX20 tyX2 tyX2_ok nmX2 hown hK hP hD hS 0 rfl rfl 0 (by decide) (hts (.fieldLink RX2 11 "BoxProver$Search" "rows" "LBoxProver$Rows;") (by decide +kernel)) (fun _ h9 => h9) rfl hin rfl (by decide +kernel) rfl rfl (Nat.le_of_ble_eq_true rfl) dX2_init_6 (fun H locs hP hD hS => ?_)
  have hP : va_P (dC, dI) vwCl [(qS, .inr (2, [.ref p1, .null, .null, .null, .null, .null, .null, .null, .null, .null, .null, .null, .int (xw_i 0), .int (xw_i 0), .int (xw_i 0)]))] H := hP
  have hD : va_D A [(qS, .inr (2, [.ref p1, .null, .null, .null, .null, .null, .null, .null, .null, .null, .null, .null, .int (xw_i 0), .int (xw_i 0), .int (xw_i 0)]))] := hD
  refine lv_aload_n hx hb dX2_init_9 rfl (lv_at hl 0 rfl) ?_
  refine lv_sipush (v := xw_i 128) hx hb dX2_init_10 (by decide) ?_
  refine xw_newi (N' := 128) hx hb (hts (.arrayClass .int) (by decide +kernel)) hK hP hD hS hA rfl (by decide) (Nat.le_of_ble_eq_true rfl) (Nat.le_of_ble_eq_true rfl) dX2_init_13 (fun qn kn H hK hP hD hS => ?_)
  have hP : va_P (dC, dI) vwCl [(qS, .inr (2, [.ref p1, .null, .null, .null, .null, .null, .null, .null, .null, .null, .null, .null, .int (xw_i 0), .int (xw_i 0), .int (xw_i 0)])), (qn, .inl (kn, 128, .inl (xw_a (fun _ => 0))))] H := hP
  have hD : va_D A [(qS, .inr (2, [.ref p1, .null, .null, .null, .null, .null, .null, .null, .null, .null, .null, .null, .int (xw_i 0), .int (xw_i 0), .int (xw_i 0)])), (qn, .inl (kn, 128, .inl (xw_a (fun _ => 0))))] := hD
  have hK : va_K (dC, dI) vwCl [(kn, .int)] s := hK
  refine W.widen (k := 1) (n := 128) (by decide) (by decide) ?_
  refine va_putF (D := (dC, dI)) (ci := 2) (v := .ref qn) (ty := (.array .int)) (C := RX2) (T := TX2) (N := 15) hx hb hts hwsX20 tyX2 tyX2_ok nmX2 hown hK hP hD hS 0 rfl rfl 1 (by decide) (hts (.fieldLink RX2 17 "BoxProver$Search" "factor" "[I") (by decide +kernel)) (fun _ h9 => h9) rfl hin rfl (by decide +kernel) rfl rfl (Nat.le_of_ble_eq_true rfl) dX2_init_15 (fun H locs hP hD hS => ?_)
  have hP : va_P (dC, dI) vwCl [(qS, .inr (2, [.ref p1, .ref qn, .null, .null, .null, .null, .null, .null, .null, .null, .null, .null, .int (xw_i 0), .int (xw_i 0), .int (xw_i 0)])), (qn, .inl (kn, 128, .inl (xw_a (fun _ => 0))))] H := hP
  have hD : va_D A [(qS, .inr (2, [.ref p1, .ref qn, .null, .null, .null, .null, .null, .null, .null, .null, .null, .null, .int (xw_i 0), .int (xw_i 0), .int (xw_i 0)])), (qn, .inl (kn, 128, .inl (xw_a (fun _ => 0))))] := hD
  refine lv_aload_n hx hb dX2_init_18 rfl (lv_at hl 0 rfl) ?_
  refine lv_sipush (v := xw_i 160) hx hb dX2_init_19 (by decide) ?_
  refine xw_newi (N' := 160) hx hb (hts (.arrayClass .int) (by decide +kernel)) hK hP hD hS hA rfl (by decide) (Nat.le_of_ble_eq_true rfl) (Nat.le_of_ble_eq_true rfl) dX2_init_22 (fun qn_1 kn_1 H hK hP hD hS => ?_)
  have hP : va_P (dC, dI) vwCl [(qS, .inr (2, [.ref p1, .ref qn, .null, .null, .null, .null, .null, .null, .null, .null, .null, .null, .int (xw_i 0), .int (xw_i 0), .int (xw_i 0)])), (qn, .inl (kn, 128, .inl (xw_a (fun _ => 0)))), (qn_1, .inl (kn_1, 160, .inl (xw_a (fun _ => 0))))] H := hP
  have hD : va_D A [(qS, .inr (2, [.ref p1, .ref qn, .null, .null, .null, .null, .null, .null, .null, .null, .null, .null, .int (xw_i 0), .int (xw_i 0), .int (xw_i 0)])), (qn, .inl (kn, 128, .inl (xw_a (fun _ => 0)))), (qn_1, .inl (kn_1, 160, .inl (xw_a (fun _ => 0))))] := hD
  have hK : va_K (dC, dI) vwCl [(kn, .int), (kn_1, .int)] s := hK
  refine W.widen (k := 2) (n := 288) (by decide) (by decide) ?_
  refine va_putF (D := (dC, dI)) (ci := 2) (v := .ref qn_1) (ty := (.array .int)) (C := RX2) (T := TX2) (N := 15) hx hb hts hwsX20 tyX2 tyX2_ok nmX2 hown hK hP hD hS 0 rfl rfl 2 (by decide) (hts (.fieldLink RX2 21 "BoxProver$Search" "reach" "[I") (by decide +kernel)) (fun _ h9 => h9) rfl hin rfl (by decide +kernel) rfl rfl (Nat.le_of_ble_eq_true rfl) dX2_init_24 (fun H locs hP hD hS => ?_)
  have hP : va_P (dC, dI) vwCl [(qS, .inr (2, [.ref p1, .ref qn, .ref qn_1, .null, .null, .null, .null, .null, .null, .null, .null, .null, .int (xw_i 0), .int (xw_i 0), .int (xw_i 0)])), (qn, .inl (kn, 128, .inl (xw_a (fun _ => 0)))), (qn_1, .inl (kn_1, 160, .inl (xw_a (fun _ => 0))))] H := hP
  have hD : va_D A [(qS, .inr (2, [.ref p1, .ref qn, .ref qn_1, .null, .null, .null, .null, .null, .null, .null, .null, .null, .int (xw_i 0), .int (xw_i 0), .int (xw_i 0)])), (qn, .inl (kn, 128, .inl (xw_a (fun _ => 0)))), (qn_1, .inl (kn_1, 160, .inl (xw_a (fun _ => 0))))] := hD
  refine lv_aload_n hx hb dX2_init_27 rfl (lv_at hl 0 rfl) ?_
  refine lv_sipush (v := xw_i 128) hx hb dX2_init_28 (by decide) ?_
  refine xw_newi (N' := 128) hx hb (hts (.arrayClass .int) (by decide +kernel)) hK hP hD hS hA rfl (by decide) (Nat.le_of_ble_eq_true rfl) (Nat.le_of_ble_eq_true rfl) dX2_init_31 (fun qn_2 kn_2 H hK hP hD hS => ?_)
  have hP : va_P (dC, dI) vwCl [(qS, .inr (2, [.ref p1, .ref qn, .ref qn_1, .null, .null, .null, .null, .null, .null, .null, .null, .null, .int (xw_i 0), .int (xw_i 0), .int (xw_i 0)])), (qn, .inl (kn, 128, .inl (xw_a (fun _ => 0)))), (qn_1, .inl (kn_1, 160, .inl (xw_a (fun _ => 0)))), (qn_2, .inl (kn_2, 128, .inl (xw_a (fun _ => 0))))] H := hP
  have hD : va_D A [(qS, .inr (2, [.ref p1, .ref qn, .ref qn_1, .null, .null, .null, .null, .null, .null, .null, .null, .null, .int (xw_i 0), .int (xw_i 0), .int (xw_i 0)])), (qn, .inl (kn, 128, .inl (xw_a (fun _ => 0)))), (qn_1, .inl (kn_1, 160, .inl (xw_a (fun _ => 0)))), (qn_2, .inl (kn_2, 128, .inl (xw_a (fun _ => 0))))] := hD
  have hK : va_K (dC, dI) vwCl [(kn, .int), (kn_1, .int), (kn_2, .int)] s := hK
  refine W.widen (k := 3) (n := 416) (by decide) (by decide) ?_
  refine va_putF (D := (dC, dI)) (ci := 2) (v := .ref qn_2) (ty := (.array .int)) (C := RX2) (T := TX2) (N := 15) hx hb hts hwsX20 tyX2 tyX2_ok nmX2 hown hK hP hD hS 0 rfl rfl 3 (by decide) (hts (.fieldLink RX2 24 "BoxProver$Search" "left" "[I") (by decide +kernel)) (fun _ h9 => h9) rfl hin rfl (by decide +kernel) rfl rfl (Nat.le_of_ble_eq_true rfl) dX2_init_33 (fun H locs hP hD hS => ?_)
  have hP : va_P (dC, dI) vwCl [(qS, .inr (2, [.ref p1, .ref qn, .ref qn_1, .ref qn_2, .null, .null, .null, .null, .null, .null, .null, .null, .int (xw_i 0), .int (xw_i 0), .int (xw_i 0)])), (qn, .inl (kn, 128, .inl (xw_a (fun _ => 0)))), (qn_1, .inl (kn_1, 160, .inl (xw_a (fun _ => 0)))), (qn_2, .inl (kn_2, 128, .inl (xw_a (fun _ => 0))))] H := hP
  have hD : va_D A [(qS, .inr (2, [.ref p1, .ref qn, .ref qn_1, .ref qn_2, .null, .null, .null, .null, .null, .null, .null, .null, .int (xw_i 0), .int (xw_i 0), .int (xw_i 0)])), (qn, .inl (kn, 128, .inl (xw_a (fun _ => 0)))), (qn_1, .inl (kn_1, 160, .inl (xw_a (fun _ => 0)))), (qn_2, .inl (kn_2, 128, .inl (xw_a (fun _ => 0))))] := hD
  refine lv_aload_n hx hb dX2_init_36 rfl (lv_at hl 0 rfl) ?_
  refine lv_sipush (v := xw_i 160) hx hb dX2_init_37 (by decide) ?_
  refine xw_newi (N' := 160) hx hb (hts (.arrayClass .int) (by decide +kernel)) hK hP hD hS hA rfl (by decide) (Nat.le_of_ble_eq_true rfl) (Nat.le_of_ble_eq_true rfl) dX2_init_40 (fun qn_3 kn_3 H hK hP hD hS => ?_)
  have hP : va_P (dC, dI) vwCl [(qS, .inr (2, [.ref p1, .ref qn, .ref qn_1, .ref qn_2, .null, .null, .null, .null, .null, .null, .null, .null, .int (xw_i 0), .int (xw_i 0), .int (xw_i 0)])), (qn, .inl (kn, 128, .inl (xw_a (fun _ => 0)))), (qn_1, .inl (kn_1, 160, .inl (xw_a (fun _ => 0)))), (qn_2, .inl (kn_2, 128, .inl (xw_a (fun _ => 0)))), (qn_3, .inl (kn_3, 160, .inl (xw_a (fun _ => 0))))] H := hP
  have hD : va_D A [(qS, .inr (2, [.ref p1, .ref qn, .ref qn_1, .ref qn_2, .null, .null, .null, .null, .null, .null, .null, .null, .int (xw_i 0), .int (xw_i 0), .int (xw_i 0)])), (qn, .inl (kn, 128, .inl (xw_a (fun _ => 0)))), (qn_1, .inl (kn_1, 160, .inl (xw_a (fun _ => 0)))), (qn_2, .inl (kn_2, 128, .inl (xw_a (fun _ => 0)))), (qn_3, .inl (kn_3, 160, .inl (xw_a (fun _ => 0))))] := hD
  have hK : va_K (dC, dI) vwCl [(kn, .int), (kn_1, .int), (kn_2, .int), (kn_3, .int)] s := hK
  refine W.widen (k := 4) (n := 576) (by decide) (by decide) ?_
  refine va_putF (D := (dC, dI)) (ci := 2) (v := .ref qn_3) (ty := (.array .int)) (C := RX2) (T := TX2) (N := 15) hx hb hts hwsX20 tyX2 tyX2_ok nmX2 hown hK hP hD hS 0 rfl rfl 4 (by decide) (hts (.fieldLink RX2 27 "BoxProver$Search" "pending" "[I") (by decide +kernel)) (fun _ h9 => h9) rfl hin rfl (by decide +kernel) rfl rfl (Nat.le_of_ble_eq_true rfl) dX2_init_42 (fun H locs hP hD hS => ?_)
  have hP : va_P (dC, dI) vwCl [(qS, .inr (2, [.ref p1, .ref qn, .ref qn_1, .ref qn_2, .ref qn_3, .null, .null, .null, .null, .null, .null, .null, .int (xw_i 0), .int (xw_i 0), .int (xw_i 0)])), (qn, .inl (kn, 128, .inl (xw_a (fun _ => 0)))), (qn_1, .inl (kn_1, 160, .inl (xw_a (fun _ => 0)))), (qn_2, .inl (kn_2, 128, .inl (xw_a (fun _ => 0)))), (qn_3, .inl (kn_3, 160, .inl (xw_a (fun _ => 0))))] H := hP
  have hD : va_D A [(qS, .inr (2, [.ref p1, .ref qn, .ref qn_1, .ref qn_2, .ref qn_3, .null, .null, .null, .null, .null, .null, .null, .int (xw_i 0), .int (xw_i 0), .int (xw_i 0)])), (qn, .inl (kn, 128, .inl (xw_a (fun _ => 0)))), (qn_1, .inl (kn_1, 160, .inl (xw_a (fun _ => 0)))), (qn_2, .inl (kn_2, 128, .inl (xw_a (fun _ => 0)))), (qn_3, .inl (kn_3, 160, .inl (xw_a (fun _ => 0))))] := hD
  refine lv_aload_n hx hb dX2_init_45 rfl (lv_at hl 0 rfl) ?_
  refine lv_iconst (v := xw_i 5) hx hb dX2_init_46 (by decide) ?_
  refine xw_newi (N' := 5) hx hb (hts (.arrayClass .int) (by decide +kernel)) hK hP hD hS hA rfl (by decide) (Nat.le_of_ble_eq_true rfl) (Nat.le_of_ble_eq_true rfl) dX2_init_47 (fun qn_4 kn_4 H hK hP hD hS => ?_)
  have hP : va_P (dC, dI) vwCl [(qS, .inr (2, [.ref p1, .ref qn, .ref qn_1, .ref qn_2, .ref qn_3, .null, .null, .null, .null, .null, .null, .null, .int (xw_i 0), .int (xw_i 0), .int (xw_i 0)])), (qn, .inl (kn, 128, .inl (xw_a (fun _ => 0)))), (qn_1, .inl (kn_1, 160, .inl (xw_a (fun _ => 0)))), (qn_2, .inl (kn_2, 128, .inl (xw_a (fun _ => 0)))), (qn_3, .inl (kn_3, 160, .inl (xw_a (fun _ => 0)))), (qn_4, .inl (kn_4, 5, .inl (xw_a (fun _ => 0))))] H := hP
  have hD : va_D A [(qS, .inr (2, [.ref p1, .ref qn, .ref qn_1, .ref qn_2, .ref qn_3, .null, .null, .null, .null, .null, .null, .null, .int (xw_i 0), .int (xw_i 0), .int (xw_i 0)])), (qn, .inl (kn, 128, .inl (xw_a (fun _ => 0)))), (qn_1, .inl (kn_1, 160, .inl (xw_a (fun _ => 0)))), (qn_2, .inl (kn_2, 128, .inl (xw_a (fun _ => 0)))), (qn_3, .inl (kn_3, 160, .inl (xw_a (fun _ => 0)))), (qn_4, .inl (kn_4, 5, .inl (xw_a (fun _ => 0))))] := hD
  have hK : va_K (dC, dI) vwCl [(kn, .int), (kn_1, .int), (kn_2, .int), (kn_3, .int), (kn_4, .int)] s := hK
  refine W.widen (k := 5) (n := 581) (by decide) (by decide) ?_
  refine va_putF (D := (dC, dI)) (ci := 2) (v := .ref qn_4) (ty := (.array .int)) (C := RX2) (T := TX2) (N := 15) hx hb hts hwsX20 tyX2 tyX2_ok nmX2 hown hK hP hD hS 0 rfl rfl 5 (by decide) (hts (.fieldLink RX2 30 "BoxProver$Search" "pendingCount" "[I") (by decide +kernel)) (fun _ h9 => h9) rfl hin rfl (by decide +kernel) rfl rfl (Nat.le_of_ble_eq_true rfl) dX2_init_49 (fun H locs hP hD hS => ?_)
  have hP : va_P (dC, dI) vwCl [(qS, .inr (2, [.ref p1, .ref qn, .ref qn_1, .ref qn_2, .ref qn_3, .ref qn_4, .null, .null, .null, .null, .null, .null, .int (xw_i 0), .int (xw_i 0), .int (xw_i 0)])), (qn, .inl (kn, 128, .inl (xw_a (fun _ => 0)))), (qn_1, .inl (kn_1, 160, .inl (xw_a (fun _ => 0)))), (qn_2, .inl (kn_2, 128, .inl (xw_a (fun _ => 0)))), (qn_3, .inl (kn_3, 160, .inl (xw_a (fun _ => 0)))), (qn_4, .inl (kn_4, 5, .inl (xw_a (fun _ => 0))))] H := hP
  have hD : va_D A [(qS, .inr (2, [.ref p1, .ref qn, .ref qn_1, .ref qn_2, .ref qn_3, .ref qn_4, .null, .null, .null, .null, .null, .null, .int (xw_i 0), .int (xw_i 0), .int (xw_i 0)])), (qn, .inl (kn, 128, .inl (xw_a (fun _ => 0)))), (qn_1, .inl (kn_1, 160, .inl (xw_a (fun _ => 0)))), (qn_2, .inl (kn_2, 128, .inl (xw_a (fun _ => 0)))), (qn_3, .inl (kn_3, 160, .inl (xw_a (fun _ => 0)))), (qn_4, .inl (kn_4, 5, .inl (xw_a (fun _ => 0))))] := hD
  refine lv_aload_n hx hb dX2_init_52 rfl (lv_at hl 0 rfl) ?_
  refine lv_iconst (v := xw_i 4) hx hb dX2_init_53 (by decide) ?_
  refine xw_newi (N' := 4) hx hb (hts (.arrayClass .int) (by decide +kernel)) hK hP hD hS hA rfl (by decide) (Nat.le_of_ble_eq_true rfl) (Nat.le_of_ble_eq_true rfl) dX2_init_54 (fun qn_5 kn_5 H hK hP hD hS => ?_)
  have hP : va_P (dC, dI) vwCl [(qS, .inr (2, [.ref p1, .ref qn, .ref qn_1, .ref qn_2, .ref qn_3, .ref qn_4, .null, .null, .null, .null, .null, .null, .int (xw_i 0), .int (xw_i 0), .int (xw_i 0)])), (qn, .inl (kn, 128, .inl (xw_a (fun _ => 0)))), (qn_1, .inl (kn_1, 160, .inl (xw_a (fun _ => 0)))), (qn_2, .inl (kn_2, 128, .inl (xw_a (fun _ => 0)))), (qn_3, .inl (kn_3, 160, .inl (xw_a (fun _ => 0)))), (qn_4, .inl (kn_4, 5, .inl (xw_a (fun _ => 0)))), (qn_5, .inl (kn_5, 4, .inl (xw_a (fun _ => 0))))] H := hP
  have hD : va_D A [(qS, .inr (2, [.ref p1, .ref qn, .ref qn_1, .ref qn_2, .ref qn_3, .ref qn_4, .null, .null, .null, .null, .null, .null, .int (xw_i 0), .int (xw_i 0), .int (xw_i 0)])), (qn, .inl (kn, 128, .inl (xw_a (fun _ => 0)))), (qn_1, .inl (kn_1, 160, .inl (xw_a (fun _ => 0)))), (qn_2, .inl (kn_2, 128, .inl (xw_a (fun _ => 0)))), (qn_3, .inl (kn_3, 160, .inl (xw_a (fun _ => 0)))), (qn_4, .inl (kn_4, 5, .inl (xw_a (fun _ => 0)))), (qn_5, .inl (kn_5, 4, .inl (xw_a (fun _ => 0))))] := hD
  have hK : va_K (dC, dI) vwCl [(kn, .int), (kn_1, .int), (kn_2, .int), (kn_3, .int), (kn_4, .int), (kn_5, .int)] s := hK
  refine W.widen (k := 6) (n := 585) (by decide) (by decide) ?_
  refine va_putF (D := (dC, dI)) (ci := 2) (v := .ref qn_5) (ty := (.array .int)) (C := RX2) (T := TX2) (N := 15) hx hb hts hwsX20 tyX2 tyX2_ok nmX2 hown hK hP hD hS 0 rfl rfl 6 (by decide) (hts (.fieldLink RX2 33 "BoxProver$Search" "from" "[I") (by decide +kernel)) (fun _ h9 => h9) rfl hin rfl (by decide +kernel) rfl rfl (Nat.le_of_ble_eq_true rfl) dX2_init_56 (fun H locs hP hD hS => ?_)
  have hP : va_P (dC, dI) vwCl [(qS, .inr (2, [.ref p1, .ref qn, .ref qn_1, .ref qn_2, .ref qn_3, .ref qn_4, .ref qn_5, .null, .null, .null, .null, .null, .int (xw_i 0), .int (xw_i 0), .int (xw_i 0)])), (qn, .inl (kn, 128, .inl (xw_a (fun _ => 0)))), (qn_1, .inl (kn_1, 160, .inl (xw_a (fun _ => 0)))), (qn_2, .inl (kn_2, 128, .inl (xw_a (fun _ => 0)))), (qn_3, .inl (kn_3, 160, .inl (xw_a (fun _ => 0)))), (qn_4, .inl (kn_4, 5, .inl (xw_a (fun _ => 0)))), (qn_5, .inl (kn_5, 4, .inl (xw_a (fun _ => 0))))] H := hP
  have hD : va_D A [(qS, .inr (2, [.ref p1, .ref qn, .ref qn_1, .ref qn_2, .ref qn_3, .ref qn_4, .ref qn_5, .null, .null, .null, .null, .null, .int (xw_i 0), .int (xw_i 0), .int (xw_i 0)])), (qn, .inl (kn, 128, .inl (xw_a (fun _ => 0)))), (qn_1, .inl (kn_1, 160, .inl (xw_a (fun _ => 0)))), (qn_2, .inl (kn_2, 128, .inl (xw_a (fun _ => 0)))), (qn_3, .inl (kn_3, 160, .inl (xw_a (fun _ => 0)))), (qn_4, .inl (kn_4, 5, .inl (xw_a (fun _ => 0)))), (qn_5, .inl (kn_5, 4, .inl (xw_a (fun _ => 0))))] := hD
  refine lv_aload_n hx hb dX2_init_59 rfl (lv_at hl 0 rfl) ?_
  refine lv_iconst (v := xw_i 4) hx hb dX2_init_60 (by decide) ?_
  refine xw_newi (N' := 4) hx hb (hts (.arrayClass .int) (by decide +kernel)) hK hP hD hS hA rfl (by decide) (Nat.le_of_ble_eq_true rfl) (Nat.le_of_ble_eq_true rfl) dX2_init_61 (fun qn_6 kn_6 H hK hP hD hS => ?_)
  have hP : va_P (dC, dI) vwCl [(qS, .inr (2, [.ref p1, .ref qn, .ref qn_1, .ref qn_2, .ref qn_3, .ref qn_4, .ref qn_5, .null, .null, .null, .null, .null, .int (xw_i 0), .int (xw_i 0), .int (xw_i 0)])), (qn, .inl (kn, 128, .inl (xw_a (fun _ => 0)))), (qn_1, .inl (kn_1, 160, .inl (xw_a (fun _ => 0)))), (qn_2, .inl (kn_2, 128, .inl (xw_a (fun _ => 0)))), (qn_3, .inl (kn_3, 160, .inl (xw_a (fun _ => 0)))), (qn_4, .inl (kn_4, 5, .inl (xw_a (fun _ => 0)))), (qn_5, .inl (kn_5, 4, .inl (xw_a (fun _ => 0)))), (qn_6, .inl (kn_6, 4, .inl (xw_a (fun _ => 0))))] H := hP
  have hD : va_D A [(qS, .inr (2, [.ref p1, .ref qn, .ref qn_1, .ref qn_2, .ref qn_3, .ref qn_4, .ref qn_5, .null, .null, .null, .null, .null, .int (xw_i 0), .int (xw_i 0), .int (xw_i 0)])), (qn, .inl (kn, 128, .inl (xw_a (fun _ => 0)))), (qn_1, .inl (kn_1, 160, .inl (xw_a (fun _ => 0)))), (qn_2, .inl (kn_2, 128, .inl (xw_a (fun _ => 0)))), (qn_3, .inl (kn_3, 160, .inl (xw_a (fun _ => 0)))), (qn_4, .inl (kn_4, 5, .inl (xw_a (fun _ => 0)))), (qn_5, .inl (kn_5, 4, .inl (xw_a (fun _ => 0)))), (qn_6, .inl (kn_6, 4, .inl (xw_a (fun _ => 0))))] := hD
  have hK : va_K (dC, dI) vwCl [(kn, .int), (kn_1, .int), (kn_2, .int), (kn_3, .int), (kn_4, .int), (kn_5, .int), (kn_6, .int)] s := hK
  refine W.widen (k := 7) (n := 589) (by decide) (by decide) ?_
  refine va_putF (D := (dC, dI)) (ci := 2) (v := .ref qn_6) (ty := (.array .int)) (C := RX2) (T := TX2) (N := 15) hx hb hts hwsX20 tyX2 tyX2_ok nmX2 hown hK hP hD hS 0 rfl rfl 7 (by decide) (hts (.fieldLink RX2 36 "BoxProver$Search" "to" "[I") (by decide +kernel)) (fun _ h9 => h9) rfl hin rfl (by decide +kernel) rfl rfl (Nat.le_of_ble_eq_true rfl) dX2_init_63 (fun H locs hP hD hS => ?_)
  have hP : va_P (dC, dI) vwCl [(qS, .inr (2, [.ref p1, .ref qn, .ref qn_1, .ref qn_2, .ref qn_3, .ref qn_4, .ref qn_5, .ref qn_6, .null, .null, .null, .null, .int (xw_i 0), .int (xw_i 0), .int (xw_i 0)])), (qn, .inl (kn, 128, .inl (xw_a (fun _ => 0)))), (qn_1, .inl (kn_1, 160, .inl (xw_a (fun _ => 0)))), (qn_2, .inl (kn_2, 128, .inl (xw_a (fun _ => 0)))), (qn_3, .inl (kn_3, 160, .inl (xw_a (fun _ => 0)))), (qn_4, .inl (kn_4, 5, .inl (xw_a (fun _ => 0)))), (qn_5, .inl (kn_5, 4, .inl (xw_a (fun _ => 0)))), (qn_6, .inl (kn_6, 4, .inl (xw_a (fun _ => 0))))] H := hP
  have hD : va_D A [(qS, .inr (2, [.ref p1, .ref qn, .ref qn_1, .ref qn_2, .ref qn_3, .ref qn_4, .ref qn_5, .ref qn_6, .null, .null, .null, .null, .int (xw_i 0), .int (xw_i 0), .int (xw_i 0)])), (qn, .inl (kn, 128, .inl (xw_a (fun _ => 0)))), (qn_1, .inl (kn_1, 160, .inl (xw_a (fun _ => 0)))), (qn_2, .inl (kn_2, 128, .inl (xw_a (fun _ => 0)))), (qn_3, .inl (kn_3, 160, .inl (xw_a (fun _ => 0)))), (qn_4, .inl (kn_4, 5, .inl (xw_a (fun _ => 0)))), (qn_5, .inl (kn_5, 4, .inl (xw_a (fun _ => 0)))), (qn_6, .inl (kn_6, 4, .inl (xw_a (fun _ => 0))))] := hD
  refine lv_aload_n hx hb dX2_init_66 rfl (lv_at hl 0 rfl) ?_
  refine lv_iconst (v := xw_i 4) hx hb dX2_init_67 (by decide) ?_
  refine xw_newi (N' := 4) hx hb (hts (.arrayClass .int) (by decide +kernel)) hK hP hD hS hA rfl (by decide) (Nat.le_of_ble_eq_true rfl) (Nat.le_of_ble_eq_true rfl) dX2_init_68 (fun qn_7 kn_7 H hK hP hD hS => ?_)
  have hP : va_P (dC, dI) vwCl [(qS, .inr (2, [.ref p1, .ref qn, .ref qn_1, .ref qn_2, .ref qn_3, .ref qn_4, .ref qn_5, .ref qn_6, .null, .null, .null, .null, .int (xw_i 0), .int (xw_i 0), .int (xw_i 0)])), (qn, .inl (kn, 128, .inl (xw_a (fun _ => 0)))), (qn_1, .inl (kn_1, 160, .inl (xw_a (fun _ => 0)))), (qn_2, .inl (kn_2, 128, .inl (xw_a (fun _ => 0)))), (qn_3, .inl (kn_3, 160, .inl (xw_a (fun _ => 0)))), (qn_4, .inl (kn_4, 5, .inl (xw_a (fun _ => 0)))), (qn_5, .inl (kn_5, 4, .inl (xw_a (fun _ => 0)))), (qn_6, .inl (kn_6, 4, .inl (xw_a (fun _ => 0)))), (qn_7, .inl (kn_7, 4, .inl (xw_a (fun _ => 0))))] H := hP
  have hD : va_D A [(qS, .inr (2, [.ref p1, .ref qn, .ref qn_1, .ref qn_2, .ref qn_3, .ref qn_4, .ref qn_5, .ref qn_6, .null, .null, .null, .null, .int (xw_i 0), .int (xw_i 0), .int (xw_i 0)])), (qn, .inl (kn, 128, .inl (xw_a (fun _ => 0)))), (qn_1, .inl (kn_1, 160, .inl (xw_a (fun _ => 0)))), (qn_2, .inl (kn_2, 128, .inl (xw_a (fun _ => 0)))), (qn_3, .inl (kn_3, 160, .inl (xw_a (fun _ => 0)))), (qn_4, .inl (kn_4, 5, .inl (xw_a (fun _ => 0)))), (qn_5, .inl (kn_5, 4, .inl (xw_a (fun _ => 0)))), (qn_6, .inl (kn_6, 4, .inl (xw_a (fun _ => 0)))), (qn_7, .inl (kn_7, 4, .inl (xw_a (fun _ => 0))))] := hD
  have hK : va_K (dC, dI) vwCl [(kn, .int), (kn_1, .int), (kn_2, .int), (kn_3, .int), (kn_4, .int), (kn_5, .int), (kn_6, .int), (kn_7, .int)] s := hK
  refine W.widen (k := 8) (n := 593) (by decide) (by decide) ?_
  refine va_putF (D := (dC, dI)) (ci := 2) (v := .ref qn_7) (ty := (.array .int)) (C := RX2) (T := TX2) (N := 15) hx hb hts hwsX20 tyX2 tyX2_ok nmX2 hown hK hP hD hS 0 rfl rfl 8 (by decide) (hts (.fieldLink RX2 39 "BoxProver$Search" "value" "[I") (by decide +kernel)) (fun _ h9 => h9) rfl hin rfl (by decide +kernel) rfl rfl (Nat.le_of_ble_eq_true rfl) dX2_init_70 (fun H locs hP hD hS => ?_)
  have hP : va_P (dC, dI) vwCl [(qS, .inr (2, [.ref p1, .ref qn, .ref qn_1, .ref qn_2, .ref qn_3, .ref qn_4, .ref qn_5, .ref qn_6, .ref qn_7, .null, .null, .null, .int (xw_i 0), .int (xw_i 0), .int (xw_i 0)])), (qn, .inl (kn, 128, .inl (xw_a (fun _ => 0)))), (qn_1, .inl (kn_1, 160, .inl (xw_a (fun _ => 0)))), (qn_2, .inl (kn_2, 128, .inl (xw_a (fun _ => 0)))), (qn_3, .inl (kn_3, 160, .inl (xw_a (fun _ => 0)))), (qn_4, .inl (kn_4, 5, .inl (xw_a (fun _ => 0)))), (qn_5, .inl (kn_5, 4, .inl (xw_a (fun _ => 0)))), (qn_6, .inl (kn_6, 4, .inl (xw_a (fun _ => 0)))), (qn_7, .inl (kn_7, 4, .inl (xw_a (fun _ => 0))))] H := hP
  have hD : va_D A [(qS, .inr (2, [.ref p1, .ref qn, .ref qn_1, .ref qn_2, .ref qn_3, .ref qn_4, .ref qn_5, .ref qn_6, .ref qn_7, .null, .null, .null, .int (xw_i 0), .int (xw_i 0), .int (xw_i 0)])), (qn, .inl (kn, 128, .inl (xw_a (fun _ => 0)))), (qn_1, .inl (kn_1, 160, .inl (xw_a (fun _ => 0)))), (qn_2, .inl (kn_2, 128, .inl (xw_a (fun _ => 0)))), (qn_3, .inl (kn_3, 160, .inl (xw_a (fun _ => 0)))), (qn_4, .inl (kn_4, 5, .inl (xw_a (fun _ => 0)))), (qn_5, .inl (kn_5, 4, .inl (xw_a (fun _ => 0)))), (qn_6, .inl (kn_6, 4, .inl (xw_a (fun _ => 0)))), (qn_7, .inl (kn_7, 4, .inl (xw_a (fun _ => 0))))] := hD
  refine lv_aload_n hx hb dX2_init_73 rfl (lv_at hl 0 rfl) ?_
  refine lv_iconst (v := xw_i 4) hx hb dX2_init_74 (by decide) ?_
  refine xw_newi (N' := 4) hx hb (hts (.arrayClass .int) (by decide +kernel)) hK hP hD hS hA rfl (by decide) (Nat.le_of_ble_eq_true rfl) (Nat.le_of_ble_eq_true rfl) dX2_init_75 (fun qn_8 kn_8 H hK hP hD hS => ?_)
  have hP : va_P (dC, dI) vwCl [(qS, .inr (2, [.ref p1, .ref qn, .ref qn_1, .ref qn_2, .ref qn_3, .ref qn_4, .ref qn_5, .ref qn_6, .ref qn_7, .null, .null, .null, .int (xw_i 0), .int (xw_i 0), .int (xw_i 0)])), (qn, .inl (kn, 128, .inl (xw_a (fun _ => 0)))), (qn_1, .inl (kn_1, 160, .inl (xw_a (fun _ => 0)))), (qn_2, .inl (kn_2, 128, .inl (xw_a (fun _ => 0)))), (qn_3, .inl (kn_3, 160, .inl (xw_a (fun _ => 0)))), (qn_4, .inl (kn_4, 5, .inl (xw_a (fun _ => 0)))), (qn_5, .inl (kn_5, 4, .inl (xw_a (fun _ => 0)))), (qn_6, .inl (kn_6, 4, .inl (xw_a (fun _ => 0)))), (qn_7, .inl (kn_7, 4, .inl (xw_a (fun _ => 0)))), (qn_8, .inl (kn_8, 4, .inl (xw_a (fun _ => 0))))] H := hP
  have hD : va_D A [(qS, .inr (2, [.ref p1, .ref qn, .ref qn_1, .ref qn_2, .ref qn_3, .ref qn_4, .ref qn_5, .ref qn_6, .ref qn_7, .null, .null, .null, .int (xw_i 0), .int (xw_i 0), .int (xw_i 0)])), (qn, .inl (kn, 128, .inl (xw_a (fun _ => 0)))), (qn_1, .inl (kn_1, 160, .inl (xw_a (fun _ => 0)))), (qn_2, .inl (kn_2, 128, .inl (xw_a (fun _ => 0)))), (qn_3, .inl (kn_3, 160, .inl (xw_a (fun _ => 0)))), (qn_4, .inl (kn_4, 5, .inl (xw_a (fun _ => 0)))), (qn_5, .inl (kn_5, 4, .inl (xw_a (fun _ => 0)))), (qn_6, .inl (kn_6, 4, .inl (xw_a (fun _ => 0)))), (qn_7, .inl (kn_7, 4, .inl (xw_a (fun _ => 0)))), (qn_8, .inl (kn_8, 4, .inl (xw_a (fun _ => 0))))] := hD
  have hK : va_K (dC, dI) vwCl [(kn, .int), (kn_1, .int), (kn_2, .int), (kn_3, .int), (kn_4, .int), (kn_5, .int), (kn_6, .int), (kn_7, .int), (kn_8, .int)] s := hK
  refine W.widen (k := 9) (n := 597) (by decide) (by decide) ?_
  refine va_putF (D := (dC, dI)) (ci := 2) (v := .ref qn_8) (ty := (.array .int)) (C := RX2) (T := TX2) (N := 15) hx hb hts hwsX20 tyX2 tyX2_ok nmX2 hown hK hP hD hS 0 rfl rfl 9 (by decide) (hts (.fieldLink RX2 42 "BoxProver$Search" "firstFound" "[I") (by decide +kernel)) (fun _ h9 => h9) rfl hin rfl (by decide +kernel) rfl rfl (Nat.le_of_ble_eq_true rfl) dX2_init_77 (fun H locs hP hD hS => ?_)
  have hP : va_P (dC, dI) vwCl [(qS, .inr (2, [.ref p1, .ref qn, .ref qn_1, .ref qn_2, .ref qn_3, .ref qn_4, .ref qn_5, .ref qn_6, .ref qn_7, .ref qn_8, .null, .null, .int (xw_i 0), .int (xw_i 0), .int (xw_i 0)])), (qn, .inl (kn, 128, .inl (xw_a (fun _ => 0)))), (qn_1, .inl (kn_1, 160, .inl (xw_a (fun _ => 0)))), (qn_2, .inl (kn_2, 128, .inl (xw_a (fun _ => 0)))), (qn_3, .inl (kn_3, 160, .inl (xw_a (fun _ => 0)))), (qn_4, .inl (kn_4, 5, .inl (xw_a (fun _ => 0)))), (qn_5, .inl (kn_5, 4, .inl (xw_a (fun _ => 0)))), (qn_6, .inl (kn_6, 4, .inl (xw_a (fun _ => 0)))), (qn_7, .inl (kn_7, 4, .inl (xw_a (fun _ => 0)))), (qn_8, .inl (kn_8, 4, .inl (xw_a (fun _ => 0))))] H := hP
  have hD : va_D A [(qS, .inr (2, [.ref p1, .ref qn, .ref qn_1, .ref qn_2, .ref qn_3, .ref qn_4, .ref qn_5, .ref qn_6, .ref qn_7, .ref qn_8, .null, .null, .int (xw_i 0), .int (xw_i 0), .int (xw_i 0)])), (qn, .inl (kn, 128, .inl (xw_a (fun _ => 0)))), (qn_1, .inl (kn_1, 160, .inl (xw_a (fun _ => 0)))), (qn_2, .inl (kn_2, 128, .inl (xw_a (fun _ => 0)))), (qn_3, .inl (kn_3, 160, .inl (xw_a (fun _ => 0)))), (qn_4, .inl (kn_4, 5, .inl (xw_a (fun _ => 0)))), (qn_5, .inl (kn_5, 4, .inl (xw_a (fun _ => 0)))), (qn_6, .inl (kn_6, 4, .inl (xw_a (fun _ => 0)))), (qn_7, .inl (kn_7, 4, .inl (xw_a (fun _ => 0)))), (qn_8, .inl (kn_8, 4, .inl (xw_a (fun _ => 0))))] := hD
  refine lv_aload_n hx hb dX2_init_80 rfl (lv_at hl 0 rfl) ?_
  refine lv_iconst (v := xw_i 4) hx hb dX2_init_81 (by decide) ?_
  refine xw_newi (N' := 4) hx hb (hts (.arrayClass .int) (by decide +kernel)) hK hP hD hS hA rfl (by decide) (Nat.le_of_ble_eq_true rfl) (Nat.le_of_ble_eq_true rfl) dX2_init_82 (fun qn_9 kn_9 H hK hP hD hS => ?_)
  have hP : va_P (dC, dI) vwCl [(qS, .inr (2, [.ref p1, .ref qn, .ref qn_1, .ref qn_2, .ref qn_3, .ref qn_4, .ref qn_5, .ref qn_6, .ref qn_7, .ref qn_8, .null, .null, .int (xw_i 0), .int (xw_i 0), .int (xw_i 0)])), (qn, .inl (kn, 128, .inl (xw_a (fun _ => 0)))), (qn_1, .inl (kn_1, 160, .inl (xw_a (fun _ => 0)))), (qn_2, .inl (kn_2, 128, .inl (xw_a (fun _ => 0)))), (qn_3, .inl (kn_3, 160, .inl (xw_a (fun _ => 0)))), (qn_4, .inl (kn_4, 5, .inl (xw_a (fun _ => 0)))), (qn_5, .inl (kn_5, 4, .inl (xw_a (fun _ => 0)))), (qn_6, .inl (kn_6, 4, .inl (xw_a (fun _ => 0)))), (qn_7, .inl (kn_7, 4, .inl (xw_a (fun _ => 0)))), (qn_8, .inl (kn_8, 4, .inl (xw_a (fun _ => 0)))), (qn_9, .inl (kn_9, 4, .inl (xw_a (fun _ => 0))))] H := hP
  have hD : va_D A [(qS, .inr (2, [.ref p1, .ref qn, .ref qn_1, .ref qn_2, .ref qn_3, .ref qn_4, .ref qn_5, .ref qn_6, .ref qn_7, .ref qn_8, .null, .null, .int (xw_i 0), .int (xw_i 0), .int (xw_i 0)])), (qn, .inl (kn, 128, .inl (xw_a (fun _ => 0)))), (qn_1, .inl (kn_1, 160, .inl (xw_a (fun _ => 0)))), (qn_2, .inl (kn_2, 128, .inl (xw_a (fun _ => 0)))), (qn_3, .inl (kn_3, 160, .inl (xw_a (fun _ => 0)))), (qn_4, .inl (kn_4, 5, .inl (xw_a (fun _ => 0)))), (qn_5, .inl (kn_5, 4, .inl (xw_a (fun _ => 0)))), (qn_6, .inl (kn_6, 4, .inl (xw_a (fun _ => 0)))), (qn_7, .inl (kn_7, 4, .inl (xw_a (fun _ => 0)))), (qn_8, .inl (kn_8, 4, .inl (xw_a (fun _ => 0)))), (qn_9, .inl (kn_9, 4, .inl (xw_a (fun _ => 0))))] := hD
  have hK : va_K (dC, dI) vwCl [(kn, .int), (kn_1, .int), (kn_2, .int), (kn_3, .int), (kn_4, .int), (kn_5, .int), (kn_6, .int), (kn_7, .int), (kn_8, .int), (kn_9, .int)] s := hK
  refine W.widen (k := 10) (n := 601) (by decide) (by decide) ?_
  refine va_putF (D := (dC, dI)) (ci := 2) (v := .ref qn_9) (ty := (.array .int)) (C := RX2) (T := TX2) (N := 15) hx hb hts hwsX20 tyX2 tyX2_ok nmX2 hown hK hP hD hS 0 rfl rfl 10 (by decide) (hts (.fieldLink RX2 45 "BoxProver$Search" "leastFound" "[I") (by decide +kernel)) (fun _ h9 => h9) rfl hin rfl (by decide +kernel) rfl rfl (Nat.le_of_ble_eq_true rfl) dX2_init_84 (fun H locs hP hD hS => ?_)
  have hP : va_P (dC, dI) vwCl [(qS, .inr (2, [.ref p1, .ref qn, .ref qn_1, .ref qn_2, .ref qn_3, .ref qn_4, .ref qn_5, .ref qn_6, .ref qn_7, .ref qn_8, .ref qn_9, .null, .int (xw_i 0), .int (xw_i 0), .int (xw_i 0)])), (qn, .inl (kn, 128, .inl (xw_a (fun _ => 0)))), (qn_1, .inl (kn_1, 160, .inl (xw_a (fun _ => 0)))), (qn_2, .inl (kn_2, 128, .inl (xw_a (fun _ => 0)))), (qn_3, .inl (kn_3, 160, .inl (xw_a (fun _ => 0)))), (qn_4, .inl (kn_4, 5, .inl (xw_a (fun _ => 0)))), (qn_5, .inl (kn_5, 4, .inl (xw_a (fun _ => 0)))), (qn_6, .inl (kn_6, 4, .inl (xw_a (fun _ => 0)))), (qn_7, .inl (kn_7, 4, .inl (xw_a (fun _ => 0)))), (qn_8, .inl (kn_8, 4, .inl (xw_a (fun _ => 0)))), (qn_9, .inl (kn_9, 4, .inl (xw_a (fun _ => 0))))] H := hP
  have hD : va_D A [(qS, .inr (2, [.ref p1, .ref qn, .ref qn_1, .ref qn_2, .ref qn_3, .ref qn_4, .ref qn_5, .ref qn_6, .ref qn_7, .ref qn_8, .ref qn_9, .null, .int (xw_i 0), .int (xw_i 0), .int (xw_i 0)])), (qn, .inl (kn, 128, .inl (xw_a (fun _ => 0)))), (qn_1, .inl (kn_1, 160, .inl (xw_a (fun _ => 0)))), (qn_2, .inl (kn_2, 128, .inl (xw_a (fun _ => 0)))), (qn_3, .inl (kn_3, 160, .inl (xw_a (fun _ => 0)))), (qn_4, .inl (kn_4, 5, .inl (xw_a (fun _ => 0)))), (qn_5, .inl (kn_5, 4, .inl (xw_a (fun _ => 0)))), (qn_6, .inl (kn_6, 4, .inl (xw_a (fun _ => 0)))), (qn_7, .inl (kn_7, 4, .inl (xw_a (fun _ => 0)))), (qn_8, .inl (kn_8, 4, .inl (xw_a (fun _ => 0)))), (qn_9, .inl (kn_9, 4, .inl (xw_a (fun _ => 0))))] := hD
  refine lv_aload_n hx hb dX2_init_87 rfl (lv_at hl 0 rfl) ?_
  refine lv_iconst (v := xw_i 4) hx hb dX2_init_88 (by decide) ?_
  refine xw_newi (N' := 4) hx hb (hts (.arrayClass .int) (by decide +kernel)) hK hP hD hS hA rfl (by decide) (Nat.le_of_ble_eq_true rfl) (Nat.le_of_ble_eq_true rfl) dX2_init_89 (fun qn_10 kn_10 H hK hP hD hS => ?_)
  have hP : va_P (dC, dI) vwCl [(qS, .inr (2, [.ref p1, .ref qn, .ref qn_1, .ref qn_2, .ref qn_3, .ref qn_4, .ref qn_5, .ref qn_6, .ref qn_7, .ref qn_8, .ref qn_9, .null, .int (xw_i 0), .int (xw_i 0), .int (xw_i 0)])), (qn, .inl (kn, 128, .inl (xw_a (fun _ => 0)))), (qn_1, .inl (kn_1, 160, .inl (xw_a (fun _ => 0)))), (qn_2, .inl (kn_2, 128, .inl (xw_a (fun _ => 0)))), (qn_3, .inl (kn_3, 160, .inl (xw_a (fun _ => 0)))), (qn_4, .inl (kn_4, 5, .inl (xw_a (fun _ => 0)))), (qn_5, .inl (kn_5, 4, .inl (xw_a (fun _ => 0)))), (qn_6, .inl (kn_6, 4, .inl (xw_a (fun _ => 0)))), (qn_7, .inl (kn_7, 4, .inl (xw_a (fun _ => 0)))), (qn_8, .inl (kn_8, 4, .inl (xw_a (fun _ => 0)))), (qn_9, .inl (kn_9, 4, .inl (xw_a (fun _ => 0)))), (qn_10, .inl (kn_10, 4, .inl (xw_a (fun _ => 0))))] H := hP
  have hD : va_D A [(qS, .inr (2, [.ref p1, .ref qn, .ref qn_1, .ref qn_2, .ref qn_3, .ref qn_4, .ref qn_5, .ref qn_6, .ref qn_7, .ref qn_8, .ref qn_9, .null, .int (xw_i 0), .int (xw_i 0), .int (xw_i 0)])), (qn, .inl (kn, 128, .inl (xw_a (fun _ => 0)))), (qn_1, .inl (kn_1, 160, .inl (xw_a (fun _ => 0)))), (qn_2, .inl (kn_2, 128, .inl (xw_a (fun _ => 0)))), (qn_3, .inl (kn_3, 160, .inl (xw_a (fun _ => 0)))), (qn_4, .inl (kn_4, 5, .inl (xw_a (fun _ => 0)))), (qn_5, .inl (kn_5, 4, .inl (xw_a (fun _ => 0)))), (qn_6, .inl (kn_6, 4, .inl (xw_a (fun _ => 0)))), (qn_7, .inl (kn_7, 4, .inl (xw_a (fun _ => 0)))), (qn_8, .inl (kn_8, 4, .inl (xw_a (fun _ => 0)))), (qn_9, .inl (kn_9, 4, .inl (xw_a (fun _ => 0)))), (qn_10, .inl (kn_10, 4, .inl (xw_a (fun _ => 0))))] := hD
  have hK : va_K (dC, dI) vwCl [(kn, .int), (kn_1, .int), (kn_2, .int), (kn_3, .int), (kn_4, .int), (kn_5, .int), (kn_6, .int), (kn_7, .int), (kn_8, .int), (kn_9, .int), (kn_10, .int)] s := hK
  refine W.widen (k := 11) (n := 605) (by decide) (by decide) ?_
  refine va_putF (D := (dC, dI)) (ci := 2) (v := .ref qn_10) (ty := (.array .int)) (C := RX2) (T := TX2) (N := 15) hx hb hts hwsX20 tyX2 tyX2_ok nmX2 hown hK hP hD hS 0 rfl rfl 11 (by decide) (hts (.fieldLink RX2 48 "BoxProver$Search" "greatestFound" "[I") (by decide +kernel)) (fun _ h9 => h9) rfl hin rfl (by decide +kernel) rfl rfl (Nat.le_of_ble_eq_true rfl) dX2_init_91 (fun H locs hP hD hS => ?_)
  have hP : va_P (dC, dI) vwCl [(qS, .inr (2, [.ref p1, .ref qn, .ref qn_1, .ref qn_2, .ref qn_3, .ref qn_4, .ref qn_5, .ref qn_6, .ref qn_7, .ref qn_8, .ref qn_9, .ref qn_10, .int (xw_i 0), .int (xw_i 0), .int (xw_i 0)])), (qn, .inl (kn, 128, .inl (xw_a (fun _ => 0)))), (qn_1, .inl (kn_1, 160, .inl (xw_a (fun _ => 0)))), (qn_2, .inl (kn_2, 128, .inl (xw_a (fun _ => 0)))), (qn_3, .inl (kn_3, 160, .inl (xw_a (fun _ => 0)))), (qn_4, .inl (kn_4, 5, .inl (xw_a (fun _ => 0)))), (qn_5, .inl (kn_5, 4, .inl (xw_a (fun _ => 0)))), (qn_6, .inl (kn_6, 4, .inl (xw_a (fun _ => 0)))), (qn_7, .inl (kn_7, 4, .inl (xw_a (fun _ => 0)))), (qn_8, .inl (kn_8, 4, .inl (xw_a (fun _ => 0)))), (qn_9, .inl (kn_9, 4, .inl (xw_a (fun _ => 0)))), (qn_10, .inl (kn_10, 4, .inl (xw_a (fun _ => 0))))] H := hP
  have hD : va_D A [(qS, .inr (2, [.ref p1, .ref qn, .ref qn_1, .ref qn_2, .ref qn_3, .ref qn_4, .ref qn_5, .ref qn_6, .ref qn_7, .ref qn_8, .ref qn_9, .ref qn_10, .int (xw_i 0), .int (xw_i 0), .int (xw_i 0)])), (qn, .inl (kn, 128, .inl (xw_a (fun _ => 0)))), (qn_1, .inl (kn_1, 160, .inl (xw_a (fun _ => 0)))), (qn_2, .inl (kn_2, 128, .inl (xw_a (fun _ => 0)))), (qn_3, .inl (kn_3, 160, .inl (xw_a (fun _ => 0)))), (qn_4, .inl (kn_4, 5, .inl (xw_a (fun _ => 0)))), (qn_5, .inl (kn_5, 4, .inl (xw_a (fun _ => 0)))), (qn_6, .inl (kn_6, 4, .inl (xw_a (fun _ => 0)))), (qn_7, .inl (kn_7, 4, .inl (xw_a (fun _ => 0)))), (qn_8, .inl (kn_8, 4, .inl (xw_a (fun _ => 0)))), (qn_9, .inl (kn_9, 4, .inl (xw_a (fun _ => 0)))), (qn_10, .inl (kn_10, 4, .inl (xw_a (fun _ => 0))))] := hD
  refine lv_aload_n hx hb dX2_init_94 rfl (lv_at hl 0 rfl) ?_
  refine lv_iconst (v := xw_i 0) hx hb dX2_init_95 (by decide) ?_
  refine va_put (D := (dC, dI)) (ci := 2) (v := .int (xw_i 0)) (ty := .int) (C := RX2) (T := TX2) (N := 15) hx hb hts hwsX20 tyX2 tyX2_ok nmX2 hown hK hP hD hS 0 rfl rfl 12 (by decide) (hts (.fieldLink RX2 51 "BoxProver$Search" "sides" "I") (by decide +kernel)) (fun _ h9 => h9) rfl (by decide +kernel) rfl rfl (Nat.le_of_ble_eq_true rfl) dX2_init_96 (fun H locs hP hD hS => ?_)
  have hP : va_P (dC, dI) vwCl [(qS, .inr (2, [.ref p1, .ref qn, .ref qn_1, .ref qn_2, .ref qn_3, .ref qn_4, .ref qn_5, .ref qn_6, .ref qn_7, .ref qn_8, .ref qn_9, .ref qn_10, .int (xw_i 0), .int (xw_i 0), .int (xw_i 0)])), (qn, .inl (kn, 128, .inl (xw_a (fun _ => 0)))), (qn_1, .inl (kn_1, 160, .inl (xw_a (fun _ => 0)))), (qn_2, .inl (kn_2, 128, .inl (xw_a (fun _ => 0)))), (qn_3, .inl (kn_3, 160, .inl (xw_a (fun _ => 0)))), (qn_4, .inl (kn_4, 5, .inl (xw_a (fun _ => 0)))), (qn_5, .inl (kn_5, 4, .inl (xw_a (fun _ => 0)))), (qn_6, .inl (kn_6, 4, .inl (xw_a (fun _ => 0)))), (qn_7, .inl (kn_7, 4, .inl (xw_a (fun _ => 0)))), (qn_8, .inl (kn_8, 4, .inl (xw_a (fun _ => 0)))), (qn_9, .inl (kn_9, 4, .inl (xw_a (fun _ => 0)))), (qn_10, .inl (kn_10, 4, .inl (xw_a (fun _ => 0))))] H := hP
  have hD : va_D A [(qS, .inr (2, [.ref p1, .ref qn, .ref qn_1, .ref qn_2, .ref qn_3, .ref qn_4, .ref qn_5, .ref qn_6, .ref qn_7, .ref qn_8, .ref qn_9, .ref qn_10, .int (xw_i 0), .int (xw_i 0), .int (xw_i 0)])), (qn, .inl (kn, 128, .inl (xw_a (fun _ => 0)))), (qn_1, .inl (kn_1, 160, .inl (xw_a (fun _ => 0)))), (qn_2, .inl (kn_2, 128, .inl (xw_a (fun _ => 0)))), (qn_3, .inl (kn_3, 160, .inl (xw_a (fun _ => 0)))), (qn_4, .inl (kn_4, 5, .inl (xw_a (fun _ => 0)))), (qn_5, .inl (kn_5, 4, .inl (xw_a (fun _ => 0)))), (qn_6, .inl (kn_6, 4, .inl (xw_a (fun _ => 0)))), (qn_7, .inl (kn_7, 4, .inl (xw_a (fun _ => 0)))), (qn_8, .inl (kn_8, 4, .inl (xw_a (fun _ => 0)))), (qn_9, .inl (kn_9, 4, .inl (xw_a (fun _ => 0)))), (qn_10, .inl (kn_10, 4, .inl (xw_a (fun _ => 0))))] := hD
  refine lv_aload_n hx hb dX2_init_99 rfl (lv_at hl 0 rfl) ?_
  refine lv_iconst (v := xw_i 0) hx hb dX2_init_100 (by decide) ?_
  refine va_put (D := (dC, dI)) (ci := 2) (v := .int (xw_i 0)) (ty := .int) (C := RX2) (T := TX2) (N := 15) hx hb hts hwsX20 tyX2 tyX2_ok nmX2 hown hK hP hD hS 0 rfl rfl 13 (by decide) (hts (.fieldLink RX2 55 "BoxProver$Search" "found" "I") (by decide +kernel)) (fun _ h9 => h9) rfl (by decide +kernel) rfl rfl (Nat.le_of_ble_eq_true rfl) dX2_init_101 (fun H locs hP hD hS => ?_)
  have hP : va_P (dC, dI) vwCl [(qS, .inr (2, [.ref p1, .ref qn, .ref qn_1, .ref qn_2, .ref qn_3, .ref qn_4, .ref qn_5, .ref qn_6, .ref qn_7, .ref qn_8, .ref qn_9, .ref qn_10, .int (xw_i 0), .int (xw_i 0), .int (xw_i 0)])), (qn, .inl (kn, 128, .inl (xw_a (fun _ => 0)))), (qn_1, .inl (kn_1, 160, .inl (xw_a (fun _ => 0)))), (qn_2, .inl (kn_2, 128, .inl (xw_a (fun _ => 0)))), (qn_3, .inl (kn_3, 160, .inl (xw_a (fun _ => 0)))), (qn_4, .inl (kn_4, 5, .inl (xw_a (fun _ => 0)))), (qn_5, .inl (kn_5, 4, .inl (xw_a (fun _ => 0)))), (qn_6, .inl (kn_6, 4, .inl (xw_a (fun _ => 0)))), (qn_7, .inl (kn_7, 4, .inl (xw_a (fun _ => 0)))), (qn_8, .inl (kn_8, 4, .inl (xw_a (fun _ => 0)))), (qn_9, .inl (kn_9, 4, .inl (xw_a (fun _ => 0)))), (qn_10, .inl (kn_10, 4, .inl (xw_a (fun _ => 0))))] H := hP
  have hD : va_D A [(qS, .inr (2, [.ref p1, .ref qn, .ref qn_1, .ref qn_2, .ref qn_3, .ref qn_4, .ref qn_5, .ref qn_6, .ref qn_7, .ref qn_8, .ref qn_9, .ref qn_10, .int (xw_i 0), .int (xw_i 0), .int (xw_i 0)])), (qn, .inl (kn, 128, .inl (xw_a (fun _ => 0)))), (qn_1, .inl (kn_1, 160, .inl (xw_a (fun _ => 0)))), (qn_2, .inl (kn_2, 128, .inl (xw_a (fun _ => 0)))), (qn_3, .inl (kn_3, 160, .inl (xw_a (fun _ => 0)))), (qn_4, .inl (kn_4, 5, .inl (xw_a (fun _ => 0)))), (qn_5, .inl (kn_5, 4, .inl (xw_a (fun _ => 0)))), (qn_6, .inl (kn_6, 4, .inl (xw_a (fun _ => 0)))), (qn_7, .inl (kn_7, 4, .inl (xw_a (fun _ => 0)))), (qn_8, .inl (kn_8, 4, .inl (xw_a (fun _ => 0)))), (qn_9, .inl (kn_9, 4, .inl (xw_a (fun _ => 0)))), (qn_10, .inl (kn_10, 4, .inl (xw_a (fun _ => 0))))] := hD
  refine lv_aload_n hx hb dX2_init_104 rfl (lv_at hl 0 rfl) ?_
  refine lv_iconst (v := xw_i 0) hx hb dX2_init_105 (by decide) ?_
  refine va_put (D := (dC, dI)) (ci := 2) (v := .int (xw_i 0)) (ty := .boolean) (C := RX2) (T := TX2) (N := 15) hx hb hts hwsX20 tyX2 tyX2_ok nmX2 hown hK hP hD hS 0 rfl rfl 14 (by decide) (hts (.fieldLink RX2 58 "BoxProver$Search" "oneIsEnough" "Z") (by decide +kernel)) (fun _ h9 => h9) rfl (by decide +kernel) rfl rfl (Nat.le_of_ble_eq_true rfl) dX2_init_106 (fun H locs hP hD hS => ?_)
  have hP : va_P (dC, dI) vwCl [(qS, .inr (2, [.ref p1, .ref qn, .ref qn_1, .ref qn_2, .ref qn_3, .ref qn_4, .ref qn_5, .ref qn_6, .ref qn_7, .ref qn_8, .ref qn_9, .ref qn_10, .int (xw_i 0), .int (xw_i 0), .int (xw_i 0)])), (qn, .inl (kn, 128, .inl (xw_a (fun _ => 0)))), (qn_1, .inl (kn_1, 160, .inl (xw_a (fun _ => 0)))), (qn_2, .inl (kn_2, 128, .inl (xw_a (fun _ => 0)))), (qn_3, .inl (kn_3, 160, .inl (xw_a (fun _ => 0)))), (qn_4, .inl (kn_4, 5, .inl (xw_a (fun _ => 0)))), (qn_5, .inl (kn_5, 4, .inl (xw_a (fun _ => 0)))), (qn_6, .inl (kn_6, 4, .inl (xw_a (fun _ => 0)))), (qn_7, .inl (kn_7, 4, .inl (xw_a (fun _ => 0)))), (qn_8, .inl (kn_8, 4, .inl (xw_a (fun _ => 0)))), (qn_9, .inl (kn_9, 4, .inl (xw_a (fun _ => 0)))), (qn_10, .inl (kn_10, 4, .inl (xw_a (fun _ => 0))))] H := hP
  have hD : va_D A [(qS, .inr (2, [.ref p1, .ref qn, .ref qn_1, .ref qn_2, .ref qn_3, .ref qn_4, .ref qn_5, .ref qn_6, .ref qn_7, .ref qn_8, .ref qn_9, .ref qn_10, .int (xw_i 0), .int (xw_i 0), .int (xw_i 0)])), (qn, .inl (kn, 128, .inl (xw_a (fun _ => 0)))), (qn_1, .inl (kn_1, 160, .inl (xw_a (fun _ => 0)))), (qn_2, .inl (kn_2, 128, .inl (xw_a (fun _ => 0)))), (qn_3, .inl (kn_3, 160, .inl (xw_a (fun _ => 0)))), (qn_4, .inl (kn_4, 5, .inl (xw_a (fun _ => 0)))), (qn_5, .inl (kn_5, 4, .inl (xw_a (fun _ => 0)))), (qn_6, .inl (kn_6, 4, .inl (xw_a (fun _ => 0)))), (qn_7, .inl (kn_7, 4, .inl (xw_a (fun _ => 0)))), (qn_8, .inl (kn_8, 4, .inl (xw_a (fun _ => 0)))), (qn_9, .inl (kn_9, 4, .inl (xw_a (fun _ => 0)))), (qn_10, .inl (kn_10, 4, .inl (xw_a (fun _ => 0))))] := hD
  exact hret _ _ _ _ (qn, kn, qn_1, kn_1, qn_2, kn_2, qn_3, kn_3, qn_4, kn_4, qn_5, kn_5, qn_6, kn_6, qn_7, kn_7, qn_8, kn_8, qn_9, kn_9, qn_10, kn_10) dX2_init_109 trivial hP hD hK hS
set_option maxHeartbeats 4000000 in
set_option maxRecDepth 100000 in
theorem c_X2_found (l : Launch) (dC : Nat → ClassId) (dI : Nat → Nat → Nat) (qS aS0 aS1 aS2 aS3 aS4 aS5 aS6 aS7 aS8 aS9 aS10 qR aR0 aR1 : Nat) (kS0 kS1 kS2 kS3 kS4 kS5 kS6 kS7 kS8 kS9 kS10 kR0 kR1 : ClassId) (sz : Nat) (sid : Int) (sfo : Int) (soe : Int) (sfa : Nat → Int) (sre : Nat → Int) (sle : Nat → Int) (spe : Nat → Int) (spc : Nat → Int) (sfr : Nat → Int) (sto : Nat → Int) (sva : Nat → Int) (sff : Nat → Int) (slf : Nat → Int) (sgf : Nat → Int) (rsz : Int) (rly : Int) (rce : Nat → Int) (rst : Nat → Int) (post : Int → Prop) (h : wp_X2_found post sid sfo soe sfa sre sle spe spc sfr sto sva sff slf sgf rsz rly rce rst) : Met l yX2_found wsX2_found ({ frames := 0, cells := 0, slots := 0, locals := 0 }) (va_Pc [.ref qS] (xw_Pre (dC, dI) vwCl (wd_X2 qS aS0 aS1 aS2 aS3 aS4 aS5 aS6 aS7 aS8 aS9 aS10 qR aR0 aR1 kS0 kS1 kS2 kS3 kS4 kS5 kS6 kS7 kS8 kS9 kS10 kR0 kR1 sid sfo soe sfa sre sle spe spc sfr sto sva sff slf sgf rsz rly rce rst) [(kS0, .int), (kS1, .int), (kS2, .int), (kS3, .int), (kS4, .int), (kS5, .int), (kS6, .int), (kS7, .int), (kS8, .int), (kS9, .int), (kS10, .int), (kR0, .int), (kR1, .int)] sz)) (va_Qi (xw_pi (fun v (u : Unit) => post v)) (xw_B (dC, dI) vwCl (fun (_ : Unit) => [(kS0, .int), (kS1, .int), (kS2, .int), (kS3, .int), (kS4, .int), (kS5, .int), (kS6, .int), (kS7, .int), (kS8, .int), (kS9, .int), (kS10, .int), (kR0, .int), (kR1, .int)]) (va_A (wd_X2 qS aS0 aS1 aS2 aS3 aS4 aS5 aS6 aS7 aS8 aS9 aS10 qR aR0 aR1 kS0 kS1 kS2 kS3 kS4 kS5 kS6 kS7 kS8 kS9 kS10 kR0 kR1 sid sfo soe sfa sre sle spe spc sfr sto sva sff slf sgf rsz rly rce rst) sz) (fun (u : Unit) => (wd_X2 qS aS0 aS1 aS2 aS3 aS4 aS5 aS6 aS7 aS8 aS9 aS10 qR aR0 aR1 kS0 kS1 kS2 kS3 kS4 kS5 kS6 kS7 kS8 kS9 kS10 kR0 kR1 sid sfo soe sfa sre sle spe spc sfr sto sva sff slf sgf rsz rly rce rst))) (va_A (wd_X2 qS aS0 aS1 aS2 aS3 aS4 aS5 aS6 aS7 aS8 aS9 aS10 qR aR0 aR1 kS0 kS1 kS2 kS3 kS4 kS5 kS6 kS7 kS8 kS9 kS10 kR0 kR1 sid sfo soe sfa sre sle spe spc sfr sto sva sff slf sgf rsz rly rce rst) sz)) 0 0 (va_A (wd_X2 qS aS0 aS1 aS2 aS3 aS4 aS5 aS6 aS7 aS8 aS9 aS10 qR aR0 aR1 kS0 kS1 kS2 kS3 kS4 kS5 kS6 kS7 kS8 kS9 kS10 kR0 kR1 sid sfo soe sfa sre sle spe spc sfr sto sva sff slf sgf rsz rly rce rst) sz) := by
  refine xw_ofI (cc := cX2_found) (maxL := 1) (by decide +kernel) rfl (Nat.le_of_ble_eq_true rfl) ?_
  intro p e s m args below meth c hx hb hml hown hts A hA hP hD hK Q hret ls hl hS
  have hl : lv_has ls 1 [(0, .ref qS)] := hl
  have hwsX20 : ∀ w ∈ wsX20, w ∈ wsX2_found := fun _ h => List.mem_cons_of_mem _ (List.mem_append_right _ h)
  unfold wp_X2_found at h
  refine lv_aload_n hx hb dX2_found_0 rfl (lv_at hl 0 rfl) ?_
  refine va_get (D := (dC, dI)) (ci := 2) (v := .int (xw_i sfo)) (C := RX2) (T := TX2) (N := 15) hx hb hts hwsX20 hown hK hP 0 rfl rfl 13 (by decide) (hts (.fieldLink RX2 55 "BoxProver$Search" "found" "I") (by decide +kernel)) (fun _ h9 => h9) rfl dX2_found_1 ?_
  exact hret _ _ _ _ sfo () dX2_found_4 h hP hD hK hS
set_option maxHeartbeats 4000000 in
set_option maxRecDepth 100000 in
theorem c_X2_firstValue (l : Launch) (dC : Nat → ClassId) (dI : Nat → Nat → Nat) (qS aS0 aS1 aS2 aS3 aS4 aS5 aS6 aS7 aS8 aS9 aS10 qR aR0 aR1 : Nat) (kS0 kS1 kS2 kS3 kS4 kS5 kS6 kS7 kS8 kS9 kS10 kR0 kR1 : ClassId) (sz : Nat) (sid : Int) (sfo : Int) (soe : Int) (sfa : Nat → Int) (sre : Nat → Int) (sle : Nat → Int) (spe : Nat → Int) (spc : Nat → Int) (sfr : Nat → Int) (sto : Nat → Int) (sva : Nat → Int) (sff : Nat → Int) (slf : Nat → Int) (sgf : Nat → Int) (rsz : Int) (rly : Int) (rce : Nat → Int) (rst : Nat → Int) (p1 : Int) (post : Int → Prop) (h : wp_X2_firstValue post sid sfo soe sfa sre sle spe spc sfr sto sva sff slf sgf rsz rly rce rst p1) : Met l yX2_firstValue wsX2_firstValue ({ frames := 0, cells := 0, slots := 0, locals := 0 }) (va_Pc [.ref qS, .int (xw_i p1)] (xw_Pre (dC, dI) vwCl (wd_X2 qS aS0 aS1 aS2 aS3 aS4 aS5 aS6 aS7 aS8 aS9 aS10 qR aR0 aR1 kS0 kS1 kS2 kS3 kS4 kS5 kS6 kS7 kS8 kS9 kS10 kR0 kR1 sid sfo soe sfa sre sle spe spc sfr sto sva sff slf sgf rsz rly rce rst) [(kS0, .int), (kS1, .int), (kS2, .int), (kS3, .int), (kS4, .int), (kS5, .int), (kS6, .int), (kS7, .int), (kS8, .int), (kS9, .int), (kS10, .int), (kR0, .int), (kR1, .int)] sz)) (va_Qi (xw_pi (fun v (u : Unit) => post v)) (xw_B (dC, dI) vwCl (fun (_ : Unit) => [(kS0, .int), (kS1, .int), (kS2, .int), (kS3, .int), (kS4, .int), (kS5, .int), (kS6, .int), (kS7, .int), (kS8, .int), (kS9, .int), (kS10, .int), (kR0, .int), (kR1, .int)]) (va_A (wd_X2 qS aS0 aS1 aS2 aS3 aS4 aS5 aS6 aS7 aS8 aS9 aS10 qR aR0 aR1 kS0 kS1 kS2 kS3 kS4 kS5 kS6 kS7 kS8 kS9 kS10 kR0 kR1 sid sfo soe sfa sre sle spe spc sfr sto sva sff slf sgf rsz rly rce rst) sz) (fun (u : Unit) => (wd_X2 qS aS0 aS1 aS2 aS3 aS4 aS5 aS6 aS7 aS8 aS9 aS10 qR aR0 aR1 kS0 kS1 kS2 kS3 kS4 kS5 kS6 kS7 kS8 kS9 kS10 kR0 kR1 sid sfo soe sfa sre sle spe spc sfr sto sva sff slf sgf rsz rly rce rst))) (va_A (wd_X2 qS aS0 aS1 aS2 aS3 aS4 aS5 aS6 aS7 aS8 aS9 aS10 qR aR0 aR1 kS0 kS1 kS2 kS3 kS4 kS5 kS6 kS7 kS8 kS9 kS10 kR0 kR1 sid sfo soe sfa sre sle spe spc sfr sto sva sff slf sgf rsz rly rce rst) sz)) 0 0 (va_A (wd_X2 qS aS0 aS1 aS2 aS3 aS4 aS5 aS6 aS7 aS8 aS9 aS10 qR aR0 aR1 kS0 kS1 kS2 kS3 kS4 kS5 kS6 kS7 kS8 kS9 kS10 kR0 kR1 sid sfo soe sfa sre sle spe spc sfr sto sva sff slf sgf rsz rly rce rst) sz) := by
  refine xw_ofI (cc := cX2_firstValue) (maxL := 2) (by decide +kernel) rfl (Nat.le_of_ble_eq_true rfl) ?_
  intro p e s m args below meth c hx hb hml hown hts A hA hP hD hK Q hret ls hl hS
  have hl : lv_has ls 2 [(0, .ref qS), (1, .int (xw_i p1))] := hl
  have hwsX20 : ∀ w ∈ wsX20, w ∈ wsX2_firstValue := fun _ h => List.mem_cons_of_mem _ (List.mem_append_right _ h)
  unfold wp_X2_firstValue at h
  refine lv_aload_n hx hb dX2_firstValue_0 rfl (lv_at hl 0 rfl) ?_
  refine va_get (D := (dC, dI)) (ci := 2) (v := .ref aS8) (C := RX2) (T := TX2) (N := 15) hx hb hts hwsX20 hown hK hP 0 rfl rfl 9 (by decide) (hts (.fieldLink RX2 42 "BoxProver$Search" "firstFound" "[I") (by decide +kernel)) (fun _ h9 => h9) rfl dX2_firstValue_1 ?_
  refine lv_iload_n hx hb dX2_firstValue_4 rfl (lv_at hl 1 rfl) ?_
  obtain ⟨hin, h⟩ := h
  refine xw_iald (n := 4) hx hb hK hP 9 8 rfl rfl (by decide) hin dX2_firstValue_5 ?_
  exact hret _ _ _ _ (sff p1.toNat) () dX2_firstValue_6 h hP hD hK hS
set_option maxHeartbeats 4000000 in
set_option maxRecDepth 100000 in
theorem c_X2_leastValue (l : Launch) (dC : Nat → ClassId) (dI : Nat → Nat → Nat) (qS aS0 aS1 aS2 aS3 aS4 aS5 aS6 aS7 aS8 aS9 aS10 qR aR0 aR1 : Nat) (kS0 kS1 kS2 kS3 kS4 kS5 kS6 kS7 kS8 kS9 kS10 kR0 kR1 : ClassId) (sz : Nat) (sid : Int) (sfo : Int) (soe : Int) (sfa : Nat → Int) (sre : Nat → Int) (sle : Nat → Int) (spe : Nat → Int) (spc : Nat → Int) (sfr : Nat → Int) (sto : Nat → Int) (sva : Nat → Int) (sff : Nat → Int) (slf : Nat → Int) (sgf : Nat → Int) (rsz : Int) (rly : Int) (rce : Nat → Int) (rst : Nat → Int) (p1 : Int) (post : Int → Prop) (h : wp_X2_leastValue post sid sfo soe sfa sre sle spe spc sfr sto sva sff slf sgf rsz rly rce rst p1) : Met l yX2_leastValue wsX2_leastValue ({ frames := 0, cells := 0, slots := 0, locals := 0 }) (va_Pc [.ref qS, .int (xw_i p1)] (xw_Pre (dC, dI) vwCl (wd_X2 qS aS0 aS1 aS2 aS3 aS4 aS5 aS6 aS7 aS8 aS9 aS10 qR aR0 aR1 kS0 kS1 kS2 kS3 kS4 kS5 kS6 kS7 kS8 kS9 kS10 kR0 kR1 sid sfo soe sfa sre sle spe spc sfr sto sva sff slf sgf rsz rly rce rst) [(kS0, .int), (kS1, .int), (kS2, .int), (kS3, .int), (kS4, .int), (kS5, .int), (kS6, .int), (kS7, .int), (kS8, .int), (kS9, .int), (kS10, .int), (kR0, .int), (kR1, .int)] sz)) (va_Qi (xw_pi (fun v (u : Unit) => post v)) (xw_B (dC, dI) vwCl (fun (_ : Unit) => [(kS0, .int), (kS1, .int), (kS2, .int), (kS3, .int), (kS4, .int), (kS5, .int), (kS6, .int), (kS7, .int), (kS8, .int), (kS9, .int), (kS10, .int), (kR0, .int), (kR1, .int)]) (va_A (wd_X2 qS aS0 aS1 aS2 aS3 aS4 aS5 aS6 aS7 aS8 aS9 aS10 qR aR0 aR1 kS0 kS1 kS2 kS3 kS4 kS5 kS6 kS7 kS8 kS9 kS10 kR0 kR1 sid sfo soe sfa sre sle spe spc sfr sto sva sff slf sgf rsz rly rce rst) sz) (fun (u : Unit) => (wd_X2 qS aS0 aS1 aS2 aS3 aS4 aS5 aS6 aS7 aS8 aS9 aS10 qR aR0 aR1 kS0 kS1 kS2 kS3 kS4 kS5 kS6 kS7 kS8 kS9 kS10 kR0 kR1 sid sfo soe sfa sre sle spe spc sfr sto sva sff slf sgf rsz rly rce rst))) (va_A (wd_X2 qS aS0 aS1 aS2 aS3 aS4 aS5 aS6 aS7 aS8 aS9 aS10 qR aR0 aR1 kS0 kS1 kS2 kS3 kS4 kS5 kS6 kS7 kS8 kS9 kS10 kR0 kR1 sid sfo soe sfa sre sle spe spc sfr sto sva sff slf sgf rsz rly rce rst) sz)) 0 0 (va_A (wd_X2 qS aS0 aS1 aS2 aS3 aS4 aS5 aS6 aS7 aS8 aS9 aS10 qR aR0 aR1 kS0 kS1 kS2 kS3 kS4 kS5 kS6 kS7 kS8 kS9 kS10 kR0 kR1 sid sfo soe sfa sre sle spe spc sfr sto sva sff slf sgf rsz rly rce rst) sz) := by
  refine xw_ofI (cc := cX2_leastValue) (maxL := 2) (by decide +kernel) rfl (Nat.le_of_ble_eq_true rfl) ?_
  intro p e s m args below meth c hx hb hml hown hts A hA hP hD hK Q hret ls hl hS
  have hl : lv_has ls 2 [(0, .ref qS), (1, .int (xw_i p1))] := hl
  have hwsX20 : ∀ w ∈ wsX20, w ∈ wsX2_leastValue := fun _ h => List.mem_cons_of_mem _ (List.mem_append_right _ h)
  unfold wp_X2_leastValue at h
  refine lv_aload_n hx hb dX2_leastValue_0 rfl (lv_at hl 0 rfl) ?_
  refine va_get (D := (dC, dI)) (ci := 2) (v := .ref aS9) (C := RX2) (T := TX2) (N := 15) hx hb hts hwsX20 hown hK hP 0 rfl rfl 10 (by decide) (hts (.fieldLink RX2 45 "BoxProver$Search" "leastFound" "[I") (by decide +kernel)) (fun _ h9 => h9) rfl dX2_leastValue_1 ?_
  refine lv_iload_n hx hb dX2_leastValue_4 rfl (lv_at hl 1 rfl) ?_
  obtain ⟨hin, h⟩ := h
  refine xw_iald (n := 4) hx hb hK hP 10 9 rfl rfl (by decide) hin dX2_leastValue_5 ?_
  exact hret _ _ _ _ (slf p1.toNat) () dX2_leastValue_6 h hP hD hK hS
set_option maxHeartbeats 4000000 in
set_option maxRecDepth 100000 in
theorem c_X2_greatestValue (l : Launch) (dC : Nat → ClassId) (dI : Nat → Nat → Nat) (qS aS0 aS1 aS2 aS3 aS4 aS5 aS6 aS7 aS8 aS9 aS10 qR aR0 aR1 : Nat) (kS0 kS1 kS2 kS3 kS4 kS5 kS6 kS7 kS8 kS9 kS10 kR0 kR1 : ClassId) (sz : Nat) (sid : Int) (sfo : Int) (soe : Int) (sfa : Nat → Int) (sre : Nat → Int) (sle : Nat → Int) (spe : Nat → Int) (spc : Nat → Int) (sfr : Nat → Int) (sto : Nat → Int) (sva : Nat → Int) (sff : Nat → Int) (slf : Nat → Int) (sgf : Nat → Int) (rsz : Int) (rly : Int) (rce : Nat → Int) (rst : Nat → Int) (p1 : Int) (post : Int → Prop) (h : wp_X2_greatestValue post sid sfo soe sfa sre sle spe spc sfr sto sva sff slf sgf rsz rly rce rst p1) : Met l yX2_greatestValue wsX2_greatestValue ({ frames := 0, cells := 0, slots := 0, locals := 0 }) (va_Pc [.ref qS, .int (xw_i p1)] (xw_Pre (dC, dI) vwCl (wd_X2 qS aS0 aS1 aS2 aS3 aS4 aS5 aS6 aS7 aS8 aS9 aS10 qR aR0 aR1 kS0 kS1 kS2 kS3 kS4 kS5 kS6 kS7 kS8 kS9 kS10 kR0 kR1 sid sfo soe sfa sre sle spe spc sfr sto sva sff slf sgf rsz rly rce rst) [(kS0, .int), (kS1, .int), (kS2, .int), (kS3, .int), (kS4, .int), (kS5, .int), (kS6, .int), (kS7, .int), (kS8, .int), (kS9, .int), (kS10, .int), (kR0, .int), (kR1, .int)] sz)) (va_Qi (xw_pi (fun v (u : Unit) => post v)) (xw_B (dC, dI) vwCl (fun (_ : Unit) => [(kS0, .int), (kS1, .int), (kS2, .int), (kS3, .int), (kS4, .int), (kS5, .int), (kS6, .int), (kS7, .int), (kS8, .int), (kS9, .int), (kS10, .int), (kR0, .int), (kR1, .int)]) (va_A (wd_X2 qS aS0 aS1 aS2 aS3 aS4 aS5 aS6 aS7 aS8 aS9 aS10 qR aR0 aR1 kS0 kS1 kS2 kS3 kS4 kS5 kS6 kS7 kS8 kS9 kS10 kR0 kR1 sid sfo soe sfa sre sle spe spc sfr sto sva sff slf sgf rsz rly rce rst) sz) (fun (u : Unit) => (wd_X2 qS aS0 aS1 aS2 aS3 aS4 aS5 aS6 aS7 aS8 aS9 aS10 qR aR0 aR1 kS0 kS1 kS2 kS3 kS4 kS5 kS6 kS7 kS8 kS9 kS10 kR0 kR1 sid sfo soe sfa sre sle spe spc sfr sto sva sff slf sgf rsz rly rce rst))) (va_A (wd_X2 qS aS0 aS1 aS2 aS3 aS4 aS5 aS6 aS7 aS8 aS9 aS10 qR aR0 aR1 kS0 kS1 kS2 kS3 kS4 kS5 kS6 kS7 kS8 kS9 kS10 kR0 kR1 sid sfo soe sfa sre sle spe spc sfr sto sva sff slf sgf rsz rly rce rst) sz)) 0 0 (va_A (wd_X2 qS aS0 aS1 aS2 aS3 aS4 aS5 aS6 aS7 aS8 aS9 aS10 qR aR0 aR1 kS0 kS1 kS2 kS3 kS4 kS5 kS6 kS7 kS8 kS9 kS10 kR0 kR1 sid sfo soe sfa sre sle spe spc sfr sto sva sff slf sgf rsz rly rce rst) sz) := by
  refine xw_ofI (cc := cX2_greatestValue) (maxL := 2) (by decide +kernel) rfl (Nat.le_of_ble_eq_true rfl) ?_
  intro p e s m args below meth c hx hb hml hown hts A hA hP hD hK Q hret ls hl hS
  have hl : lv_has ls 2 [(0, .ref qS), (1, .int (xw_i p1))] := hl
  have hwsX20 : ∀ w ∈ wsX20, w ∈ wsX2_greatestValue := fun _ h => List.mem_cons_of_mem _ (List.mem_append_right _ h)
  unfold wp_X2_greatestValue at h
  refine lv_aload_n hx hb dX2_greatestValue_0 rfl (lv_at hl 0 rfl) ?_
  refine va_get (D := (dC, dI)) (ci := 2) (v := .ref aS10) (C := RX2) (T := TX2) (N := 15) hx hb hts hwsX20 hown hK hP 0 rfl rfl 11 (by decide) (hts (.fieldLink RX2 48 "BoxProver$Search" "greatestFound" "[I") (by decide +kernel)) (fun _ h9 => h9) rfl dX2_greatestValue_1 ?_
  refine lv_iload_n hx hb dX2_greatestValue_4 rfl (lv_at hl 1 rfl) ?_
  obtain ⟨hin, h⟩ := h
  refine xw_iald (n := 4) hx hb hK hP 11 10 rfl rfl (by decide) hin dX2_greatestValue_5 ?_
  exact hret _ _ _ _ (sgf p1.toNat) () dX2_greatestValue_6 h hP hD hK hS
set_option maxHeartbeats 4000000 in
set_option maxRecDepth 100000 in
theorem c_X2_takeSide (l : Launch) (dC : Nat → ClassId) (dI : Nat → Nat → Nat) (qS aS0 aS1 aS2 aS3 aS4 aS5 aS6 aS7 aS8 aS9 aS10 qR aR0 aR1 : Nat) (kS0 kS1 kS2 kS3 kS4 kS5 kS6 kS7 kS8 kS9 kS10 kR0 kR1 : ClassId) (sz : Nat) (sid : Int) (sfo : Int) (soe : Int) (sfa : Nat → Int) (sre : Nat → Int) (sle : Nat → Int) (spe : Nat → Int) (spc : Nat → Int) (sfr : Nat → Int) (sto : Nat → Int) (sva : Nat → Int) (sff : Nat → Int) (slf : Nat → Int) (sgf : Nat → Int) (rsz : Int) (rly : Int) (rce : Nat → Int) (rst : Nat → Int) (p1 : Int) (p2 : Int) (post : Int → (Nat → Int) → (Nat → Int) → (Nat → Int) → (Nat → Int) → Prop) (h : wp_X2_takeSide post sid sfo soe sfa sre sle spe spc sfr sto sva sff slf sgf rsz rly rce rst p1 p2) : Met l yX2_takeSide wsX2_takeSide ({ frames := 1, cells := 0, slots := 0, locals := 22 }) (va_Pc [.ref qS, .int (xw_i p1), .int (xw_i p2)] (xw_Pre (dC, dI) vwCl (wd_X2 qS aS0 aS1 aS2 aS3 aS4 aS5 aS6 aS7 aS8 aS9 aS10 qR aR0 aR1 kS0 kS1 kS2 kS3 kS4 kS5 kS6 kS7 kS8 kS9 kS10 kR0 kR1 sid sfo soe sfa sre sle spe spc sfr sto sva sff slf sgf rsz rly rce rst) [(kS0, .int), (kS1, .int), (kS2, .int), (kS3, .int), (kS4, .int), (kS5, .int), (kS6, .int), (kS7, .int), (kS8, .int), (kS9, .int), (kS10, .int), (kR0, .int), (kR1, .int)] sz)) (va_Qv (fun (u : Int × (Nat → Int) × (Nat → Int) × (Nat → Int) × (Nat → Int)) => post u.1 u.2.1 u.2.2.1 u.2.2.2.1 u.2.2.2.2) (xw_B (dC, dI) vwCl (fun (_ : Int × (Nat → Int) × (Nat → Int) × (Nat → Int) × (Nat → Int)) => [(kS0, .int), (kS1, .int), (kS2, .int), (kS3, .int), (kS4, .int), (kS5, .int), (kS6, .int), (kS7, .int), (kS8, .int), (kS9, .int), (kS10, .int), (kR0, .int), (kR1, .int)]) (va_A (wd_X2 qS aS0 aS1 aS2 aS3 aS4 aS5 aS6 aS7 aS8 aS9 aS10 qR aR0 aR1 kS0 kS1 kS2 kS3 kS4 kS5 kS6 kS7 kS8 kS9 kS10 kR0 kR1 sid sfo soe sfa sre sle spe spc sfr sto sva sff slf sgf rsz rly rce rst) sz) (fun (u : Int × (Nat → Int) × (Nat → Int) × (Nat → Int) × (Nat → Int)) => (wd_X2 qS aS0 aS1 aS2 aS3 aS4 aS5 aS6 aS7 aS8 aS9 aS10 qR aR0 aR1 kS0 kS1 kS2 kS3 kS4 kS5 kS6 kS7 kS8 kS9 kS10 kR0 kR1 u.1 sfo soe u.2.1 u.2.2.1 u.2.2.2.1 u.2.2.2.2 spc sfr sto sva sff slf sgf rsz rly rce rst))) (va_A (wd_X2 qS aS0 aS1 aS2 aS3 aS4 aS5 aS6 aS7 aS8 aS9 aS10 qR aR0 aR1 kS0 kS1 kS2 kS3 kS4 kS5 kS6 kS7 kS8 kS9 kS10 kR0 kR1 sid sfo soe sfa sre sle spe spc sfr sto sva sff slf sgf rsz rly rce rst) sz)) 0 0 (va_A (wd_X2 qS aS0 aS1 aS2 aS3 aS4 aS5 aS6 aS7 aS8 aS9 aS10 qR aR0 aR1 kS0 kS1 kS2 kS3 kS4 kS5 kS6 kS7 kS8 kS9 kS10 kR0 kR1 sid sfo soe sfa sre sle spe spc sfr sto sva sff slf sgf rsz rly rce rst) sz) := by
  refine xw_ofV (cc := cX2_takeSide) (maxL := 5) (by decide +kernel) rfl (Nat.le_of_ble_eq_true rfl) ?_
  intro p e s m args below meth c hx hb hml hown hts hin A hA hP hD hK Q hret ls hl hS
  have hl : lv_has ls 5 [(0, .ref qS), (1, .int (xw_i p1)), (2, .int (xw_i p2))] := hl
  have hwsX20 : ∀ w ∈ wsX20, w ∈ wsX2_takeSide := fun _ h => List.mem_cons_of_mem _ (List.mem_append_left _ (List.mem_append_right _ h))
  have hwsX10 : ∀ w ∈ wsX10, w ∈ wsX2_takeSide := fun _ h => List.mem_cons_of_mem _ (List.mem_append_right _ h)
  unfold wp_X2_takeSide at h
  refine lv_aload_n hx hb dX2_takeSide_0 rfl (lv_at hl 0 rfl) ?_
  refine va_get (D := (dC, dI)) (ci := 2) (v := .int (xw_i sid)) (C := RX2) (T := TX2) (N := 15) hx hb hts hwsX20 hown hK hP 0 rfl rfl 12 (by decide) (hts (.fieldLink RX2 51 "BoxProver$Search" "sides" "I") (by decide +kernel)) (fun _ h9 => h9) rfl dX2_takeSide_1 ?_
  refine lv_bipush (v := xw_i 32) hx hb dX2_takeSide_4 (by decide) ?_
  obtain ⟨hr1, h⟩ := h
  refine xw_icmp_lt (tgt := 10) hx hb ⟨hr1, ⟨by decide, by decide⟩⟩ dX2_takeSide_6 (by decide) (fun hcd => ?_) (fun hcd => ?_)
  · have h := h.1 hcd
    refine lv_aload_n hx hb dX2_takeSide_10 rfl (lv_at hl 0 rfl) ?_
    refine va_get (D := (dC, dI)) (ci := 2) (v := .ref aS1) (C := RX2) (T := TX2) (N := 15) hx hb hts hwsX20 hown hK hP 0 rfl rfl 2 (by decide) (hts (.fieldLink RX2 21 "BoxProver$Search" "reach" "[I") (by decide +kernel)) (fun _ h9 => h9) rfl dX2_takeSide_11 ?_
    refine lv_sipush (v := xw_i 128) hx hb dX2_takeSide_14 (by decide) ?_
    refine lv_aload_n hx hb dX2_takeSide_17 rfl (lv_at hl 0 rfl) ?_
    refine va_get (D := (dC, dI)) (ci := 2) (v := .int (xw_i sid)) (C := RX2) (T := TX2) (N := 15) hx hb hts hwsX20 hown hK hP 0 rfl rfl 12 (by decide) (hts (.fieldLink RX2 51 "BoxProver$Search" "sides" "I") (by decide +kernel)) (fun _ h9 => h9) rfl dX2_takeSide_18 ?_
    refine xw_iadd hx hb dX2_takeSide_21 ?_
    refine lv_iconst (v := xw_i 0) hx hb dX2_takeSide_22 (by decide) ?_
    obtain ⟨hin, h⟩ := h
    obtain ⟨sre_1, esre_1⟩ : ∃ z : Nat → Int, z = xw_u sre (128 + sid) 0 := ⟨_, rfl⟩
    have h := h sre_1 esre_1
    refine xw_iast (n := 160) hx hb hK hP hD hS 2 1 rfl rfl (by decide) hin esre_1 dX2_takeSide_23 (fun H locs hP hD hS => ?_)
    have hP : va_P (dC, dI) vwCl (wd_X2 qS aS0 aS1 aS2 aS3 aS4 aS5 aS6 aS7 aS8 aS9 aS10 qR aR0 aR1 kS0 kS1 kS2 kS3 kS4 kS5 kS6 kS7 kS8 kS9 kS10 kR0 kR1 sid sfo soe sfa sre_1 sle spe spc sfr sto sva sff slf sgf rsz rly rce rst) H := hP
    have hD : va_D A (wd_X2 qS aS0 aS1 aS2 aS3 aS4 aS5 aS6 aS7 aS8 aS9 aS10 qR aR0 aR1 kS0 kS1 kS2 kS3 kS4 kS5 kS6 kS7 kS8 kS9 kS10 kR0 kR1 sid sfo soe sfa sre_1 sle spe spc sfr sto sva sff slf sgf rsz rly rce rst) := hD
    refine lv_iconst (v := xw_i 3) hx hb dX2_takeSide_24 (by decide) ?_
    refine lv_istore_n (lv' := [(3, .int (xw_i 3)), (0, .ref qS), (1, .int (xw_i p1)), (2, .int (xw_i p2))]) hx hb dX2_takeSide_25 rfl hl (by decide) rfl (fun ls hl => ?_)
    have k_26 : ∀ (n_26 : Nat) (sid_1 : Int) (sfa_1 : Nat → Int) (sre_2 : Nat → Int) (sle_1 : Nat → Int) (spe_1 : Nat → Int) (x3 : Int) (H : Heap) (locs : List Loc) (ls : Array Slot), wp_X2_takeSide_26 p1 p2 rsz rly rce rst post n_26 sid_1 sfa_1 sre_2 sle_1 spe_1 x3 → va_P (dC, dI) vwCl (wd_X2 qS aS0 aS1 aS2 aS3 aS4 aS5 aS6 aS7 aS8 aS9 aS10 qR aR0 aR1 kS0 kS1 kS2 kS3 kS4 kS5 kS6 kS7 kS8 kS9 kS10 kR0 kR1 sid_1 sfo soe sfa_1 sre_2 sle_1 spe_1 spc sfr sto sva sff slf sgf rsz rly rce rst) H → va_D A (wd_X2 qS aS0 aS1 aS2 aS3 aS4 aS5 aS6 aS7 aS8 aS9 aS10 qR aR0 aR1 kS0 kS1 kS2 kS3 kS4 kS5 kS6 kS7 kS8 kS9 kS10 kR0 kR1 sid_1 sfo soe sfa_1 sre_2 sle_1 spe_1 spc sfr sto sva sff slf sgf rsz rly rce rst) → va_S A s.heap H locs → lv_has ls 5 [(3, .int (xw_i x3)), (0, .ref qS), (1, .int (xw_i p1)), (2, .int (xw_i p2))] → W p l e ({ frames := 1, cells := 0, slots := 0, locals := 22 } : Room) s m args below meth c H locs 0 0 Q (F0 m 26 ls []) := by
      intro n_26
      induction n_26 with
      | zero => intro sid_1 sfa_1 sre_2 sle_1 spe_1 x3 H locs ls h; exact False.elim h
      | succ n_26 ih_26 =>
        intro sid_1 sfa_1 sre_2 sle_1 spe_1 x3 H locs ls h hP hD hS hl
        have h : wl_X2_takeSide_26 p1 p2 rsz rly rce rst post (wp_X2_takeSide_26 p1 p2 rsz rly rce rst post n_26) sid_1 sfa_1 sre_2 sle_1 spe_1 x3 := h
        unfold wl_X2_takeSide_26 at h
        refine lv_iload_n hx hb dX2_takeSide_26 rfl (lv_at hl 0 rfl) ?_
        obtain ⟨hr2, h⟩ := h
        refine xw_if_lt (tgt := 96) hx hb hr2 dX2_takeSide_27 (by decide) (fun hcd => ?_) (fun hcd => ?_)
        · have h := h.1 hcd
          refine lv_aload_n hx hb dX2_takeSide_96 rfl (lv_at hl 1 rfl) ?_
          refine va_get (D := (dC, dI)) (ci := 2) (v := .ref aS2) (C := RX2) (T := TX2) (N := 15) hx hb hts hwsX20 hown hK hP 0 rfl rfl 3 (by decide) (hts (.fieldLink RX2 24 "BoxProver$Search" "left" "[I") (by decide +kernel)) (fun _ h9 => h9) rfl dX2_takeSide_97 ?_
          refine lv_aload_n hx hb dX2_takeSide_100 rfl (lv_at hl 1 rfl) ?_
          refine va_get (D := (dC, dI)) (ci := 2) (v := .int (xw_i sid_1)) (C := RX2) (T := TX2) (N := 15) hx hb hts hwsX20 hown hK hP 0 rfl rfl 12 (by decide) (hts (.fieldLink RX2 51 "BoxProver$Search" "sides" "I") (by decide +kernel)) (fun _ h9 => h9) rfl dX2_takeSide_101 ?_
          refine lv_iload_n hx hb dX2_takeSide_104 rfl (lv_at hl 3 rfl) ?_
          refine lv_aload_n hx hb dX2_takeSide_105 rfl (lv_at hl 1 rfl) ?_
          refine va_get (D := (dC, dI)) (ci := 2) (v := .ref qR) (C := RX2) (T := TX2) (N := 15) hx hb hts hwsX20 hown hK hP 0 rfl rfl 0 (by decide) (hts (.fieldLink RX2 11 "BoxProver$Search" "rows" "LBoxProver$Rows;") (by decide +kernel)) (fun _ h9 => h9) rfl dX2_takeSide_106 ?_
          refine lv_iload_n hx hb dX2_takeSide_109 rfl (lv_at hl 2 rfl) ?_
          refine xw_backi (wc := (wd_X1 qR aR0 aR1 kR0 kR1 rsz rly rce rst)) (wr := [(qS, .inr (2, [.ref qR, .ref aS0, .ref aS1, .ref aS2, .ref aS3, .ref aS4, .ref aS5, .ref aS6, .ref aS7, .ref aS8, .ref aS9, .ref aS10, .int (xw_i sid_1), .int (xw_i sfo), .int (xw_i soe)])), (aS0, .inl (kS0, 128, .inl (xw_a sfa_1))), (aS1, .inl (kS1, 160, .inl (xw_a sre_2))), (aS2, .inl (kS2, 128, .inl (xw_a sle_1))), (aS3, .inl (kS3, 160, .inl (xw_a spe_1))), (aS4, .inl (kS4, 5, .inl (xw_a spc))), (aS5, .inl (kS5, 4, .inl (xw_a sfr))), (aS6, .inl (kS6, 4, .inl (xw_a sto))), (aS7, .inl (kS7, 4, .inl (xw_a sva))), (aS8, .inl (kS8, 4, .inl (xw_a sff))), (aS9, .inl (kS9, 4, .inl (xw_a slf))), (aS10, .inl (kS10, 4, .inl (xw_a sgf)))]) (va_runV (As := [.int (xw_i p1)]) (rest := [.int (xw_i p2), .int (xw_i sid_1), .ref aS2]) ⟨hx, hb, hml, hown, hts⟩ (c_X1_limit l dC dI qR aR0 aR1 kR0 kR1 H.size rsz rly rce rst p1 _ h) (cwV 1 hts gX2_takeSide_X1_limit rfl rfl rfl (by decide +kernel) ⟨Nat.le_of_ble_eq_true rfl, Nat.le_of_ble_eq_true rfl⟩) (xw_preV (ci := 1) hK hP hD [12, 13, 14] rfl rfl (by decide) [11, 12] rfl rfl rfl) rfl rfl hl.1 rfl (lv_room (Nat.le_of_ble_eq_true rfl)) dX2_takeSide_110 ⟨Nat.le_of_ble_eq_true rfl, Nat.le_of_ble_eq_true rfl⟩) hK hP hD hS hA [12, 13, 14] [0, 1, 2, 3, 4, 5, 6, 7, 8, 9, 10, 11] rfl rfl (by decide) (by decide) (fun r u H locs h hP hD hK2 hS => ?_)
          try dsimp only at h
          have hP : va_P (dC, dI) vwCl (wd_X2 qS aS0 aS1 aS2 aS3 aS4 aS5 aS6 aS7 aS8 aS9 aS10 qR aR0 aR1 kS0 kS1 kS2 kS3 kS4 kS5 kS6 kS7 kS8 kS9 kS10 kR0 kR1 sid_1 sfo soe sfa_1 sre_2 sle_1 spe_1 spc sfr sto sva sff slf sgf rsz rly rce rst) H := hP
          have hD : va_D A (wd_X2 qS aS0 aS1 aS2 aS3 aS4 aS5 aS6 aS7 aS8 aS9 aS10 qR aR0 aR1 kS0 kS1 kS2 kS3 kS4 kS5 kS6 kS7 kS8 kS9 kS10 kR0 kR1 sid_1 sfo soe sfa_1 sre_2 sle_1 spe_1 spc sfr sto sva sff slf sgf rsz rly rce rst) := hD
          refine xw_imul hx hb dX2_takeSide_113 ?_
          obtain ⟨hin, h⟩ := h
          obtain ⟨sle_2, esle_2⟩ : ∃ z : Nat → Int, z = xw_u sle_1 sid_1 (p2 * r) := ⟨_, rfl⟩
          have h := h sle_2 esle_2
          refine xw_iast (n := 128) hx hb hK hP hD hS 3 2 rfl rfl (by decide) hin esle_2 dX2_takeSide_114 (fun H locs hP hD hS => ?_)
          have hP : va_P (dC, dI) vwCl (wd_X2 qS aS0 aS1 aS2 aS3 aS4 aS5 aS6 aS7 aS8 aS9 aS10 qR aR0 aR1 kS0 kS1 kS2 kS3 kS4 kS5 kS6 kS7 kS8 kS9 kS10 kR0 kR1 sid_1 sfo soe sfa_1 sre_2 sle_2 spe_1 spc sfr sto sva sff slf sgf rsz rly rce rst) H := hP
          have hD : va_D A (wd_X2 qS aS0 aS1 aS2 aS3 aS4 aS5 aS6 aS7 aS8 aS9 aS10 qR aR0 aR1 kS0 kS1 kS2 kS3 kS4 kS5 kS6 kS7 kS8 kS9 kS10 kR0 kR1 sid_1 sfo soe sfa_1 sre_2 sle_2 spe_1 spc sfr sto sva sff slf sgf rsz rly rce rst) := hD
          refine lv_aload_n hx hb dX2_takeSide_115 rfl (lv_at hl 1 rfl) ?_
          refine va_get (D := (dC, dI)) (ci := 2) (v := .ref aS3) (C := RX2) (T := TX2) (N := 15) hx hb hts hwsX20 hown hK hP 0 rfl rfl 4 (by decide) (hts (.fieldLink RX2 27 "BoxProver$Search" "pending" "[I") (by decide +kernel)) (fun _ h9 => h9) rfl dX2_takeSide_116 ?_
          refine lv_aload_n hx hb dX2_takeSide_119 rfl (lv_at hl 1 rfl) ?_
          refine va_get (D := (dC, dI)) (ci := 2) (v := .int (xw_i sid_1)) (C := RX2) (T := TX2) (N := 15) hx hb hts hwsX20 hown hK hP 0 rfl rfl 12 (by decide) (hts (.fieldLink RX2 51 "BoxProver$Search" "sides" "I") (by decide +kernel)) (fun _ h9 => h9) rfl dX2_takeSide_120 ?_
          refine lv_aload_n hx hb dX2_takeSide_123 rfl (lv_at hl 1 rfl) ?_
          refine va_get (D := (dC, dI)) (ci := 2) (v := .int (xw_i sid_1)) (C := RX2) (T := TX2) (N := 15) hx hb hts hwsX20 hown hK hP 0 rfl rfl 12 (by decide) (hts (.fieldLink RX2 51 "BoxProver$Search" "sides" "I") (by decide +kernel)) (fun _ h9 => h9) rfl dX2_takeSide_124 ?_
          obtain ⟨hin, h⟩ := h
          obtain ⟨spe_2, espe_2⟩ : ∃ z : Nat → Int, z = xw_u spe_1 sid_1 sid_1 := ⟨_, rfl⟩
          have h := h spe_2 espe_2
          refine xw_iast (n := 160) hx hb hK hP hD hS 4 3 rfl rfl (by decide) hin espe_2 dX2_takeSide_127 (fun H locs hP hD hS => ?_)
          have hP : va_P (dC, dI) vwCl (wd_X2 qS aS0 aS1 aS2 aS3 aS4 aS5 aS6 aS7 aS8 aS9 aS10 qR aR0 aR1 kS0 kS1 kS2 kS3 kS4 kS5 kS6 kS7 kS8 kS9 kS10 kR0 kR1 sid_1 sfo soe sfa_1 sre_2 sle_2 spe_2 spc sfr sto sva sff slf sgf rsz rly rce rst) H := hP
          have hD : va_D A (wd_X2 qS aS0 aS1 aS2 aS3 aS4 aS5 aS6 aS7 aS8 aS9 aS10 qR aR0 aR1 kS0 kS1 kS2 kS3 kS4 kS5 kS6 kS7 kS8 kS9 kS10 kR0 kR1 sid_1 sfo soe sfa_1 sre_2 sle_2 spe_2 spc sfr sto sva sff slf sgf rsz rly rce rst) := hD
          refine lv_aload_n hx hb dX2_takeSide_128 rfl (lv_at hl 1 rfl) ?_
          refine lv_dup hx hb dX2_takeSide_129 rfl ?_
          refine va_get (D := (dC, dI)) (ci := 2) (v := .int (xw_i sid_1)) (C := RX2) (T := TX2) (N := 15) hx hb hts hwsX20 hown hK hP 0 rfl rfl 12 (by decide) (hts (.fieldLink RX2 51 "BoxProver$Search" "sides" "I") (by decide +kernel)) (fun _ h9 => h9) rfl dX2_takeSide_130 ?_
          refine lv_iconst (v := xw_i 1) hx hb dX2_takeSide_133 (by decide) ?_
          refine xw_iadd hx hb dX2_takeSide_134 ?_
          refine xw_topi (fun sf esf => ?_)
          have h := h sf esf
          refine va_put (D := (dC, dI)) (ci := 2) (v := .int (xw_i sf)) (ty := .int) (C := RX2) (T := TX2) (N := 15) hx hb hts hwsX20 tyX2 tyX2_ok nmX2 hown hK hP hD hS 0 rfl rfl 12 (by decide) (hts (.fieldLink RX2 51 "BoxProver$Search" "sides" "I") (by decide +kernel)) (fun _ h9 => h9) rfl (by decide +kernel) rfl rfl (Nat.le_of_ble_eq_true rfl) dX2_takeSide_135 (fun H locs hP hD hS => ?_)
          have hP : va_P (dC, dI) vwCl (wd_X2 qS aS0 aS1 aS2 aS3 aS4 aS5 aS6 aS7 aS8 aS9 aS10 qR aR0 aR1 kS0 kS1 kS2 kS3 kS4 kS5 kS6 kS7 kS8 kS9 kS10 kR0 kR1 sf sfo soe sfa_1 sre_2 sle_2 spe_2 spc sfr sto sva sff slf sgf rsz rly rce rst) H := hP
          have hD : va_D A (wd_X2 qS aS0 aS1 aS2 aS3 aS4 aS5 aS6 aS7 aS8 aS9 aS10 qR aR0 aR1 kS0 kS1 kS2 kS3 kS4 kS5 kS6 kS7 kS8 kS9 kS10 kR0 kR1 sf sfo soe sfa_1 sre_2 sle_2 spe_2 spc sfr sto sva sff slf sgf rsz rly rce rst) := hD
          exact hret _ _ _ _ (sf, sfa_1, sre_2, sle_2, spe_2) dX2_takeSide_138 h hP hD hK hS
        · have h := h.2 hcd
          refine lv_iload_n hx hb dX2_takeSide_30 rfl (lv_at hl 0 rfl) ?_
          refine lv_bipush (v := xw_i 32) hx hb dX2_takeSide_31 (by decide) ?_
          refine xw_imul hx hb dX2_takeSide_33 ?_
          refine lv_aload_n hx hb dX2_takeSide_34 rfl (lv_at hl 1 rfl) ?_
          refine va_get (D := (dC, dI)) (ci := 2) (v := .int (xw_i sid_1)) (C := RX2) (T := TX2) (N := 15) hx hb hts hwsX20 hown hK hP 0 rfl rfl 12 (by decide) (hts (.fieldLink RX2 51 "BoxProver$Search" "sides" "I") (by decide +kernel)) (fun _ h9 => h9) rfl dX2_takeSide_35 ?_
          refine xw_iadd hx hb dX2_takeSide_38 ?_
          refine xw_topi (fun x4 ex4 => ?_)
          have h := h x4 ex4
          refine lv_istore (lv' := [(4, .int (xw_i x4)), (3, .int (xw_i x3)), (0, .ref qS), (1, .int (xw_i p1)), (2, .int (xw_i p2))]) hx hb dX2_takeSide_39 hl (by decide) rfl (fun ls hl => ?_)
          refine lv_aload_n hx hb dX2_takeSide_41 rfl (lv_at hl 2 rfl) ?_
          refine va_get (D := (dC, dI)) (ci := 2) (v := .ref aS0) (C := RX2) (T := TX2) (N := 15) hx hb hts hwsX20 hown hK hP 0 rfl rfl 1 (by decide) (hts (.fieldLink RX2 17 "BoxProver$Search" "factor" "[I") (by decide +kernel)) (fun _ h9 => h9) rfl dX2_takeSide_42 ?_
          refine lv_iload hx hb dX2_takeSide_45 (lv_at hl 0 rfl) ?_
          refine lv_iload_n hx hb dX2_takeSide_47 rfl (lv_at hl 4 rfl) ?_
          refine lv_aload_n hx hb dX2_takeSide_48 rfl (lv_at hl 2 rfl) ?_
          refine va_get (D := (dC, dI)) (ci := 2) (v := .ref qR) (C := RX2) (T := TX2) (N := 15) hx hb hts hwsX20 hown hK hP 0 rfl rfl 0 (by decide) (hts (.fieldLink RX2 11 "BoxProver$Search" "rows" "LBoxProver$Rows;") (by decide +kernel)) (fun _ h9 => h9) rfl dX2_takeSide_49 ?_
          refine lv_iload_n hx hb dX2_takeSide_52 rfl (lv_at hl 3 rfl) ?_
          refine lv_iload_n hx hb dX2_takeSide_53 rfl (lv_at hl 1 rfl) ?_
          refine xw_backi (wc := (wd_X1 qR aR0 aR1 kR0 kR1 rsz rly rce rst)) (wr := [(qS, .inr (2, [.ref qR, .ref aS0, .ref aS1, .ref aS2, .ref aS3, .ref aS4, .ref aS5, .ref aS6, .ref aS7, .ref aS8, .ref aS9, .ref aS10, .int (xw_i sid_1), .int (xw_i sfo), .int (xw_i soe)])), (aS0, .inl (kS0, 128, .inl (xw_a sfa_1))), (aS1, .inl (kS1, 160, .inl (xw_a sre_2))), (aS2, .inl (kS2, 128, .inl (xw_a sle_1))), (aS3, .inl (kS3, 160, .inl (xw_a spe_1))), (aS4, .inl (kS4, 5, .inl (xw_a spc))), (aS5, .inl (kS5, 4, .inl (xw_a sfr))), (aS6, .inl (kS6, 4, .inl (xw_a sto))), (aS7, .inl (kS7, 4, .inl (xw_a sva))), (aS8, .inl (kS8, 4, .inl (xw_a sff))), (aS9, .inl (kS9, 4, .inl (xw_a slf))), (aS10, .inl (kS10, 4, .inl (xw_a sgf)))]) (va_runV (As := [.int (xw_i p1), .int (xw_i x3)]) (rest := [.int (xw_i p2), .int (xw_i x4), .ref aS0]) ⟨hx, hb, hml, hown, hts⟩ (c_X1_factor l dC dI qR aR0 aR1 kR0 kR1 H.size rsz rly rce rst p1 x3 _ h) (cwV 2 hts gX2_takeSide_X1_factor rfl rfl rfl (by decide +kernel) ⟨Nat.le_of_ble_eq_true rfl, Nat.le_of_ble_eq_true rfl⟩) (xw_preV (ci := 1) hK hP hD [12, 13, 14] rfl rfl (by decide) [11, 12] rfl rfl rfl) rfl rfl hl.1 rfl (lv_room (Nat.le_of_ble_eq_true rfl)) dX2_takeSide_54 ⟨Nat.le_of_ble_eq_true rfl, Nat.le_of_ble_eq_true rfl⟩) hK hP hD hS hA [12, 13, 14] [0, 1, 2, 3, 4, 5, 6, 7, 8, 9, 10, 11] rfl rfl (by decide) (by decide) (fun r_1 u H locs h hP hD hK2 hS => ?_)
          try dsimp only at h
          have hP : va_P (dC, dI) vwCl (wd_X2 qS aS0 aS1 aS2 aS3 aS4 aS5 aS6 aS7 aS8 aS9 aS10 qR aR0 aR1 kS0 kS1 kS2 kS3 kS4 kS5 kS6 kS7 kS8 kS9 kS10 kR0 kR1 sid_1 sfo soe sfa_1 sre_2 sle_1 spe_1 spc sfr sto sva sff slf sgf rsz rly rce rst) H := hP
          have hD : va_D A (wd_X2 qS aS0 aS1 aS2 aS3 aS4 aS5 aS6 aS7 aS8 aS9 aS10 qR aR0 aR1 kS0 kS1 kS2 kS3 kS4 kS5 kS6 kS7 kS8 kS9 kS10 kR0 kR1 sid_1 sfo soe sfa_1 sre_2 sle_1 spe_1 spc sfr sto sva sff slf sgf rsz rly rce rst) := hD
          refine xw_imul hx hb dX2_takeSide_57 ?_
          obtain ⟨hin, h⟩ := h
          obtain ⟨sfa_2, esfa_2⟩ : ∃ z : Nat → Int, z = xw_u sfa_1 x4 (p2 * r_1) := ⟨_, rfl⟩
          have h := h sfa_2 esfa_2
          refine xw_iast (n := 128) hx hb hK hP hD hS 1 0 rfl rfl (by decide) hin esfa_2 dX2_takeSide_58 (fun H locs hP hD hS => ?_)
          have hP : va_P (dC, dI) vwCl (wd_X2 qS aS0 aS1 aS2 aS3 aS4 aS5 aS6 aS7 aS8 aS9 aS10 qR aR0 aR1 kS0 kS1 kS2 kS3 kS4 kS5 kS6 kS7 kS8 kS9 kS10 kR0 kR1 sid_1 sfo soe sfa_2 sre_2 sle_1 spe_1 spc sfr sto sva sff slf sgf rsz rly rce rst) H := hP
          have hD : va_D A (wd_X2 qS aS0 aS1 aS2 aS3 aS4 aS5 aS6 aS7 aS8 aS9 aS10 qR aR0 aR1 kS0 kS1 kS2 kS3 kS4 kS5 kS6 kS7 kS8 kS9 kS10 kR0 kR1 sid_1 sfo soe sfa_2 sre_2 sle_1 spe_1 spc sfr sto sva sff slf sgf rsz rly rce rst) := hD
          refine lv_aload_n hx hb dX2_takeSide_59 rfl (lv_at hl 2 rfl) ?_
          refine va_get (D := (dC, dI)) (ci := 2) (v := .ref aS1) (C := RX2) (T := TX2) (N := 15) hx hb hts hwsX20 hown hK hP 0 rfl rfl 2 (by decide) (hts (.fieldLink RX2 21 "BoxProver$Search" "reach" "[I") (by decide +kernel)) (fun _ h9 => h9) rfl dX2_takeSide_60 ?_
          refine lv_iload hx hb dX2_takeSide_63 (lv_at hl 0 rfl) ?_
          refine lv_aload_n hx hb dX2_takeSide_65 rfl (lv_at hl 2 rfl) ?_
          refine va_get (D := (dC, dI)) (ci := 2) (v := .ref aS1) (C := RX2) (T := TX2) (N := 15) hx hb hts hwsX20 hown hK hP 0 rfl rfl 2 (by decide) (hts (.fieldLink RX2 21 "BoxProver$Search" "reach" "[I") (by decide +kernel)) (fun _ h9 => h9) rfl dX2_takeSide_66 ?_
          refine lv_iload hx hb dX2_takeSide_69 (lv_at hl 0 rfl) ?_
          refine lv_bipush (v := xw_i 32) hx hb dX2_takeSide_71 (by decide) ?_
          refine xw_iadd hx hb dX2_takeSide_73 ?_
          obtain ⟨hin, h⟩ := h
          refine xw_iald (n := 160) hx hb hK hP 2 1 rfl rfl (by decide) hin dX2_takeSide_74 ?_
          refine lv_aload_n hx hb dX2_takeSide_75 rfl (lv_at hl 2 rfl) ?_
          refine va_get (D := (dC, dI)) (ci := 2) (v := .ref aS0) (C := RX2) (T := TX2) (N := 15) hx hb hts hwsX20 hown hK hP 0 rfl rfl 1 (by decide) (hts (.fieldLink RX2 17 "BoxProver$Search" "factor" "[I") (by decide +kernel)) (fun _ h9 => h9) rfl dX2_takeSide_76 ?_
          refine lv_iload hx hb dX2_takeSide_79 (lv_at hl 0 rfl) ?_
          obtain ⟨hin, h⟩ := h
          refine xw_iald (n := 128) hx hb hK hP 1 0 rfl rfl (by decide) hin dX2_takeSide_81 ?_
          obtain ⟨hr3, h⟩ := h
          refine xw_mabs hx hb (hml.trans hl.1.symm) hown (hts (.methodLink RX2 81 Lib.Math.abs.name) (by decide +kernel)) (hts (.static Lib.Math.abs.name) (by decide +kernel)) (hts (.initialized "java/lang/Math") (by decide +kernel)) (hts (.code Lib.Math.abs.name Lib.Math.abs.code 1 (some .int)) (by decide +kernel)) (Nat.le_of_ble_eq_true rfl) (Nat.le_of_ble_eq_true rfl) (Nat.le_of_ble_eq_true rfl) (Nat.le_of_ble_eq_true rfl) hr3 dX2_takeSide_82 ?_
          refine lv_bipush (v := xw_i 15) hx hb dX2_takeSide_85 (by decide) ?_
          refine xw_imul hx hb dX2_takeSide_87 ?_
          refine xw_iadd hx hb dX2_takeSide_88 ?_
          obtain ⟨hin, h⟩ := h
          obtain ⟨sre_3, esre_3⟩ : ∃ z : Nat → Int, z = xw_u sre_2 x4 ((sre_2 (x4 + 32).toNat) + ((if 0 ≤ sfa_2 x4.toNat then sfa_2 x4.toNat else 0 - (sfa_2 x4.toNat)) * 15)) := ⟨_, rfl⟩
          have h := h sre_3 esre_3
          refine xw_iast (n := 160) hx hb hK hP hD hS 2 1 rfl rfl (by decide) hin esre_3 dX2_takeSide_89 (fun H locs hP hD hS => ?_)
          have hP : va_P (dC, dI) vwCl (wd_X2 qS aS0 aS1 aS2 aS3 aS4 aS5 aS6 aS7 aS8 aS9 aS10 qR aR0 aR1 kS0 kS1 kS2 kS3 kS4 kS5 kS6 kS7 kS8 kS9 kS10 kR0 kR1 sid_1 sfo soe sfa_2 sre_3 sle_1 spe_1 spc sfr sto sva sff slf sgf rsz rly rce rst) H := hP
          have hD : va_D A (wd_X2 qS aS0 aS1 aS2 aS3 aS4 aS5 aS6 aS7 aS8 aS9 aS10 qR aR0 aR1 kS0 kS1 kS2 kS3 kS4 kS5 kS6 kS7 kS8 kS9 kS10 kR0 kR1 sid_1 sfo soe sfa_2 sre_3 sle_1 spe_1 spc sfr sto sva sff slf sgf rsz rly rce rst) := hD
          obtain ⟨x3_1, ex3_1⟩ : ∃ y : Int, y = x3 + (-1) := ⟨_, rfl⟩
          have h := h x3_1 ex3_1
          refine lv_iinc (v := xw_i x3_1) (lv' := [(3, .int (xw_i x3_1)), (4, .int (xw_i x4)), (0, .ref qS), (1, .int (xw_i p1)), (2, .int (xw_i p2))]) hx hb dX2_takeSide_90 hl (k := 1) rfl (xw_inc ex3_1) (by decide) rfl (fun ls hl => ?_)
          refine lv_goto (tgt := 26) hx hb dX2_takeSide_93 (by decide) ?_
          exact ih_26 sid_1 sfa_2 sre_3 sle_1 spe_1 x3_1 _ _ _ h hP hD hS (lv_sub hl [0, 2, 3, 4] rfl)
    obtain ⟨fu, h⟩ := h
    exact k_26 fu sid sfa sre_1 sle spe 3 _ _ _ h hP hD hS (lv_sub hl [0, 1, 2, 3] rfl)
  · have h := h.2 hcd
    exact hret _ _ _ _ (sid, sfa, sre, sle, spe) dX2_takeSide_9 h hP hD hK hS
set_option maxHeartbeats 4000000 in
set_option maxRecDepth 100000 in
theorem c_X2_isEnough (l : Launch) (dC : Nat → ClassId) (dI : Nat → Nat → Nat) (qS aS0 aS1 aS2 aS3 aS4 aS5 aS6 aS7 aS8 aS9 aS10 qR aR0 aR1 : Nat) (kS0 kS1 kS2 kS3 kS4 kS5 kS6 kS7 kS8 kS9 kS10 kR0 kR1 : ClassId) (sz : Nat) (sid : Int) (sfo : Int) (soe : Int) (sfa : Nat → Int) (sre : Nat → Int) (sle : Nat → Int) (spe : Nat → Int) (spc : Nat → Int) (sfr : Nat → Int) (sto : Nat → Int) (sva : Nat → Int) (sff : Nat → Int) (slf : Nat → Int) (sgf : Nat → Int) (rsz : Int) (rly : Int) (rce : Nat → Int) (rst : Nat → Int) (post : Int → Prop) (h : wp_X2_isEnough post sid sfo soe sfa sre sle spe spc sfr sto sva sff slf sgf rsz rly rce rst) : Met l yX2_isEnough wsX2_isEnough ({ frames := 0, cells := 0, slots := 0, locals := 0 }) (va_Pc [.ref qS] (xw_Pre (dC, dI) vwCl (wd_X2 qS aS0 aS1 aS2 aS3 aS4 aS5 aS6 aS7 aS8 aS9 aS10 qR aR0 aR1 kS0 kS1 kS2 kS3 kS4 kS5 kS6 kS7 kS8 kS9 kS10 kR0 kR1 sid sfo soe sfa sre sle spe spc sfr sto sva sff slf sgf rsz rly rce rst) [(kS0, .int), (kS1, .int), (kS2, .int), (kS3, .int), (kS4, .int), (kS5, .int), (kS6, .int), (kS7, .int), (kS8, .int), (kS9, .int), (kS10, .int), (kR0, .int), (kR1, .int)] sz)) (va_Qi (xw_pi (fun v (u : Unit) => post v)) (xw_B (dC, dI) vwCl (fun (_ : Unit) => [(kS0, .int), (kS1, .int), (kS2, .int), (kS3, .int), (kS4, .int), (kS5, .int), (kS6, .int), (kS7, .int), (kS8, .int), (kS9, .int), (kS10, .int), (kR0, .int), (kR1, .int)]) (va_A (wd_X2 qS aS0 aS1 aS2 aS3 aS4 aS5 aS6 aS7 aS8 aS9 aS10 qR aR0 aR1 kS0 kS1 kS2 kS3 kS4 kS5 kS6 kS7 kS8 kS9 kS10 kR0 kR1 sid sfo soe sfa sre sle spe spc sfr sto sva sff slf sgf rsz rly rce rst) sz) (fun (u : Unit) => (wd_X2 qS aS0 aS1 aS2 aS3 aS4 aS5 aS6 aS7 aS8 aS9 aS10 qR aR0 aR1 kS0 kS1 kS2 kS3 kS4 kS5 kS6 kS7 kS8 kS9 kS10 kR0 kR1 sid sfo soe sfa sre sle spe spc sfr sto sva sff slf sgf rsz rly rce rst))) (va_A (wd_X2 qS aS0 aS1 aS2 aS3 aS4 aS5 aS6 aS7 aS8 aS9 aS10 qR aR0 aR1 kS0 kS1 kS2 kS3 kS4 kS5 kS6 kS7 kS8 kS9 kS10 kR0 kR1 sid sfo soe sfa sre sle spe spc sfr sto sva sff slf sgf rsz rly rce rst) sz)) 0 0 (va_A (wd_X2 qS aS0 aS1 aS2 aS3 aS4 aS5 aS6 aS7 aS8 aS9 aS10 qR aR0 aR1 kS0 kS1 kS2 kS3 kS4 kS5 kS6 kS7 kS8 kS9 kS10 kR0 kR1 sid sfo soe sfa sre sle spe spc sfr sto sva sff slf sgf rsz rly rce rst) sz) := by
  refine xw_ofZ (cc := cX2_isEnough) (maxL := 1) (by decide +kernel) rfl (Nat.le_of_ble_eq_true rfl) ?_
  intro p e s m args below meth c hx hb hml hown hts A hA hP hD hK Q hret ls hl hS
  have hl : lv_has ls 1 [(0, .ref qS)] := hl
  have hwsX20 : ∀ w ∈ wsX20, w ∈ wsX2_isEnough := fun _ h => List.mem_cons_of_mem _ (List.mem_append_right _ h)
  unfold wp_X2_isEnough at h
  refine lv_aload_n hx hb dX2_isEnough_0 rfl (lv_at hl 0 rfl) ?_
  refine va_get (D := (dC, dI)) (ci := 2) (v := .int (xw_i soe)) (C := RX2) (T := TX2) (N := 15) hx hb hts hwsX20 hown hK hP 0 rfl rfl 14 (by decide) (hts (.fieldLink RX2 58 "BoxProver$Search" "oneIsEnough" "Z") (by decide +kernel)) (fun _ h9 => h9) rfl dX2_isEnough_1 ?_
  obtain ⟨hr1, h⟩ := h
  refine xw_if_eq (tgt := 18) hx hb hr1 dX2_isEnough_4 (by decide) (fun hcd => ?_) (fun hcd => ?_)
  · have h := h.1 hcd
    refine lv_iconst (v := xw_i 0) hx hb dX2_isEnough_18 (by decide) ?_
    exact hret _ _ _ _ 0 () dX2_isEnough_19 (by decide) h hP hD hK hS
  · have h := h.2 hcd
    refine lv_aload_n hx hb dX2_isEnough_7 rfl (lv_at hl 0 rfl) ?_
    refine va_get (D := (dC, dI)) (ci := 2) (v := .int (xw_i sfo)) (C := RX2) (T := TX2) (N := 15) hx hb hts hwsX20 hown hK hP 0 rfl rfl 13 (by decide) (hts (.fieldLink RX2 55 "BoxProver$Search" "found" "I") (by decide +kernel)) (fun _ h9 => h9) rfl dX2_isEnough_8 ?_
    obtain ⟨hr2, h⟩ := h
    refine xw_if_le (tgt := 18) hx hb hr2 dX2_isEnough_11 (by decide) (fun hcd => ?_) (fun hcd => ?_)
    · have h := h.1 hcd
      refine lv_iconst (v := xw_i 0) hx hb dX2_isEnough_18 (by decide) ?_
      exact hret _ _ _ _ 0 () dX2_isEnough_19 (by decide) h hP hD hK hS
    · have h := h.2 hcd
      refine lv_iconst (v := xw_i 1) hx hb dX2_isEnough_14 (by decide) ?_
      refine lv_goto (tgt := 19) hx hb dX2_isEnough_15 (by decide) ?_
      exact hret _ _ _ _ 1 () dX2_isEnough_19 (by decide) h hP hD hK hS
set_option maxHeartbeats 4000000 in
set_option maxRecDepth 100000 in
theorem c_X2_keepAtMost (l : Launch) (dC : Nat → ClassId) (dI : Nat → Nat → Nat) (qS aS0 aS1 aS2 aS3 aS4 aS5 aS6 aS7 aS8 aS9 aS10 qR aR0 aR1 : Nat) (kS0 kS1 kS2 kS3 kS4 kS5 kS6 kS7 kS8 kS9 kS10 kR0 kR1 : ClassId) (sz : Nat) (sid : Int) (sfo : Int) (soe : Int) (sfa : Nat → Int) (sre : Nat → Int) (sle : Nat → Int) (spe : Nat → Int) (spc : Nat → Int) (sfr : Nat → Int) (sto : Nat → Int) (sva : Nat → Int) (sff : Nat → Int) (slf : Nat → Int) (sgf : Nat → Int) (rsz : Int) (rly : Int) (rce : Nat → Int) (rst : Nat → Int) (p1 : Int) (p2 : Int) (p3 : Int) (post : (Nat → Int) → (Nat → Int) → Prop) (h : wp_X2_keepAtMost post sid sfo soe sfa sre sle spe spc sfr sto sva sff slf sgf rsz rly rce rst p1 p2 p3) : Met l yX2_keepAtMost wsX2_keepAtMost ({ frames := 1, cells := 0, slots := 0, locals := 22 }) (va_Pc [.ref qS, .int (xw_i p1), .int (xw_i p2), .int (xw_i p3)] (xw_Pre (dC, dI) vwCl (wd_X2 qS aS0 aS1 aS2 aS3 aS4 aS5 aS6 aS7 aS8 aS9 aS10 qR aR0 aR1 kS0 kS1 kS2 kS3 kS4 kS5 kS6 kS7 kS8 kS9 kS10 kR0 kR1 sid sfo soe sfa sre sle spe spc sfr sto sva sff slf sgf rsz rly rce rst) [(kS0, .int), (kS1, .int), (kS2, .int), (kS3, .int), (kS4, .int), (kS5, .int), (kS6, .int), (kS7, .int), (kS8, .int), (kS9, .int), (kS10, .int), (kR0, .int), (kR1, .int)] sz)) (va_Qv (fun (u : (Nat → Int) × (Nat → Int)) => post u.1 u.2) (xw_B (dC, dI) vwCl (fun (_ : (Nat → Int) × (Nat → Int)) => [(kS0, .int), (kS1, .int), (kS2, .int), (kS3, .int), (kS4, .int), (kS5, .int), (kS6, .int), (kS7, .int), (kS8, .int), (kS9, .int), (kS10, .int), (kR0, .int), (kR1, .int)]) (va_A (wd_X2 qS aS0 aS1 aS2 aS3 aS4 aS5 aS6 aS7 aS8 aS9 aS10 qR aR0 aR1 kS0 kS1 kS2 kS3 kS4 kS5 kS6 kS7 kS8 kS9 kS10 kR0 kR1 sid sfo soe sfa sre sle spe spc sfr sto sva sff slf sgf rsz rly rce rst) sz) (fun (u : (Nat → Int) × (Nat → Int)) => (wd_X2 qS aS0 aS1 aS2 aS3 aS4 aS5 aS6 aS7 aS8 aS9 aS10 qR aR0 aR1 kS0 kS1 kS2 kS3 kS4 kS5 kS6 kS7 kS8 kS9 kS10 kR0 kR1 sid sfo soe sfa sre sle spe spc u.1 u.2 sva sff slf sgf rsz rly rce rst))) (va_A (wd_X2 qS aS0 aS1 aS2 aS3 aS4 aS5 aS6 aS7 aS8 aS9 aS10 qR aR0 aR1 kS0 kS1 kS2 kS3 kS4 kS5 kS6 kS7 kS8 kS9 kS10 kR0 kR1 sid sfo soe sfa sre sle spe spc sfr sto sva sff slf sgf rsz rly rce rst) sz)) 0 0 (va_A (wd_X2 qS aS0 aS1 aS2 aS3 aS4 aS5 aS6 aS7 aS8 aS9 aS10 qR aR0 aR1 kS0 kS1 kS2 kS3 kS4 kS5 kS6 kS7 kS8 kS9 kS10 kR0 kR1 sid sfo soe sfa sre sle spe spc sfr sto sva sff slf sgf rsz rly rce rst) sz) := by
  refine xw_ofV (cc := cX2_keepAtMost) (maxL := 4) (by decide +kernel) rfl (Nat.le_of_ble_eq_true rfl) ?_
  intro p e s m args below meth c hx hb hml hown hts hin A hA hP hD hK Q hret ls hl hS
  have hl : lv_has ls 4 [(0, .ref qS), (1, .int (xw_i p1)), (2, .int (xw_i p2)), (3, .int (xw_i p3))] := hl
  have hwsX20 : ∀ w ∈ wsX20, w ∈ wsX2_keepAtMost := fun _ h => List.mem_cons_of_mem _ (List.mem_append_right _ h)
  unfold wp_X2_keepAtMost at h
  refine lv_iload_n hx hb dX2_keepAtMost_0 rfl (lv_at hl 2 rfl) ?_
  obtain ⟨hr1, h⟩ := h
  refine xw_if_le (tgt := 30) hx hb hr1 dX2_keepAtMost_1 (by decide) (fun hcd => ?_) (fun hcd => ?_)
  · have h := h.1 hcd
    refine lv_iload_n hx hb dX2_keepAtMost_30 rfl (lv_at hl 2 rfl) ?_
    refine xw_if_ge (tgt := 62) hx hb hr1 dX2_keepAtMost_31 (by decide) (fun hcd => ?_) (fun hcd => ?_)
    · have h := h.1 hcd
      refine lv_iload_n hx hb dX2_keepAtMost_62 rfl (lv_at hl 3 rfl) ?_
      obtain ⟨hr2, h⟩ := h
      refine xw_if_ge (tgt := 74) hx hb hr2 dX2_keepAtMost_63 (by decide) (fun hcd => ?_) (fun hcd => ?_)
      · have h := h.1 hcd
        exact hret _ _ _ _ (sfr, sto) dX2_keepAtMost_74 h hP hD hK hS
      · have h := h.2 hcd
        refine lv_aload_n hx hb dX2_keepAtMost_66 rfl (lv_at hl 0 rfl) ?_
        refine va_get (D := (dC, dI)) (ci := 2) (v := .ref aS6) (C := RX2) (T := TX2) (N := 15) hx hb hts hwsX20 hown hK hP 0 rfl rfl 7 (by decide) (hts (.fieldLink RX2 36 "BoxProver$Search" "to" "[I") (by decide +kernel)) (fun _ h9 => h9) rfl dX2_keepAtMost_67 ?_
        refine lv_iload_n hx hb dX2_keepAtMost_70 rfl (lv_at hl 1 rfl) ?_
        refine lv_bipush (v := xw_i (-16)) hx hb dX2_keepAtMost_71 (by decide) ?_
        obtain ⟨hin, h⟩ := h
        obtain ⟨sto_1, esto_1⟩ : ∃ z : Nat → Int, z = xw_u sto p1 (-16) := ⟨_, rfl⟩
        have h := h sto_1 esto_1
        refine xw_iast (n := 4) hx hb hK hP hD hS 7 6 rfl rfl (by decide) hin esto_1 dX2_keepAtMost_73 (fun H locs hP hD hS => ?_)
        have hP : va_P (dC, dI) vwCl (wd_X2 qS aS0 aS1 aS2 aS3 aS4 aS5 aS6 aS7 aS8 aS9 aS10 qR aR0 aR1 kS0 kS1 kS2 kS3 kS4 kS5 kS6 kS7 kS8 kS9 kS10 kR0 kR1 sid sfo soe sfa sre sle spe spc sfr sto_1 sva sff slf sgf rsz rly rce rst) H := hP
        have hD : va_D A (wd_X2 qS aS0 aS1 aS2 aS3 aS4 aS5 aS6 aS7 aS8 aS9 aS10 qR aR0 aR1 kS0 kS1 kS2 kS3 kS4 kS5 kS6 kS7 kS8 kS9 kS10 kR0 kR1 sid sfo soe sfa sre sle spe spc sfr sto_1 sva sff slf sgf rsz rly rce rst) := hD
        exact hret _ _ _ _ (sfr, sto_1) dX2_keepAtMost_74 h hP hD hK hS
    · have h := h.2 hcd
      refine lv_iload_n hx hb dX2_keepAtMost_34 rfl (lv_at hl 2 rfl) ?_
      refine lv_aload_n hx hb dX2_keepAtMost_35 rfl (lv_at hl 0 rfl) ?_
      refine va_get (D := (dC, dI)) (ci := 2) (v := .ref aS5) (C := RX2) (T := TX2) (N := 15) hx hb hts hwsX20 hown hK hP 0 rfl rfl 6 (by decide) (hts (.fieldLink RX2 33 "BoxProver$Search" "from" "[I") (by decide +kernel)) (fun _ h9 => h9) rfl dX2_keepAtMost_36 ?_
      refine lv_iload_n hx hb dX2_keepAtMost_39 rfl (lv_at hl 1 rfl) ?_
      obtain ⟨hin, h⟩ := h
      refine xw_iald (n := 4) hx hb hK hP 6 5 rfl rfl (by decide) hin dX2_keepAtMost_40 ?_
      refine xw_imul hx hb dX2_keepAtMost_41 ?_
      refine lv_iload_n hx hb dX2_keepAtMost_42 rfl (lv_at hl 3 rfl) ?_
      obtain ⟨hr3, h⟩ := h
      obtain ⟨hr4, h⟩ := h
      refine xw_icmp_le (tgt := 74) hx hb ⟨hr3, hr4⟩ dX2_keepAtMost_43 (by decide) (fun hcd => ?_) (fun hcd => ?_)
      · have h := h.1 hcd
        exact hret _ _ _ _ (sfr, sto) dX2_keepAtMost_74 h hP hD hK hS
      · have h := h.2 hcd
        refine lv_aload_n hx hb dX2_keepAtMost_46 rfl (lv_at hl 0 rfl) ?_
        refine va_get (D := (dC, dI)) (ci := 2) (v := .ref aS5) (C := RX2) (T := TX2) (N := 15) hx hb hts hwsX20 hown hK hP 0 rfl rfl 6 (by decide) (hts (.fieldLink RX2 33 "BoxProver$Search" "from" "[I") (by decide +kernel)) (fun _ h9 => h9) rfl dX2_keepAtMost_47 ?_
        refine lv_iload_n hx hb dX2_keepAtMost_50 rfl (lv_at hl 1 rfl) ?_
        refine lv_iload_n hx hb dX2_keepAtMost_51 rfl (lv_at hl 3 rfl) ?_
        refine lv_iload_n hx hb dX2_keepAtMost_52 rfl (lv_at hl 2 rfl) ?_
        refine xw_ineg hx hb dX2_keepAtMost_53 ?_
        refine xw_backi (wc := []) (wr := [(qS, .inr (2, [.ref qR, .ref aS0, .ref aS1, .ref aS2, .ref aS3, .ref aS4, .ref aS5, .ref aS6, .ref aS7, .ref aS8, .ref aS9, .ref aS10, .int (xw_i sid), .int (xw_i sfo), .int (xw_i soe)])), (aS0, .inl (kS0, 128, .inl (xw_a sfa))), (aS1, .inl (kS1, 160, .inl (xw_a sre))), (aS2, .inl (kS2, 128, .inl (xw_a sle))), (aS3, .inl (kS3, 160, .inl (xw_a spe))), (aS4, .inl (kS4, 5, .inl (xw_a spc))), (aS5, .inl (kS5, 4, .inl (xw_a sfr))), (aS6, .inl (kS6, 4, .inl (xw_a sto))), (aS7, .inl (kS7, 4, .inl (xw_a sva))), (aS8, .inl (kS8, 4, .inl (xw_a sff))), (aS9, .inl (kS9, 4, .inl (xw_a slf))), (aS10, .inl (kS10, 4, .inl (xw_a sgf))), (qR, .inr (1, [.ref aR0, .ref aR1, .int (xw_i rsz), .int (xw_i rly)])), (aR0, .inl (kR0, 96, .inl (xw_a rce))), (aR1, .inl (kR1, 8, .inl (xw_a rst)))]) (va_runS (As := [.int (xw_i p3), .int (xw_i (-p2))]) (rest := [.int (xw_i p1), .ref aS5]) ⟨hx, hb, hml, hown, hts⟩ (c_J9_floorDiv_7cf53 l dC dI s.heap.size p3 (-p2) _ h) (va_cwS 2 hts gX2_keepAtMost_J9_floorDiv_7cf53 rfl rfl rfl (by decide +kernel) ⟨Nat.le_of_ble_eq_true rfl, Nat.le_of_ble_eq_true rfl⟩) (xw_preS hK hP hD [] rfl rfl (by decide) [] rfl) rfl rfl hl.1 rfl (lv_room (Nat.le_of_ble_eq_true rfl)) dX2_keepAtMost_54 ⟨Nat.le_of_ble_eq_true rfl, Nat.le_of_ble_eq_true rfl⟩) hK hP hD hS hA [] [0, 1, 2, 3, 4, 5, 6, 7, 8, 9, 10, 11, 12, 13, 14] rfl rfl (by decide) (by decide) (fun r u H locs h hP hD hK2 hS => ?_)
        try dsimp only at h
        have hP : va_P (dC, dI) vwCl (wd_X2 qS aS0 aS1 aS2 aS3 aS4 aS5 aS6 aS7 aS8 aS9 aS10 qR aR0 aR1 kS0 kS1 kS2 kS3 kS4 kS5 kS6 kS7 kS8 kS9 kS10 kR0 kR1 sid sfo soe sfa sre sle spe spc sfr sto sva sff slf sgf rsz rly rce rst) H := hP
        have hD : va_D A (wd_X2 qS aS0 aS1 aS2 aS3 aS4 aS5 aS6 aS7 aS8 aS9 aS10 qR aR0 aR1 kS0 kS1 kS2 kS3 kS4 kS5 kS6 kS7 kS8 kS9 kS10 kR0 kR1 sid sfo soe sfa sre sle spe spc sfr sto sva sff slf sgf rsz rly rce rst) := hD
        refine xw_ineg hx hb dX2_keepAtMost_57 ?_
        obtain ⟨hin, h⟩ := h
        obtain ⟨sfr_1, esfr_1⟩ : ∃ z : Nat → Int, z = xw_u sfr p1 (-r) := ⟨_, rfl⟩
        have h := h sfr_1 esfr_1
        refine xw_iast (n := 4) hx hb hK hP hD hS 6 5 rfl rfl (by decide) hin esfr_1 dX2_keepAtMost_58 (fun H locs hP hD hS => ?_)
        have hP : va_P (dC, dI) vwCl (wd_X2 qS aS0 aS1 aS2 aS3 aS4 aS5 aS6 aS7 aS8 aS9 aS10 qR aR0 aR1 kS0 kS1 kS2 kS3 kS4 kS5 kS6 kS7 kS8 kS9 kS10 kR0 kR1 sid sfo soe sfa sre sle spe spc sfr_1 sto sva sff slf sgf rsz rly rce rst) H := hP
        have hD : va_D A (wd_X2 qS aS0 aS1 aS2 aS3 aS4 aS5 aS6 aS7 aS8 aS9 aS10 qR aR0 aR1 kS0 kS1 kS2 kS3 kS4 kS5 kS6 kS7 kS8 kS9 kS10 kR0 kR1 sid sfo soe sfa sre sle spe spc sfr_1 sto sva sff slf sgf rsz rly rce rst) := hD
        refine lv_goto (tgt := 74) hx hb dX2_keepAtMost_59 (by decide) ?_
        exact hret _ _ _ _ (sfr_1, sto) dX2_keepAtMost_74 h hP hD hK hS
  · have h := h.2 hcd
    refine lv_iload_n hx hb dX2_keepAtMost_4 rfl (lv_at hl 2 rfl) ?_
    refine lv_aload_n hx hb dX2_keepAtMost_5 rfl (lv_at hl 0 rfl) ?_
    refine va_get (D := (dC, dI)) (ci := 2) (v := .ref aS6) (C := RX2) (T := TX2) (N := 15) hx hb hts hwsX20 hown hK hP 0 rfl rfl 7 (by decide) (hts (.fieldLink RX2 36 "BoxProver$Search" "to" "[I") (by decide +kernel)) (fun _ h9 => h9) rfl dX2_keepAtMost_6 ?_
    refine lv_iload_n hx hb dX2_keepAtMost_9 rfl (lv_at hl 1 rfl) ?_
    obtain ⟨hin, h⟩ := h
    refine xw_iald (n := 4) hx hb hK hP 7 6 rfl rfl (by decide) hin dX2_keepAtMost_10 ?_
    refine xw_imul hx hb dX2_keepAtMost_11 ?_
    refine lv_iload_n hx hb dX2_keepAtMost_12 rfl (lv_at hl 3 rfl) ?_
    obtain ⟨hr5, h⟩ := h
    obtain ⟨hr6, h⟩ := h
    refine xw_icmp_le (tgt := 74) hx hb ⟨hr5, hr6⟩ dX2_keepAtMost_13 (by decide) (fun hcd => ?_) (fun hcd => ?_)
    · have h := h.1 hcd
      exact hret _ _ _ _ (sfr, sto) dX2_keepAtMost_74 h hP hD hK hS
    · have h := h.2 hcd
      refine lv_aload_n hx hb dX2_keepAtMost_16 rfl (lv_at hl 0 rfl) ?_
      refine va_get (D := (dC, dI)) (ci := 2) (v := .ref aS6) (C := RX2) (T := TX2) (N := 15) hx hb hts hwsX20 hown hK hP 0 rfl rfl 7 (by decide) (hts (.fieldLink RX2 36 "BoxProver$Search" "to" "[I") (by decide +kernel)) (fun _ h9 => h9) rfl dX2_keepAtMost_17 ?_
      refine lv_iload_n hx hb dX2_keepAtMost_20 rfl (lv_at hl 1 rfl) ?_
      refine lv_iload_n hx hb dX2_keepAtMost_21 rfl (lv_at hl 3 rfl) ?_
      refine lv_iload_n hx hb dX2_keepAtMost_22 rfl (lv_at hl 2 rfl) ?_
      refine xw_backi (wc := []) (wr := [(qS, .inr (2, [.ref qR, .ref aS0, .ref aS1, .ref aS2, .ref aS3, .ref aS4, .ref aS5, .ref aS6, .ref aS7, .ref aS8, .ref aS9, .ref aS10, .int (xw_i sid), .int (xw_i sfo), .int (xw_i soe)])), (aS0, .inl (kS0, 128, .inl (xw_a sfa))), (aS1, .inl (kS1, 160, .inl (xw_a sre))), (aS2, .inl (kS2, 128, .inl (xw_a sle))), (aS3, .inl (kS3, 160, .inl (xw_a spe))), (aS4, .inl (kS4, 5, .inl (xw_a spc))), (aS5, .inl (kS5, 4, .inl (xw_a sfr))), (aS6, .inl (kS6, 4, .inl (xw_a sto))), (aS7, .inl (kS7, 4, .inl (xw_a sva))), (aS8, .inl (kS8, 4, .inl (xw_a sff))), (aS9, .inl (kS9, 4, .inl (xw_a slf))), (aS10, .inl (kS10, 4, .inl (xw_a sgf))), (qR, .inr (1, [.ref aR0, .ref aR1, .int (xw_i rsz), .int (xw_i rly)])), (aR0, .inl (kR0, 96, .inl (xw_a rce))), (aR1, .inl (kR1, 8, .inl (xw_a rst)))]) (va_runS (As := [.int (xw_i p3), .int (xw_i p2)]) (rest := [.int (xw_i p1), .ref aS6]) ⟨hx, hb, hml, hown, hts⟩ (c_J9_floorDiv_7cf53 l dC dI s.heap.size p3 p2 _ h) (va_cwS 2 hts gX2_keepAtMost_J9_floorDiv_7cf53 rfl rfl rfl (by decide +kernel) ⟨Nat.le_of_ble_eq_true rfl, Nat.le_of_ble_eq_true rfl⟩) (xw_preS hK hP hD [] rfl rfl (by decide) [] rfl) rfl rfl hl.1 rfl (lv_room (Nat.le_of_ble_eq_true rfl)) dX2_keepAtMost_23 ⟨Nat.le_of_ble_eq_true rfl, Nat.le_of_ble_eq_true rfl⟩) hK hP hD hS hA [] [0, 1, 2, 3, 4, 5, 6, 7, 8, 9, 10, 11, 12, 13, 14] rfl rfl (by decide) (by decide) (fun r_1 u H locs h hP hD hK2 hS => ?_)
      try dsimp only at h
      have hP : va_P (dC, dI) vwCl (wd_X2 qS aS0 aS1 aS2 aS3 aS4 aS5 aS6 aS7 aS8 aS9 aS10 qR aR0 aR1 kS0 kS1 kS2 kS3 kS4 kS5 kS6 kS7 kS8 kS9 kS10 kR0 kR1 sid sfo soe sfa sre sle spe spc sfr sto sva sff slf sgf rsz rly rce rst) H := hP
      have hD : va_D A (wd_X2 qS aS0 aS1 aS2 aS3 aS4 aS5 aS6 aS7 aS8 aS9 aS10 qR aR0 aR1 kS0 kS1 kS2 kS3 kS4 kS5 kS6 kS7 kS8 kS9 kS10 kR0 kR1 sid sfo soe sfa sre sle spe spc sfr sto sva sff slf sgf rsz rly rce rst) := hD
      obtain ⟨hin, h⟩ := h
      obtain ⟨sto_2, esto_2⟩ : ∃ z : Nat → Int, z = xw_u sto p1 r_1 := ⟨_, rfl⟩
      have h := h sto_2 esto_2
      refine xw_iast (n := 4) hx hb hK hP hD hS 7 6 rfl rfl (by decide) hin esto_2 dX2_keepAtMost_26 (fun H locs hP hD hS => ?_)
      have hP : va_P (dC, dI) vwCl (wd_X2 qS aS0 aS1 aS2 aS3 aS4 aS5 aS6 aS7 aS8 aS9 aS10 qR aR0 aR1 kS0 kS1 kS2 kS3 kS4 kS5 kS6 kS7 kS8 kS9 kS10 kR0 kR1 sid sfo soe sfa sre sle spe spc sfr sto_2 sva sff slf sgf rsz rly rce rst) H := hP
      have hD : va_D A (wd_X2 qS aS0 aS1 aS2 aS3 aS4 aS5 aS6 aS7 aS8 aS9 aS10 qR aR0 aR1 kS0 kS1 kS2 kS3 kS4 kS5 kS6 kS7 kS8 kS9 kS10 kR0 kR1 sid sfo soe sfa sre sle spe spc sfr sto_2 sva sff slf sgf rsz rly rce rst) := hD
      refine lv_goto (tgt := 74) hx hb dX2_keepAtMost_27 (by decide) ?_
      exact hret _ _ _ _ (sfr, sto_2) dX2_keepAtMost_74 h hP hD hK hS
set_option maxHeartbeats 4000000 in
set_option maxRecDepth 100000 in
theorem c_X2_narrow (l : Launch) (dC : Nat → ClassId) (dI : Nat → Nat → Nat) (qS aS0 aS1 aS2 aS3 aS4 aS5 aS6 aS7 aS8 aS9 aS10 qR aR0 aR1 : Nat) (kS0 kS1 kS2 kS3 kS4 kS5 kS6 kS7 kS8 kS9 kS10 kR0 kR1 : ClassId) (sz : Nat) (sid : Int) (sfo : Int) (soe : Int) (sfa : Nat → Int) (sre : Nat → Int) (sle : Nat → Int) (spe : Nat → Int) (spc : Nat → Int) (sfr : Nat → Int) (sto : Nat → Int) (sva : Nat → Int) (sff : Nat → Int) (slf : Nat → Int) (sgf : Nat → Int) (rsz : Int) (rly : Int) (rce : Nat → Int) (rst : Nat → Int) (p1 : Int) (post : (Nat → Int) → (Nat → Int) → (Nat → Int) → (Nat → Int) → Prop) (h : wp_X2_narrow post sid sfo soe sfa sre sle spe spc sfr sto sva sff slf sgf rsz rly rce rst p1) : Met l yX2_narrow wsX2_narrow ({ frames := 2, cells := 0, slots := 0, locals := 45 }) (va_Pc [.ref qS, .int (xw_i p1)] (xw_Pre (dC, dI) vwCl (wd_X2 qS aS0 aS1 aS2 aS3 aS4 aS5 aS6 aS7 aS8 aS9 aS10 qR aR0 aR1 kS0 kS1 kS2 kS3 kS4 kS5 kS6 kS7 kS8 kS9 kS10 kR0 kR1 sid sfo soe sfa sre sle spe spc sfr sto sva sff slf sgf rsz rly rce rst) [(kS0, .int), (kS1, .int), (kS2, .int), (kS3, .int), (kS4, .int), (kS5, .int), (kS6, .int), (kS7, .int), (kS8, .int), (kS9, .int), (kS10, .int), (kR0, .int), (kR1, .int)] sz)) (va_Qv (fun (u : (Nat → Int) × (Nat → Int) × (Nat → Int) × (Nat → Int)) => post u.1 u.2.1 u.2.2.1 u.2.2.2) (xw_B (dC, dI) vwCl (fun (_ : (Nat → Int) × (Nat → Int) × (Nat → Int) × (Nat → Int)) => [(kS0, .int), (kS1, .int), (kS2, .int), (kS3, .int), (kS4, .int), (kS5, .int), (kS6, .int), (kS7, .int), (kS8, .int), (kS9, .int), (kS10, .int), (kR0, .int), (kR1, .int)]) (va_A (wd_X2 qS aS0 aS1 aS2 aS3 aS4 aS5 aS6 aS7 aS8 aS9 aS10 qR aR0 aR1 kS0 kS1 kS2 kS3 kS4 kS5 kS6 kS7 kS8 kS9 kS10 kR0 kR1 sid sfo soe sfa sre sle spe spc sfr sto sva sff slf sgf rsz rly rce rst) sz) (fun (u : (Nat → Int) × (Nat → Int) × (Nat → Int) × (Nat → Int)) => (wd_X2 qS aS0 aS1 aS2 aS3 aS4 aS5 aS6 aS7 aS8 aS9 aS10 qR aR0 aR1 kS0 kS1 kS2 kS3 kS4 kS5 kS6 kS7 kS8 kS9 kS10 kR0 kR1 sid sfo soe sfa sre sle u.1 u.2.1 u.2.2.1 u.2.2.2 sva sff slf sgf rsz rly rce rst))) (va_A (wd_X2 qS aS0 aS1 aS2 aS3 aS4 aS5 aS6 aS7 aS8 aS9 aS10 qR aR0 aR1 kS0 kS1 kS2 kS3 kS4 kS5 kS6 kS7 kS8 kS9 kS10 kR0 kR1 sid sfo soe sfa sre sle spe spc sfr sto sva sff slf sgf rsz rly rce rst) sz)) 0 0 (va_A (wd_X2 qS aS0 aS1 aS2 aS3 aS4 aS5 aS6 aS7 aS8 aS9 aS10 qR aR0 aR1 kS0 kS1 kS2 kS3 kS4 kS5 kS6 kS7 kS8 kS9 kS10 kR0 kR1 sid sfo soe sfa sre sle spe spc sfr sto sva sff slf sgf rsz rly rce rst) sz) := by
  refine xw_ofV (cc := cX2_narrow) (maxL := 7) (by decide +kernel) rfl (Nat.le_of_ble_eq_true rfl) ?_
  intro p e s m args below meth c hx hb hml hown hts hin A hA hP hD hK Q hret ls hl hS
  have hl : lv_has ls 7 [(0, .ref qS), (1, .int (xw_i p1))] := hl
  have hwsX20 : ∀ w ∈ wsX20, w ∈ wsX2_narrow := fun _ h => List.mem_cons_of_mem _ (List.mem_append_right _ h)
  unfold wp_X2_narrow at h
  refine lv_aload_n hx hb dX2_narrow_0 rfl (lv_at hl 0 rfl) ?_
  refine va_get (D := (dC, dI)) (ci := 2) (v := .ref aS5) (C := RX2) (T := TX2) (N := 15) hx hb hts hwsX20 hown hK hP 0 rfl rfl 6 (by decide) (hts (.fieldLink RX2 33 "BoxProver$Search" "from" "[I") (by decide +kernel)) (fun _ h9 => h9) rfl dX2_narrow_1 ?_
  refine lv_iload_n hx hb dX2_narrow_4 rfl (lv_at hl 1 rfl) ?_
  refine lv_bipush (v := xw_i (-15)) hx hb dX2_narrow_5 (by decide) ?_
  obtain ⟨hin, h⟩ := h
  obtain ⟨sfr_1, esfr_1⟩ : ∃ z : Nat → Int, z = xw_u sfr p1 (-15) := ⟨_, rfl⟩
  have h := h sfr_1 esfr_1
  refine xw_iast (n := 4) hx hb hK hP hD hS 6 5 rfl rfl (by decide) hin esfr_1 dX2_narrow_7 (fun H locs hP hD hS => ?_)
  have hP : va_P (dC, dI) vwCl (wd_X2 qS aS0 aS1 aS2 aS3 aS4 aS5 aS6 aS7 aS8 aS9 aS10 qR aR0 aR1 kS0 kS1 kS2 kS3 kS4 kS5 kS6 kS7 kS8 kS9 kS10 kR0 kR1 sid sfo soe sfa sre sle spe spc sfr_1 sto sva sff slf sgf rsz rly rce rst) H := hP
  have hD : va_D A (wd_X2 qS aS0 aS1 aS2 aS3 aS4 aS5 aS6 aS7 aS8 aS9 aS10 qR aR0 aR1 kS0 kS1 kS2 kS3 kS4 kS5 kS6 kS7 kS8 kS9 kS10 kR0 kR1 sid sfo soe sfa sre sle spe spc sfr_1 sto sva sff slf sgf rsz rly rce rst) := hD
  refine lv_aload_n hx hb dX2_narrow_8 rfl (lv_at hl 0 rfl) ?_
  refine va_get (D := (dC, dI)) (ci := 2) (v := .ref aS6) (C := RX2) (T := TX2) (N := 15) hx hb hts hwsX20 hown hK hP 0 rfl rfl 7 (by decide) (hts (.fieldLink RX2 36 "BoxProver$Search" "to" "[I") (by decide +kernel)) (fun _ h9 => h9) rfl dX2_narrow_9 ?_
  refine lv_iload_n hx hb dX2_narrow_12 rfl (lv_at hl 1 rfl) ?_
  refine lv_bipush (v := xw_i 15) hx hb dX2_narrow_13 (by decide) ?_
  obtain ⟨hin, h⟩ := h
  obtain ⟨sto_1, esto_1⟩ : ∃ z : Nat → Int, z = xw_u sto p1 15 := ⟨_, rfl⟩
  have h := h sto_1 esto_1
  refine xw_iast (n := 4) hx hb hK hP hD hS 7 6 rfl rfl (by decide) hin esto_1 dX2_narrow_15 (fun H locs hP hD hS => ?_)
  have hP : va_P (dC, dI) vwCl (wd_X2 qS aS0 aS1 aS2 aS3 aS4 aS5 aS6 aS7 aS8 aS9 aS10 qR aR0 aR1 kS0 kS1 kS2 kS3 kS4 kS5 kS6 kS7 kS8 kS9 kS10 kR0 kR1 sid sfo soe sfa sre sle spe spc sfr_1 sto_1 sva sff slf sgf rsz rly rce rst) H := hP
  have hD : va_D A (wd_X2 qS aS0 aS1 aS2 aS3 aS4 aS5 aS6 aS7 aS8 aS9 aS10 qR aR0 aR1 kS0 kS1 kS2 kS3 kS4 kS5 kS6 kS7 kS8 kS9 kS10 kR0 kR1 sid sfo soe sfa sre sle spe spc sfr_1 sto_1 sva sff slf sgf rsz rly rce rst) := hD
  refine lv_aload_n hx hb dX2_narrow_16 rfl (lv_at hl 0 rfl) ?_
  refine va_get (D := (dC, dI)) (ci := 2) (v := .ref aS4) (C := RX2) (T := TX2) (N := 15) hx hb hts hwsX20 hown hK hP 0 rfl rfl 5 (by decide) (hts (.fieldLink RX2 30 "BoxProver$Search" "pendingCount" "[I") (by decide +kernel)) (fun _ h9 => h9) rfl dX2_narrow_17 ?_
  refine lv_iload_n hx hb dX2_narrow_20 rfl (lv_at hl 1 rfl) ?_
  obtain ⟨hin, h⟩ := h
  refine xw_iald (n := 5) hx hb hK hP 5 4 rfl rfl (by decide) hin dX2_narrow_21 ?_
  refine xw_topi (fun x2 ex2 => ?_)
  have h := h x2 ex2
  refine lv_istore_n (lv' := [(2, .int (xw_i x2)), (0, .ref qS), (1, .int (xw_i p1))]) hx hb dX2_narrow_22 rfl hl (by decide) rfl (fun ls hl => ?_)
  refine lv_iconst (v := xw_i 0) hx hb dX2_narrow_23 (by decide) ?_
  refine lv_istore_n (lv' := [(3, .int (xw_i 0)), (2, .int (xw_i x2)), (0, .ref qS), (1, .int (xw_i p1))]) hx hb dX2_narrow_24 rfl hl (by decide) rfl (fun ls hl => ?_)
  refine lv_iconst (v := xw_i 0) hx hb dX2_narrow_25 (by decide) ?_
  refine lv_istore (lv' := [(4, .int (xw_i 0)), (3, .int (xw_i 0)), (2, .int (xw_i x2)), (0, .ref qS), (1, .int (xw_i p1))]) hx hb dX2_narrow_26 hl (by decide) rfl (fun ls hl => ?_)
  have k_28 : ∀ (n_28 : Nat) (spe_1 : Nat → Int) (spc_1 : Nat → Int) (sfr_2 : Nat → Int) (sto_2 : Nat → Int) (x4 : Int) (x3 : Int) (H : Heap) (locs : List Loc) (ls : Array Slot), wp_X2_narrow_28 p1 sid sfo soe sfa sre sle sva sff slf sgf rsz rly rce rst post x2 n_28 spe_1 spc_1 sfr_2 sto_2 x4 x3 → va_P (dC, dI) vwCl (wd_X2 qS aS0 aS1 aS2 aS3 aS4 aS5 aS6 aS7 aS8 aS9 aS10 qR aR0 aR1 kS0 kS1 kS2 kS3 kS4 kS5 kS6 kS7 kS8 kS9 kS10 kR0 kR1 sid sfo soe sfa sre sle spe_1 spc_1 sfr_2 sto_2 sva sff slf sgf rsz rly rce rst) H → va_D A (wd_X2 qS aS0 aS1 aS2 aS3 aS4 aS5 aS6 aS7 aS8 aS9 aS10 qR aR0 aR1 kS0 kS1 kS2 kS3 kS4 kS5 kS6 kS7 kS8 kS9 kS10 kR0 kR1 sid sfo soe sfa sre sle spe_1 spc_1 sfr_2 sto_2 sva sff slf sgf rsz rly rce rst) → va_S A s.heap H locs → lv_has ls 7 [(4, .int (xw_i x4)), (3, .int (xw_i x3)), (2, .int (xw_i x2)), (0, .ref qS), (1, .int (xw_i p1))] → W p l e ({ frames := 2, cells := 0, slots := 0, locals := 45 } : Room) s m args below meth c H locs 0 0 Q (F0 m 28 ls []) := by
    intro n_28
    induction n_28 with
    | zero => intro spe_1 spc_1 sfr_2 sto_2 x4 x3 H locs ls h; exact False.elim h
    | succ n_28 ih_28 =>
      intro spe_1 spc_1 sfr_2 sto_2 x4 x3 H locs ls h hP hD hS hl
      have h : wl_X2_narrow_28 p1 sid sfo soe sfa sre sle sva sff slf sgf rsz rly rce rst post x2 (wp_X2_narrow_28 p1 sid sfo soe sfa sre sle sva sff slf sgf rsz rly rce rst post x2 n_28) spe_1 spc_1 sfr_2 sto_2 x4 x3 := h
      unfold wl_X2_narrow_28 at h
      refine lv_iload hx hb dX2_narrow_28 (lv_at hl 0 rfl) ?_
      refine lv_iload_n hx hb dX2_narrow_30 rfl (lv_at hl 2 rfl) ?_
      obtain ⟨hr1, h⟩ := h
      obtain ⟨hr2, h⟩ := h
      refine xw_icmp_ge (tgt := 143) hx hb ⟨hr1, hr2⟩ dX2_narrow_31 (by decide) (fun hcd => ?_) (fun hcd => ?_)
      · have h := h.1 hcd
        refine lv_aload_n hx hb dX2_narrow_143 rfl (lv_at hl 3 rfl) ?_
        refine va_get (D := (dC, dI)) (ci := 2) (v := .ref aS4) (C := RX2) (T := TX2) (N := 15) hx hb hts hwsX20 hown hK hP 0 rfl rfl 5 (by decide) (hts (.fieldLink RX2 30 "BoxProver$Search" "pendingCount" "[I") (by decide +kernel)) (fun _ h9 => h9) rfl dX2_narrow_144 ?_
        refine lv_iload_n hx hb dX2_narrow_147 rfl (lv_at hl 4 rfl) ?_
        refine lv_iconst (v := xw_i 1) hx hb dX2_narrow_148 (by decide) ?_
        refine xw_iadd hx hb dX2_narrow_149 ?_
        refine lv_iload_n hx hb dX2_narrow_150 rfl (lv_at hl 1 rfl) ?_
        obtain ⟨hin, h⟩ := h
        obtain ⟨spc_2, espc_2⟩ : ∃ z : Nat → Int, z = xw_u spc_1 (p1 + 1) x3 := ⟨_, rfl⟩
        have h := h spc_2 espc_2
        refine xw_iast (n := 5) hx hb hK hP hD hS 5 4 rfl rfl (by decide) hin espc_2 dX2_narrow_151 (fun H locs hP hD hS => ?_)
        have hP : va_P (dC, dI) vwCl (wd_X2 qS aS0 aS1 aS2 aS3 aS4 aS5 aS6 aS7 aS8 aS9 aS10 qR aR0 aR1 kS0 kS1 kS2 kS3 kS4 kS5 kS6 kS7 kS8 kS9 kS10 kR0 kR1 sid sfo soe sfa sre sle spe_1 spc_2 sfr_2 sto_2 sva sff slf sgf rsz rly rce rst) H := hP
        have hD : va_D A (wd_X2 qS aS0 aS1 aS2 aS3 aS4 aS5 aS6 aS7 aS8 aS9 aS10 qR aR0 aR1 kS0 kS1 kS2 kS3 kS4 kS5 kS6 kS7 kS8 kS9 kS10 kR0 kR1 sid sfo soe sfa sre sle spe_1 spc_2 sfr_2 sto_2 sva sff slf sgf rsz rly rce rst) := hD
        exact hret _ _ _ _ (spe_1, spc_2, sfr_2, sto_2) dX2_narrow_152 h hP hD hK hS
      · have h := h.2 hcd
        refine lv_aload_n hx hb dX2_narrow_34 rfl (lv_at hl 3 rfl) ?_
        refine va_get (D := (dC, dI)) (ci := 2) (v := .ref aS5) (C := RX2) (T := TX2) (N := 15) hx hb hts hwsX20 hown hK hP 0 rfl rfl 6 (by decide) (hts (.fieldLink RX2 33 "BoxProver$Search" "from" "[I") (by decide +kernel)) (fun _ h9 => h9) rfl dX2_narrow_35 ?_
        refine lv_iload_n hx hb dX2_narrow_38 rfl (lv_at hl 4 rfl) ?_
        obtain ⟨hin, h⟩ := h
        refine xw_iald (n := 4) hx hb hK hP 6 5 rfl rfl (by decide) hin dX2_narrow_39 ?_
        refine lv_aload_n hx hb dX2_narrow_40 rfl (lv_at hl 3 rfl) ?_
        refine va_get (D := (dC, dI)) (ci := 2) (v := .ref aS6) (C := RX2) (T := TX2) (N := 15) hx hb hts hwsX20 hown hK hP 0 rfl rfl 7 (by decide) (hts (.fieldLink RX2 36 "BoxProver$Search" "to" "[I") (by decide +kernel)) (fun _ h9 => h9) rfl dX2_narrow_41 ?_
        refine lv_iload_n hx hb dX2_narrow_44 rfl (lv_at hl 4 rfl) ?_
        obtain ⟨hin, h⟩ := h
        refine xw_iald (n := 4) hx hb hK hP 7 6 rfl rfl (by decide) hin dX2_narrow_45 ?_
        obtain ⟨hr3, h⟩ := h
        obtain ⟨hr4, h⟩ := h
        refine xw_icmp_gt (tgt := 143) hx hb ⟨hr3, hr4⟩ dX2_narrow_46 (by decide) (fun hcd => ?_) (fun hcd => ?_)
        · have h := h.1 hcd
          refine lv_aload_n hx hb dX2_narrow_143 rfl (lv_at hl 3 rfl) ?_
          refine va_get (D := (dC, dI)) (ci := 2) (v := .ref aS4) (C := RX2) (T := TX2) (N := 15) hx hb hts hwsX20 hown hK hP 0 rfl rfl 5 (by decide) (hts (.fieldLink RX2 30 "BoxProver$Search" "pendingCount" "[I") (by decide +kernel)) (fun _ h9 => h9) rfl dX2_narrow_144 ?_
          refine lv_iload_n hx hb dX2_narrow_147 rfl (lv_at hl 4 rfl) ?_
          refine lv_iconst (v := xw_i 1) hx hb dX2_narrow_148 (by decide) ?_
          refine xw_iadd hx hb dX2_narrow_149 ?_
          refine lv_iload_n hx hb dX2_narrow_150 rfl (lv_at hl 1 rfl) ?_
          obtain ⟨hin, h⟩ := h
          obtain ⟨spc_3, espc_3⟩ : ∃ z : Nat → Int, z = xw_u spc_1 (p1 + 1) x3 := ⟨_, rfl⟩
          have h := h spc_3 espc_3
          refine xw_iast (n := 5) hx hb hK hP hD hS 5 4 rfl rfl (by decide) hin espc_3 dX2_narrow_151 (fun H locs hP hD hS => ?_)
          have hP : va_P (dC, dI) vwCl (wd_X2 qS aS0 aS1 aS2 aS3 aS4 aS5 aS6 aS7 aS8 aS9 aS10 qR aR0 aR1 kS0 kS1 kS2 kS3 kS4 kS5 kS6 kS7 kS8 kS9 kS10 kR0 kR1 sid sfo soe sfa sre sle spe_1 spc_3 sfr_2 sto_2 sva sff slf sgf rsz rly rce rst) H := hP
          have hD : va_D A (wd_X2 qS aS0 aS1 aS2 aS3 aS4 aS5 aS6 aS7 aS8 aS9 aS10 qR aR0 aR1 kS0 kS1 kS2 kS3 kS4 kS5 kS6 kS7 kS8 kS9 kS10 kR0 kR1 sid sfo soe sfa sre sle spe_1 spc_3 sfr_2 sto_2 sva sff slf sgf rsz rly rce rst) := hD
          exact hret _ _ _ _ (spe_1, spc_3, sfr_2, sto_2) dX2_narrow_152 h hP hD hK hS
        · have h := h.2 hcd
          refine lv_aload_n hx hb dX2_narrow_49 rfl (lv_at hl 3 rfl) ?_
          refine va_get (D := (dC, dI)) (ci := 2) (v := .ref aS3) (C := RX2) (T := TX2) (N := 15) hx hb hts hwsX20 hown hK hP 0 rfl rfl 4 (by decide) (hts (.fieldLink RX2 27 "BoxProver$Search" "pending" "[I") (by decide +kernel)) (fun _ h9 => h9) rfl dX2_narrow_50 ?_
          refine lv_iload_n hx hb dX2_narrow_53 rfl (lv_at hl 4 rfl) ?_
          refine lv_bipush (v := xw_i 32) hx hb dX2_narrow_54 (by decide) ?_
          refine xw_imul hx hb dX2_narrow_56 ?_
          refine lv_iload hx hb dX2_narrow_57 (lv_at hl 0 rfl) ?_
          refine xw_iadd hx hb dX2_narrow_59 ?_
          obtain ⟨hin, h⟩ := h
          refine xw_iald (n := 160) hx hb hK hP 4 3 rfl rfl (by decide) hin dX2_narrow_60 ?_
          refine xw_topi (fun x5 ex5 => ?_)
          have h := h x5 ex5
          refine lv_istore (lv' := [(5, .int (xw_i x5)), (4, .int (xw_i x4)), (3, .int (xw_i x3)), (2, .int (xw_i x2)), (0, .ref qS), (1, .int (xw_i p1))]) hx hb dX2_narrow_61 hl (by decide) rfl (fun ls hl => ?_)
          refine lv_iload_n hx hb dX2_narrow_63 rfl (lv_at hl 5 rfl) ?_
          refine lv_bipush (v := xw_i 32) hx hb dX2_narrow_64 (by decide) ?_
          refine xw_imul hx hb dX2_narrow_66 ?_
          refine lv_iload hx hb dX2_narrow_67 (lv_at hl 0 rfl) ?_
          refine xw_iadd hx hb dX2_narrow_69 ?_
          refine xw_topi (fun x6 ex6 => ?_)
          have h := h x6 ex6
          refine lv_istore (lv' := [(6, .int (xw_i x6)), (5, .int (xw_i x5)), (4, .int (xw_i x4)), (3, .int (xw_i x3)), (2, .int (xw_i x2)), (0, .ref qS), (1, .int (xw_i p1))]) hx hb dX2_narrow_70 hl (by decide) rfl (fun ls hl => ?_)
          refine lv_aload_n hx hb dX2_narrow_72 rfl (lv_at hl 5 rfl) ?_
          refine va_get (D := (dC, dI)) (ci := 2) (v := .ref aS1) (C := RX2) (T := TX2) (N := 15) hx hb hts hwsX20 hown hK hP 0 rfl rfl 2 (by decide) (hts (.fieldLink RX2 21 "BoxProver$Search" "reach" "[I") (by decide +kernel)) (fun _ h9 => h9) rfl dX2_narrow_73 ?_
          refine lv_iload hx hb dX2_narrow_76 (lv_at hl 0 rfl) ?_
          obtain ⟨hin, h⟩ := h
          refine xw_iald (n := 160) hx hb hK hP 2 1 rfl rfl (by decide) hin dX2_narrow_78 ?_
          refine lv_aload_n hx hb dX2_narrow_79 rfl (lv_at hl 5 rfl) ?_
          refine va_get (D := (dC, dI)) (ci := 2) (v := .ref aS2) (C := RX2) (T := TX2) (N := 15) hx hb hts hwsX20 hown hK hP 0 rfl rfl 3 (by decide) (hts (.fieldLink RX2 24 "BoxProver$Search" "left" "[I") (by decide +kernel)) (fun _ h9 => h9) rfl dX2_narrow_80 ?_
          refine lv_iload hx hb dX2_narrow_83 (lv_at hl 0 rfl) ?_
          obtain ⟨hin, h⟩ := h
          refine xw_iald (n := 128) hx hb hK hP 3 2 rfl rfl (by decide) hin dX2_narrow_85 ?_
          have k_137 : ∀ (spe_2 : Nat → Int) (spc_4 : Nat → Int) (sfr_3 : Nat → Int) (sto_3 : Nat → Int) (x4_1 : Int) (x3_1 : Int) (H : Heap) (locs : List Loc) (ls : Array Slot), wp_X2_narrow_137 (wp_X2_narrow_28 p1 sid sfo soe sfa sre sle sva sff slf sgf rsz rly rce rst post x2 n_28) spe_2 spc_4 sfr_3 sto_3 x4_1 x3_1 → va_P (dC, dI) vwCl (wd_X2 qS aS0 aS1 aS2 aS3 aS4 aS5 aS6 aS7 aS8 aS9 aS10 qR aR0 aR1 kS0 kS1 kS2 kS3 kS4 kS5 kS6 kS7 kS8 kS9 kS10 kR0 kR1 sid sfo soe sfa sre sle spe_2 spc_4 sfr_3 sto_3 sva sff slf sgf rsz rly rce rst) H → va_D A (wd_X2 qS aS0 aS1 aS2 aS3 aS4 aS5 aS6 aS7 aS8 aS9 aS10 qR aR0 aR1 kS0 kS1 kS2 kS3 kS4 kS5 kS6 kS7 kS8 kS9 kS10 kR0 kR1 sid sfo soe sfa sre sle spe_2 spc_4 sfr_3 sto_3 sva sff slf sgf rsz rly rce rst) → va_S A s.heap H locs → lv_has ls 7 [(4, .int (xw_i x4_1)), (3, .int (xw_i x3_1)), (2, .int (xw_i x2)), (0, .ref qS), (1, .int (xw_i p1))] → W p l e ({ frames := 2, cells := 0, slots := 0, locals := 45 } : Room) s m args below meth c H locs 0 0 Q (F0 m 137 ls []) := by
            intro spe_2 spc_4 sfr_3 sto_3 x4_1 x3_1 H locs ls h hP hD hS hl
            unfold wp_X2_narrow_137 at h
            obtain ⟨x4_2, ex4_2⟩ : ∃ y : Int, y = x4_1 + 1 := ⟨_, rfl⟩
            have h := h x4_2 ex4_2
            refine lv_iinc (v := xw_i x4_2) (lv' := [(4, .int (xw_i x4_2)), (3, .int (xw_i x3_1)), (2, .int (xw_i x2)), (0, .ref qS), (1, .int (xw_i p1))]) hx hb dX2_narrow_137 hl (k := 0) rfl (xw_inc ex4_2) (by decide) rfl (fun ls hl => ?_)
            refine lv_goto (tgt := 28) hx hb dX2_narrow_140 (by decide) ?_
            exact ih_28 spe_2 spc_4 sfr_3 sto_3 x4_2 x3_1 _ _ _ h hP hD hS (lv_sub hl [0, 1, 2, 3, 4] rfl)
          obtain ⟨hr5, h⟩ := h
          obtain ⟨hr6, h⟩ := h
          refine xw_icmp_le (tgt := 137) hx hb ⟨hr5, hr6⟩ dX2_narrow_86 (by decide) (fun hcd => ?_) (fun hcd => ?_)
          · have h := h.1 hcd
            exact k_137 spe_1 spc_1 sfr_2 sto_2 x4 x3 _ _ _ h hP hD hS (lv_sub hl [2, 3, 4, 5, 6] rfl)
          · have h := h.2 hcd
            refine lv_aload_n hx hb dX2_narrow_89 rfl (lv_at hl 5 rfl) ?_
            refine lv_iload_n hx hb dX2_narrow_90 rfl (lv_at hl 6 rfl) ?_
            refine lv_aload_n hx hb dX2_narrow_91 rfl (lv_at hl 5 rfl) ?_
            refine va_get (D := (dC, dI)) (ci := 2) (v := .ref aS0) (C := RX2) (T := TX2) (N := 15) hx hb hts hwsX20 hown hK hP 0 rfl rfl 1 (by decide) (hts (.fieldLink RX2 17 "BoxProver$Search" "factor" "[I") (by decide +kernel)) (fun _ h9 => h9) rfl dX2_narrow_92 ?_
            refine lv_iload hx hb dX2_narrow_95 (lv_at hl 0 rfl) ?_
            obtain ⟨hin, h⟩ := h
            refine xw_iald (n := 128) hx hb hK hP 1 0 rfl rfl (by decide) hin dX2_narrow_97 ?_
            refine lv_aload_n hx hb dX2_narrow_98 rfl (lv_at hl 5 rfl) ?_
            refine va_get (D := (dC, dI)) (ci := 2) (v := .ref aS2) (C := RX2) (T := TX2) (N := 15) hx hb hts hwsX20 hown hK hP 0 rfl rfl 3 (by decide) (hts (.fieldLink RX2 24 "BoxProver$Search" "left" "[I") (by decide +kernel)) (fun _ h9 => h9) rfl dX2_narrow_99 ?_
            refine lv_iload hx hb dX2_narrow_102 (lv_at hl 0 rfl) ?_
            obtain ⟨hin, h⟩ := h
            refine xw_iald (n := 128) hx hb hK hP 3 2 rfl rfl (by decide) hin dX2_narrow_104 ?_
            refine lv_aload_n hx hb dX2_narrow_105 rfl (lv_at hl 5 rfl) ?_
            refine va_get (D := (dC, dI)) (ci := 2) (v := .ref aS1) (C := RX2) (T := TX2) (N := 15) hx hb hts hwsX20 hown hK hP 0 rfl rfl 2 (by decide) (hts (.fieldLink RX2 21 "BoxProver$Search" "reach" "[I") (by decide +kernel)) (fun _ h9 => h9) rfl dX2_narrow_106 ?_
            refine lv_iload hx hb dX2_narrow_109 (lv_at hl 0 rfl) ?_
            refine lv_bipush (v := xw_i 32) hx hb dX2_narrow_111 (by decide) ?_
            refine xw_iadd hx hb dX2_narrow_113 ?_
            obtain ⟨hin, h⟩ := h
            refine xw_iald (n := 160) hx hb hK hP 2 1 rfl rfl (by decide) hin dX2_narrow_114 ?_
            refine xw_iadd hx hb dX2_narrow_115 ?_
            refine xw_backv (wc := (wd_X2 qS aS0 aS1 aS2 aS3 aS4 aS5 aS6 aS7 aS8 aS9 aS10 qR aR0 aR1 kS0 kS1 kS2 kS3 kS4 kS5 kS6 kS7 kS8 kS9 kS10 kR0 kR1 sid sfo soe sfa sre sle spe_1 spc_1 sfr_2 sto_2 sva sff slf sgf rsz rly rce rst)) (wr := []) (va_runV (As := [.int (xw_i p1), .int (xw_i (sfa x6.toNat)), .int (xw_i ((sle x6.toNat) + (sre (x6 + 32).toNat)))]) (rest := []) ⟨hx, hb, hml, hown, hts⟩ (c_X2_keepAtMost l dC dI qS aS0 aS1 aS2 aS3 aS4 aS5 aS6 aS7 aS8 aS9 aS10 qR aR0 aR1 kS0 kS1 kS2 kS3 kS4 kS5 kS6 kS7 kS8 kS9 kS10 kR0 kR1 H.size sid sfo soe sfa sre sle spe_1 spc_1 sfr_2 sto_2 sva sff slf sgf rsz rly rce rst p1 (sfa x6.toNat) ((sle x6.toNat) + (sre (x6 + 32).toNat)) _ h) (cwV 3 hts gX2_narrow_X2_keepAtMost rfl rfl rfl (by decide +kernel) ⟨Nat.le_of_ble_eq_true rfl, Nat.le_of_ble_eq_true rfl⟩) (xw_preV (ci := 2) hK hP hD [0, 1, 2, 3, 4, 5, 6, 7, 8, 9, 10, 11, 12, 13, 14] rfl rfl (by decide) [0, 1, 2, 3, 4, 5, 6, 7, 8, 9, 10, 11, 12] rfl rfl rfl) rfl rfl hl.1 rfl (lv_room (Nat.le_of_ble_eq_true rfl)) dX2_narrow_116 ⟨Nat.le_of_ble_eq_true rfl, Nat.le_of_ble_eq_true rfl⟩) hK hP hD hS hA [0, 1, 2, 3, 4, 5, 6, 7, 8, 9, 10, 11, 12, 13, 14] [] rfl rfl (by decide) (by decide) (fun u H locs h hP hD hK2 hS => ?_)
            obtain ⟨sfr_4, sto_4⟩ := u
            try dsimp only at h
            have hP : va_P (dC, dI) vwCl (wd_X2 qS aS0 aS1 aS2 aS3 aS4 aS5 aS6 aS7 aS8 aS9 aS10 qR aR0 aR1 kS0 kS1 kS2 kS3 kS4 kS5 kS6 kS7 kS8 kS9 kS10 kR0 kR1 sid sfo soe sfa sre sle spe_1 spc_1 sfr_4 sto_4 sva sff slf sgf rsz rly rce rst) H := hP
            have hD : va_D A (wd_X2 qS aS0 aS1 aS2 aS3 aS4 aS5 aS6 aS7 aS8 aS9 aS10 qR aR0 aR1 kS0 kS1 kS2 kS3 kS4 kS5 kS6 kS7 kS8 kS9 kS10 kR0 kR1 sid sfo soe sfa sre sle spe_1 spc_1 sfr_4 sto_4 sva sff slf sgf rsz rly rce rst) := hD
            refine lv_aload_n hx hb dX2_narrow_119 rfl (lv_at hl 5 rfl) ?_
            refine va_get (D := (dC, dI)) (ci := 2) (v := .ref aS3) (C := RX2) (T := TX2) (N := 15) hx hb hts hwsX20 hown hK hP 0 rfl rfl 4 (by decide) (hts (.fieldLink RX2 27 "BoxProver$Search" "pending" "[I") (by decide +kernel)) (fun _ h9 => h9) rfl dX2_narrow_120 ?_
            refine lv_iload_n hx hb dX2_narrow_123 rfl (lv_at hl 6 rfl) ?_
            refine lv_iconst (v := xw_i 1) hx hb dX2_narrow_124 (by decide) ?_
            refine xw_iadd hx hb dX2_narrow_125 ?_
            refine lv_bipush (v := xw_i 32) hx hb dX2_narrow_126 (by decide) ?_
            refine xw_imul hx hb dX2_narrow_128 ?_
            refine lv_iload_n hx hb dX2_narrow_129 rfl (lv_at hl 3 rfl) ?_
            refine xw_iadd hx hb dX2_narrow_130 ?_
            refine lv_iload hx hb dX2_narrow_131 (lv_at hl 1 rfl) ?_
            obtain ⟨hin, h⟩ := h
            obtain ⟨spe_3, espe_3⟩ : ∃ z : Nat → Int, z = xw_u spe_1 (((p1 + 1) * 32) + x3) x5 := ⟨_, rfl⟩
            have h := h spe_3 espe_3
            refine xw_iast (n := 160) hx hb hK hP hD hS 4 3 rfl rfl (by decide) hin espe_3 dX2_narrow_133 (fun H locs hP hD hS => ?_)
            have hP : va_P (dC, dI) vwCl (wd_X2 qS aS0 aS1 aS2 aS3 aS4 aS5 aS6 aS7 aS8 aS9 aS10 qR aR0 aR1 kS0 kS1 kS2 kS3 kS4 kS5 kS6 kS7 kS8 kS9 kS10 kR0 kR1 sid sfo soe sfa sre sle spe_3 spc_1 sfr_4 sto_4 sva sff slf sgf rsz rly rce rst) H := hP
            have hD : va_D A (wd_X2 qS aS0 aS1 aS2 aS3 aS4 aS5 aS6 aS7 aS8 aS9 aS10 qR aR0 aR1 kS0 kS1 kS2 kS3 kS4 kS5 kS6 kS7 kS8 kS9 kS10 kR0 kR1 sid sfo soe sfa sre sle spe_3 spc_1 sfr_4 sto_4 sva sff slf sgf rsz rly rce rst) := hD
            obtain ⟨x3_2, ex3_2⟩ : ∃ y : Int, y = x3 + 1 := ⟨_, rfl⟩
            have h := h x3_2 ex3_2
            refine lv_iinc (v := xw_i x3_2) (lv' := [(3, .int (xw_i x3_2)), (6, .int (xw_i x6)), (5, .int (xw_i x5)), (4, .int (xw_i x4)), (2, .int (xw_i x2)), (0, .ref qS), (1, .int (xw_i p1))]) hx hb dX2_narrow_134 hl (k := 3) rfl (xw_inc ex3_2) (by decide) rfl (fun ls hl => ?_)
            exact k_137 spe_3 spc_1 sfr_4 sto_4 x4 x3_2 _ _ _ h hP hD hS (lv_sub hl [3, 0, 4, 5, 6] rfl)
  obtain ⟨fu, h⟩ := h
  exact k_28 fu spe spc sfr_1 sto_1 0 0 _ _ _ h hP hD hS (lv_sub hl [0, 1, 2, 3, 4] rfl)
set_option maxHeartbeats 4000000 in
set_option maxRecDepth 100000 in
theorem c_X2_setWord (l : Launch) (dC : Nat → ClassId) (dI : Nat → Nat → Nat) (qS aS0 aS1 aS2 aS3 aS4 aS5 aS6 aS7 aS8 aS9 aS10 qR aR0 aR1 : Nat) (kS0 kS1 kS2 kS3 kS4 kS5 kS6 kS7 kS8 kS9 kS10 kR0 kR1 : ClassId) (sz : Nat) (sid : Int) (sfo : Int) (soe : Int) (sfa : Nat → Int) (sre : Nat → Int) (sle : Nat → Int) (spe : Nat → Int) (spc : Nat → Int) (sfr : Nat → Int) (sto : Nat → Int) (sva : Nat → Int) (sff : Nat → Int) (slf : Nat → Int) (sgf : Nat → Int) (rsz : Int) (rly : Int) (rce : Nat → Int) (rst : Nat → Int) (p1 : Int) (p2 : Int) (post : (Nat → Int) → (Nat → Int) → Prop) (h : wp_X2_setWord post sid sfo soe sfa sre sle spe spc sfr sto sva sff slf sgf rsz rly rce rst p1 p2) : Met l yX2_setWord wsX2_setWord ({ frames := 0, cells := 0, slots := 0, locals := 0 }) (va_Pc [.ref qS, .int (xw_i p1), .int (xw_i p2)] (xw_Pre (dC, dI) vwCl (wd_X2 qS aS0 aS1 aS2 aS3 aS4 aS5 aS6 aS7 aS8 aS9 aS10 qR aR0 aR1 kS0 kS1 kS2 kS3 kS4 kS5 kS6 kS7 kS8 kS9 kS10 kR0 kR1 sid sfo soe sfa sre sle spe spc sfr sto sva sff slf sgf rsz rly rce rst) [(kS0, .int), (kS1, .int), (kS2, .int), (kS3, .int), (kS4, .int), (kS5, .int), (kS6, .int), (kS7, .int), (kS8, .int), (kS9, .int), (kS10, .int), (kR0, .int), (kR1, .int)] sz)) (va_Qv (fun (u : (Nat → Int) × (Nat → Int)) => post u.1 u.2) (xw_B (dC, dI) vwCl (fun (_ : (Nat → Int) × (Nat → Int)) => [(kS0, .int), (kS1, .int), (kS2, .int), (kS3, .int), (kS4, .int), (kS5, .int), (kS6, .int), (kS7, .int), (kS8, .int), (kS9, .int), (kS10, .int), (kR0, .int), (kR1, .int)]) (va_A (wd_X2 qS aS0 aS1 aS2 aS3 aS4 aS5 aS6 aS7 aS8 aS9 aS10 qR aR0 aR1 kS0 kS1 kS2 kS3 kS4 kS5 kS6 kS7 kS8 kS9 kS10 kR0 kR1 sid sfo soe sfa sre sle spe spc sfr sto sva sff slf sgf rsz rly rce rst) sz) (fun (u : (Nat → Int) × (Nat → Int)) => (wd_X2 qS aS0 aS1 aS2 aS3 aS4 aS5 aS6 aS7 aS8 aS9 aS10 qR aR0 aR1 kS0 kS1 kS2 kS3 kS4 kS5 kS6 kS7 kS8 kS9 kS10 kR0 kR1 sid sfo soe sfa sre u.1 spe spc sfr sto u.2 sff slf sgf rsz rly rce rst))) (va_A (wd_X2 qS aS0 aS1 aS2 aS3 aS4 aS5 aS6 aS7 aS8 aS9 aS10 qR aR0 aR1 kS0 kS1 kS2 kS3 kS4 kS5 kS6 kS7 kS8 kS9 kS10 kR0 kR1 sid sfo soe sfa sre sle spe spc sfr sto sva sff slf sgf rsz rly rce rst) sz)) 0 0 (va_A (wd_X2 qS aS0 aS1 aS2 aS3 aS4 aS5 aS6 aS7 aS8 aS9 aS10 qR aR0 aR1 kS0 kS1 kS2 kS3 kS4 kS5 kS6 kS7 kS8 kS9 kS10 kR0 kR1 sid sfo soe sfa sre sle spe spc sfr sto sva sff slf sgf rsz rly rce rst) sz) := by
  refine xw_ofV (cc := cX2_setWord) (maxL := 6) (by decide +kernel) rfl (Nat.le_of_ble_eq_true rfl) ?_
  intro p e s m args below meth c hx hb hml hown hts hin A hA hP hD hK Q hret ls hl hS
  have hl : lv_has ls 6 [(0, .ref qS), (1, .int (xw_i p1)), (2, .int (xw_i p2))] := hl
  have hwsX20 : ∀ w ∈ wsX20, w ∈ wsX2_setWord := fun _ h => List.mem_cons_of_mem _ (List.mem_append_right _ h)
  unfold wp_X2_setWord at h
  refine lv_aload_n hx hb dX2_setWord_0 rfl (lv_at hl 0 rfl) ?_
  refine va_get (D := (dC, dI)) (ci := 2) (v := .ref aS7) (C := RX2) (T := TX2) (N := 15) hx hb hts hwsX20 hown hK hP 0 rfl rfl 8 (by decide) (hts (.fieldLink RX2 39 "BoxProver$Search" "value" "[I") (by decide +kernel)) (fun _ h9 => h9) rfl dX2_setWord_1 ?_
  refine lv_iload_n hx hb dX2_setWord_4 rfl (lv_at hl 1 rfl) ?_
  refine lv_iload_n hx hb dX2_setWord_5 rfl (lv_at hl 2 rfl) ?_
  obtain ⟨hin, h⟩ := h
  obtain ⟨sva_1, esva_1⟩ : ∃ z : Nat → Int, z = xw_u sva p1 p2 := ⟨_, rfl⟩
  have h := h sva_1 esva_1
  refine xw_iast (n := 4) hx hb hK hP hD hS 8 7 rfl rfl (by decide) hin esva_1 dX2_setWord_6 (fun H locs hP hD hS => ?_)
  have hP : va_P (dC, dI) vwCl (wd_X2 qS aS0 aS1 aS2 aS3 aS4 aS5 aS6 aS7 aS8 aS9 aS10 qR aR0 aR1 kS0 kS1 kS2 kS3 kS4 kS5 kS6 kS7 kS8 kS9 kS10 kR0 kR1 sid sfo soe sfa sre sle spe spc sfr sto sva_1 sff slf sgf rsz rly rce rst) H := hP
  have hD : va_D A (wd_X2 qS aS0 aS1 aS2 aS3 aS4 aS5 aS6 aS7 aS8 aS9 aS10 qR aR0 aR1 kS0 kS1 kS2 kS3 kS4 kS5 kS6 kS7 kS8 kS9 kS10 kR0 kR1 sid sfo soe sfa sre sle spe spc sfr sto sva_1 sff slf sgf rsz rly rce rst) := hD
  refine lv_aload_n hx hb dX2_setWord_7 rfl (lv_at hl 0 rfl) ?_
  refine va_get (D := (dC, dI)) (ci := 2) (v := .ref aS4) (C := RX2) (T := TX2) (N := 15) hx hb hts hwsX20 hown hK hP 0 rfl rfl 5 (by decide) (hts (.fieldLink RX2 30 "BoxProver$Search" "pendingCount" "[I") (by decide +kernel)) (fun _ h9 => h9) rfl dX2_setWord_8 ?_
  refine lv_iload_n hx hb dX2_setWord_11 rfl (lv_at hl 1 rfl) ?_
  refine lv_iconst (v := xw_i 1) hx hb dX2_setWord_12 (by decide) ?_
  refine xw_iadd hx hb dX2_setWord_13 ?_
  obtain ⟨hin, h⟩ := h
  refine xw_iald (n := 5) hx hb hK hP 5 4 rfl rfl (by decide) hin dX2_setWord_14 ?_
  refine xw_topi (fun x3 ex3 => ?_)
  have h := h x3 ex3
  refine lv_istore_n (lv' := [(3, .int (xw_i x3)), (0, .ref qS), (1, .int (xw_i p1)), (2, .int (xw_i p2))]) hx hb dX2_setWord_15 rfl hl (by decide) rfl (fun ls hl => ?_)
  refine lv_iconst (v := xw_i 0) hx hb dX2_setWord_16 (by decide) ?_
  refine lv_istore (lv' := [(4, .int (xw_i 0)), (3, .int (xw_i x3)), (0, .ref qS), (1, .int (xw_i p1)), (2, .int (xw_i p2))]) hx hb dX2_setWord_17 hl (by decide) rfl (fun ls hl => ?_)
  have k_19 : ∀ (n_19 : Nat) (sle_1 : Nat → Int) (sva_2 : Nat → Int) (x4 : Int) (H : Heap) (locs : List Loc) (ls : Array Slot), wp_X2_setWord_19 p1 p2 sfa spe post x3 n_19 sle_1 sva_2 x4 → va_P (dC, dI) vwCl (wd_X2 qS aS0 aS1 aS2 aS3 aS4 aS5 aS6 aS7 aS8 aS9 aS10 qR aR0 aR1 kS0 kS1 kS2 kS3 kS4 kS5 kS6 kS7 kS8 kS9 kS10 kR0 kR1 sid sfo soe sfa sre sle_1 spe spc sfr sto sva_2 sff slf sgf rsz rly rce rst) H → va_D A (wd_X2 qS aS0 aS1 aS2 aS3 aS4 aS5 aS6 aS7 aS8 aS9 aS10 qR aR0 aR1 kS0 kS1 kS2 kS3 kS4 kS5 kS6 kS7 kS8 kS9 kS10 kR0 kR1 sid sfo soe sfa sre sle_1 spe spc sfr sto sva_2 sff slf sgf rsz rly rce rst) → va_S A s.heap H locs → lv_has ls 6 [(4, .int (xw_i x4)), (3, .int (xw_i x3)), (0, .ref qS), (1, .int (xw_i p1)), (2, .int (xw_i p2))] → W p l e ({ frames := 0, cells := 0, slots := 0, locals := 0 } : Room) s m args below meth c H locs 0 0 Q (F0 m 19 ls []) := by
    intro n_19
    induction n_19 with
    | zero => intro sle_1 sva_2 x4 H locs ls h; exact False.elim h
    | succ n_19 ih_19 =>
      intro sle_1 sva_2 x4 H locs ls h hP hD hS hl
      have h : wl_X2_setWord_19 p1 p2 sfa spe post x3 (wp_X2_setWord_19 p1 p2 sfa spe post x3 n_19) sle_1 sva_2 x4 := h
      unfold wl_X2_setWord_19 at h
      refine lv_iload hx hb dX2_setWord_19 (lv_at hl 0 rfl) ?_
      refine lv_iload_n hx hb dX2_setWord_21 rfl (lv_at hl 1 rfl) ?_
      obtain ⟨hr1, h⟩ := h
      obtain ⟨hr2, h⟩ := h
      refine xw_icmp_ge (tgt := 79) hx hb ⟨hr1, hr2⟩ dX2_setWord_22 (by decide) (fun hcd => ?_) (fun hcd => ?_)
      · have h := h.1 hcd
        exact hret _ _ _ _ (sle_1, sva_2) dX2_setWord_79 h hP hD hK hS
      · have h := h.2 hcd
        refine lv_iload_n hx hb dX2_setWord_25 rfl (lv_at hl 3 rfl) ?_
        refine lv_bipush (v := xw_i 32) hx hb dX2_setWord_26 (by decide) ?_
        refine xw_imul hx hb dX2_setWord_28 ?_
        refine lv_aload_n hx hb dX2_setWord_29 rfl (lv_at hl 2 rfl) ?_
        refine va_get (D := (dC, dI)) (ci := 2) (v := .ref aS3) (C := RX2) (T := TX2) (N := 15) hx hb hts hwsX20 hown hK hP 0 rfl rfl 4 (by decide) (hts (.fieldLink RX2 27 "BoxProver$Search" "pending" "[I") (by decide +kernel)) (fun _ h9 => h9) rfl dX2_setWord_30 ?_
        refine lv_iload_n hx hb dX2_setWord_33 rfl (lv_at hl 3 rfl) ?_
        refine lv_iconst (v := xw_i 1) hx hb dX2_setWord_34 (by decide) ?_
        refine xw_iadd hx hb dX2_setWord_35 ?_
        refine lv_bipush (v := xw_i 32) hx hb dX2_setWord_36 (by decide) ?_
        refine xw_imul hx hb dX2_setWord_38 ?_
        refine lv_iload hx hb dX2_setWord_39 (lv_at hl 0 rfl) ?_
        refine xw_iadd hx hb dX2_setWord_41 ?_
        obtain ⟨hin, h⟩ := h
        refine xw_iald (n := 160) hx hb hK hP 4 3 rfl rfl (by decide) hin dX2_setWord_42 ?_
        refine xw_iadd hx hb dX2_setWord_43 ?_
        refine xw_topi (fun x5 ex5 => ?_)
        have h := h x5 ex5
        refine lv_istore (lv' := [(5, .int (xw_i x5)), (4, .int (xw_i x4)), (3, .int (xw_i x3)), (0, .ref qS), (1, .int (xw_i p1)), (2, .int (xw_i p2))]) hx hb dX2_setWord_44 hl (by decide) rfl (fun ls hl => ?_)
        refine lv_aload_n hx hb dX2_setWord_46 rfl (lv_at hl 3 rfl) ?_
        refine va_get (D := (dC, dI)) (ci := 2) (v := .ref aS2) (C := RX2) (T := TX2) (N := 15) hx hb hts hwsX20 hown hK hP 0 rfl rfl 3 (by decide) (hts (.fieldLink RX2 24 "BoxProver$Search" "left" "[I") (by decide +kernel)) (fun _ h9 => h9) rfl dX2_setWord_47 ?_
        refine lv_iload hx hb dX2_setWord_50 (lv_at hl 0 rfl) ?_
        refine lv_bipush (v := xw_i 32) hx hb dX2_setWord_52 (by decide) ?_
        refine xw_iadd hx hb dX2_setWord_54 ?_
        refine lv_aload_n hx hb dX2_setWord_55 rfl (lv_at hl 3 rfl) ?_
        refine va_get (D := (dC, dI)) (ci := 2) (v := .ref aS2) (C := RX2) (T := TX2) (N := 15) hx hb hts hwsX20 hown hK hP 0 rfl rfl 3 (by decide) (hts (.fieldLink RX2 24 "BoxProver$Search" "left" "[I") (by decide +kernel)) (fun _ h9 => h9) rfl dX2_setWord_56 ?_
        refine lv_iload hx hb dX2_setWord_59 (lv_at hl 0 rfl) ?_
        obtain ⟨hin, h⟩ := h
        refine xw_iald (n := 128) hx hb hK hP 3 2 rfl rfl (by decide) hin dX2_setWord_61 ?_
        refine lv_aload_n hx hb dX2_setWord_62 rfl (lv_at hl 3 rfl) ?_
        refine va_get (D := (dC, dI)) (ci := 2) (v := .ref aS0) (C := RX2) (T := TX2) (N := 15) hx hb hts hwsX20 hown hK hP 0 rfl rfl 1 (by decide) (hts (.fieldLink RX2 17 "BoxProver$Search" "factor" "[I") (by decide +kernel)) (fun _ h9 => h9) rfl dX2_setWord_63 ?_
        refine lv_iload hx hb dX2_setWord_66 (lv_at hl 0 rfl) ?_
        obtain ⟨hin, h⟩ := h
        refine xw_iald (n := 128) hx hb hK hP 1 0 rfl rfl (by decide) hin dX2_setWord_68 ?_
        refine lv_iload_n hx hb dX2_setWord_69 rfl (lv_at hl 5 rfl) ?_
        refine xw_imul hx hb dX2_setWord_70 ?_
        refine xw_isub hx hb dX2_setWord_71 ?_
        obtain ⟨hin, h⟩ := h
        obtain ⟨sle_2, esle_2⟩ : ∃ z : Nat → Int, z = xw_u sle_1 (x5 + 32) ((sle_1 x5.toNat) - ((sfa x5.toNat) * p2)) := ⟨_, rfl⟩
        have h := h sle_2 esle_2
        refine xw_iast (n := 128) hx hb hK hP hD hS 3 2 rfl rfl (by decide) hin esle_2 dX2_setWord_72 (fun H locs hP hD hS => ?_)
        have hP : va_P (dC, dI) vwCl (wd_X2 qS aS0 aS1 aS2 aS3 aS4 aS5 aS6 aS7 aS8 aS9 aS10 qR aR0 aR1 kS0 kS1 kS2 kS3 kS4 kS5 kS6 kS7 kS8 kS9 kS10 kR0 kR1 sid sfo soe sfa sre sle_2 spe spc sfr sto sva_2 sff slf sgf rsz rly rce rst) H := hP
        have hD : va_D A (wd_X2 qS aS0 aS1 aS2 aS3 aS4 aS5 aS6 aS7 aS8 aS9 aS10 qR aR0 aR1 kS0 kS1 kS2 kS3 kS4 kS5 kS6 kS7 kS8 kS9 kS10 kR0 kR1 sid sfo soe sfa sre sle_2 spe spc sfr sto sva_2 sff slf sgf rsz rly rce rst) := hD
        obtain ⟨x4_1, ex4_1⟩ : ∃ y : Int, y = x4 + 1 := ⟨_, rfl⟩
        have h := h x4_1 ex4_1
        refine lv_iinc (v := xw_i x4_1) (lv' := [(4, .int (xw_i x4_1)), (5, .int (xw_i x5)), (3, .int (xw_i x3)), (0, .ref qS), (1, .int (xw_i p1)), (2, .int (xw_i p2))]) hx hb dX2_setWord_73 hl (k := 1) rfl (xw_inc ex4_1) (by decide) rfl (fun ls hl => ?_)
        refine lv_goto (tgt := 19) hx hb dX2_setWord_76 (by decide) ?_
        exact ih_19 sle_2 sva_2 x4_1 _ _ _ h hP hD hS (lv_sub hl [0, 2, 3, 4, 5] rfl)
  obtain ⟨fu, h⟩ := h
  exact k_19 fu sle sva_1 0 _ _ _ h hP hD hS (lv_sub hl [0, 1, 2, 3, 4] rfl)
set_option maxHeartbeats 4000000 in
set_option maxRecDepth 100000 in
theorem c_X2_noteSolutions (l : Launch) (dC : Nat → ClassId) (dI : Nat → Nat → Nat) (qS aS0 aS1 aS2 aS3 aS4 aS5 aS6 aS7 aS8 aS9 aS10 qR aR0 aR1 : Nat) (kS0 kS1 kS2 kS3 kS4 kS5 kS6 kS7 kS8 kS9 kS10 kR0 kR1 : ClassId) (sz : Nat) (sid : Int) (sfo : Int) (soe : Int) (sfa : Nat → Int) (sre : Nat → Int) (sle : Nat → Int) (spe : Nat → Int) (spc : Nat → Int) (sfr : Nat → Int) (sto : Nat → Int) (sva : Nat → Int) (sff : Nat → Int) (slf : Nat → Int) (sgf : Nat → Int) (rsz : Int) (rly : Int) (rce : Nat → Int) (rst : Nat → Int) (p1 : Int) (post : Int → (Nat → Int) → (Nat → Int) → (Nat → Int) → Prop) (h : wp_X2_noteSolutions post sid sfo soe sfa sre sle spe spc sfr sto sva sff slf sgf rsz rly rce rst p1) : Met l yX2_noteSolutions wsX2_noteSolutions ({ frames := 1, cells := 0, slots := 0, locals := 21 }) (va_Pc [.ref qS, .int (xw_i p1)] (xw_Pre (dC, dI) vwCl (wd_X2 qS aS0 aS1 aS2 aS3 aS4 aS5 aS6 aS7 aS8 aS9 aS10 qR aR0 aR1 kS0 kS1 kS2 kS3 kS4 kS5 kS6 kS7 kS8 kS9 kS10 kR0 kR1 sid sfo soe sfa sre sle spe spc sfr sto sva sff slf sgf rsz rly rce rst) [(kS0, .int), (kS1, .int), (kS2, .int), (kS3, .int), (kS4, .int), (kS5, .int), (kS6, .int), (kS7, .int), (kS8, .int), (kS9, .int), (kS10, .int), (kR0, .int), (kR1, .int)] sz)) (va_Qv (fun (u : Int × (Nat → Int) × (Nat → Int) × (Nat → Int)) => post u.1 u.2.1 u.2.2.1 u.2.2.2) (xw_B (dC, dI) vwCl (fun (_ : Int × (Nat → Int) × (Nat → Int) × (Nat → Int)) => [(kS0, .int), (kS1, .int), (kS2, .int), (kS3, .int), (kS4, .int), (kS5, .int), (kS6, .int), (kS7, .int), (kS8, .int), (kS9, .int), (kS10, .int), (kR0, .int), (kR1, .int)]) (va_A (wd_X2 qS aS0 aS1 aS2 aS3 aS4 aS5 aS6 aS7 aS8 aS9 aS10 qR aR0 aR1 kS0 kS1 kS2 kS3 kS4 kS5 kS6 kS7 kS8 kS9 kS10 kR0 kR1 sid sfo soe sfa sre sle spe spc sfr sto sva sff slf sgf rsz rly rce rst) sz) (fun (u : Int × (Nat → Int) × (Nat → Int) × (Nat → Int)) => (wd_X2 qS aS0 aS1 aS2 aS3 aS4 aS5 aS6 aS7 aS8 aS9 aS10 qR aR0 aR1 kS0 kS1 kS2 kS3 kS4 kS5 kS6 kS7 kS8 kS9 kS10 kR0 kR1 sid u.1 soe sfa sre sle spe spc sfr sto sva u.2.1 u.2.2.1 u.2.2.2 rsz rly rce rst))) (va_A (wd_X2 qS aS0 aS1 aS2 aS3 aS4 aS5 aS6 aS7 aS8 aS9 aS10 qR aR0 aR1 kS0 kS1 kS2 kS3 kS4 kS5 kS6 kS7 kS8 kS9 kS10 kR0 kR1 sid sfo soe sfa sre sle spe spc sfr sto sva sff slf sgf rsz rly rce rst) sz)) 0 0 (va_A (wd_X2 qS aS0 aS1 aS2 aS3 aS4 aS5 aS6 aS7 aS8 aS9 aS10 qR aR0 aR1 kS0 kS1 kS2 kS3 kS4 kS5 kS6 kS7 kS8 kS9 kS10 kR0 kR1 sid sfo soe sfa sre sle spe spc sfr sto sva sff slf sgf rsz rly rce rst) sz) := by
  refine xw_ofV (cc := cX2_noteSolutions) (maxL := 6) (by decide +kernel) rfl (Nat.le_of_ble_eq_true rfl) ?_
  intro p e s m args below meth c hx hb hml hown hts hin A hA hP hD hK Q hret ls hl hS
  have hl : lv_has ls 6 [(0, .ref qS), (1, .int (xw_i p1))] := hl
  have hwsX20 : ∀ w ∈ wsX20, w ∈ wsX2_noteSolutions := fun _ h => List.mem_cons_of_mem _ (List.mem_append_right _ h)
  unfold wp_X2_noteSolutions at h
  refine lv_iconst (v := xw_i 1) hx hb dX2_noteSolutions_0 (by decide) ?_
  refine lv_istore_n (lv' := [(2, .int (xw_i 1)), (0, .ref qS), (1, .int (xw_i p1))]) hx hb dX2_noteSolutions_1 rfl hl (by decide) rfl (fun ls hl => ?_)
  refine lv_iconst (v := xw_i 0) hx hb dX2_noteSolutions_2 (by decide) ?_
  refine lv_istore_n (lv' := [(3, .int (xw_i 0)), (2, .int (xw_i 1)), (0, .ref qS), (1, .int (xw_i p1))]) hx hb dX2_noteSolutions_3 rfl hl (by decide) rfl (fun ls hl => ?_)
  have k_4 : ∀ (n_4 : Nat) (sfo_1 : Int) (sff_1 : Nat → Int) (slf_1 : Nat → Int) (sgf_1 : Nat → Int) (x3 : Int) (x2 : Int) (H : Heap) (locs : List Loc) (ls : Array Slot), wp_X2_noteSolutions_4 p1 sfr sto sva post n_4 sfo_1 sff_1 slf_1 sgf_1 x3 x2 → va_P (dC, dI) vwCl (wd_X2 qS aS0 aS1 aS2 aS3 aS4 aS5 aS6 aS7 aS8 aS9 aS10 qR aR0 aR1 kS0 kS1 kS2 kS3 kS4 kS5 kS6 kS7 kS8 kS9 kS10 kR0 kR1 sid sfo_1 soe sfa sre sle spe spc sfr sto sva sff_1 slf_1 sgf_1 rsz rly rce rst) H → va_D A (wd_X2 qS aS0 aS1 aS2 aS3 aS4 aS5 aS6 aS7 aS8 aS9 aS10 qR aR0 aR1 kS0 kS1 kS2 kS3 kS4 kS5 kS6 kS7 kS8 kS9 kS10 kR0 kR1 sid sfo_1 soe sfa sre sle spe spc sfr sto sva sff_1 slf_1 sgf_1 rsz rly rce rst) → va_S A s.heap H locs → lv_has ls 6 [(3, .int (xw_i x3)), (2, .int (xw_i x2)), (0, .ref qS), (1, .int (xw_i p1))] → W p l e ({ frames := 1, cells := 0, slots := 0, locals := 21 } : Room) s m args below meth c H locs 0 0 Q (F0 m 4 ls []) := by
    intro n_4
    induction n_4 with
    | zero => intro sfo_1 sff_1 slf_1 sgf_1 x3 x2 H locs ls h; exact False.elim h
    | succ n_4 ih_4 =>
      intro sfo_1 sff_1 slf_1 sgf_1 x3 x2 H locs ls h hP hD hS hl
      have h : wl_X2_noteSolutions_4 p1 sfr sto sva post (wp_X2_noteSolutions_4 p1 sfr sto sva post n_4) sfo_1 sff_1 slf_1 sgf_1 x3 x2 := h
      unfold wl_X2_noteSolutions_4 at h
      refine lv_iload_n hx hb dX2_noteSolutions_4 rfl (lv_at hl 0 rfl) ?_
      refine lv_iconst (v := xw_i 4) hx hb dX2_noteSolutions_5 (by decide) ?_
      obtain ⟨hr1, h⟩ := h
      refine xw_icmp_ge (tgt := 157) hx hb ⟨hr1, ⟨by decide, by decide⟩⟩ dX2_noteSolutions_6 (by decide) (fun hcd => ?_) (fun hcd => ?_)
      · have h := h.1 hcd
        refine lv_aload_n hx hb dX2_noteSolutions_157 rfl (lv_at hl 2 rfl) ?_
        refine lv_dup hx hb dX2_noteSolutions_158 rfl ?_
        refine va_get (D := (dC, dI)) (ci := 2) (v := .int (xw_i sfo_1)) (C := RX2) (T := TX2) (N := 15) hx hb hts hwsX20 hown hK hP 0 rfl rfl 13 (by decide) (hts (.fieldLink RX2 55 "BoxProver$Search" "found" "I") (by decide +kernel)) (fun _ h9 => h9) rfl dX2_noteSolutions_159 ?_
        refine lv_iload_n hx hb dX2_noteSolutions_162 rfl (lv_at hl 1 rfl) ?_
        refine xw_iadd hx hb dX2_noteSolutions_163 ?_
        refine xw_topi (fun ff eff => ?_)
        have h := h ff eff
        refine va_put (D := (dC, dI)) (ci := 2) (v := .int (xw_i ff)) (ty := .int) (C := RX2) (T := TX2) (N := 15) hx hb hts hwsX20 tyX2 tyX2_ok nmX2 hown hK hP hD hS 0 rfl rfl 13 (by decide) (hts (.fieldLink RX2 55 "BoxProver$Search" "found" "I") (by decide +kernel)) (fun _ h9 => h9) rfl (by decide +kernel) rfl rfl (Nat.le_of_ble_eq_true rfl) dX2_noteSolutions_164 (fun H locs hP hD hS => ?_)
        have hP : va_P (dC, dI) vwCl (wd_X2 qS aS0 aS1 aS2 aS3 aS4 aS5 aS6 aS7 aS8 aS9 aS10 qR aR0 aR1 kS0 kS1 kS2 kS3 kS4 kS5 kS6 kS7 kS8 kS9 kS10 kR0 kR1 sid ff soe sfa sre sle spe spc sfr sto sva sff_1 slf_1 sgf_1 rsz rly rce rst) H := hP
        have hD : va_D A (wd_X2 qS aS0 aS1 aS2 aS3 aS4 aS5 aS6 aS7 aS8 aS9 aS10 qR aR0 aR1 kS0 kS1 kS2 kS3 kS4 kS5 kS6 kS7 kS8 kS9 kS10 kR0 kR1 sid ff soe sfa sre sle spe spc sfr sto sva sff_1 slf_1 sgf_1 rsz rly rce rst) := hD
        exact hret _ _ _ _ (ff, sff_1, slf_1, sgf_1) dX2_noteSolutions_167 h hP hD hK hS
      · have h := h.2 hcd
        refine lv_iload_n hx hb dX2_noteSolutions_9 rfl (lv_at hl 0 rfl) ?_
        refine lv_iload_n hx hb dX2_noteSolutions_10 rfl (lv_at hl 3 rfl) ?_
        have k_39 : ∀ (sfo_2 : Int) (sff_2 : Nat → Int) (slf_2 : Nat → Int) (sgf_2 : Nat → Int) (z0 : Int) (H : Heap) (locs : List Loc) (ls : Array Slot), wp_X2_noteSolutions_39 (wp_X2_noteSolutions_4 p1 sfr sto sva post n_4) p1 sto sva x3 x2 sfo_2 sff_2 slf_2 sgf_2 z0 → va_P (dC, dI) vwCl (wd_X2 qS aS0 aS1 aS2 aS3 aS4 aS5 aS6 aS7 aS8 aS9 aS10 qR aR0 aR1 kS0 kS1 kS2 kS3 kS4 kS5 kS6 kS7 kS8 kS9 kS10 kR0 kR1 sid sfo_2 soe sfa sre sle spe spc sfr sto sva sff_2 slf_2 sgf_2 rsz rly rce rst) H → va_D A (wd_X2 qS aS0 aS1 aS2 aS3 aS4 aS5 aS6 aS7 aS8 aS9 aS10 qR aR0 aR1 kS0 kS1 kS2 kS3 kS4 kS5 kS6 kS7 kS8 kS9 kS10 kR0 kR1 sid sfo_2 soe sfa sre sle spe spc sfr sto sva sff_2 slf_2 sgf_2 rsz rly rce rst) → va_S A s.heap H locs → lv_has ls 6 [(3, .int (xw_i x3)), (2, .int (xw_i x2)), (0, .ref qS), (1, .int (xw_i p1))] → W p l e ({ frames := 1, cells := 0, slots := 0, locals := 21 } : Room) s m args below meth c H locs 0 0 Q (F0 m 39 ls [.int (xw_i z0)]) := by
          intro sfo_2 sff_2 slf_2 sgf_2 z0 H locs ls h hP hD hS hl
          unfold wp_X2_noteSolutions_39 at h
          refine lv_istore (lv' := [(4, .int (xw_i z0)), (3, .int (xw_i x3)), (2, .int (xw_i x2)), (0, .ref qS), (1, .int (xw_i p1))]) hx hb dX2_noteSolutions_39 hl (by decide) rfl (fun ls hl => ?_)
          refine lv_iload_n hx hb dX2_noteSolutions_41 rfl (lv_at hl 1 rfl) ?_
          refine lv_iload_n hx hb dX2_noteSolutions_42 rfl (lv_at hl 4 rfl) ?_
          have k_71 : ∀ (sfo_3 : Int) (sff_3 : Nat → Int) (slf_3 : Nat → Int) (sgf_3 : Nat → Int) (z0_1 : Int) (H : Heap) (locs : List Loc) (ls : Array Slot), wp_X2_noteSolutions_71 (wp_X2_noteSolutions_4 p1 sfr sto sva post n_4) x3 x2 z0 sfo_3 sff_3 slf_3 sgf_3 z0_1 → va_P (dC, dI) vwCl (wd_X2 qS aS0 aS1 aS2 aS3 aS4 aS5 aS6 aS7 aS8 aS9 aS10 qR aR0 aR1 kS0 kS1 kS2 kS3 kS4 kS5 kS6 kS7 kS8 kS9 kS10 kR0 kR1 sid sfo_3 soe sfa sre sle spe spc sfr sto sva sff_3 slf_3 sgf_3 rsz rly rce rst) H → va_D A (wd_X2 qS aS0 aS1 aS2 aS3 aS4 aS5 aS6 aS7 aS8 aS9 aS10 qR aR0 aR1 kS0 kS1 kS2 kS3 kS4 kS5 kS6 kS7 kS8 kS9 kS10 kR0 kR1 sid sfo_3 soe sfa sre sle spe spc sfr sto sva sff_3 slf_3 sgf_3 rsz rly rce rst) → va_S A s.heap H locs → lv_has ls 6 [(4, .int (xw_i z0)), (3, .int (xw_i x3)), (2, .int (xw_i x2)), (0, .ref qS), (1, .int (xw_i p1))] → W p l e ({ frames := 1, cells := 0, slots := 0, locals := 21 } : Room) s m args below meth c H locs 0 0 Q (F0 m 71 ls [.int (xw_i z0_1)]) := by
            intro sfo_3 sff_3 slf_3 sgf_3 z0_1 H locs ls h hP hD hS hl
            unfold wp_X2_noteSolutions_71 at h
            refine lv_istore (lv' := [(5, .int (xw_i z0_1)), (4, .int (xw_i z0)), (3, .int (xw_i x3)), (2, .int (xw_i x2)), (0, .ref qS), (1, .int (xw_i p1))]) hx hb dX2_noteSolutions_71 hl (by decide) rfl (fun ls hl => ?_)
            refine lv_iload_n hx hb dX2_noteSolutions_73 rfl (lv_at hl 3 rfl) ?_
            refine lv_iload hx hb dX2_noteSolutions_74 (lv_at hl 0 rfl) ?_
            refine lv_iload hx hb dX2_noteSolutions_76 (lv_at hl 1 rfl) ?_
            refine xw_isub hx hb dX2_noteSolutions_78 ?_
            refine lv_iconst (v := xw_i 1) hx hb dX2_noteSolutions_79 (by decide) ?_
            refine xw_iadd hx hb dX2_noteSolutions_80 ?_
            refine xw_imul hx hb dX2_noteSolutions_81 ?_
            refine xw_topi (fun x2_1 ex2_1 => ?_)
            have h := h x2_1 ex2_1
            refine lv_istore_n (lv' := [(2, .int (xw_i x2_1)), (5, .int (xw_i z0_1)), (4, .int (xw_i z0)), (3, .int (xw_i x3)), (0, .ref qS), (1, .int (xw_i p1))]) hx hb dX2_noteSolutions_82 rfl hl (by decide) rfl (fun ls hl => ?_)
            refine lv_aload_n hx hb dX2_noteSolutions_83 rfl (lv_at hl 4 rfl) ?_
            refine va_get (D := (dC, dI)) (ci := 2) (v := .int (xw_i sfo_3)) (C := RX2) (T := TX2) (N := 15) hx hb hts hwsX20 hown hK hP 0 rfl rfl 13 (by decide) (hts (.fieldLink RX2 55 "BoxProver$Search" "found" "I") (by decide +kernel)) (fun _ h9 => h9) rfl dX2_noteSolutions_84 ?_
            have k_151 : ∀ (sfo_4 : Int) (sff_4 : Nat → Int) (slf_4 : Nat → Int) (sgf_4 : Nat → Int) (x3_1 : Int) (H : Heap) (locs : List Loc) (ls : Array Slot), wp_X2_noteSolutions_151 (wp_X2_noteSolutions_4 p1 sfr sto sva post n_4) x2_1 sfo_4 sff_4 slf_4 sgf_4 x3_1 → va_P (dC, dI) vwCl (wd_X2 qS aS0 aS1 aS2 aS3 aS4 aS5 aS6 aS7 aS8 aS9 aS10 qR aR0 aR1 kS0 kS1 kS2 kS3 kS4 kS5 kS6 kS7 kS8 kS9 kS10 kR0 kR1 sid sfo_4 soe sfa sre sle spe spc sfr sto sva sff_4 slf_4 sgf_4 rsz rly rce rst) H → va_D A (wd_X2 qS aS0 aS1 aS2 aS3 aS4 aS5 aS6 aS7 aS8 aS9 aS10 qR aR0 aR1 kS0 kS1 kS2 kS3 kS4 kS5 kS6 kS7 kS8 kS9 kS10 kR0 kR1 sid sfo_4 soe sfa sre sle spe spc sfr sto sva sff_4 slf_4 sgf_4 rsz rly rce rst) → va_S A s.heap H locs → lv_has ls 6 [(2, .int (xw_i x2_1)), (3, .int (xw_i x3_1)), (0, .ref qS), (1, .int (xw_i p1))] → W p l e ({ frames := 1, cells := 0, slots := 0, locals := 21 } : Room) s m args below meth c H locs 0 0 Q (F0 m 151 ls []) := by
              intro sfo_4 sff_4 slf_4 sgf_4 x3_1 H locs ls h hP hD hS hl
              unfold wp_X2_noteSolutions_151 at h
              obtain ⟨x3_2, ex3_2⟩ : ∃ y : Int, y = x3_1 + 1 := ⟨_, rfl⟩
              have h := h x3_2 ex3_2
              refine lv_iinc (v := xw_i x3_2) (lv' := [(3, .int (xw_i x3_2)), (2, .int (xw_i x2_1)), (0, .ref qS), (1, .int (xw_i p1))]) hx hb dX2_noteSolutions_151 hl (k := 1) rfl (xw_inc ex3_2) (by decide) rfl (fun ls hl => ?_)
              refine lv_goto (tgt := 4) hx hb dX2_noteSolutions_154 (by decide) ?_
              exact ih_4 sfo_4 sff_4 slf_4 sgf_4 x3_2 x2_1 _ _ _ h hP hD hS (lv_sub hl [0, 1, 2, 3] rfl)
            obtain ⟨hr2, h⟩ := h
            refine xw_if_ne (tgt := 117) hx hb hr2 dX2_noteSolutions_87 (by decide) (fun hcd => ?_) (fun hcd => ?_)
            · have h := h.2 hcd
              refine lv_aload_n hx hb dX2_noteSolutions_117 rfl (lv_at hl 4 rfl) ?_
              refine va_get (D := (dC, dI)) (ci := 2) (v := .ref aS9) (C := RX2) (T := TX2) (N := 15) hx hb hts hwsX20 hown hK hP 0 rfl rfl 10 (by decide) (hts (.fieldLink RX2 45 "BoxProver$Search" "leastFound" "[I") (by decide +kernel)) (fun _ h9 => h9) rfl dX2_noteSolutions_118 ?_
              refine lv_iload_n hx hb dX2_noteSolutions_121 rfl (lv_at hl 3 rfl) ?_
              refine lv_aload_n hx hb dX2_noteSolutions_122 rfl (lv_at hl 4 rfl) ?_
              refine va_get (D := (dC, dI)) (ci := 2) (v := .ref aS9) (C := RX2) (T := TX2) (N := 15) hx hb hts hwsX20 hown hK hP 0 rfl rfl 10 (by decide) (hts (.fieldLink RX2 45 "BoxProver$Search" "leastFound" "[I") (by decide +kernel)) (fun _ h9 => h9) rfl dX2_noteSolutions_123 ?_
              refine lv_iload_n hx hb dX2_noteSolutions_126 rfl (lv_at hl 3 rfl) ?_
              obtain ⟨hin, h⟩ := h
              refine xw_iald (n := 4) hx hb hK hP 10 9 rfl rfl (by decide) hin dX2_noteSolutions_127 ?_
              refine lv_iload hx hb dX2_noteSolutions_128 (lv_at hl 2 rfl) ?_
              obtain ⟨hr3, h⟩ := h
              obtain ⟨hr4, h⟩ := h
              refine xw_mmin hx hb (hml.trans hl.1.symm) hown (hts (.methodLink RX2 110 Lib.Math.min.name) (by decide +kernel)) (hts (.static Lib.Math.min.name) (by decide +kernel)) (hts (.initialized "java/lang/Math") (by decide +kernel)) (hts (.code Lib.Math.min.name Lib.Math.min.code 2 (some .int)) (by decide +kernel)) (Nat.le_of_ble_eq_true rfl) (Nat.le_of_ble_eq_true rfl) (Nat.le_of_ble_eq_true rfl) (Nat.le_of_ble_eq_true rfl) ⟨hr3, hr4⟩ dX2_noteSolutions_130 ?_
              obtain ⟨hin, h⟩ := h
              obtain ⟨slf_5, eslf_5⟩ : ∃ z : Nat → Int, z = xw_u slf_3 x3 (if z0 < slf_3 x3.toNat then z0 else slf_3 x3.toNat) := ⟨_, rfl⟩
              have h := h slf_5 eslf_5
              refine xw_iast (n := 4) hx hb hK hP hD hS 10 9 rfl rfl (by decide) hin eslf_5 dX2_noteSolutions_133 (fun H locs hP hD hS => ?_)
              have hP : va_P (dC, dI) vwCl (wd_X2 qS aS0 aS1 aS2 aS3 aS4 aS5 aS6 aS7 aS8 aS9 aS10 qR aR0 aR1 kS0 kS1 kS2 kS3 kS4 kS5 kS6 kS7 kS8 kS9 kS10 kR0 kR1 sid sfo_3 soe sfa sre sle spe spc sfr sto sva sff_3 slf_5 sgf_3 rsz rly rce rst) H := hP
              have hD : va_D A (wd_X2 qS aS0 aS1 aS2 aS3 aS4 aS5 aS6 aS7 aS8 aS9 aS10 qR aR0 aR1 kS0 kS1 kS2 kS3 kS4 kS5 kS6 kS7 kS8 kS9 kS10 kR0 kR1 sid sfo_3 soe sfa sre sle spe spc sfr sto sva sff_3 slf_5 sgf_3 rsz rly rce rst) := hD
              refine lv_aload_n hx hb dX2_noteSolutions_134 rfl (lv_at hl 4 rfl) ?_
              refine va_get (D := (dC, dI)) (ci := 2) (v := .ref aS10) (C := RX2) (T := TX2) (N := 15) hx hb hts hwsX20 hown hK hP 0 rfl rfl 11 (by decide) (hts (.fieldLink RX2 48 "BoxProver$Search" "greatestFound" "[I") (by decide +kernel)) (fun _ h9 => h9) rfl dX2_noteSolutions_135 ?_
              refine lv_iload_n hx hb dX2_noteSolutions_138 rfl (lv_at hl 3 rfl) ?_
              refine lv_aload_n hx hb dX2_noteSolutions_139 rfl (lv_at hl 4 rfl) ?_
              refine va_get (D := (dC, dI)) (ci := 2) (v := .ref aS10) (C := RX2) (T := TX2) (N := 15) hx hb hts hwsX20 hown hK hP 0 rfl rfl 11 (by decide) (hts (.fieldLink RX2 48 "BoxProver$Search" "greatestFound" "[I") (by decide +kernel)) (fun _ h9 => h9) rfl dX2_noteSolutions_140 ?_
              refine lv_iload_n hx hb dX2_noteSolutions_143 rfl (lv_at hl 3 rfl) ?_
              obtain ⟨hin, h⟩ := h
              refine xw_iald (n := 4) hx hb hK hP 11 10 rfl rfl (by decide) hin dX2_noteSolutions_144 ?_
              refine lv_iload hx hb dX2_noteSolutions_145 (lv_at hl 1 rfl) ?_
              obtain ⟨hr5, h⟩ := h
              obtain ⟨hr6, h⟩ := h
              refine xw_mmax hx hb (hml.trans hl.1.symm) hown (hts (.methodLink RX2 113 Lib.Math.max.name) (by decide +kernel)) (hts (.static Lib.Math.max.name) (by decide +kernel)) (hts (.initialized "java/lang/Math") (by decide +kernel)) (hts (.code Lib.Math.max.name Lib.Math.max.code 2 (some .int)) (by decide +kernel)) (Nat.le_of_ble_eq_true rfl) (Nat.le_of_ble_eq_true rfl) (Nat.le_of_ble_eq_true rfl) (Nat.le_of_ble_eq_true rfl) ⟨hr5, hr6⟩ dX2_noteSolutions_147 ?_
              obtain ⟨hin, h⟩ := h
              obtain ⟨sgf_5, esgf_5⟩ : ∃ z : Nat → Int, z = xw_u sgf_3 x3 (if sgf_3 x3.toNat < z0_1 then z0_1 else sgf_3 x3.toNat) := ⟨_, rfl⟩
              have h := h sgf_5 esgf_5
              refine xw_iast (n := 4) hx hb hK hP hD hS 11 10 rfl rfl (by decide) hin esgf_5 dX2_noteSolutions_150 (fun H locs hP hD hS => ?_)
              have hP : va_P (dC, dI) vwCl (wd_X2 qS aS0 aS1 aS2 aS3 aS4 aS5 aS6 aS7 aS8 aS9 aS10 qR aR0 aR1 kS0 kS1 kS2 kS3 kS4 kS5 kS6 kS7 kS8 kS9 kS10 kR0 kR1 sid sfo_3 soe sfa sre sle spe spc sfr sto sva sff_3 slf_5 sgf_5 rsz rly rce rst) H := hP
              have hD : va_D A (wd_X2 qS aS0 aS1 aS2 aS3 aS4 aS5 aS6 aS7 aS8 aS9 aS10 qR aR0 aR1 kS0 kS1 kS2 kS3 kS4 kS5 kS6 kS7 kS8 kS9 kS10 kR0 kR1 sid sfo_3 soe sfa sre sle spe spc sfr sto sva sff_3 slf_5 sgf_5 rsz rly rce rst) := hD
              exact k_151 sfo_3 sff_3 slf_5 sgf_5 x3 _ _ _ h hP hD hS (lv_sub hl [0, 3, 4, 5] rfl)
            · have h := h.1 hcd
              refine lv_aload_n hx hb dX2_noteSolutions_90 rfl (lv_at hl 4 rfl) ?_
              refine va_get (D := (dC, dI)) (ci := 2) (v := .ref aS8) (C := RX2) (T := TX2) (N := 15) hx hb hts hwsX20 hown hK hP 0 rfl rfl 9 (by decide) (hts (.fieldLink RX2 42 "BoxProver$Search" "firstFound" "[I") (by decide +kernel)) (fun _ h9 => h9) rfl dX2_noteSolutions_91 ?_
              refine lv_iload_n hx hb dX2_noteSolutions_94 rfl (lv_at hl 3 rfl) ?_
              refine lv_iload hx hb dX2_noteSolutions_95 (lv_at hl 2 rfl) ?_
              obtain ⟨hin, h⟩ := h
              obtain ⟨sff_5, esff_5⟩ : ∃ z : Nat → Int, z = xw_u sff_3 x3 z0 := ⟨_, rfl⟩
              have h := h sff_5 esff_5
              refine xw_iast (n := 4) hx hb hK hP hD hS 9 8 rfl rfl (by decide) hin esff_5 dX2_noteSolutions_97 (fun H locs hP hD hS => ?_)
              have hP : va_P (dC, dI) vwCl (wd_X2 qS aS0 aS1 aS2 aS3 aS4 aS5 aS6 aS7 aS8 aS9 aS10 qR aR0 aR1 kS0 kS1 kS2 kS3 kS4 kS5 kS6 kS7 kS8 kS9 kS10 kR0 kR1 sid sfo_3 soe sfa sre sle spe spc sfr sto sva sff_5 slf_3 sgf_3 rsz rly rce rst) H := hP
              have hD : va_D A (wd_X2 qS aS0 aS1 aS2 aS3 aS4 aS5 aS6 aS7 aS8 aS9 aS10 qR aR0 aR1 kS0 kS1 kS2 kS3 kS4 kS5 kS6 kS7 kS8 kS9 kS10 kR0 kR1 sid sfo_3 soe sfa sre sle spe spc sfr sto sva sff_5 slf_3 sgf_3 rsz rly rce rst) := hD
              refine lv_aload_n hx hb dX2_noteSolutions_98 rfl (lv_at hl 4 rfl) ?_
              refine va_get (D := (dC, dI)) (ci := 2) (v := .ref aS9) (C := RX2) (T := TX2) (N := 15) hx hb hts hwsX20 hown hK hP 0 rfl rfl 10 (by decide) (hts (.fieldLink RX2 45 "BoxProver$Search" "leastFound" "[I") (by decide +kernel)) (fun _ h9 => h9) rfl dX2_noteSolutions_99 ?_
              refine lv_iload_n hx hb dX2_noteSolutions_102 rfl (lv_at hl 3 rfl) ?_
              refine lv_iload hx hb dX2_noteSolutions_103 (lv_at hl 2 rfl) ?_
              obtain ⟨hin, h⟩ := h
              obtain ⟨slf_6, eslf_6⟩ : ∃ z : Nat → Int, z = xw_u slf_3 x3 z0 := ⟨_, rfl⟩
              have h := h slf_6 eslf_6
              refine xw_iast (n := 4) hx hb hK hP hD hS 10 9 rfl rfl (by decide) hin eslf_6 dX2_noteSolutions_105 (fun H locs hP hD hS => ?_)
              have hP : va_P (dC, dI) vwCl (wd_X2 qS aS0 aS1 aS2 aS3 aS4 aS5 aS6 aS7 aS8 aS9 aS10 qR aR0 aR1 kS0 kS1 kS2 kS3 kS4 kS5 kS6 kS7 kS8 kS9 kS10 kR0 kR1 sid sfo_3 soe sfa sre sle spe spc sfr sto sva sff_5 slf_6 sgf_3 rsz rly rce rst) H := hP
              have hD : va_D A (wd_X2 qS aS0 aS1 aS2 aS3 aS4 aS5 aS6 aS7 aS8 aS9 aS10 qR aR0 aR1 kS0 kS1 kS2 kS3 kS4 kS5 kS6 kS7 kS8 kS9 kS10 kR0 kR1 sid sfo_3 soe sfa sre sle spe spc sfr sto sva sff_5 slf_6 sgf_3 rsz rly rce rst) := hD
              refine lv_aload_n hx hb dX2_noteSolutions_106 rfl (lv_at hl 4 rfl) ?_
              refine va_get (D := (dC, dI)) (ci := 2) (v := .ref aS10) (C := RX2) (T := TX2) (N := 15) hx hb hts hwsX20 hown hK hP 0 rfl rfl 11 (by decide) (hts (.fieldLink RX2 48 "BoxProver$Search" "greatestFound" "[I") (by decide +kernel)) (fun _ h9 => h9) rfl dX2_noteSolutions_107 ?_
              refine lv_iload_n hx hb dX2_noteSolutions_110 rfl (lv_at hl 3 rfl) ?_
              refine lv_iload hx hb dX2_noteSolutions_111 (lv_at hl 1 rfl) ?_
              obtain ⟨hin, h⟩ := h
              obtain ⟨sgf_6, esgf_6⟩ : ∃ z : Nat → Int, z = xw_u sgf_3 x3 z0_1 := ⟨_, rfl⟩
              have h := h sgf_6 esgf_6
              refine xw_iast (n := 4) hx hb hK hP hD hS 11 10 rfl rfl (by decide) hin esgf_6 dX2_noteSolutions_113 (fun H locs hP hD hS => ?_)
              have hP : va_P (dC, dI) vwCl (wd_X2 qS aS0 aS1 aS2 aS3 aS4 aS5 aS6 aS7 aS8 aS9 aS10 qR aR0 aR1 kS0 kS1 kS2 kS3 kS4 kS5 kS6 kS7 kS8 kS9 kS10 kR0 kR1 sid sfo_3 soe sfa sre sle spe spc sfr sto sva sff_5 slf_6 sgf_6 rsz rly rce rst) H := hP
              have hD : va_D A (wd_X2 qS aS0 aS1 aS2 aS3 aS4 aS5 aS6 aS7 aS8 aS9 aS10 qR aR0 aR1 kS0 kS1 kS2 kS3 kS4 kS5 kS6 kS7 kS8 kS9 kS10 kR0 kR1 sid sfo_3 soe sfa sre sle spe spc sfr sto sva sff_5 slf_6 sgf_6 rsz rly rce rst) := hD
              refine lv_goto (tgt := 151) hx hb dX2_noteSolutions_114 (by decide) ?_
              exact k_151 sfo_3 sff_5 slf_6 sgf_6 x3 _ _ _ h hP hD hS (lv_sub hl [0, 3, 4, 5] rfl)
          obtain ⟨hr7, h⟩ := h
          refine xw_icmp_ge (tgt := 55) hx hb ⟨hr1, hr7⟩ dX2_noteSolutions_43 (by decide) (fun hcd => ?_) (fun hcd => ?_)
          · have h := h.1 hcd
            refine lv_iload_n hx hb dX2_noteSolutions_55 rfl (lv_at hl 1 rfl) ?_
            refine lv_iload_n hx hb dX2_noteSolutions_56 rfl (lv_at hl 4 rfl) ?_
            refine xw_icmp_ne (tgt := 69) hx hb ⟨hr1, hr7⟩ dX2_noteSolutions_57 (by decide) (fun hcd => ?_) (fun hcd => ?_)
            · have h := h.2 hcd
              refine lv_bipush (v := xw_i 15) hx hb dX2_noteSolutions_69 (by decide) ?_
              exact k_71 sfo_2 sff_2 slf_2 sgf_2 15 _ _ _ h hP hD hS (lv_sub hl [0, 1, 2, 3, 4] rfl)
            · have h := h.1 hcd
              refine lv_aload_n hx hb dX2_noteSolutions_60 rfl (lv_at hl 3 rfl) ?_
              refine va_get (D := (dC, dI)) (ci := 2) (v := .ref aS6) (C := RX2) (T := TX2) (N := 15) hx hb hts hwsX20 hown hK hP 0 rfl rfl 7 (by decide) (hts (.fieldLink RX2 36 "BoxProver$Search" "to" "[I") (by decide +kernel)) (fun _ h9 => h9) rfl dX2_noteSolutions_61 ?_
              refine lv_iload_n hx hb dX2_noteSolutions_64 rfl (lv_at hl 1 rfl) ?_
              obtain ⟨hin, h⟩ := h
              refine xw_iald (n := 4) hx hb hK hP 7 6 rfl rfl (by decide) hin dX2_noteSolutions_65 ?_
              refine lv_goto (tgt := 71) hx hb dX2_noteSolutions_66 (by decide) ?_
              exact k_71 sfo_2 sff_2 slf_2 sgf_2 (sto x3.toNat) _ _ _ h hP hD hS (lv_sub hl [0, 1, 2, 3, 4] rfl)
          · have h := h.2 hcd
            refine lv_aload_n hx hb dX2_noteSolutions_46 rfl (lv_at hl 3 rfl) ?_
            refine va_get (D := (dC, dI)) (ci := 2) (v := .ref aS7) (C := RX2) (T := TX2) (N := 15) hx hb hts hwsX20 hown hK hP 0 rfl rfl 8 (by decide) (hts (.fieldLink RX2 39 "BoxProver$Search" "value" "[I") (by decide +kernel)) (fun _ h9 => h9) rfl dX2_noteSolutions_47 ?_
            refine lv_iload_n hx hb dX2_noteSolutions_50 rfl (lv_at hl 1 rfl) ?_
            obtain ⟨hin, h⟩ := h
            refine xw_iald (n := 4) hx hb hK hP 8 7 rfl rfl (by decide) hin dX2_noteSolutions_51 ?_
            refine lv_goto (tgt := 71) hx hb dX2_noteSolutions_52 (by decide) ?_
            exact k_71 sfo_2 sff_2 slf_2 sgf_2 (sva x3.toNat) _ _ _ h hP hD hS (lv_sub hl [0, 1, 2, 3, 4] rfl)
        obtain ⟨hr8, h⟩ := h
        refine xw_icmp_ge (tgt := 23) hx hb ⟨hr1, hr8⟩ dX2_noteSolutions_11 (by decide) (fun hcd => ?_) (fun hcd => ?_)
        · have h := h.1 hcd
          refine lv_iload_n hx hb dX2_noteSolutions_23 rfl (lv_at hl 0 rfl) ?_
          refine lv_iload_n hx hb dX2_noteSolutions_24 rfl (lv_at hl 3 rfl) ?_
          refine xw_icmp_ne (tgt := 37) hx hb ⟨hr1, hr8⟩ dX2_noteSolutions_25 (by decide) (fun hcd => ?_) (fun hcd => ?_)
          · have h := h.2 hcd
            refine lv_bipush (v := xw_i (-15)) hx hb dX2_noteSolutions_37 (by decide) ?_
            exact k_39 sfo_1 sff_1 slf_1 sgf_1 (-15) _ _ _ h hP hD hS (lv_sub hl [0, 1, 2, 3] rfl)
          · have h := h.1 hcd
            refine lv_aload_n hx hb dX2_noteSolutions_28 rfl (lv_at hl 2 rfl) ?_
            refine va_get (D := (dC, dI)) (ci := 2) (v := .ref aS5) (C := RX2) (T := TX2) (N := 15) hx hb hts hwsX20 hown hK hP 0 rfl rfl 6 (by decide) (hts (.fieldLink RX2 33 "BoxProver$Search" "from" "[I") (by decide +kernel)) (fun _ h9 => h9) rfl dX2_noteSolutions_29 ?_
            refine lv_iload_n hx hb dX2_noteSolutions_32 rfl (lv_at hl 0 rfl) ?_
            obtain ⟨hin, h⟩ := h
            refine xw_iald (n := 4) hx hb hK hP 6 5 rfl rfl (by decide) hin dX2_noteSolutions_33 ?_
            refine lv_goto (tgt := 39) hx hb dX2_noteSolutions_34 (by decide) ?_
            exact k_39 sfo_1 sff_1 slf_1 sgf_1 (sfr x3.toNat) _ _ _ h hP hD hS (lv_sub hl [0, 1, 2, 3] rfl)
        · have h := h.2 hcd
          refine lv_aload_n hx hb dX2_noteSolutions_14 rfl (lv_at hl 2 rfl) ?_
          refine va_get (D := (dC, dI)) (ci := 2) (v := .ref aS7) (C := RX2) (T := TX2) (N := 15) hx hb hts hwsX20 hown hK hP 0 rfl rfl 8 (by decide) (hts (.fieldLink RX2 39 "BoxProver$Search" "value" "[I") (by decide +kernel)) (fun _ h9 => h9) rfl dX2_noteSolutions_15 ?_
          refine lv_iload_n hx hb dX2_noteSolutions_18 rfl (lv_at hl 0 rfl) ?_
          obtain ⟨hin, h⟩ := h
          refine xw_iald (n := 4) hx hb hK hP 8 7 rfl rfl (by decide) hin dX2_noteSolutions_19 ?_
          refine lv_goto (tgt := 39) hx hb dX2_noteSolutions_20 (by decide) ?_
          exact k_39 sfo_1 sff_1 slf_1 sgf_1 (sva x3.toNat) _ _ _ h hP hD hS (lv_sub hl [0, 1, 2, 3] rfl)
  obtain ⟨fu, h⟩ := h
  exact k_4 fu sfo sff slf sgf 0 1 _ _ _ h hP hD hS (lv_sub hl [0, 1, 2, 3] rfl)
