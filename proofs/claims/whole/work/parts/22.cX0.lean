def wp_X0_makeEmpty (post : Int → Int → Int → Int → Prop) (lnc : Int) (lsc : Int) (lcl : Int) (lwh : Int) (lce : Nat → Int) (lsp : Nat → Int) (ldr : Nat → Int) : Prop := post 0 0 0 0
def wp_X0_lineCount (post : Int → Prop) (lnc : Int) (lsc : Int) (lcl : Int) (lwh : Int) (lce : Nat → Int) (lsp : Nat → Int) (ldr : Nat → Int) : Prop := post lnc
def wp_X0_splitCount (post : Int → Prop) (lnc : Int) (lsc : Int) (lcl : Int) (lwh : Int) (lce : Nat → Int) (lsp : Nat → Int) (ldr : Nat → Int) : Prop := post lsc
def wp_X0_closings (post : Int → Prop) (lnc : Int) (lsc : Int) (lcl : Int) (lwh : Int) (lce : Nat → Int) (lsp : Nat → Int) (ldr : Nat → Int) : Prop := post lcl
def wp_X0_isWhole (post : Int → Prop) (lnc : Int) (lsc : Int) (lcl : Int) (lwh : Int) (lce : Nat → Int) (lsp : Nat → Int) (ldr : Nat → Int) : Prop := (lwh = 0 ∨ lwh = 1) ∧ post lwh
def wp_X0_hasLine (post : Int → Prop) (lnc : Int) (lsc : Int) (lcl : Int) (lwh : Int) (lce : Nat → Int) (lsp : Nat → Int) (ldr : Nat → Int) (p1 : Int) : Prop := xw_r p1 ∧ ((p1 < 0 → (post 0)) ∧ (¬ p1 < 0 → (xw_r lnc ∧ ((lnc ≤ p1 → (post 0)) ∧ (¬ lnc ≤ p1 → (post 1))))))
def wp_X0_lineCell (post : Int → Prop) (lnc : Int) (lsc : Int) (lcl : Int) (lwh : Int) (lce : Nat → Int) (lsp : Nat → Int) (ldr : Nat → Int) (p1 : Int) (p2 : Int) : Prop := (0 ≤ (p1 * 5) + p2 ∧ (p1 * 5) + p2 < 1000) ∧ (post (lce ((p1 * 5) + p2).toNat))
def wp_X0_hasSplit (post : Int → Prop) (lnc : Int) (lsc : Int) (lcl : Int) (lwh : Int) (lce : Nat → Int) (lsp : Nat → Int) (ldr : Nat → Int) (p1 : Int) : Prop := xw_r p1 ∧ ((p1 < 0 → (post 0)) ∧ (¬ p1 < 0 → (xw_r lsc ∧ ((lsc ≤ p1 → (post 0)) ∧ (¬ lsc ≤ p1 → (post 1))))))
def wp_X0_splitCell (post : Int → Prop) (lnc : Int) (lsc : Int) (lcl : Int) (lwh : Int) (lce : Nat → Int) (lsp : Nat → Int) (ldr : Nat → Int) (p1 : Int) (p2 : Int) : Prop := (0 ≤ (p1 * 4) + p2 ∧ (p1 * 4) + p2 < 40) ∧ (post (lsp ((p1 * 4) + p2).toNat))
def wp_X0_draftNumber (post : (Nat → Int) → Prop) (lnc : Int) (lsc : Int) (lcl : Int) (lwh : Int) (lce : Nat → Int) (lsp : Nat → Int) (ldr : Nat → Int) (p1 : Int) (p2 : Int) : Prop := (0 ≤ p1 ∧ p1 < 5) ∧ (∀ ldr_1 : Nat → Int, ldr_1 = xw_u ldr p1 p2 → (post ldr_1))
def wp_X0_draftBound (post : (Nat → Int) → Prop) (lnc : Int) (lsc : Int) (lcl : Int) (lwh : Int) (lce : Nat → Int) (lsp : Nat → Int) (ldr : Nat → Int) (p1 : Int) : Prop := (0 ≤ (4 : Int) ∧ (4 : Int) < 5) ∧ (∀ ldr_1 : Nat → Int, ldr_1 = xw_u ldr 4 p1 → (post ldr_1))
def wp_X0_draftWord_27 (J_3 : (Nat → Int) → Int → Prop) (x4 : Int) (ldr_3 : Nat → Int) (z0 : Int) (z1 : Int) : Prop := (0 ≤ z1 ∧ z1 < 5) ∧ (∀ ldr_4 : Nat → Int, ldr_4 = xw_u ldr_3 z1 z0 → (∀ x4_1 : Int, x4_1 = x4 + 1 → (J_3 ldr_4 x4_1)))
def wl_X0_draftWord_3 (p1 : Int) (p2 : Int) (p3 : Int) (post : (Nat → Int) → Prop) (J_3 : (Nat → Int) → Int → Prop) (ldr_1 : Nat → Int) (x4 : Int) : Prop := xw_r x4 ∧ ((4 ≤ x4 → (xw_r p3 ∧ ((0 ≤ (4 : Int) ∧ (4 : Int) < 5) ∧ (∀ ldr_2 : Nat → Int, ldr_2 = xw_u ldr_1 4 p3 → (post ldr_2))))) ∧ (¬ 4 ≤ x4 → (xw_r p1 ∧ ((x4 = p1 → (xw_r p2 ∧ (wp_X0_draftWord_27 J_3 x4 ldr_1 p2 x4))) ∧ (¬ x4 = p1 → (wp_X0_draftWord_27 J_3 x4 ldr_1 0 x4))))))
def wp_X0_draftWord_3 (p1 : Int) (p2 : Int) (p3 : Int) (post : (Nat → Int) → Prop) : Nat → (Nat → Int) → Int → Prop
  | 0 => fun _ _ => False
  | n + 1 => fun ldr_1 x4 => wl_X0_draftWord_3 p1 p2 p3 post (wp_X0_draftWord_3 p1 p2 p3 post n) ldr_1 x4
def wp_X0_draftWord (post : (Nat → Int) → Prop) (lnc : Int) (lsc : Int) (lcl : Int) (lwh : Int) (lce : Nat → Int) (lsp : Nat → Int) (ldr : Nat → Int) (p1 : Int) (p2 : Int) (p3 : Int) : Prop := ∃ fu : Nat, wp_X0_draftWord_3 p1 p2 p3 post fu ldr 0
def wl_X0_appendDraft_21 (ldr : Nat → Int) (post : Int → Int → (Nat → Int) → Prop) (J_21 : Int → (Nat → Int) → Int → Prop) (lnc_1 : Int) (lce_1 : Nat → Int) (x1 : Int) : Prop := xw_r x1 ∧ ((5 ≤ x1 → (∀ lf : Int, lf = lnc_1 + 1 → (post (lf - 1) lf lce_1))) ∧ (¬ 5 ≤ x1 → ((0 ≤ x1 ∧ x1 < 5) ∧ ((0 ≤ (lnc_1 * 5) + x1 ∧ (lnc_1 * 5) + x1 < 1000) ∧ (∀ lce_2 : Nat → Int, lce_2 = xw_u lce_1 ((lnc_1 * 5) + x1) (ldr x1.toNat) → (∀ x1_1 : Int, x1_1 = x1 + 1 → (J_21 lnc_1 lce_2 x1_1)))))))
def wp_X0_appendDraft_21 (ldr : Nat → Int) (post : Int → Int → (Nat → Int) → Prop) : Nat → Int → (Nat → Int) → Int → Prop
  | 0 => fun _ _ _ => False
  | n + 1 => fun lnc_1 lce_1 x1 => wl_X0_appendDraft_21 ldr post (wp_X0_appendDraft_21 ldr post n) lnc_1 lce_1 x1
def wp_X0_appendDraft (post : Int → Int → (Nat → Int) → Prop) (lnc : Int) (lsc : Int) (lcl : Int) (lwh : Int) (lce : Nat → Int) (lsp : Nat → Int) (ldr : Nat → Int) : Prop := xw_r lwh ∧ ((lwh = 0 → (xw_r lnc ∧ ((lnc < 200 → (∃ fu : Nat, wp_X0_appendDraft_21 ldr post fu lnc lce 0)) ∧ (¬ lnc < 200 → (post (-1) lnc lce))))) ∧ (¬ lwh = 0 → (post (-1) lnc lce)))
def wl_X0_isContradiction_2 (p1 : Int) (lnc : Int) (lsc : Int) (lcl : Int) (lwh : Int) (lce : Nat → Int) (lsp : Nat → Int) (ldr : Nat → Int) (post : Int → Prop) (J_2 : Int → Prop) (x2 : Int) : Prop := xw_r x2 ∧ ((4 ≤ x2 → (wp_X0_lineCell (fun r => (xw_l r ∧ ((0 ≤ r → (post 0)) ∧ (¬ 0 ≤ r → (post 1))))) lnc lsc lcl lwh lce lsp ldr p1 4)) ∧ (¬ 4 ≤ x2 → (wp_X0_lineCell (fun r_1 => (xw_l r_1 ∧ ((r_1 = 0 → (∀ x2_1 : Int, x2_1 = x2 + 1 → (J_2 x2_1))) ∧ (¬ r_1 = 0 → (post 0))))) lnc lsc lcl lwh lce lsp ldr p1 x2)))
def wp_X0_isContradiction_2 (p1 : Int) (lnc : Int) (lsc : Int) (lcl : Int) (lwh : Int) (lce : Nat → Int) (lsp : Nat → Int) (ldr : Nat → Int) (post : Int → Prop) : Nat → Int → Prop
  | 0 => fun _ => False
  | n + 1 => fun x2 => wl_X0_isContradiction_2 p1 lnc lsc lcl lwh lce lsp ldr post (wp_X0_isContradiction_2 p1 lnc lsc lcl lwh lce lsp ldr post n) x2
def wp_X0_isContradiction (post : Int → Prop) (lnc : Int) (lsc : Int) (lcl : Int) (lwh : Int) (lce : Nat → Int) (lsp : Nat → Int) (ldr : Nat → Int) (p1 : Int) : Prop := ∃ fu : Nat, wp_X0_isContradiction_2 p1 lnc lsc lcl lwh lce lsp ldr post fu 0
def wl_X0_draftIsInRange_2 (ldr : Nat → Int) (post : Int → Prop) (J_2 : Int → Prop) (x1 : Int) : Prop := xw_r x1 ∧ ((4 ≤ x1 → ((0 ≤ (4 : Int) ∧ (4 : Int) < 5) ∧ (xw_l (ldr (4 : Int).toNat) ∧ ((ldr (4 : Int).toNat < (-1000000000000) → (post 0)) ∧ (¬ ldr (4 : Int).toNat < (-1000000000000) → ((0 ≤ (4 : Int) ∧ (4 : Int) < 5) ∧ ((1000000000000 < ldr (4 : Int).toNat → (post 0)) ∧ (¬ 1000000000000 < ldr (4 : Int).toNat → (post 1))))))))) ∧ (¬ 4 ≤ x1 → ((0 ≤ x1 ∧ x1 < 5) ∧ (xw_l (ldr x1.toNat) ∧ ((ldr x1.toNat < (-1000000000) → (post 0)) ∧ (¬ ldr x1.toNat < (-1000000000) → ((0 ≤ x1 ∧ x1 < 5) ∧ ((ldr x1.toNat ≤ 1000000000 → (∀ x1_1 : Int, x1_1 = x1 + 1 → (J_2 x1_1))) ∧ (¬ ldr x1.toNat ≤ 1000000000 → (post 0))))))))))
def wp_X0_draftIsInRange_2 (ldr : Nat → Int) (post : Int → Prop) : Nat → Int → Prop
  | 0 => fun _ => False
  | n + 1 => fun x1 => wl_X0_draftIsInRange_2 ldr post (wp_X0_draftIsInRange_2 ldr post n) x1
def wp_X0_draftIsInRange (post : Int → Prop) (lnc : Int) (lsc : Int) (lcl : Int) (lwh : Int) (lce : Nat → Int) (lsp : Nat → Int) (ldr : Nat → Int) : Prop := ∃ fu : Nat, wp_X0_draftIsInRange_2 ldr post fu 0
def wl_X0_appendSum_45 (p1 : Int) (p2 : Int) (p3 : Int) (p4 : Int) (lsc : Int) (lcl : Int) (lwh : Int) (lsp : Nat → Int) (post : Int → Int → (Nat → Int) → (Nat → Int) → Prop) (J_45 : Int → (Nat → Int) → (Nat → Int) → Int → Prop) (lnc_1 : Int) (lce_1 : Nat → Int) (ldr_1 : Nat → Int) (x5 : Int) : Prop := xw_r x5 ∧ ((5 ≤ x5 → (wp_X0_draftIsInRange (fun r_2 => (xw_r r_2 ∧ ((r_2 = 0 → (post (-1) lnc_1 lce_1 ldr_1)) ∧ (¬ r_2 = 0 → (wp_X0_appendDraft (fun r_3 lnc_2 lce_2 => (post r_3 lnc_2 lce_2 ldr_1)) lnc_1 lsc lcl lwh lce_1 lsp ldr_1))))) lnc_1 lsc lcl lwh lce_1 lsp ldr_1)) ∧ (¬ 5 ≤ x5 → (wp_X0_lineCell (fun r_4 => (wp_X0_lineCell (fun r_5 => ((0 ≤ x5 ∧ x5 < 5) ∧ (∀ ldr_2 : Nat → Int, ldr_2 = xw_u ldr_1 x5 ((p2 * r_4) + (p4 * r_5)) → (∀ x5_1 : Int, x5_1 = x5 + 1 → (J_45 lnc_1 lce_1 ldr_2 x5_1))))) lnc_1 lsc lcl lwh lce_1 lsp ldr_1 p3 x5)) lnc_1 lsc lcl lwh lce_1 lsp ldr_1 p1 x5)))
def wp_X0_appendSum_45 (p1 : Int) (p2 : Int) (p3 : Int) (p4 : Int) (lsc : Int) (lcl : Int) (lwh : Int) (lsp : Nat → Int) (post : Int → Int → (Nat → Int) → (Nat → Int) → Prop) : Nat → Int → (Nat → Int) → (Nat → Int) → Int → Prop
  | 0 => fun _ _ _ _ => False
  | n + 1 => fun lnc_1 lce_1 ldr_1 x5 => wl_X0_appendSum_45 p1 p2 p3 p4 lsc lcl lwh lsp post (wp_X0_appendSum_45 p1 p2 p3 p4 lsc lcl lwh lsp post n) lnc_1 lce_1 ldr_1 x5
def wp_X0_appendSum (post : Int → Int → (Nat → Int) → (Nat → Int) → Prop) (lnc : Int) (lsc : Int) (lcl : Int) (lwh : Int) (lce : Nat → Int) (lsp : Nat → Int) (ldr : Nat → Int) (p1 : Int) (p2 : Int) (p3 : Int) (p4 : Int) : Prop := wp_X0_hasLine (fun r => (xw_r r ∧ ((r = 0 → (post (-1) lnc lce ldr)) ∧ (¬ r = 0 → (wp_X0_hasLine (fun r_1 => (xw_r r_1 ∧ ((r_1 = 0 → (post (-1) lnc lce ldr)) ∧ (¬ r_1 = 0 → (xw_r p2 ∧ ((p2 < 0 → (post (-1) lnc lce ldr)) ∧ (¬ p2 < 0 → ((1000 < p2 → (post (-1) lnc lce ldr)) ∧ (¬ 1000 < p2 → (xw_r p4 ∧ ((p4 < 0 → (post (-1) lnc lce ldr)) ∧ (¬ p4 < 0 → ((p4 ≤ 1000 → (∃ fu : Nat, wp_X0_appendSum_45 p1 p2 p3 p4 lsc lcl lwh lsp post fu lnc lce ldr 0)) ∧ (¬ p4 ≤ 1000 → (post (-1) lnc lce ldr))))))))))))))) lnc lsc lcl lwh lce lsp ldr p3))))) lnc lsc lcl lwh lce lsp ldr p1
def wl_X0_appendQuotient_23 (p1 : Int) (p2 : Int) (lsc : Int) (lcl : Int) (lwh : Int) (lsp : Nat → Int) (post : Int → Int → (Nat → Int) → (Nat → Int) → Prop) (J_23 : Int → (Nat → Int) → (Nat → Int) → Int → Prop) (lnc_1 : Int) (lce_1 : Nat → Int) (ldr_1 : Nat → Int) (x3 : Int) : Prop := xw_r x3 ∧ ((4 ≤ x3 → (wp_X0_lineCell (fun r_1 => (wp_J9_floorDiv_f86c9 (fun r_2 => ((0 ≤ (4 : Int) ∧ (4 : Int) < 5) ∧ (∀ ldr_2 : Nat → Int, ldr_2 = xw_u ldr_1 4 r_2 → (wp_X0_appendDraft (fun r_3 lnc_2 lce_2 => (post r_3 lnc_2 lce_2 ldr_2)) lnc_1 lsc lcl lwh lce_1 lsp ldr_2)))) r_1 p2)) lnc_1 lsc lcl lwh lce_1 lsp ldr_1 p1 4)) ∧ (¬ 4 ≤ x3 → (wp_X0_lineCell (fun r_4 => (xw_l r_4 ∧ (xw_l p2 ∧ ((¬ p2 = 0) ∧ (xw_l (r_4 - Int.tdiv r_4 p2 * p2) ∧ ((r_4 - Int.tdiv r_4 p2 * p2 = 0 → ((¬ p2 = 0) ∧ ((0 ≤ x3 ∧ x3 < 5) ∧ (∀ ldr_3 : Nat → Int, ldr_3 = xw_u ldr_1 x3 (Int.tdiv r_4 p2) → (∀ x3_1 : Int, x3_1 = x3 + 1 → (J_23 lnc_1 lce_1 ldr_3 x3_1)))))) ∧ (¬ r_4 - Int.tdiv r_4 p2 * p2 = 0 → (post (-1) lnc_1 lce_1 ldr_1)))))))) lnc_1 lsc lcl lwh lce_1 lsp ldr_1 p1 x3)))
def wp_X0_appendQuotient_23 (p1 : Int) (p2 : Int) (lsc : Int) (lcl : Int) (lwh : Int) (lsp : Nat → Int) (post : Int → Int → (Nat → Int) → (Nat → Int) → Prop) : Nat → Int → (Nat → Int) → (Nat → Int) → Int → Prop
  | 0 => fun _ _ _ _ => False
  | n + 1 => fun lnc_1 lce_1 ldr_1 x3 => wl_X0_appendQuotient_23 p1 p2 lsc lcl lwh lsp post (wp_X0_appendQuotient_23 p1 p2 lsc lcl lwh lsp post n) lnc_1 lce_1 ldr_1 x3
def wp_X0_appendQuotient (post : Int → Int → (Nat → Int) → (Nat → Int) → Prop) (lnc : Int) (lsc : Int) (lcl : Int) (lwh : Int) (lce : Nat → Int) (lsp : Nat → Int) (ldr : Nat → Int) (p1 : Int) (p2 : Int) : Prop := wp_X0_hasLine (fun r => (xw_r r ∧ ((r = 0 → (post (-1) lnc lce ldr)) ∧ (¬ r = 0 → (xw_r p2 ∧ ((p2 < 1 → (post (-1) lnc lce ldr)) ∧ (¬ p2 < 1 → ((p2 ≤ 1000000000 → (∃ fu : Nat, wp_X0_appendQuotient_23 p1 p2 lsc lcl lwh lsp post fu lnc lce ldr 0)) ∧ (¬ p2 ≤ 1000000000 → (post (-1) lnc lce ldr)))))))))) lnc lsc lcl lwh lce lsp ldr p1
def wp_X0_openSplit (post : Int → Int → Int → (Nat → Int) → (Nat → Int) → (Nat → Int) → Prop) (lnc : Int) (lsc : Int) (lcl : Int) (lwh : Int) (lce : Nat → Int) (lsp : Nat → Int) (ldr : Nat → Int) (p1 : Int) (p2 : Int) : Prop := xw_r p2 ∧ ((p2 < (-16) → (post (-1) lnc lsc lce lsp ldr)) ∧ (¬ p2 < (-16) → ((15 < p2 → (post (-1) lnc lsc lce lsp ldr)) ∧ (¬ 15 < p2 → (xw_r lsc ∧ ((lsc < 10 → (wp_X0_draftWord (fun ldr_1 => (wp_X0_appendDraft (fun r lnc_1 lce_1 => (xw_r r ∧ ((r = (-1) → (post (-1) lnc_1 lsc lce_1 lsp ldr_1)) ∧ (¬ r = (-1) → (∀ x4 : Int, x4 = lsc * 4 → ((0 ≤ x4 + 0 ∧ x4 + 0 < 40) ∧ (∀ lsp_1 : Nat → Int, lsp_1 = xw_u lsp (x4 + 0) p1 → ((0 ≤ x4 + 1 ∧ x4 + 1 < 40) ∧ (∀ lsp_2 : Nat → Int, lsp_2 = xw_u lsp_1 (x4 + 1) p2 → ((0 ≤ x4 + 2 ∧ x4 + 2 < 40) ∧ (∀ lsp_3 : Nat → Int, lsp_3 = xw_u lsp_2 (x4 + 2) 1 → ((0 ≤ x4 + 3 ∧ x4 + 3 < 40) ∧ (∀ lsp_4 : Nat → Int, lsp_4 = xw_u lsp_3 (x4 + 3) r → (∀ sf : Int, sf = lsc + 1 → (post r lnc_1 sf lce_1 lsp_4 ldr_1))))))))))))))) lnc lsc lcl lwh lce lsp ldr_1)) lnc lsc lcl lwh lce lsp ldr p1 1 p2)) ∧ (¬ lsc < 10 → (post (-1) lnc lsc lce lsp ldr))))))))
def wp_X0_closeAll (post : Int → Int → Int → Prop) (lnc : Int) (lsc : Int) (lcl : Int) (lwh : Int) (lce : Nat → Int) (lsp : Nat → Int) (ldr : Nat → Int) : Prop := xw_r lsc ∧ ((lsc ≤ 0 → (post lnc 0 1)) ∧ (¬ lsc ≤ 0 → (wp_X0_splitCell (fun r => (post r 0 1)) lnc lsc lcl lwh lce lsp ldr 0 3)))
def wl_X0_leaveBranch_7 (lcl : Int) (post : Int → Int → Int → (Nat → Int) → (Nat → Int) → (Nat → Int) → Prop) (J_7 : Int → Int → Int → (Nat → Int) → (Nat → Int) → (Nat → Int) → Int → Prop) (lnc_1 : Int) (lsc_1 : Int) (lwh_1 : Int) (lce_1 : Nat → Int) (lsp_1 : Nat → Int) (ldr_1 : Nat → Int) (x1_1 : Int) : Prop := xw_r x1_1 ∧ ((x1_1 < 0 → (post lnc_1 lsc_1 1 lce_1 lsp_1 ldr_1)) ∧ (¬ x1_1 < 0 → (wp_X0_splitCell (fun r => (wp_X0_splitCell (fun r_1 => (xw_r r_1 ∧ ((r_1 = 1 → ((0 ≤ (x1_1 * 4) + 2 ∧ (x1_1 * 4) + 2 < 40) ∧ (∀ lsp_2 : Nat → Int, lsp_2 = xw_u lsp_1 ((x1_1 * 4) + 2) 2 → (wp_X0_splitCell (fun r_2 => (wp_X0_splitCell (fun r_3 => (wp_X0_draftWord (fun ldr_2 => (wp_X0_appendDraft (fun r_4 r_5 lce_2 => (post r_5 lsc_1 lwh_1 lce_2 lsp_2 ldr_2)) r lsc_1 lcl lwh_1 lce_1 lsp_2 ldr_2)) r lsc_1 lcl lwh_1 lce_1 lsp_2 ldr_1 r_2 (-1) ((-r_3) - 1))) r lsc_1 lcl lwh_1 lce_1 lsp_2 ldr_1 x1_1 1)) r lsc_1 lcl lwh_1 lce_1 lsp_2 ldr_1 x1_1 0)))) ∧ (¬ r_1 = 1 → (∀ x1_2 : Int, x1_2 = x1_1 + (-1) → (J_7 r x1_1 lwh_1 lce_1 lsp_1 ldr_1 x1_2)))))) r lsc_1 lcl lwh_1 lce_1 lsp_1 ldr_1 x1_1 2)) lnc_1 lsc_1 lcl lwh_1 lce_1 lsp_1 ldr_1 x1_1 3)))
def wp_X0_leaveBranch_7 (lcl : Int) (post : Int → Int → Int → (Nat → Int) → (Nat → Int) → (Nat → Int) → Prop) : Nat → Int → Int → Int → (Nat → Int) → (Nat → Int) → (Nat → Int) → Int → Prop
  | 0 => fun _ _ _ _ _ _ _ => False
  | n + 1 => fun lnc_1 lsc_1 lwh_1 lce_1 lsp_1 ldr_1 x1_1 => wl_X0_leaveBranch_7 lcl post (wp_X0_leaveBranch_7 lcl post n) lnc_1 lsc_1 lwh_1 lce_1 lsp_1 ldr_1 x1_1
def wp_X0_leaveBranch (post : Int → Int → Int → (Nat → Int) → (Nat → Int) → (Nat → Int) → Prop) (lnc : Int) (lsc : Int) (lcl : Int) (lwh : Int) (lce : Nat → Int) (lsp : Nat → Int) (ldr : Nat → Int) : Prop := ∀ x1 : Int, x1 = lsc - 1 → (∃ fu : Nat, wp_X0_leaveBranch_7 lcl post fu lnc lsc lwh lce lsp ldr x1)
def wp_X0_closeBranch (post : Int → Int → Int → Int → Int → (Nat → Int) → (Nat → Int) → (Nat → Int) → Prop) (lnc : Int) (lsc : Int) (lcl : Int) (lwh : Int) (lce : Nat → Int) (lsp : Nat → Int) (ldr : Nat → Int) (p1 : Int) : Prop := xw_r lwh ∧ ((lwh = 0 → (wp_X0_hasLine (fun r => (xw_r r ∧ ((r = 0 → (post (-1) lnc lsc lcl lwh lce lsp ldr)) ∧ (¬ r = 0 → (wp_X0_isContradiction (fun r_1 => (xw_r r_1 ∧ ((r_1 = 0 → (post (-1) lnc lsc lcl lwh lce lsp ldr)) ∧ (¬ r_1 = 0 → (∀ cf : Int, cf = lcl + 1 → (wp_X0_leaveBranch (fun lnc_1 lsc_1 lwh_1 lce_1 lsp_1 ldr_1 => (post lsc_1 lnc_1 lsc_1 cf lwh_1 lce_1 lsp_1 ldr_1)) lnc lsc cf lwh lce lsp ldr)))))) lnc lsc lcl lwh lce lsp ldr p1))))) lnc lsc lcl lwh lce lsp ldr p1)) ∧ (¬ lwh = 0 → (post (-1) lnc lsc lcl lwh lce lsp ldr)))
set_option maxHeartbeats 4000000 in
set_option maxRecDepth 100000 in
theorem c_X0_init (l : Launch) (dC : Nat → ClassId) (dI : Nat → Nat → Nat) (sz : Nat) (qL : Nat) : Met l yX0_init wsX0_init ({ frames := 1, cells := 3, slots := 1045, locals := 12 }) (va_Pc [.ref qL] (xw_Pre (dC, dI) vwCl [(qL, .inr (0, [.null, .null, .null, .int (xw_i 0), .int (xw_i 0), .int (xw_i 0), .int (xw_i 0)]))] [] sz)) (va_Qv (fun (_ : Nat × ClassId × Nat × ClassId × Nat × ClassId) => True) (xw_B (dC, dI) vwCl (fun (u : Nat × ClassId × Nat × ClassId × Nat × ClassId) => [(u.2.1, .long), (u.2.2.2.1, .int), (u.2.2.2.2.2, .long)]) (va_A [(qL, .inr (0, [.null, .null, .null, .int (xw_i 0), .int (xw_i 0), .int (xw_i 0), .int (xw_i 0)]))] sz) (fun (u : Nat × ClassId × Nat × ClassId × Nat × ClassId) => [(qL, .inr (0, [.ref u.1, .ref u.2.2.1, .ref u.2.2.2.2.1, .int (xw_i 0), .int (xw_i 0), .int (xw_i 0), .int (xw_i 0)])), (u.1, .inl (u.2.1, 1000, .inr (.inl (xw_b (fun _ => 0))))), (u.2.2.1, .inl (u.2.2.2.1, 40, .inl (xw_a (fun _ => 0)))), (u.2.2.2.2.1, .inl (u.2.2.2.2.2, 5, .inr (.inl (xw_b (fun _ => 0)))))])) (va_A [(qL, .inr (0, [.null, .null, .null, .int (xw_i 0), .int (xw_i 0), .int (xw_i 0), .int (xw_i 0)]))] sz)) 3 1045 (va_A [(qL, .inr (0, [.null, .null, .null, .int (xw_i 0), .int (xw_i 0), .int (xw_i 0), .int (xw_i 0)]))] sz) := by
  refine xw_ofV (cc := cX0_init) (maxL := 1) (by decide +kernel) rfl (Nat.le_of_ble_eq_true rfl) ?_
  intro p e s m args below meth c hx hb hml hown hts hin A hA hP hD hK Q hret ls hl hS
  have hl : lv_has ls 1 [(0, .ref qL)] := hl
  have hwsX00 : ∀ w ∈ wsX00, w ∈ wsX0_init := fun _ h => List.mem_cons_of_mem _ (List.mem_append_right _ h)
  refine lv_aload_n hx hb dX0_init_0 rfl (lv_at hl 0 rfl) ?_
  refine W.objInit hx hb hown (hts (.methodLink RX0 3 objectInit) (by decide +kernel)) (hts (.instanceMethod objectInit) (by decide +kernel)) (hts (.code objectInit ⟨#[0xb1]⟩ 1 none) (by decide +kernel)) rfl (by rw [hml]; exact hl.1) rfl dX0_init_1 (Nat.le_of_ble_eq_true rfl) (Nat.le_of_ble_eq_true rfl) ?_
  refine W.eq (g2 := F0 m 4 ls []) rfl ?_
  refine lv_aload_n hx hb dX0_init_4 rfl (lv_at hl 0 rfl) ?_
  refine lv_sipush (v := xw_i 1000) hx hb dX0_init_5 (by decide) ?_
  refine xw_newl (N' := 1000) hx hb (hts (.arrayClass .long) (by decide +kernel)) hK hP hD hS hA rfl (by decide) (Nat.le_of_ble_eq_true rfl) (Nat.le_of_ble_eq_true rfl) dX0_init_8 (fun qn kn H hK hP hD hS => ?_)
  have hP : va_P (dC, dI) vwCl [(qL, .inr (0, [.null, .null, .null, .int (xw_i 0), .int (xw_i 0), .int (xw_i 0), .int (xw_i 0)])), (qn, .inl (kn, 1000, .inr (.inl (xw_b (fun _ => 0)))))] H := hP
  have hD : va_D A [(qL, .inr (0, [.null, .null, .null, .int (xw_i 0), .int (xw_i 0), .int (xw_i 0), .int (xw_i 0)])), (qn, .inl (kn, 1000, .inr (.inl (xw_b (fun _ => 0)))))] := hD
  have hK : va_K (dC, dI) vwCl [(kn, .long)] s := hK
  refine W.widen (k := 1) (n := 1000) (by decide) (by decide) ?_
  refine va_putF (D := (dC, dI)) (ci := 0) (v := .ref qn) (ty := (.array .long)) (C := RX0) (T := TX0) (N := 7) hx hb hts hwsX00 tyX0 tyX0_ok nmX0 hown hK hP hD hS 0 rfl rfl 0 (by decide) (hts (.fieldLink RX0 11 "BoxProver$Log" "cells" "[J") (by decide +kernel)) (fun _ h9 => h9) rfl hin rfl (by decide +kernel) rfl rfl (Nat.le_of_ble_eq_true rfl) dX0_init_10 (fun H locs hP hD hS => ?_)
  have hP : va_P (dC, dI) vwCl [(qL, .inr (0, [.ref qn, .null, .null, .int (xw_i 0), .int (xw_i 0), .int (xw_i 0), .int (xw_i 0)])), (qn, .inl (kn, 1000, .inr (.inl (xw_b (fun _ => 0)))))] H := hP
  have hD : va_D A [(qL, .inr (0, [.ref qn, .null, .null, .int (xw_i 0), .int (xw_i 0), .int (xw_i 0), .int (xw_i 0)])), (qn, .inl (kn, 1000, .inr (.inl (xw_b (fun _ => 0)))))] := hD
  refine lv_aload_n hx hb dX0_init_13 rfl (lv_at hl 0 rfl) ?_
  refine lv_bipush (v := xw_i 40) hx hb dX0_init_14 (by decide) ?_
  refine xw_newi (N' := 40) hx hb (hts (.arrayClass .int) (by decide +kernel)) hK hP hD hS hA rfl (by decide) (Nat.le_of_ble_eq_true rfl) (Nat.le_of_ble_eq_true rfl) dX0_init_16 (fun qn_1 kn_1 H hK hP hD hS => ?_)
  have hP : va_P (dC, dI) vwCl [(qL, .inr (0, [.ref qn, .null, .null, .int (xw_i 0), .int (xw_i 0), .int (xw_i 0), .int (xw_i 0)])), (qn, .inl (kn, 1000, .inr (.inl (xw_b (fun _ => 0))))), (qn_1, .inl (kn_1, 40, .inl (xw_a (fun _ => 0))))] H := hP
  have hD : va_D A [(qL, .inr (0, [.ref qn, .null, .null, .int (xw_i 0), .int (xw_i 0), .int (xw_i 0), .int (xw_i 0)])), (qn, .inl (kn, 1000, .inr (.inl (xw_b (fun _ => 0))))), (qn_1, .inl (kn_1, 40, .inl (xw_a (fun _ => 0))))] := hD
  have hK : va_K (dC, dI) vwCl [(kn, .long), (kn_1, .int)] s := hK
  refine W.widen (k := 2) (n := 1040) (by decide) (by decide) ?_
  refine va_putF (D := (dC, dI)) (ci := 0) (v := .ref qn_1) (ty := (.array .int)) (C := RX0) (T := TX0) (N := 7) hx hb hts hwsX00 tyX0 tyX0_ok nmX0 hown hK hP hD hS 0 rfl rfl 1 (by decide) (hts (.fieldLink RX0 15 "BoxProver$Log" "splitCells" "[I") (by decide +kernel)) (fun _ h9 => h9) rfl hin rfl (by decide +kernel) rfl rfl (Nat.le_of_ble_eq_true rfl) dX0_init_18 (fun H locs hP hD hS => ?_)
  have hP : va_P (dC, dI) vwCl [(qL, .inr (0, [.ref qn, .ref qn_1, .null, .int (xw_i 0), .int (xw_i 0), .int (xw_i 0), .int (xw_i 0)])), (qn, .inl (kn, 1000, .inr (.inl (xw_b (fun _ => 0))))), (qn_1, .inl (kn_1, 40, .inl (xw_a (fun _ => 0))))] H := hP
  have hD : va_D A [(qL, .inr (0, [.ref qn, .ref qn_1, .null, .int (xw_i 0), .int (xw_i 0), .int (xw_i 0), .int (xw_i 0)])), (qn, .inl (kn, 1000, .inr (.inl (xw_b (fun _ => 0))))), (qn_1, .inl (kn_1, 40, .inl (xw_a (fun _ => 0))))] := hD
  refine lv_aload_n hx hb dX0_init_21 rfl (lv_at hl 0 rfl) ?_
  refine lv_iconst (v := xw_i 5) hx hb dX0_init_22 (by decide) ?_
  refine xw_newl (N' := 5) hx hb (hts (.arrayClass .long) (by decide +kernel)) hK hP hD hS hA rfl (by decide) (Nat.le_of_ble_eq_true rfl) (Nat.le_of_ble_eq_true rfl) dX0_init_23 (fun qn_2 kn_2 H hK hP hD hS => ?_)
  have hP : va_P (dC, dI) vwCl [(qL, .inr (0, [.ref qn, .ref qn_1, .null, .int (xw_i 0), .int (xw_i 0), .int (xw_i 0), .int (xw_i 0)])), (qn, .inl (kn, 1000, .inr (.inl (xw_b (fun _ => 0))))), (qn_1, .inl (kn_1, 40, .inl (xw_a (fun _ => 0)))), (qn_2, .inl (kn_2, 5, .inr (.inl (xw_b (fun _ => 0)))))] H := hP
  have hD : va_D A [(qL, .inr (0, [.ref qn, .ref qn_1, .null, .int (xw_i 0), .int (xw_i 0), .int (xw_i 0), .int (xw_i 0)])), (qn, .inl (kn, 1000, .inr (.inl (xw_b (fun _ => 0))))), (qn_1, .inl (kn_1, 40, .inl (xw_a (fun _ => 0)))), (qn_2, .inl (kn_2, 5, .inr (.inl (xw_b (fun _ => 0)))))] := hD
  have hK : va_K (dC, dI) vwCl [(kn, .long), (kn_1, .int), (kn_2, .long)] s := hK
  refine W.widen (k := 3) (n := 1045) (by decide) (by decide) ?_
  refine va_putF (D := (dC, dI)) (ci := 0) (v := .ref qn_2) (ty := (.array .long)) (C := RX0) (T := TX0) (N := 7) hx hb hts hwsX00 tyX0 tyX0_ok nmX0 hown hK hP hD hS 0 rfl rfl 2 (by decide) (hts (.fieldLink RX0 19 "BoxProver$Log" "draft" "[J") (by decide +kernel)) (fun _ h9 => h9) rfl hin rfl (by decide +kernel) rfl rfl (Nat.le_of_ble_eq_true rfl) dX0_init_25 (fun H locs hP hD hS => ?_)
  have hP : va_P (dC, dI) vwCl [(qL, .inr (0, [.ref qn, .ref qn_1, .ref qn_2, .int (xw_i 0), .int (xw_i 0), .int (xw_i 0), .int (xw_i 0)])), (qn, .inl (kn, 1000, .inr (.inl (xw_b (fun _ => 0))))), (qn_1, .inl (kn_1, 40, .inl (xw_a (fun _ => 0)))), (qn_2, .inl (kn_2, 5, .inr (.inl (xw_b (fun _ => 0)))))] H := hP
  have hD : va_D A [(qL, .inr (0, [.ref qn, .ref qn_1, .ref qn_2, .int (xw_i 0), .int (xw_i 0), .int (xw_i 0), .int (xw_i 0)])), (qn, .inl (kn, 1000, .inr (.inl (xw_b (fun _ => 0))))), (qn_1, .inl (kn_1, 40, .inl (xw_a (fun _ => 0)))), (qn_2, .inl (kn_2, 5, .inr (.inl (xw_b (fun _ => 0)))))] := hD
  refine lv_aload_n hx hb dX0_init_28 rfl (lv_at hl 0 rfl) ?_
  refine lv_iconst (v := xw_i 0) hx hb dX0_init_29 (by decide) ?_
  refine va_put (D := (dC, dI)) (ci := 0) (v := .int (xw_i 0)) (ty := .int) (C := RX0) (T := TX0) (N := 7) hx hb hts hwsX00 tyX0 tyX0_ok nmX0 hown hK hP hD hS 0 rfl rfl 3 (by decide) (hts (.fieldLink RX0 22 "BoxProver$Log" "lineCount" "I") (by decide +kernel)) (fun _ h9 => h9) rfl (by decide +kernel) rfl rfl (Nat.le_of_ble_eq_true rfl) dX0_init_30 (fun H locs hP hD hS => ?_)
  have hP : va_P (dC, dI) vwCl [(qL, .inr (0, [.ref qn, .ref qn_1, .ref qn_2, .int (xw_i 0), .int (xw_i 0), .int (xw_i 0), .int (xw_i 0)])), (qn, .inl (kn, 1000, .inr (.inl (xw_b (fun _ => 0))))), (qn_1, .inl (kn_1, 40, .inl (xw_a (fun _ => 0)))), (qn_2, .inl (kn_2, 5, .inr (.inl (xw_b (fun _ => 0)))))] H := hP
  have hD : va_D A [(qL, .inr (0, [.ref qn, .ref qn_1, .ref qn_2, .int (xw_i 0), .int (xw_i 0), .int (xw_i 0), .int (xw_i 0)])), (qn, .inl (kn, 1000, .inr (.inl (xw_b (fun _ => 0))))), (qn_1, .inl (kn_1, 40, .inl (xw_a (fun _ => 0)))), (qn_2, .inl (kn_2, 5, .inr (.inl (xw_b (fun _ => 0)))))] := hD
  refine lv_aload_n hx hb dX0_init_33 rfl (lv_at hl 0 rfl) ?_
  refine lv_iconst (v := xw_i 0) hx hb dX0_init_34 (by decide) ?_
  refine va_put (D := (dC, dI)) (ci := 0) (v := .int (xw_i 0)) (ty := .int) (C := RX0) (T := TX0) (N := 7) hx hb hts hwsX00 tyX0 tyX0_ok nmX0 hown hK hP hD hS 0 rfl rfl 4 (by decide) (hts (.fieldLink RX0 26 "BoxProver$Log" "splitCount" "I") (by decide +kernel)) (fun _ h9 => h9) rfl (by decide +kernel) rfl rfl (Nat.le_of_ble_eq_true rfl) dX0_init_35 (fun H locs hP hD hS => ?_)
  have hP : va_P (dC, dI) vwCl [(qL, .inr (0, [.ref qn, .ref qn_1, .ref qn_2, .int (xw_i 0), .int (xw_i 0), .int (xw_i 0), .int (xw_i 0)])), (qn, .inl (kn, 1000, .inr (.inl (xw_b (fun _ => 0))))), (qn_1, .inl (kn_1, 40, .inl (xw_a (fun _ => 0)))), (qn_2, .inl (kn_2, 5, .inr (.inl (xw_b (fun _ => 0)))))] H := hP
  have hD : va_D A [(qL, .inr (0, [.ref qn, .ref qn_1, .ref qn_2, .int (xw_i 0), .int (xw_i 0), .int (xw_i 0), .int (xw_i 0)])), (qn, .inl (kn, 1000, .inr (.inl (xw_b (fun _ => 0))))), (qn_1, .inl (kn_1, 40, .inl (xw_a (fun _ => 0)))), (qn_2, .inl (kn_2, 5, .inr (.inl (xw_b (fun _ => 0)))))] := hD
  refine lv_aload_n hx hb dX0_init_38 rfl (lv_at hl 0 rfl) ?_
  refine lv_iconst (v := xw_i 0) hx hb dX0_init_39 (by decide) ?_
  refine va_put (D := (dC, dI)) (ci := 0) (v := .int (xw_i 0)) (ty := .int) (C := RX0) (T := TX0) (N := 7) hx hb hts hwsX00 tyX0 tyX0_ok nmX0 hown hK hP hD hS 0 rfl rfl 5 (by decide) (hts (.fieldLink RX0 29 "BoxProver$Log" "closings" "I") (by decide +kernel)) (fun _ h9 => h9) rfl (by decide +kernel) rfl rfl (Nat.le_of_ble_eq_true rfl) dX0_init_40 (fun H locs hP hD hS => ?_)
  have hP : va_P (dC, dI) vwCl [(qL, .inr (0, [.ref qn, .ref qn_1, .ref qn_2, .int (xw_i 0), .int (xw_i 0), .int (xw_i 0), .int (xw_i 0)])), (qn, .inl (kn, 1000, .inr (.inl (xw_b (fun _ => 0))))), (qn_1, .inl (kn_1, 40, .inl (xw_a (fun _ => 0)))), (qn_2, .inl (kn_2, 5, .inr (.inl (xw_b (fun _ => 0)))))] H := hP
  have hD : va_D A [(qL, .inr (0, [.ref qn, .ref qn_1, .ref qn_2, .int (xw_i 0), .int (xw_i 0), .int (xw_i 0), .int (xw_i 0)])), (qn, .inl (kn, 1000, .inr (.inl (xw_b (fun _ => 0))))), (qn_1, .inl (kn_1, 40, .inl (xw_a (fun _ => 0)))), (qn_2, .inl (kn_2, 5, .inr (.inl (xw_b (fun _ => 0)))))] := hD
  refine lv_aload_n hx hb dX0_init_43 rfl (lv_at hl 0 rfl) ?_
  refine lv_iconst (v := xw_i 0) hx hb dX0_init_44 (by decide) ?_
  refine va_put (D := (dC, dI)) (ci := 0) (v := .int (xw_i 0)) (ty := .boolean) (C := RX0) (T := TX0) (N := 7) hx hb hts hwsX00 tyX0 tyX0_ok nmX0 hown hK hP hD hS 0 rfl rfl 6 (by decide) (hts (.fieldLink RX0 32 "BoxProver$Log" "whole" "Z") (by decide +kernel)) (fun _ h9 => h9) rfl (by decide +kernel) rfl rfl (Nat.le_of_ble_eq_true rfl) dX0_init_45 (fun H locs hP hD hS => ?_)
  have hP : va_P (dC, dI) vwCl [(qL, .inr (0, [.ref qn, .ref qn_1, .ref qn_2, .int (xw_i 0), .int (xw_i 0), .int (xw_i 0), .int (xw_i 0)])), (qn, .inl (kn, 1000, .inr (.inl (xw_b (fun _ => 0))))), (qn_1, .inl (kn_1, 40, .inl (xw_a (fun _ => 0)))), (qn_2, .inl (kn_2, 5, .inr (.inl (xw_b (fun _ => 0)))))] H := hP
  have hD : va_D A [(qL, .inr (0, [.ref qn, .ref qn_1, .ref qn_2, .int (xw_i 0), .int (xw_i 0), .int (xw_i 0), .int (xw_i 0)])), (qn, .inl (kn, 1000, .inr (.inl (xw_b (fun _ => 0))))), (qn_1, .inl (kn_1, 40, .inl (xw_a (fun _ => 0)))), (qn_2, .inl (kn_2, 5, .inr (.inl (xw_b (fun _ => 0)))))] := hD
  exact hret _ _ _ _ (qn, kn, qn_1, kn_1, qn_2, kn_2) dX0_init_48 trivial hP hD hK hS
set_option maxHeartbeats 4000000 in
set_option maxRecDepth 100000 in
theorem c_X0_makeEmpty (l : Launch) (dC : Nat → ClassId) (dI : Nat → Nat → Nat) (qL aL0 aL1 aL2 : Nat) (kL0 kL1 kL2 : ClassId) (sz : Nat) (lnc : Int) (lsc : Int) (lcl : Int) (lwh : Int) (lce : Nat → Int) (lsp : Nat → Int) (ldr : Nat → Int) (post : Int → Int → Int → Int → Prop) (h : wp_X0_makeEmpty post lnc lsc lcl lwh lce lsp ldr) : Met l yX0_makeEmpty wsX0_makeEmpty ({ frames := 0, cells := 0, slots := 0, locals := 0 }) (va_Pc [.ref qL] (xw_Pre (dC, dI) vwCl (wd_X0 qL aL0 aL1 aL2 kL0 kL1 kL2 lnc lsc lcl lwh lce lsp ldr) [(kL0, .long), (kL1, .int), (kL2, .long)] sz)) (va_Qv (fun (u : Int × Int × Int × Int) => post u.1 u.2.1 u.2.2.1 u.2.2.2) (xw_B (dC, dI) vwCl (fun (_ : Int × Int × Int × Int) => [(kL0, .long), (kL1, .int), (kL2, .long)]) (va_A (wd_X0 qL aL0 aL1 aL2 kL0 kL1 kL2 lnc lsc lcl lwh lce lsp ldr) sz) (fun (u : Int × Int × Int × Int) => (wd_X0 qL aL0 aL1 aL2 kL0 kL1 kL2 u.1 u.2.1 u.2.2.1 u.2.2.2 lce lsp ldr))) (va_A (wd_X0 qL aL0 aL1 aL2 kL0 kL1 kL2 lnc lsc lcl lwh lce lsp ldr) sz)) 0 0 (va_A (wd_X0 qL aL0 aL1 aL2 kL0 kL1 kL2 lnc lsc lcl lwh lce lsp ldr) sz) := by
  refine xw_ofV (cc := cX0_makeEmpty) (maxL := 1) (by decide +kernel) rfl (Nat.le_of_ble_eq_true rfl) ?_
  intro p e s m args below meth c hx hb hml hown hts hin A hA hP hD hK Q hret ls hl hS
  have hl : lv_has ls 1 [(0, .ref qL)] := hl
  have hwsX00 : ∀ w ∈ wsX00, w ∈ wsX0_makeEmpty := fun _ h => List.mem_cons_of_mem _ (List.mem_append_right _ h)
  unfold wp_X0_makeEmpty at h
  refine lv_aload_n hx hb dX0_makeEmpty_0 rfl (lv_at hl 0 rfl) ?_
  refine lv_iconst (v := xw_i 0) hx hb dX0_makeEmpty_1 (by decide) ?_
  refine va_put (D := (dC, dI)) (ci := 0) (v := .int (xw_i 0)) (ty := .int) (C := RX0) (T := TX0) (N := 7) hx hb hts hwsX00 tyX0 tyX0_ok nmX0 hown hK hP hD hS 0 rfl rfl 3 (by decide) (hts (.fieldLink RX0 22 "BoxProver$Log" "lineCount" "I") (by decide +kernel)) (fun _ h9 => h9) rfl (by decide +kernel) rfl rfl (Nat.le_of_ble_eq_true rfl) dX0_makeEmpty_2 (fun H locs hP hD hS => ?_)
  have hP : va_P (dC, dI) vwCl (wd_X0 qL aL0 aL1 aL2 kL0 kL1 kL2 0 lsc lcl lwh lce lsp ldr) H := hP
  have hD : va_D A (wd_X0 qL aL0 aL1 aL2 kL0 kL1 kL2 0 lsc lcl lwh lce lsp ldr) := hD
  refine lv_aload_n hx hb dX0_makeEmpty_5 rfl (lv_at hl 0 rfl) ?_
  refine lv_iconst (v := xw_i 0) hx hb dX0_makeEmpty_6 (by decide) ?_
  refine va_put (D := (dC, dI)) (ci := 0) (v := .int (xw_i 0)) (ty := .int) (C := RX0) (T := TX0) (N := 7) hx hb hts hwsX00 tyX0 tyX0_ok nmX0 hown hK hP hD hS 0 rfl rfl 4 (by decide) (hts (.fieldLink RX0 26 "BoxProver$Log" "splitCount" "I") (by decide +kernel)) (fun _ h9 => h9) rfl (by decide +kernel) rfl rfl (Nat.le_of_ble_eq_true rfl) dX0_makeEmpty_7 (fun H locs hP hD hS => ?_)
  have hP : va_P (dC, dI) vwCl (wd_X0 qL aL0 aL1 aL2 kL0 kL1 kL2 0 0 lcl lwh lce lsp ldr) H := hP
  have hD : va_D A (wd_X0 qL aL0 aL1 aL2 kL0 kL1 kL2 0 0 lcl lwh lce lsp ldr) := hD
  refine lv_aload_n hx hb dX0_makeEmpty_10 rfl (lv_at hl 0 rfl) ?_
  refine lv_iconst (v := xw_i 0) hx hb dX0_makeEmpty_11 (by decide) ?_
  refine va_put (D := (dC, dI)) (ci := 0) (v := .int (xw_i 0)) (ty := .int) (C := RX0) (T := TX0) (N := 7) hx hb hts hwsX00 tyX0 tyX0_ok nmX0 hown hK hP hD hS 0 rfl rfl 5 (by decide) (hts (.fieldLink RX0 29 "BoxProver$Log" "closings" "I") (by decide +kernel)) (fun _ h9 => h9) rfl (by decide +kernel) rfl rfl (Nat.le_of_ble_eq_true rfl) dX0_makeEmpty_12 (fun H locs hP hD hS => ?_)
  have hP : va_P (dC, dI) vwCl (wd_X0 qL aL0 aL1 aL2 kL0 kL1 kL2 0 0 0 lwh lce lsp ldr) H := hP
  have hD : va_D A (wd_X0 qL aL0 aL1 aL2 kL0 kL1 kL2 0 0 0 lwh lce lsp ldr) := hD
  refine lv_aload_n hx hb dX0_makeEmpty_15 rfl (lv_at hl 0 rfl) ?_
  refine lv_iconst (v := xw_i 0) hx hb dX0_makeEmpty_16 (by decide) ?_
  refine va_put (D := (dC, dI)) (ci := 0) (v := .int (xw_i 0)) (ty := .boolean) (C := RX0) (T := TX0) (N := 7) hx hb hts hwsX00 tyX0 tyX0_ok nmX0 hown hK hP hD hS 0 rfl rfl 6 (by decide) (hts (.fieldLink RX0 32 "BoxProver$Log" "whole" "Z") (by decide +kernel)) (fun _ h9 => h9) rfl (by decide +kernel) rfl rfl (Nat.le_of_ble_eq_true rfl) dX0_makeEmpty_17 (fun H locs hP hD hS => ?_)
  have hP : va_P (dC, dI) vwCl (wd_X0 qL aL0 aL1 aL2 kL0 kL1 kL2 0 0 0 0 lce lsp ldr) H := hP
  have hD : va_D A (wd_X0 qL aL0 aL1 aL2 kL0 kL1 kL2 0 0 0 0 lce lsp ldr) := hD
  exact hret _ _ _ _ (0, 0, 0, 0) dX0_makeEmpty_20 h hP hD hK hS
set_option maxHeartbeats 4000000 in
set_option maxRecDepth 100000 in
theorem c_X0_lineCount (l : Launch) (dC : Nat → ClassId) (dI : Nat → Nat → Nat) (qL aL0 aL1 aL2 : Nat) (kL0 kL1 kL2 : ClassId) (sz : Nat) (lnc : Int) (lsc : Int) (lcl : Int) (lwh : Int) (lce : Nat → Int) (lsp : Nat → Int) (ldr : Nat → Int) (post : Int → Prop) (h : wp_X0_lineCount post lnc lsc lcl lwh lce lsp ldr) : Met l yX0_lineCount wsX0_lineCount ({ frames := 0, cells := 0, slots := 0, locals := 0 }) (va_Pc [.ref qL] (xw_Pre (dC, dI) vwCl (wd_X0 qL aL0 aL1 aL2 kL0 kL1 kL2 lnc lsc lcl lwh lce lsp ldr) [(kL0, .long), (kL1, .int), (kL2, .long)] sz)) (va_Qi (xw_pi (fun v (u : Unit) => post v)) (xw_B (dC, dI) vwCl (fun (_ : Unit) => [(kL0, .long), (kL1, .int), (kL2, .long)]) (va_A (wd_X0 qL aL0 aL1 aL2 kL0 kL1 kL2 lnc lsc lcl lwh lce lsp ldr) sz) (fun (u : Unit) => (wd_X0 qL aL0 aL1 aL2 kL0 kL1 kL2 lnc lsc lcl lwh lce lsp ldr))) (va_A (wd_X0 qL aL0 aL1 aL2 kL0 kL1 kL2 lnc lsc lcl lwh lce lsp ldr) sz)) 0 0 (va_A (wd_X0 qL aL0 aL1 aL2 kL0 kL1 kL2 lnc lsc lcl lwh lce lsp ldr) sz) := by
  refine xw_ofI (cc := cX0_lineCount) (maxL := 1) (by decide +kernel) rfl (Nat.le_of_ble_eq_true rfl) ?_
  intro p e s m args below meth c hx hb hml hown hts A hA hP hD hK Q hret ls hl hS
  have hl : lv_has ls 1 [(0, .ref qL)] := hl
  have hwsX00 : ∀ w ∈ wsX00, w ∈ wsX0_lineCount := fun _ h => List.mem_cons_of_mem _ (List.mem_append_right _ h)
  unfold wp_X0_lineCount at h
  refine lv_aload_n hx hb dX0_lineCount_0 rfl (lv_at hl 0 rfl) ?_
  refine va_get (D := (dC, dI)) (ci := 0) (v := .int (xw_i lnc)) (C := RX0) (T := TX0) (N := 7) hx hb hts hwsX00 hown hK hP 0 rfl rfl 3 (by decide) (hts (.fieldLink RX0 22 "BoxProver$Log" "lineCount" "I") (by decide +kernel)) (fun _ h9 => h9) rfl dX0_lineCount_1 ?_
  exact hret _ _ _ _ lnc () dX0_lineCount_4 h hP hD hK hS
set_option maxHeartbeats 4000000 in
set_option maxRecDepth 100000 in
theorem c_X0_splitCount (l : Launch) (dC : Nat → ClassId) (dI : Nat → Nat → Nat) (qL aL0 aL1 aL2 : Nat) (kL0 kL1 kL2 : ClassId) (sz : Nat) (lnc : Int) (lsc : Int) (lcl : Int) (lwh : Int) (lce : Nat → Int) (lsp : Nat → Int) (ldr : Nat → Int) (post : Int → Prop) (h : wp_X0_splitCount post lnc lsc lcl lwh lce lsp ldr) : Met l yX0_splitCount wsX0_splitCount ({ frames := 0, cells := 0, slots := 0, locals := 0 }) (va_Pc [.ref qL] (xw_Pre (dC, dI) vwCl (wd_X0 qL aL0 aL1 aL2 kL0 kL1 kL2 lnc lsc lcl lwh lce lsp ldr) [(kL0, .long), (kL1, .int), (kL2, .long)] sz)) (va_Qi (xw_pi (fun v (u : Unit) => post v)) (xw_B (dC, dI) vwCl (fun (_ : Unit) => [(kL0, .long), (kL1, .int), (kL2, .long)]) (va_A (wd_X0 qL aL0 aL1 aL2 kL0 kL1 kL2 lnc lsc lcl lwh lce lsp ldr) sz) (fun (u : Unit) => (wd_X0 qL aL0 aL1 aL2 kL0 kL1 kL2 lnc lsc lcl lwh lce lsp ldr))) (va_A (wd_X0 qL aL0 aL1 aL2 kL0 kL1 kL2 lnc lsc lcl lwh lce lsp ldr) sz)) 0 0 (va_A (wd_X0 qL aL0 aL1 aL2 kL0 kL1 kL2 lnc lsc lcl lwh lce lsp ldr) sz) := by
  refine xw_ofI (cc := cX0_splitCount) (maxL := 1) (by decide +kernel) rfl (Nat.le_of_ble_eq_true rfl) ?_
  intro p e s m args below meth c hx hb hml hown hts A hA hP hD hK Q hret ls hl hS
  have hl : lv_has ls 1 [(0, .ref qL)] := hl
  have hwsX00 : ∀ w ∈ wsX00, w ∈ wsX0_splitCount := fun _ h => List.mem_cons_of_mem _ (List.mem_append_right _ h)
  unfold wp_X0_splitCount at h
  refine lv_aload_n hx hb dX0_splitCount_0 rfl (lv_at hl 0 rfl) ?_
  refine va_get (D := (dC, dI)) (ci := 0) (v := .int (xw_i lsc)) (C := RX0) (T := TX0) (N := 7) hx hb hts hwsX00 hown hK hP 0 rfl rfl 4 (by decide) (hts (.fieldLink RX0 26 "BoxProver$Log" "splitCount" "I") (by decide +kernel)) (fun _ h9 => h9) rfl dX0_splitCount_1 ?_
  exact hret _ _ _ _ lsc () dX0_splitCount_4 h hP hD hK hS
set_option maxHeartbeats 4000000 in
set_option maxRecDepth 100000 in
theorem c_X0_closings (l : Launch) (dC : Nat → ClassId) (dI : Nat → Nat → Nat) (qL aL0 aL1 aL2 : Nat) (kL0 kL1 kL2 : ClassId) (sz : Nat) (lnc : Int) (lsc : Int) (lcl : Int) (lwh : Int) (lce : Nat → Int) (lsp : Nat → Int) (ldr : Nat → Int) (post : Int → Prop) (h : wp_X0_closings post lnc lsc lcl lwh lce lsp ldr) : Met l yX0_closings wsX0_closings ({ frames := 0, cells := 0, slots := 0, locals := 0 }) (va_Pc [.ref qL] (xw_Pre (dC, dI) vwCl (wd_X0 qL aL0 aL1 aL2 kL0 kL1 kL2 lnc lsc lcl lwh lce lsp ldr) [(kL0, .long), (kL1, .int), (kL2, .long)] sz)) (va_Qi (xw_pi (fun v (u : Unit) => post v)) (xw_B (dC, dI) vwCl (fun (_ : Unit) => [(kL0, .long), (kL1, .int), (kL2, .long)]) (va_A (wd_X0 qL aL0 aL1 aL2 kL0 kL1 kL2 lnc lsc lcl lwh lce lsp ldr) sz) (fun (u : Unit) => (wd_X0 qL aL0 aL1 aL2 kL0 kL1 kL2 lnc lsc lcl lwh lce lsp ldr))) (va_A (wd_X0 qL aL0 aL1 aL2 kL0 kL1 kL2 lnc lsc lcl lwh lce lsp ldr) sz)) 0 0 (va_A (wd_X0 qL aL0 aL1 aL2 kL0 kL1 kL2 lnc lsc lcl lwh lce lsp ldr) sz) := by
  refine xw_ofI (cc := cX0_closings) (maxL := 1) (by decide +kernel) rfl (Nat.le_of_ble_eq_true rfl) ?_
  intro p e s m args below meth c hx hb hml hown hts A hA hP hD hK Q hret ls hl hS
  have hl : lv_has ls 1 [(0, .ref qL)] := hl
  have hwsX00 : ∀ w ∈ wsX00, w ∈ wsX0_closings := fun _ h => List.mem_cons_of_mem _ (List.mem_append_right _ h)
  unfold wp_X0_closings at h
  refine lv_aload_n hx hb dX0_closings_0 rfl (lv_at hl 0 rfl) ?_
  refine va_get (D := (dC, dI)) (ci := 0) (v := .int (xw_i lcl)) (C := RX0) (T := TX0) (N := 7) hx hb hts hwsX00 hown hK hP 0 rfl rfl 5 (by decide) (hts (.fieldLink RX0 29 "BoxProver$Log" "closings" "I") (by decide +kernel)) (fun _ h9 => h9) rfl dX0_closings_1 ?_
  exact hret _ _ _ _ lcl () dX0_closings_4 h hP hD hK hS
set_option maxHeartbeats 4000000 in
set_option maxRecDepth 100000 in
theorem c_X0_isWhole (l : Launch) (dC : Nat → ClassId) (dI : Nat → Nat → Nat) (qL aL0 aL1 aL2 : Nat) (kL0 kL1 kL2 : ClassId) (sz : Nat) (lnc : Int) (lsc : Int) (lcl : Int) (lwh : Int) (lce : Nat → Int) (lsp : Nat → Int) (ldr : Nat → Int) (post : Int → Prop) (h : wp_X0_isWhole post lnc lsc lcl lwh lce lsp ldr) : Met l yX0_isWhole wsX0_isWhole ({ frames := 0, cells := 0, slots := 0, locals := 0 }) (va_Pc [.ref qL] (xw_Pre (dC, dI) vwCl (wd_X0 qL aL0 aL1 aL2 kL0 kL1 kL2 lnc lsc lcl lwh lce lsp ldr) [(kL0, .long), (kL1, .int), (kL2, .long)] sz)) (va_Qi (xw_pi (fun v (u : Unit) => post v)) (xw_B (dC, dI) vwCl (fun (_ : Unit) => [(kL0, .long), (kL1, .int), (kL2, .long)]) (va_A (wd_X0 qL aL0 aL1 aL2 kL0 kL1 kL2 lnc lsc lcl lwh lce lsp ldr) sz) (fun (u : Unit) => (wd_X0 qL aL0 aL1 aL2 kL0 kL1 kL2 lnc lsc lcl lwh lce lsp ldr))) (va_A (wd_X0 qL aL0 aL1 aL2 kL0 kL1 kL2 lnc lsc lcl lwh lce lsp ldr) sz)) 0 0 (va_A (wd_X0 qL aL0 aL1 aL2 kL0 kL1 kL2 lnc lsc lcl lwh lce lsp ldr) sz) := by
  refine xw_ofZ (cc := cX0_isWhole) (maxL := 1) (by decide +kernel) rfl (Nat.le_of_ble_eq_true rfl) ?_
  intro p e s m args below meth c hx hb hml hown hts A hA hP hD hK Q hret ls hl hS
  have hl : lv_has ls 1 [(0, .ref qL)] := hl
  have hwsX00 : ∀ w ∈ wsX00, w ∈ wsX0_isWhole := fun _ h => List.mem_cons_of_mem _ (List.mem_append_right _ h)
  unfold wp_X0_isWhole at h
  refine lv_aload_n hx hb dX0_isWhole_0 rfl (lv_at hl 0 rfl) ?_
  refine va_get (D := (dC, dI)) (ci := 0) (v := .int (xw_i lwh)) (C := RX0) (T := TX0) (N := 7) hx hb hts hwsX00 hown hK hP 0 rfl rfl 6 (by decide) (hts (.fieldLink RX0 32 "BoxProver$Log" "whole" "Z") (by decide +kernel)) (fun _ h9 => h9) rfl dX0_isWhole_1 ?_
  exact hret _ _ _ _ lwh () dX0_isWhole_4 h.1 h.2 hP hD hK hS
set_option maxHeartbeats 4000000 in
set_option maxRecDepth 100000 in
theorem c_X0_hasLine (l : Launch) (dC : Nat → ClassId) (dI : Nat → Nat → Nat) (qL aL0 aL1 aL2 : Nat) (kL0 kL1 kL2 : ClassId) (sz : Nat) (lnc : Int) (lsc : Int) (lcl : Int) (lwh : Int) (lce : Nat → Int) (lsp : Nat → Int) (ldr : Nat → Int) (p1 : Int) (post : Int → Prop) (h : wp_X0_hasLine post lnc lsc lcl lwh lce lsp ldr p1) : Met l yX0_hasLine wsX0_hasLine ({ frames := 0, cells := 0, slots := 0, locals := 0 }) (va_Pc [.ref qL, .int (xw_i p1)] (xw_Pre (dC, dI) vwCl (wd_X0 qL aL0 aL1 aL2 kL0 kL1 kL2 lnc lsc lcl lwh lce lsp ldr) [(kL0, .long), (kL1, .int), (kL2, .long)] sz)) (va_Qi (xw_pi (fun v (u : Unit) => post v)) (xw_B (dC, dI) vwCl (fun (_ : Unit) => [(kL0, .long), (kL1, .int), (kL2, .long)]) (va_A (wd_X0 qL aL0 aL1 aL2 kL0 kL1 kL2 lnc lsc lcl lwh lce lsp ldr) sz) (fun (u : Unit) => (wd_X0 qL aL0 aL1 aL2 kL0 kL1 kL2 lnc lsc lcl lwh lce lsp ldr))) (va_A (wd_X0 qL aL0 aL1 aL2 kL0 kL1 kL2 lnc lsc lcl lwh lce lsp ldr) sz)) 0 0 (va_A (wd_X0 qL aL0 aL1 aL2 kL0 kL1 kL2 lnc lsc lcl lwh lce lsp ldr) sz) := by
  refine xw_ofZ (cc := cX0_hasLine) (maxL := 2) (by decide +kernel) rfl (Nat.le_of_ble_eq_true rfl) ?_
  intro p e s m args below meth c hx hb hml hown hts A hA hP hD hK Q hret ls hl hS
  have hl : lv_has ls 2 [(0, .ref qL), (1, .int (xw_i p1))] := hl
  have hwsX00 : ∀ w ∈ wsX00, w ∈ wsX0_hasLine := fun _ h => List.mem_cons_of_mem _ (List.mem_append_right _ h)
  unfold wp_X0_hasLine at h
  refine lv_iload_n hx hb dX0_hasLine_0 rfl (lv_at hl 1 rfl) ?_
  obtain ⟨hr1, h⟩ := h
  refine xw_if_lt (tgt := 16) hx hb hr1 dX0_hasLine_1 (by decide) (fun hcd => ?_) (fun hcd => ?_)
  · have h := h.1 hcd
    refine lv_iconst (v := xw_i 0) hx hb dX0_hasLine_16 (by decide) ?_
    exact hret _ _ _ _ 0 () dX0_hasLine_17 (by decide) h hP hD hK hS
  · have h := h.2 hcd
    refine lv_iload_n hx hb dX0_hasLine_4 rfl (lv_at hl 1 rfl) ?_
    refine lv_aload_n hx hb dX0_hasLine_5 rfl (lv_at hl 0 rfl) ?_
    refine va_get (D := (dC, dI)) (ci := 0) (v := .int (xw_i lnc)) (C := RX0) (T := TX0) (N := 7) hx hb hts hwsX00 hown hK hP 0 rfl rfl 3 (by decide) (hts (.fieldLink RX0 22 "BoxProver$Log" "lineCount" "I") (by decide +kernel)) (fun _ h9 => h9) rfl dX0_hasLine_6 ?_
    obtain ⟨hr2, h⟩ := h
    refine xw_icmp_ge (tgt := 16) hx hb ⟨hr1, hr2⟩ dX0_hasLine_9 (by decide) (fun hcd => ?_) (fun hcd => ?_)
    · have h := h.1 hcd
      refine lv_iconst (v := xw_i 0) hx hb dX0_hasLine_16 (by decide) ?_
      exact hret _ _ _ _ 0 () dX0_hasLine_17 (by decide) h hP hD hK hS
    · have h := h.2 hcd
      refine lv_iconst (v := xw_i 1) hx hb dX0_hasLine_12 (by decide) ?_
      refine lv_goto (tgt := 17) hx hb dX0_hasLine_13 (by decide) ?_
      exact hret _ _ _ _ 1 () dX0_hasLine_17 (by decide) h hP hD hK hS
set_option maxHeartbeats 4000000 in
set_option maxRecDepth 100000 in
theorem c_X0_lineCell (l : Launch) (dC : Nat → ClassId) (dI : Nat → Nat → Nat) (qL aL0 aL1 aL2 : Nat) (kL0 kL1 kL2 : ClassId) (sz : Nat) (lnc : Int) (lsc : Int) (lcl : Int) (lwh : Int) (lce : Nat → Int) (lsp : Nat → Int) (ldr : Nat → Int) (p1 : Int) (p2 : Int) (post : Int → Prop) (h : wp_X0_lineCell post lnc lsc lcl lwh lce lsp ldr p1 p2) : Met l yX0_lineCell wsX0_lineCell ({ frames := 0, cells := 0, slots := 0, locals := 0 }) (va_Pc [.ref qL, .int (xw_i p1), .int (xw_i p2)] (xw_Pre (dC, dI) vwCl (wd_X0 qL aL0 aL1 aL2 kL0 kL1 kL2 lnc lsc lcl lwh lce lsp ldr) [(kL0, .long), (kL1, .int), (kL2, .long)] sz)) (va_Ql (xw_pl (fun v (u : Unit) => post v)) (xw_B (dC, dI) vwCl (fun (_ : Unit) => [(kL0, .long), (kL1, .int), (kL2, .long)]) (va_A (wd_X0 qL aL0 aL1 aL2 kL0 kL1 kL2 lnc lsc lcl lwh lce lsp ldr) sz) (fun (u : Unit) => (wd_X0 qL aL0 aL1 aL2 kL0 kL1 kL2 lnc lsc lcl lwh lce lsp ldr))) (va_A (wd_X0 qL aL0 aL1 aL2 kL0 kL1 kL2 lnc lsc lcl lwh lce lsp ldr) sz)) 0 0 (va_A (wd_X0 qL aL0 aL1 aL2 kL0 kL1 kL2 lnc lsc lcl lwh lce lsp ldr) sz) := by
  refine xw_ofL (cc := cX0_lineCell) (maxL := 3) (by decide +kernel) rfl (Nat.le_of_ble_eq_true rfl) ?_
  intro p e s m args below meth c hx hb hml hown hts A hA hP hD hK Q hret ls hl hS
  have hl : lv_has ls 3 [(0, .ref qL), (1, .int (xw_i p1)), (2, .int (xw_i p2))] := hl
  have hwsX00 : ∀ w ∈ wsX00, w ∈ wsX0_lineCell := fun _ h => List.mem_cons_of_mem _ (List.mem_append_right _ h)
  unfold wp_X0_lineCell at h
  refine lv_aload_n hx hb dX0_lineCell_0 rfl (lv_at hl 0 rfl) ?_
  refine va_get (D := (dC, dI)) (ci := 0) (v := .ref aL0) (C := RX0) (T := TX0) (N := 7) hx hb hts hwsX00 hown hK hP 0 rfl rfl 0 (by decide) (hts (.fieldLink RX0 11 "BoxProver$Log" "cells" "[J") (by decide +kernel)) (fun _ h9 => h9) rfl dX0_lineCell_1 ?_
  refine lv_iload_n hx hb dX0_lineCell_4 rfl (lv_at hl 1 rfl) ?_
  refine lv_iconst (v := xw_i 5) hx hb dX0_lineCell_5 (by decide) ?_
  refine xw_imul hx hb dX0_lineCell_6 ?_
  refine lv_iload_n hx hb dX0_lineCell_7 rfl (lv_at hl 2 rfl) ?_
  refine xw_iadd hx hb dX0_lineCell_8 ?_
  obtain ⟨hin, h⟩ := h
  refine xw_lald (n := 1000) hx hb hK hP 1 0 rfl rfl (by decide) hin dX0_lineCell_9 ?_
  exact hret _ _ _ _ (lce ((p1 * 5) + p2).toNat) () dX0_lineCell_10 h hP hD hK hS
set_option maxHeartbeats 4000000 in
set_option maxRecDepth 100000 in
theorem c_X0_hasSplit (l : Launch) (dC : Nat → ClassId) (dI : Nat → Nat → Nat) (qL aL0 aL1 aL2 : Nat) (kL0 kL1 kL2 : ClassId) (sz : Nat) (lnc : Int) (lsc : Int) (lcl : Int) (lwh : Int) (lce : Nat → Int) (lsp : Nat → Int) (ldr : Nat → Int) (p1 : Int) (post : Int → Prop) (h : wp_X0_hasSplit post lnc lsc lcl lwh lce lsp ldr p1) : Met l yX0_hasSplit wsX0_hasSplit ({ frames := 0, cells := 0, slots := 0, locals := 0 }) (va_Pc [.ref qL, .int (xw_i p1)] (xw_Pre (dC, dI) vwCl (wd_X0 qL aL0 aL1 aL2 kL0 kL1 kL2 lnc lsc lcl lwh lce lsp ldr) [(kL0, .long), (kL1, .int), (kL2, .long)] sz)) (va_Qi (xw_pi (fun v (u : Unit) => post v)) (xw_B (dC, dI) vwCl (fun (_ : Unit) => [(kL0, .long), (kL1, .int), (kL2, .long)]) (va_A (wd_X0 qL aL0 aL1 aL2 kL0 kL1 kL2 lnc lsc lcl lwh lce lsp ldr) sz) (fun (u : Unit) => (wd_X0 qL aL0 aL1 aL2 kL0 kL1 kL2 lnc lsc lcl lwh lce lsp ldr))) (va_A (wd_X0 qL aL0 aL1 aL2 kL0 kL1 kL2 lnc lsc lcl lwh lce lsp ldr) sz)) 0 0 (va_A (wd_X0 qL aL0 aL1 aL2 kL0 kL1 kL2 lnc lsc lcl lwh lce lsp ldr) sz) := by
  refine xw_ofZ (cc := cX0_hasSplit) (maxL := 2) (by decide +kernel) rfl (Nat.le_of_ble_eq_true rfl) ?_
  intro p e s m args below meth c hx hb hml hown hts A hA hP hD hK Q hret ls hl hS
  have hl : lv_has ls 2 [(0, .ref qL), (1, .int (xw_i p1))] := hl
  have hwsX00 : ∀ w ∈ wsX00, w ∈ wsX0_hasSplit := fun _ h => List.mem_cons_of_mem _ (List.mem_append_right _ h)
  unfold wp_X0_hasSplit at h
  refine lv_iload_n hx hb dX0_hasSplit_0 rfl (lv_at hl 1 rfl) ?_
  obtain ⟨hr1, h⟩ := h
  refine xw_if_lt (tgt := 16) hx hb hr1 dX0_hasSplit_1 (by decide) (fun hcd => ?_) (fun hcd => ?_)
  · have h := h.1 hcd
    refine lv_iconst (v := xw_i 0) hx hb dX0_hasSplit_16 (by decide) ?_
    exact hret _ _ _ _ 0 () dX0_hasSplit_17 (by decide) h hP hD hK hS
  · have h := h.2 hcd
    refine lv_iload_n hx hb dX0_hasSplit_4 rfl (lv_at hl 1 rfl) ?_
    refine lv_aload_n hx hb dX0_hasSplit_5 rfl (lv_at hl 0 rfl) ?_
    refine va_get (D := (dC, dI)) (ci := 0) (v := .int (xw_i lsc)) (C := RX0) (T := TX0) (N := 7) hx hb hts hwsX00 hown hK hP 0 rfl rfl 4 (by decide) (hts (.fieldLink RX0 26 "BoxProver$Log" "splitCount" "I") (by decide +kernel)) (fun _ h9 => h9) rfl dX0_hasSplit_6 ?_
    obtain ⟨hr2, h⟩ := h
    refine xw_icmp_ge (tgt := 16) hx hb ⟨hr1, hr2⟩ dX0_hasSplit_9 (by decide) (fun hcd => ?_) (fun hcd => ?_)
    · have h := h.1 hcd
      refine lv_iconst (v := xw_i 0) hx hb dX0_hasSplit_16 (by decide) ?_
      exact hret _ _ _ _ 0 () dX0_hasSplit_17 (by decide) h hP hD hK hS
    · have h := h.2 hcd
      refine lv_iconst (v := xw_i 1) hx hb dX0_hasSplit_12 (by decide) ?_
      refine lv_goto (tgt := 17) hx hb dX0_hasSplit_13 (by decide) ?_
      exact hret _ _ _ _ 1 () dX0_hasSplit_17 (by decide) h hP hD hK hS
set_option maxHeartbeats 4000000 in
set_option maxRecDepth 100000 in
theorem c_X0_splitCell (l : Launch) (dC : Nat → ClassId) (dI : Nat → Nat → Nat) (qL aL0 aL1 aL2 : Nat) (kL0 kL1 kL2 : ClassId) (sz : Nat) (lnc : Int) (lsc : Int) (lcl : Int) (lwh : Int) (lce : Nat → Int) (lsp : Nat → Int) (ldr : Nat → Int) (p1 : Int) (p2 : Int) (post : Int → Prop) (h : wp_X0_splitCell post lnc lsc lcl lwh lce lsp ldr p1 p2) : Met l yX0_splitCell wsX0_splitCell ({ frames := 0, cells := 0, slots := 0, locals := 0 }) (va_Pc [.ref qL, .int (xw_i p1), .int (xw_i p2)] (xw_Pre (dC, dI) vwCl (wd_X0 qL aL0 aL1 aL2 kL0 kL1 kL2 lnc lsc lcl lwh lce lsp ldr) [(kL0, .long), (kL1, .int), (kL2, .long)] sz)) (va_Qi (xw_pi (fun v (u : Unit) => post v)) (xw_B (dC, dI) vwCl (fun (_ : Unit) => [(kL0, .long), (kL1, .int), (kL2, .long)]) (va_A (wd_X0 qL aL0 aL1 aL2 kL0 kL1 kL2 lnc lsc lcl lwh lce lsp ldr) sz) (fun (u : Unit) => (wd_X0 qL aL0 aL1 aL2 kL0 kL1 kL2 lnc lsc lcl lwh lce lsp ldr))) (va_A (wd_X0 qL aL0 aL1 aL2 kL0 kL1 kL2 lnc lsc lcl lwh lce lsp ldr) sz)) 0 0 (va_A (wd_X0 qL aL0 aL1 aL2 kL0 kL1 kL2 lnc lsc lcl lwh lce lsp ldr) sz) := by
  refine xw_ofI (cc := cX0_splitCell) (maxL := 3) (by decide +kernel) rfl (Nat.le_of_ble_eq_true rfl) ?_
  intro p e s m args below meth c hx hb hml hown hts A hA hP hD hK Q hret ls hl hS
  have hl : lv_has ls 3 [(0, .ref qL), (1, .int (xw_i p1)), (2, .int (xw_i p2))] := hl
  have hwsX00 : ∀ w ∈ wsX00, w ∈ wsX0_splitCell := fun _ h => List.mem_cons_of_mem _ (List.mem_append_right _ h)
  unfold wp_X0_splitCell at h
  refine lv_aload_n hx hb dX0_splitCell_0 rfl (lv_at hl 0 rfl) ?_
  refine va_get (D := (dC, dI)) (ci := 0) (v := .ref aL1) (C := RX0) (T := TX0) (N := 7) hx hb hts hwsX00 hown hK hP 0 rfl rfl 1 (by decide) (hts (.fieldLink RX0 15 "BoxProver$Log" "splitCells" "[I") (by decide +kernel)) (fun _ h9 => h9) rfl dX0_splitCell_1 ?_
  refine lv_iload_n hx hb dX0_splitCell_4 rfl (lv_at hl 1 rfl) ?_
  refine lv_iconst (v := xw_i 4) hx hb dX0_splitCell_5 (by decide) ?_
  refine xw_imul hx hb dX0_splitCell_6 ?_
  refine lv_iload_n hx hb dX0_splitCell_7 rfl (lv_at hl 2 rfl) ?_
  refine xw_iadd hx hb dX0_splitCell_8 ?_
  obtain ⟨hin, h⟩ := h
  refine xw_iald (n := 40) hx hb hK hP 2 1 rfl rfl (by decide) hin dX0_splitCell_9 ?_
  exact hret _ _ _ _ (lsp ((p1 * 4) + p2).toNat) () dX0_splitCell_10 h hP hD hK hS
set_option maxHeartbeats 4000000 in
set_option maxRecDepth 100000 in
theorem c_X0_draftNumber (l : Launch) (dC : Nat → ClassId) (dI : Nat → Nat → Nat) (qL aL0 aL1 aL2 : Nat) (kL0 kL1 kL2 : ClassId) (sz : Nat) (lnc : Int) (lsc : Int) (lcl : Int) (lwh : Int) (lce : Nat → Int) (lsp : Nat → Int) (ldr : Nat → Int) (p1 : Int) (p2 : Int) (post : (Nat → Int) → Prop) (h : wp_X0_draftNumber post lnc lsc lcl lwh lce lsp ldr p1 p2) : Met l yX0_draftNumber wsX0_draftNumber ({ frames := 0, cells := 0, slots := 0, locals := 0 }) (va_Pc [.ref qL, .int (xw_i p1), .long (xw_j p2)] (xw_Pre (dC, dI) vwCl (wd_X0 qL aL0 aL1 aL2 kL0 kL1 kL2 lnc lsc lcl lwh lce lsp ldr) [(kL0, .long), (kL1, .int), (kL2, .long)] sz)) (va_Qv (fun (u : (Nat → Int)) => post u) (xw_B (dC, dI) vwCl (fun (_ : (Nat → Int)) => [(kL0, .long), (kL1, .int), (kL2, .long)]) (va_A (wd_X0 qL aL0 aL1 aL2 kL0 kL1 kL2 lnc lsc lcl lwh lce lsp ldr) sz) (fun (u : (Nat → Int)) => (wd_X0 qL aL0 aL1 aL2 kL0 kL1 kL2 lnc lsc lcl lwh lce lsp u))) (va_A (wd_X0 qL aL0 aL1 aL2 kL0 kL1 kL2 lnc lsc lcl lwh lce lsp ldr) sz)) 0 0 (va_A (wd_X0 qL aL0 aL1 aL2 kL0 kL1 kL2 lnc lsc lcl lwh lce lsp ldr) sz) := by
  refine xw_ofV (cc := cX0_draftNumber) (maxL := 4) (by decide +kernel) rfl (Nat.le_of_ble_eq_true rfl) ?_
  intro p e s m args below meth c hx hb hml hown hts hin A hA hP hD hK Q hret ls hl hS
  have hl : lv_has ls 4 [(0, .ref qL), (1, .int (xw_i p1)), (2, .long (xw_j p2))] := hl
  have hwsX00 : ∀ w ∈ wsX00, w ∈ wsX0_draftNumber := fun _ h => List.mem_cons_of_mem _ (List.mem_append_right _ h)
  unfold wp_X0_draftNumber at h
  refine lv_aload_n hx hb dX0_draftNumber_0 rfl (lv_at hl 0 rfl) ?_
  refine va_get (D := (dC, dI)) (ci := 0) (v := .ref aL2) (C := RX0) (T := TX0) (N := 7) hx hb hts hwsX00 hown hK hP 0 rfl rfl 2 (by decide) (hts (.fieldLink RX0 19 "BoxProver$Log" "draft" "[J") (by decide +kernel)) (fun _ h9 => h9) rfl dX0_draftNumber_1 ?_
  refine lv_iload_n hx hb dX0_draftNumber_4 rfl (lv_at hl 1 rfl) ?_
  refine lv_lload_n hx hb dX0_draftNumber_5 rfl (lv_at hl 2 rfl) ?_
  obtain ⟨hin, h⟩ := h
  obtain ⟨ldr_1, eldr_1⟩ : ∃ z : Nat → Int, z = xw_u ldr p1 p2 := ⟨_, rfl⟩
  have h := h ldr_1 eldr_1
  refine xw_last (n := 5) hx hb hK hP hD hS 3 2 rfl rfl (by decide) hin eldr_1 dX0_draftNumber_6 (fun H locs hP hD hS => ?_)
  have hP : va_P (dC, dI) vwCl (wd_X0 qL aL0 aL1 aL2 kL0 kL1 kL2 lnc lsc lcl lwh lce lsp ldr_1) H := hP
  have hD : va_D A (wd_X0 qL aL0 aL1 aL2 kL0 kL1 kL2 lnc lsc lcl lwh lce lsp ldr_1) := hD
  exact hret _ _ _ _ ldr_1 dX0_draftNumber_7 h hP hD hK hS
set_option maxHeartbeats 4000000 in
set_option maxRecDepth 100000 in
theorem c_X0_draftBound (l : Launch) (dC : Nat → ClassId) (dI : Nat → Nat → Nat) (qL aL0 aL1 aL2 : Nat) (kL0 kL1 kL2 : ClassId) (sz : Nat) (lnc : Int) (lsc : Int) (lcl : Int) (lwh : Int) (lce : Nat → Int) (lsp : Nat → Int) (ldr : Nat → Int) (p1 : Int) (post : (Nat → Int) → Prop) (h : wp_X0_draftBound post lnc lsc lcl lwh lce lsp ldr p1) : Met l yX0_draftBound wsX0_draftBound ({ frames := 0, cells := 0, slots := 0, locals := 0 }) (va_Pc [.ref qL, .long (xw_j p1)] (xw_Pre (dC, dI) vwCl (wd_X0 qL aL0 aL1 aL2 kL0 kL1 kL2 lnc lsc lcl lwh lce lsp ldr) [(kL0, .long), (kL1, .int), (kL2, .long)] sz)) (va_Qv (fun (u : (Nat → Int)) => post u) (xw_B (dC, dI) vwCl (fun (_ : (Nat → Int)) => [(kL0, .long), (kL1, .int), (kL2, .long)]) (va_A (wd_X0 qL aL0 aL1 aL2 kL0 kL1 kL2 lnc lsc lcl lwh lce lsp ldr) sz) (fun (u : (Nat → Int)) => (wd_X0 qL aL0 aL1 aL2 kL0 kL1 kL2 lnc lsc lcl lwh lce lsp u))) (va_A (wd_X0 qL aL0 aL1 aL2 kL0 kL1 kL2 lnc lsc lcl lwh lce lsp ldr) sz)) 0 0 (va_A (wd_X0 qL aL0 aL1 aL2 kL0 kL1 kL2 lnc lsc lcl lwh lce lsp ldr) sz) := by
  refine xw_ofV (cc := cX0_draftBound) (maxL := 3) (by decide +kernel) rfl (Nat.le_of_ble_eq_true rfl) ?_
  intro p e s m args below meth c hx hb hml hown hts hin A hA hP hD hK Q hret ls hl hS
  have hl : lv_has ls 3 [(0, .ref qL), (1, .long (xw_j p1))] := hl
  have hwsX00 : ∀ w ∈ wsX00, w ∈ wsX0_draftBound := fun _ h => List.mem_cons_of_mem _ (List.mem_append_right _ h)
  unfold wp_X0_draftBound at h
  refine lv_aload_n hx hb dX0_draftBound_0 rfl (lv_at hl 0 rfl) ?_
  refine va_get (D := (dC, dI)) (ci := 0) (v := .ref aL2) (C := RX0) (T := TX0) (N := 7) hx hb hts hwsX00 hown hK hP 0 rfl rfl 2 (by decide) (hts (.fieldLink RX0 19 "BoxProver$Log" "draft" "[J") (by decide +kernel)) (fun _ h9 => h9) rfl dX0_draftBound_1 ?_
  refine lv_iconst (v := xw_i 4) hx hb dX0_draftBound_4 (by decide) ?_
  refine lv_lload_n hx hb dX0_draftBound_5 rfl (lv_at hl 1 rfl) ?_
  obtain ⟨hin, h⟩ := h
  obtain ⟨ldr_1, eldr_1⟩ : ∃ z : Nat → Int, z = xw_u ldr 4 p1 := ⟨_, rfl⟩
  have h := h ldr_1 eldr_1
  refine xw_last (n := 5) hx hb hK hP hD hS 3 2 rfl rfl (by decide) hin eldr_1 dX0_draftBound_6 (fun H locs hP hD hS => ?_)
  have hP : va_P (dC, dI) vwCl (wd_X0 qL aL0 aL1 aL2 kL0 kL1 kL2 lnc lsc lcl lwh lce lsp ldr_1) H := hP
  have hD : va_D A (wd_X0 qL aL0 aL1 aL2 kL0 kL1 kL2 lnc lsc lcl lwh lce lsp ldr_1) := hD
  exact hret _ _ _ _ ldr_1 dX0_draftBound_7 h hP hD hK hS
set_option maxHeartbeats 4000000 in
set_option maxRecDepth 100000 in
theorem c_X0_draftWord (l : Launch) (dC : Nat → ClassId) (dI : Nat → Nat → Nat) (qL aL0 aL1 aL2 : Nat) (kL0 kL1 kL2 : ClassId) (sz : Nat) (lnc : Int) (lsc : Int) (lcl : Int) (lwh : Int) (lce : Nat → Int) (lsp : Nat → Int) (ldr : Nat → Int) (p1 : Int) (p2 : Int) (p3 : Int) (post : (Nat → Int) → Prop) (h : wp_X0_draftWord post lnc lsc lcl lwh lce lsp ldr p1 p2 p3) : Met l yX0_draftWord wsX0_draftWord ({ frames := 0, cells := 0, slots := 0, locals := 0 }) (va_Pc [.ref qL, .int (xw_i p1), .int (xw_i p2), .int (xw_i p3)] (xw_Pre (dC, dI) vwCl (wd_X0 qL aL0 aL1 aL2 kL0 kL1 kL2 lnc lsc lcl lwh lce lsp ldr) [(kL0, .long), (kL1, .int), (kL2, .long)] sz)) (va_Qv (fun (u : (Nat → Int)) => post u) (xw_B (dC, dI) vwCl (fun (_ : (Nat → Int)) => [(kL0, .long), (kL1, .int), (kL2, .long)]) (va_A (wd_X0 qL aL0 aL1 aL2 kL0 kL1 kL2 lnc lsc lcl lwh lce lsp ldr) sz) (fun (u : (Nat → Int)) => (wd_X0 qL aL0 aL1 aL2 kL0 kL1 kL2 lnc lsc lcl lwh lce lsp u))) (va_A (wd_X0 qL aL0 aL1 aL2 kL0 kL1 kL2 lnc lsc lcl lwh lce lsp ldr) sz)) 0 0 (va_A (wd_X0 qL aL0 aL1 aL2 kL0 kL1 kL2 lnc lsc lcl lwh lce lsp ldr) sz) := by
  refine xw_ofV (cc := cX0_draftWord) (maxL := 5) (by decide +kernel) rfl (Nat.le_of_ble_eq_true rfl) ?_
  intro p e s m args below meth c hx hb hml hown hts hin A hA hP hD hK Q hret ls hl hS
  have hl : lv_has ls 5 [(0, .ref qL), (1, .int (xw_i p1)), (2, .int (xw_i p2)), (3, .int (xw_i p3))] := hl
  have hwsX00 : ∀ w ∈ wsX00, w ∈ wsX0_draftWord := fun _ h => List.mem_cons_of_mem _ (List.mem_append_right _ h)
  unfold wp_X0_draftWord at h
  refine lv_iconst (v := xw_i 0) hx hb dX0_draftWord_0 (by decide) ?_
  refine lv_istore (lv' := [(4, .int (xw_i 0)), (0, .ref qL), (1, .int (xw_i p1)), (2, .int (xw_i p2)), (3, .int (xw_i p3))]) hx hb dX0_draftWord_1 hl (by decide) rfl (fun ls hl => ?_)
  have k_3 : ∀ (n_3 : Nat) (ldr_1 : Nat → Int) (x4 : Int) (H : Heap) (locs : List Loc) (ls : Array Slot), wp_X0_draftWord_3 p1 p2 p3 post n_3 ldr_1 x4 → va_P (dC, dI) vwCl (wd_X0 qL aL0 aL1 aL2 kL0 kL1 kL2 lnc lsc lcl lwh lce lsp ldr_1) H → va_D A (wd_X0 qL aL0 aL1 aL2 kL0 kL1 kL2 lnc lsc lcl lwh lce lsp ldr_1) → va_S A s.heap H locs → lv_has ls 5 [(4, .int (xw_i x4)), (0, .ref qL), (1, .int (xw_i p1)), (2, .int (xw_i p2)), (3, .int (xw_i p3))] → W p l e ({ frames := 0, cells := 0, slots := 0, locals := 0 } : Room) s m args below meth c H locs 0 0 Q (F0 m 3 ls []) := by
    intro n_3
    induction n_3 with
    | zero => intro ldr_1 x4 H locs ls h; exact False.elim h
    | succ n_3 ih_3 =>
      intro ldr_1 x4 H locs ls h hP hD hS hl
      have h : wl_X0_draftWord_3 p1 p2 p3 post (wp_X0_draftWord_3 p1 p2 p3 post n_3) ldr_1 x4 := h
      unfold wl_X0_draftWord_3 at h
      refine lv_iload hx hb dX0_draftWord_3 (lv_at hl 0 rfl) ?_
      refine lv_iconst (v := xw_i 4) hx hb dX0_draftWord_5 (by decide) ?_
      obtain ⟨hr1, h⟩ := h
      refine xw_icmp_ge (tgt := 34) hx hb ⟨hr1, ⟨by decide, by decide⟩⟩ dX0_draftWord_6 (by decide) (fun hcd => ?_) (fun hcd => ?_)
      · have h := h.1 hcd
        refine lv_aload_n hx hb dX0_draftWord_34 rfl (lv_at hl 1 rfl) ?_
        refine va_get (D := (dC, dI)) (ci := 0) (v := .ref aL2) (C := RX0) (T := TX0) (N := 7) hx hb hts hwsX00 hown hK hP 0 rfl rfl 2 (by decide) (hts (.fieldLink RX0 19 "BoxProver$Log" "draft" "[J") (by decide +kernel)) (fun _ h9 => h9) rfl dX0_draftWord_35 ?_
        refine lv_iconst (v := xw_i 4) hx hb dX0_draftWord_38 (by decide) ?_
        refine lv_iload_n hx hb dX0_draftWord_39 rfl (lv_at hl 4 rfl) ?_
        obtain ⟨hr2, h⟩ := h
        refine xw_i2l hx hb hr2 dX0_draftWord_40 ?_
        obtain ⟨hin, h⟩ := h
        obtain ⟨ldr_2, eldr_2⟩ : ∃ z : Nat → Int, z = xw_u ldr_1 4 p3 := ⟨_, rfl⟩
        have h := h ldr_2 eldr_2
        refine xw_last (n := 5) hx hb hK hP hD hS 3 2 rfl rfl (by decide) hin eldr_2 dX0_draftWord_41 (fun H locs hP hD hS => ?_)
        have hP : va_P (dC, dI) vwCl (wd_X0 qL aL0 aL1 aL2 kL0 kL1 kL2 lnc lsc lcl lwh lce lsp ldr_2) H := hP
        have hD : va_D A (wd_X0 qL aL0 aL1 aL2 kL0 kL1 kL2 lnc lsc lcl lwh lce lsp ldr_2) := hD
        exact hret _ _ _ _ ldr_2 dX0_draftWord_42 h hP hD hK hS
      · have h := h.2 hcd
        refine lv_aload_n hx hb dX0_draftWord_9 rfl (lv_at hl 1 rfl) ?_
        refine va_get (D := (dC, dI)) (ci := 0) (v := .ref aL2) (C := RX0) (T := TX0) (N := 7) hx hb hts hwsX00 hown hK hP 0 rfl rfl 2 (by decide) (hts (.fieldLink RX0 19 "BoxProver$Log" "draft" "[J") (by decide +kernel)) (fun _ h9 => h9) rfl dX0_draftWord_10 ?_
        refine lv_iload hx hb dX0_draftWord_13 (lv_at hl 0 rfl) ?_
        refine lv_iload hx hb dX0_draftWord_15 (lv_at hl 0 rfl) ?_
        refine lv_iload_n hx hb dX0_draftWord_17 rfl (lv_at hl 2 rfl) ?_
        have k_27 : ∀ (ldr_3 : Nat → Int) (z0 : Int) (z1 : Int) (H : Heap) (locs : List Loc) (ls : Array Slot), wp_X0_draftWord_27 (wp_X0_draftWord_3 p1 p2 p3 post n_3) x4 ldr_3 z0 z1 → va_P (dC, dI) vwCl (wd_X0 qL aL0 aL1 aL2 kL0 kL1 kL2 lnc lsc lcl lwh lce lsp ldr_3) H → va_D A (wd_X0 qL aL0 aL1 aL2 kL0 kL1 kL2 lnc lsc lcl lwh lce lsp ldr_3) → va_S A s.heap H locs → lv_has ls 5 [(4, .int (xw_i x4)), (0, .ref qL), (1, .int (xw_i p1)), (2, .int (xw_i p2)), (3, .int (xw_i p3))] → W p l e ({ frames := 0, cells := 0, slots := 0, locals := 0 } : Room) s m args below meth c H locs 0 0 Q (F0 m 27 ls [.long (xw_j z0), .int (xw_i z1), .ref aL2]) := by
          intro ldr_3 z0 z1 H locs ls h hP hD hS hl
          unfold wp_X0_draftWord_27 at h
          obtain ⟨hin, h⟩ := h
          obtain ⟨ldr_4, eldr_4⟩ : ∃ z : Nat → Int, z = xw_u ldr_3 z1 z0 := ⟨_, rfl⟩
          have h := h ldr_4 eldr_4
          refine xw_last (n := 5) hx hb hK hP hD hS 3 2 rfl rfl (by decide) hin eldr_4 dX0_draftWord_27 (fun H locs hP hD hS => ?_)
          have hP : va_P (dC, dI) vwCl (wd_X0 qL aL0 aL1 aL2 kL0 kL1 kL2 lnc lsc lcl lwh lce lsp ldr_4) H := hP
          have hD : va_D A (wd_X0 qL aL0 aL1 aL2 kL0 kL1 kL2 lnc lsc lcl lwh lce lsp ldr_4) := hD
          obtain ⟨x4_1, ex4_1⟩ : ∃ y : Int, y = x4 + 1 := ⟨_, rfl⟩
          have h := h x4_1 ex4_1
          refine lv_iinc (v := xw_i x4_1) (lv' := [(4, .int (xw_i x4_1)), (0, .ref qL), (1, .int (xw_i p1)), (2, .int (xw_i p2)), (3, .int (xw_i p3))]) hx hb dX0_draftWord_28 hl (k := 0) rfl (xw_inc ex4_1) (by decide) rfl (fun ls hl => ?_)
          refine lv_goto (tgt := 3) hx hb dX0_draftWord_31 (by decide) ?_
          exact ih_3 ldr_4 x4_1 _ _ _ h hP hD hS (lv_sub hl [0, 1, 2, 3, 4] rfl)
        obtain ⟨hr3, h⟩ := h
        refine xw_icmp_ne (tgt := 26) hx hb ⟨hr1, hr3⟩ dX0_draftWord_18 (by decide) (fun hcd => ?_) (fun hcd => ?_)
        · have h := h.2 hcd
          refine lv_lconst (v := xw_j 0) hx hb dX0_draftWord_26 (by decide) ?_
          exact k_27 ldr_1 0 x4 _ _ _ h hP hD hS (lv_sub hl [0, 1, 2, 3, 4] rfl)
        · have h := h.1 hcd
          refine lv_iload_n hx hb dX0_draftWord_21 rfl (lv_at hl 3 rfl) ?_
          obtain ⟨hr4, h⟩ := h
          refine xw_i2l hx hb hr4 dX0_draftWord_22 ?_
          refine lv_goto (tgt := 27) hx hb dX0_draftWord_23 (by decide) ?_
          exact k_27 ldr_1 p2 x4 _ _ _ h hP hD hS (lv_sub hl [0, 1, 2, 3, 4] rfl)
  obtain ⟨fu, h⟩ := h
  exact k_3 fu ldr 0 _ _ _ h hP hD hS (lv_sub hl [0, 1, 2, 3, 4] rfl)
set_option maxHeartbeats 4000000 in
set_option maxRecDepth 100000 in
theorem c_X0_appendDraft (l : Launch) (dC : Nat → ClassId) (dI : Nat → Nat → Nat) (qL aL0 aL1 aL2 : Nat) (kL0 kL1 kL2 : ClassId) (sz : Nat) (lnc : Int) (lsc : Int) (lcl : Int) (lwh : Int) (lce : Nat → Int) (lsp : Nat → Int) (ldr : Nat → Int) (post : Int → Int → (Nat → Int) → Prop) (h : wp_X0_appendDraft post lnc lsc lcl lwh lce lsp ldr) : Met l yX0_appendDraft wsX0_appendDraft ({ frames := 0, cells := 0, slots := 0, locals := 0 }) (va_Pc [.ref qL] (xw_Pre (dC, dI) vwCl (wd_X0 qL aL0 aL1 aL2 kL0 kL1 kL2 lnc lsc lcl lwh lce lsp ldr) [(kL0, .long), (kL1, .int), (kL2, .long)] sz)) (va_Qi (xw_pi (fun v (u : Int × (Nat → Int)) => post v u.1 u.2)) (xw_B (dC, dI) vwCl (fun (_ : Int × (Nat → Int)) => [(kL0, .long), (kL1, .int), (kL2, .long)]) (va_A (wd_X0 qL aL0 aL1 aL2 kL0 kL1 kL2 lnc lsc lcl lwh lce lsp ldr) sz) (fun (u : Int × (Nat → Int)) => (wd_X0 qL aL0 aL1 aL2 kL0 kL1 kL2 u.1 lsc lcl lwh u.2 lsp ldr))) (va_A (wd_X0 qL aL0 aL1 aL2 kL0 kL1 kL2 lnc lsc lcl lwh lce lsp ldr) sz)) 0 0 (va_A (wd_X0 qL aL0 aL1 aL2 kL0 kL1 kL2 lnc lsc lcl lwh lce lsp ldr) sz) := by
  refine xw_ofI (cc := cX0_appendDraft) (maxL := 2) (by decide +kernel) rfl (Nat.le_of_ble_eq_true rfl) ?_
  intro p e s m args below meth c hx hb hml hown hts A hA hP hD hK Q hret ls hl hS
  have hl : lv_has ls 2 [(0, .ref qL)] := hl
  have hwsX00 : ∀ w ∈ wsX00, w ∈ wsX0_appendDraft := fun _ h => List.mem_cons_of_mem _ (List.mem_append_right _ h)
  unfold wp_X0_appendDraft at h
  refine lv_aload_n hx hb dX0_appendDraft_0 rfl (lv_at hl 0 rfl) ?_
  refine va_get (D := (dC, dI)) (ci := 0) (v := .int (xw_i lwh)) (C := RX0) (T := TX0) (N := 7) hx hb hts hwsX00 hown hK hP 0 rfl rfl 6 (by decide) (hts (.fieldLink RX0 32 "BoxProver$Log" "whole" "Z") (by decide +kernel)) (fun _ h9 => h9) rfl dX0_appendDraft_1 ?_
  obtain ⟨hr1, h⟩ := h
  refine xw_if_ne (tgt := 17) hx hb hr1 dX0_appendDraft_4 (by decide) (fun hcd => ?_) (fun hcd => ?_)
  · have h := h.2 hcd
    refine lv_iconst (v := xw_i (-1)) hx hb dX0_appendDraft_17 (by decide) ?_
    exact hret _ _ _ _ (-1) (lnc, lce) dX0_appendDraft_18 h hP hD hK hS
  · have h := h.1 hcd
    refine lv_aload_n hx hb dX0_appendDraft_7 rfl (lv_at hl 0 rfl) ?_
    refine va_get (D := (dC, dI)) (ci := 0) (v := .int (xw_i lnc)) (C := RX0) (T := TX0) (N := 7) hx hb hts hwsX00 hown hK hP 0 rfl rfl 3 (by decide) (hts (.fieldLink RX0 22 "BoxProver$Log" "lineCount" "I") (by decide +kernel)) (fun _ h9 => h9) rfl dX0_appendDraft_8 ?_
    refine lv_sipush (v := xw_i 200) hx hb dX0_appendDraft_11 (by decide) ?_
    obtain ⟨hr2, h⟩ := h
    refine xw_icmp_lt (tgt := 19) hx hb ⟨hr2, ⟨by decide, by decide⟩⟩ dX0_appendDraft_14 (by decide) (fun hcd => ?_) (fun hcd => ?_)
    · have h := h.1 hcd
      refine lv_iconst (v := xw_i 0) hx hb dX0_appendDraft_19 (by decide) ?_
      refine lv_istore_n (lv' := [(1, .int (xw_i 0)), (0, .ref qL)]) hx hb dX0_appendDraft_20 rfl hl (by decide) rfl (fun ls hl => ?_)
      have k_21 : ∀ (n_21 : Nat) (lnc_1 : Int) (lce_1 : Nat → Int) (x1 : Int) (H : Heap) (locs : List Loc) (ls : Array Slot), wp_X0_appendDraft_21 ldr post n_21 lnc_1 lce_1 x1 → va_P (dC, dI) vwCl (wd_X0 qL aL0 aL1 aL2 kL0 kL1 kL2 lnc_1 lsc lcl lwh lce_1 lsp ldr) H → va_D A (wd_X0 qL aL0 aL1 aL2 kL0 kL1 kL2 lnc_1 lsc lcl lwh lce_1 lsp ldr) → va_S A s.heap H locs → lv_has ls 2 [(1, .int (xw_i x1)), (0, .ref qL)] → W p l e ({ frames := 0, cells := 0, slots := 0, locals := 0 } : Room) s m args below meth c H locs 0 0 Q (F0 m 21 ls []) := by
        intro n_21
        induction n_21 with
        | zero => intro lnc_1 lce_1 x1 H locs ls h; exact False.elim h
        | succ n_21 ih_21 =>
          intro lnc_1 lce_1 x1 H locs ls h hP hD hS hl
          have h : wl_X0_appendDraft_21 ldr post (wp_X0_appendDraft_21 ldr post n_21) lnc_1 lce_1 x1 := h
          unfold wl_X0_appendDraft_21 at h
          refine lv_iload_n hx hb dX0_appendDraft_21 rfl (lv_at hl 0 rfl) ?_
          refine lv_iconst (v := xw_i 5) hx hb dX0_appendDraft_22 (by decide) ?_
          obtain ⟨hr3, h⟩ := h
          refine xw_icmp_ge (tgt := 51) hx hb ⟨hr3, ⟨by decide, by decide⟩⟩ dX0_appendDraft_23 (by decide) (fun hcd => ?_) (fun hcd => ?_)
          · have h := h.1 hcd
            refine lv_aload_n hx hb dX0_appendDraft_51 rfl (lv_at hl 1 rfl) ?_
            refine lv_dup hx hb dX0_appendDraft_52 rfl ?_
            refine va_get (D := (dC, dI)) (ci := 0) (v := .int (xw_i lnc_1)) (C := RX0) (T := TX0) (N := 7) hx hb hts hwsX00 hown hK hP 0 rfl rfl 3 (by decide) (hts (.fieldLink RX0 22 "BoxProver$Log" "lineCount" "I") (by decide +kernel)) (fun _ h9 => h9) rfl dX0_appendDraft_53 ?_
            refine lv_iconst (v := xw_i 1) hx hb dX0_appendDraft_56 (by decide) ?_
            refine xw_iadd hx hb dX0_appendDraft_57 ?_
            refine xw_topi (fun lf elf => ?_)
            have h := h lf elf
            refine va_put (D := (dC, dI)) (ci := 0) (v := .int (xw_i lf)) (ty := .int) (C := RX0) (T := TX0) (N := 7) hx hb hts hwsX00 tyX0 tyX0_ok nmX0 hown hK hP hD hS 0 rfl rfl 3 (by decide) (hts (.fieldLink RX0 22 "BoxProver$Log" "lineCount" "I") (by decide +kernel)) (fun _ h9 => h9) rfl (by decide +kernel) rfl rfl (Nat.le_of_ble_eq_true rfl) dX0_appendDraft_58 (fun H locs hP hD hS => ?_)
            have hP : va_P (dC, dI) vwCl (wd_X0 qL aL0 aL1 aL2 kL0 kL1 kL2 lf lsc lcl lwh lce_1 lsp ldr) H := hP
            have hD : va_D A (wd_X0 qL aL0 aL1 aL2 kL0 kL1 kL2 lf lsc lcl lwh lce_1 lsp ldr) := hD
            refine lv_aload_n hx hb dX0_appendDraft_61 rfl (lv_at hl 1 rfl) ?_
            refine va_get (D := (dC, dI)) (ci := 0) (v := .int (xw_i lf)) (C := RX0) (T := TX0) (N := 7) hx hb hts hwsX00 hown hK hP 0 rfl rfl 3 (by decide) (hts (.fieldLink RX0 22 "BoxProver$Log" "lineCount" "I") (by decide +kernel)) (fun _ h9 => h9) rfl dX0_appendDraft_62 ?_
            refine lv_iconst (v := xw_i 1) hx hb dX0_appendDraft_65 (by decide) ?_
            refine xw_isub hx hb dX0_appendDraft_66 ?_
            exact hret _ _ _ _ (lf - 1) (lf, lce_1) dX0_appendDraft_67 h hP hD hK hS
          · have h := h.2 hcd
            refine lv_aload_n hx hb dX0_appendDraft_26 rfl (lv_at hl 1 rfl) ?_
            refine va_get (D := (dC, dI)) (ci := 0) (v := .ref aL0) (C := RX0) (T := TX0) (N := 7) hx hb hts hwsX00 hown hK hP 0 rfl rfl 0 (by decide) (hts (.fieldLink RX0 11 "BoxProver$Log" "cells" "[J") (by decide +kernel)) (fun _ h9 => h9) rfl dX0_appendDraft_27 ?_
            refine lv_aload_n hx hb dX0_appendDraft_30 rfl (lv_at hl 1 rfl) ?_
            refine va_get (D := (dC, dI)) (ci := 0) (v := .int (xw_i lnc_1)) (C := RX0) (T := TX0) (N := 7) hx hb hts hwsX00 hown hK hP 0 rfl rfl 3 (by decide) (hts (.fieldLink RX0 22 "BoxProver$Log" "lineCount" "I") (by decide +kernel)) (fun _ h9 => h9) rfl dX0_appendDraft_31 ?_
            refine lv_iconst (v := xw_i 5) hx hb dX0_appendDraft_34 (by decide) ?_
            refine xw_imul hx hb dX0_appendDraft_35 ?_
            refine lv_iload_n hx hb dX0_appendDraft_36 rfl (lv_at hl 0 rfl) ?_
            refine xw_iadd hx hb dX0_appendDraft_37 ?_
            refine lv_aload_n hx hb dX0_appendDraft_38 rfl (lv_at hl 1 rfl) ?_
            refine va_get (D := (dC, dI)) (ci := 0) (v := .ref aL2) (C := RX0) (T := TX0) (N := 7) hx hb hts hwsX00 hown hK hP 0 rfl rfl 2 (by decide) (hts (.fieldLink RX0 19 "BoxProver$Log" "draft" "[J") (by decide +kernel)) (fun _ h9 => h9) rfl dX0_appendDraft_39 ?_
            refine lv_iload_n hx hb dX0_appendDraft_42 rfl (lv_at hl 0 rfl) ?_
            obtain ⟨hin, h⟩ := h
            refine xw_lald (n := 5) hx hb hK hP 3 2 rfl rfl (by decide) hin dX0_appendDraft_43 ?_
            obtain ⟨hin, h⟩ := h
            obtain ⟨lce_2, elce_2⟩ : ∃ z : Nat → Int, z = xw_u lce_1 ((lnc_1 * 5) + x1) (ldr x1.toNat) := ⟨_, rfl⟩
            have h := h lce_2 elce_2
            refine xw_last (n := 1000) hx hb hK hP hD hS 1 0 rfl rfl (by decide) hin elce_2 dX0_appendDraft_44 (fun H locs hP hD hS => ?_)
            have hP : va_P (dC, dI) vwCl (wd_X0 qL aL0 aL1 aL2 kL0 kL1 kL2 lnc_1 lsc lcl lwh lce_2 lsp ldr) H := hP
            have hD : va_D A (wd_X0 qL aL0 aL1 aL2 kL0 kL1 kL2 lnc_1 lsc lcl lwh lce_2 lsp ldr) := hD
            obtain ⟨x1_1, ex1_1⟩ : ∃ y : Int, y = x1 + 1 := ⟨_, rfl⟩
            have h := h x1_1 ex1_1
            refine lv_iinc (v := xw_i x1_1) (lv' := [(1, .int (xw_i x1_1)), (0, .ref qL)]) hx hb dX0_appendDraft_45 hl (k := 0) rfl (xw_inc ex1_1) (by decide) rfl (fun ls hl => ?_)
            refine lv_goto (tgt := 21) hx hb dX0_appendDraft_48 (by decide) ?_
            exact ih_21 lnc_1 lce_2 x1_1 _ _ _ h hP hD hS (lv_sub hl [0, 1] rfl)
      obtain ⟨fu, h⟩ := h
      exact k_21 fu lnc lce 0 _ _ _ h hP hD hS (lv_sub hl [0, 1] rfl)
    · have h := h.2 hcd
      refine lv_iconst (v := xw_i (-1)) hx hb dX0_appendDraft_17 (by decide) ?_
      exact hret _ _ _ _ (-1) (lnc, lce) dX0_appendDraft_18 h hP hD hK hS
set_option maxHeartbeats 4000000 in
set_option maxRecDepth 100000 in
theorem c_X0_isContradiction (l : Launch) (dC : Nat → ClassId) (dI : Nat → Nat → Nat) (qL aL0 aL1 aL2 : Nat) (kL0 kL1 kL2 : ClassId) (sz : Nat) (lnc : Int) (lsc : Int) (lcl : Int) (lwh : Int) (lce : Nat → Int) (lsp : Nat → Int) (ldr : Nat → Int) (p1 : Int) (post : Int → Prop) (h : wp_X0_isContradiction post lnc lsc lcl lwh lce lsp ldr p1) : Met l yX0_isContradiction wsX0_isContradiction ({ frames := 1, cells := 0, slots := 0, locals := 22 }) (va_Pc [.ref qL, .int (xw_i p1)] (xw_Pre (dC, dI) vwCl (wd_X0 qL aL0 aL1 aL2 kL0 kL1 kL2 lnc lsc lcl lwh lce lsp ldr) [(kL0, .long), (kL1, .int), (kL2, .long)] sz)) (va_Qi (xw_pi (fun v (u : Unit) => post v)) (xw_B (dC, dI) vwCl (fun (_ : Unit) => [(kL0, .long), (kL1, .int), (kL2, .long)]) (va_A (wd_X0 qL aL0 aL1 aL2 kL0 kL1 kL2 lnc lsc lcl lwh lce lsp ldr) sz) (fun (u : Unit) => (wd_X0 qL aL0 aL1 aL2 kL0 kL1 kL2 lnc lsc lcl lwh lce lsp ldr))) (va_A (wd_X0 qL aL0 aL1 aL2 kL0 kL1 kL2 lnc lsc lcl lwh lce lsp ldr) sz)) 0 0 (va_A (wd_X0 qL aL0 aL1 aL2 kL0 kL1 kL2 lnc lsc lcl lwh lce lsp ldr) sz) := by
  refine xw_ofZ (cc := cX0_isContradiction) (maxL := 3) (by decide +kernel) rfl (Nat.le_of_ble_eq_true rfl) ?_
  intro p e s m args below meth c hx hb hml hown hts A hA hP hD hK Q hret ls hl hS
  have hl : lv_has ls 3 [(0, .ref qL), (1, .int (xw_i p1))] := hl
  have hwsX00 : ∀ w ∈ wsX00, w ∈ wsX0_isContradiction := fun _ h => List.mem_cons_of_mem _ (List.mem_append_right _ h)
  unfold wp_X0_isContradiction at h
  refine lv_iconst (v := xw_i 0) hx hb dX0_isContradiction_0 (by decide) ?_
  refine lv_istore_n (lv' := [(2, .int (xw_i 0)), (0, .ref qL), (1, .int (xw_i p1))]) hx hb dX0_isContradiction_1 rfl hl (by decide) rfl (fun ls hl => ?_)
  have k_2 : ∀ (n_2 : Nat) (x2 : Int) (H : Heap) (locs : List Loc) (ls : Array Slot), wp_X0_isContradiction_2 p1 lnc lsc lcl lwh lce lsp ldr post n_2 x2 → va_P (dC, dI) vwCl (wd_X0 qL aL0 aL1 aL2 kL0 kL1 kL2 lnc lsc lcl lwh lce lsp ldr) H → va_D A (wd_X0 qL aL0 aL1 aL2 kL0 kL1 kL2 lnc lsc lcl lwh lce lsp ldr) → va_S A s.heap H locs → lv_has ls 3 [(2, .int (xw_i x2)), (0, .ref qL), (1, .int (xw_i p1))] → W p l e ({ frames := 1, cells := 0, slots := 0, locals := 22 } : Room) s m args below meth c H locs 0 0 Q (F0 m 2 ls []) := by
    intro n_2
    induction n_2 with
    | zero => intro x2 H locs ls h; exact False.elim h
    | succ n_2 ih_2 =>
      intro x2 H locs ls h hP hD hS hl
      have h : wl_X0_isContradiction_2 p1 lnc lsc lcl lwh lce lsp ldr post (wp_X0_isContradiction_2 p1 lnc lsc lcl lwh lce lsp ldr post n_2) x2 := h
      unfold wl_X0_isContradiction_2 at h
      refine lv_iload_n hx hb dX0_isContradiction_2 rfl (lv_at hl 0 rfl) ?_
      refine lv_iconst (v := xw_i 4) hx hb dX0_isContradiction_3 (by decide) ?_
      obtain ⟨hr1, h⟩ := h
      refine xw_icmp_ge (tgt := 26) hx hb ⟨hr1, ⟨by decide, by decide⟩⟩ dX0_isContradiction_4 (by decide) (fun hcd => ?_) (fun hcd => ?_)
      · have h := h.1 hcd
        refine lv_aload_n hx hb dX0_isContradiction_26 rfl (lv_at hl 1 rfl) ?_
        refine lv_iload_n hx hb dX0_isContradiction_27 rfl (lv_at hl 2 rfl) ?_
        refine lv_iconst (v := xw_i 4) hx hb dX0_isContradiction_28 (by decide) ?_
        refine xw_backl (wc := (wd_X0 qL aL0 aL1 aL2 kL0 kL1 kL2 lnc lsc lcl lwh lce lsp ldr)) (wr := []) (va_runV (As := [.int (xw_i p1), .int (xw_i 4)]) (rest := []) ⟨hx, hb, hml, hown, hts⟩ (c_X0_lineCell l dC dI qL aL0 aL1 aL2 kL0 kL1 kL2 H.size lnc lsc lcl lwh lce lsp ldr p1 4 _ h) (cwV 2 hts gX0_isContradiction_X0_lineCell rfl rfl rfl (by decide +kernel) ⟨Nat.le_of_ble_eq_true rfl, Nat.le_of_ble_eq_true rfl⟩) (xw_preV (ci := 0) hK hP hD [0, 1, 2, 3] rfl rfl (by decide) [0, 1, 2] rfl rfl rfl) rfl rfl hl.1 rfl (lv_room (Nat.le_of_ble_eq_true rfl)) dX0_isContradiction_29 ⟨Nat.le_of_ble_eq_true rfl, Nat.le_of_ble_eq_true rfl⟩) hK hP hD hS hA [0, 1, 2, 3] [] rfl rfl (by decide) (by decide) (fun r u H locs h hP hD hK2 hS => ?_)
        try dsimp only at h
        have hP : va_P (dC, dI) vwCl (wd_X0 qL aL0 aL1 aL2 kL0 kL1 kL2 lnc lsc lcl lwh lce lsp ldr) H := hP
        have hD : va_D A (wd_X0 qL aL0 aL1 aL2 kL0 kL1 kL2 lnc lsc lcl lwh lce lsp ldr) := hD
        refine lv_lconst (v := xw_j 0) hx hb dX0_isContradiction_32 (by decide) ?_
        refine W.lcmp hx hb dX0_isContradiction_33 ?_
        obtain ⟨hr2, h⟩ := h
        refine xw_lif_ge (tgt := 41) hx hb ⟨hr2, ⟨by decide, by decide⟩⟩ dX0_isContradiction_34 (by decide) (fun hcd => ?_) (fun hcd => ?_)
        · have h := h.1 hcd
          refine lv_iconst (v := xw_i 0) hx hb dX0_isContradiction_41 (by decide) ?_
          exact hret _ _ _ _ 0 () dX0_isContradiction_42 (by decide) h hP hD hK hS
        · have h := h.2 hcd
          refine lv_iconst (v := xw_i 1) hx hb dX0_isContradiction_37 (by decide) ?_
          refine lv_goto (tgt := 42) hx hb dX0_isContradiction_38 (by decide) ?_
          exact hret _ _ _ _ 1 () dX0_isContradiction_42 (by decide) h hP hD hK hS
      · have h := h.2 hcd
        refine lv_aload_n hx hb dX0_isContradiction_7 rfl (lv_at hl 1 rfl) ?_
        refine lv_iload_n hx hb dX0_isContradiction_8 rfl (lv_at hl 2 rfl) ?_
        refine lv_iload_n hx hb dX0_isContradiction_9 rfl (lv_at hl 0 rfl) ?_
        refine xw_backl (wc := (wd_X0 qL aL0 aL1 aL2 kL0 kL1 kL2 lnc lsc lcl lwh lce lsp ldr)) (wr := []) (va_runV (As := [.int (xw_i p1), .int (xw_i x2)]) (rest := []) ⟨hx, hb, hml, hown, hts⟩ (c_X0_lineCell l dC dI qL aL0 aL1 aL2 kL0 kL1 kL2 H.size lnc lsc lcl lwh lce lsp ldr p1 x2 _ h) (cwV 2 hts gX0_isContradiction_X0_lineCell rfl rfl rfl (by decide +kernel) ⟨Nat.le_of_ble_eq_true rfl, Nat.le_of_ble_eq_true rfl⟩) (xw_preV (ci := 0) hK hP hD [0, 1, 2, 3] rfl rfl (by decide) [0, 1, 2] rfl rfl rfl) rfl rfl hl.1 rfl (lv_room (Nat.le_of_ble_eq_true rfl)) dX0_isContradiction_10 ⟨Nat.le_of_ble_eq_true rfl, Nat.le_of_ble_eq_true rfl⟩) hK hP hD hS hA [0, 1, 2, 3] [] rfl rfl (by decide) (by decide) (fun r_1 u H locs h hP hD hK2 hS => ?_)
        try dsimp only at h
        have hP : va_P (dC, dI) vwCl (wd_X0 qL aL0 aL1 aL2 kL0 kL1 kL2 lnc lsc lcl lwh lce lsp ldr) H := hP
        have hD : va_D A (wd_X0 qL aL0 aL1 aL2 kL0 kL1 kL2 lnc lsc lcl lwh lce lsp ldr) := hD
        refine lv_lconst (v := xw_j 0) hx hb dX0_isContradiction_13 (by decide) ?_
        refine W.lcmp hx hb dX0_isContradiction_14 ?_
        obtain ⟨hr3, h⟩ := h
        refine xw_lif_eq (tgt := 20) hx hb ⟨hr3, ⟨by decide, by decide⟩⟩ dX0_isContradiction_15 (by decide) (fun hcd => ?_) (fun hcd => ?_)
        · have h := h.1 hcd
          obtain ⟨x2_1, ex2_1⟩ : ∃ y : Int, y = x2 + 1 := ⟨_, rfl⟩
          have h := h x2_1 ex2_1
          refine lv_iinc (v := xw_i x2_1) (lv' := [(2, .int (xw_i x2_1)), (0, .ref qL), (1, .int (xw_i p1))]) hx hb dX0_isContradiction_20 hl (k := 0) rfl (xw_inc ex2_1) (by decide) rfl (fun ls hl => ?_)
          refine lv_goto (tgt := 2) hx hb dX0_isContradiction_23 (by decide) ?_
          exact ih_2 x2_1 _ _ _ h hP hD hS (lv_sub hl [0, 1, 2] rfl)
        · have h := h.2 hcd
          refine lv_iconst (v := xw_i 0) hx hb dX0_isContradiction_18 (by decide) ?_
          exact hret _ _ _ _ 0 () dX0_isContradiction_19 (by decide) h hP hD hK hS
  obtain ⟨fu, h⟩ := h
  exact k_2 fu 0 _ _ _ h hP hD hS (lv_sub hl [0, 1, 2] rfl)
set_option maxHeartbeats 4000000 in
set_option maxRecDepth 100000 in
theorem c_X0_draftIsInRange (l : Launch) (dC : Nat → ClassId) (dI : Nat → Nat → Nat) (qL aL0 aL1 aL2 : Nat) (kL0 kL1 kL2 : ClassId) (sz : Nat) (lnc : Int) (lsc : Int) (lcl : Int) (lwh : Int) (lce : Nat → Int) (lsp : Nat → Int) (ldr : Nat → Int) (post : Int → Prop) (h : wp_X0_draftIsInRange post lnc lsc lcl lwh lce lsp ldr) : Met l yX0_draftIsInRange wsX0_draftIsInRange ({ frames := 0, cells := 0, slots := 0, locals := 0 }) (va_Pc [.ref qL] (xw_Pre (dC, dI) vwCl (wd_X0 qL aL0 aL1 aL2 kL0 kL1 kL2 lnc lsc lcl lwh lce lsp ldr) [(kL0, .long), (kL1, .int), (kL2, .long)] sz)) (va_Qi (xw_pi (fun v (u : Unit) => post v)) (xw_B (dC, dI) vwCl (fun (_ : Unit) => [(kL0, .long), (kL1, .int), (kL2, .long)]) (va_A (wd_X0 qL aL0 aL1 aL2 kL0 kL1 kL2 lnc lsc lcl lwh lce lsp ldr) sz) (fun (u : Unit) => (wd_X0 qL aL0 aL1 aL2 kL0 kL1 kL2 lnc lsc lcl lwh lce lsp ldr))) (va_A (wd_X0 qL aL0 aL1 aL2 kL0 kL1 kL2 lnc lsc lcl lwh lce lsp ldr) sz)) 0 0 (va_A (wd_X0 qL aL0 aL1 aL2 kL0 kL1 kL2 lnc lsc lcl lwh lce lsp ldr) sz) := by
  refine xw_ofZ (cc := cX0_draftIsInRange) (maxL := 2) (by decide +kernel) rfl (Nat.le_of_ble_eq_true rfl) ?_
  intro p e s m args below meth c hx hb hml hown hts A hA hP hD hK Q hret ls hl hS
  have hl : lv_has ls 2 [(0, .ref qL)] := hl
  have hwsX00 : ∀ w ∈ wsX00, w ∈ wsX0_draftIsInRange := fun _ h => List.mem_cons_of_mem _ (List.mem_append_right _ h)
  unfold wp_X0_draftIsInRange at h
  refine lv_iconst (v := xw_i 0) hx hb dX0_draftIsInRange_0 (by decide) ?_
  refine lv_istore_n (lv' := [(1, .int (xw_i 0)), (0, .ref qL)]) hx hb dX0_draftIsInRange_1 rfl hl (by decide) rfl (fun ls hl => ?_)
  have k_2 : ∀ (n_2 : Nat) (x1 : Int) (H : Heap) (locs : List Loc) (ls : Array Slot), wp_X0_draftIsInRange_2 ldr post n_2 x1 → va_P (dC, dI) vwCl (wd_X0 qL aL0 aL1 aL2 kL0 kL1 kL2 lnc lsc lcl lwh lce lsp ldr) H → va_D A (wd_X0 qL aL0 aL1 aL2 kL0 kL1 kL2 lnc lsc lcl lwh lce lsp ldr) → va_S A s.heap H locs → lv_has ls 2 [(1, .int (xw_i x1)), (0, .ref qL)] → W p l e ({ frames := 0, cells := 0, slots := 0, locals := 0 } : Room) s m args below meth c H locs 0 0 Q (F0 m 2 ls []) := by
    intro n_2
    induction n_2 with
    | zero => intro x1 H locs ls h; exact False.elim h
    | succ n_2 ih_2 =>
      intro x1 H locs ls h hP hD hS hl
      have h : wl_X0_draftIsInRange_2 ldr post (wp_X0_draftIsInRange_2 ldr post n_2) x1 := h
      unfold wl_X0_draftIsInRange_2 at h
      refine lv_iload_n hx hb dX0_draftIsInRange_2 rfl (lv_at hl 0 rfl) ?_
      refine lv_iconst (v := xw_i 4) hx hb dX0_draftIsInRange_3 (by decide) ?_
      obtain ⟨hr1, h⟩ := h
      refine xw_icmp_ge (tgt := 41) hx hb ⟨hr1, ⟨by decide, by decide⟩⟩ dX0_draftIsInRange_4 (by decide) (fun hcd => ?_) (fun hcd => ?_)
      · have h := h.1 hcd
        refine lv_aload_n hx hb dX0_draftIsInRange_41 rfl (lv_at hl 1 rfl) ?_
        refine va_get (D := (dC, dI)) (ci := 0) (v := .ref aL2) (C := RX0) (T := TX0) (N := 7) hx hb hts hwsX00 hown hK hP 0 rfl rfl 2 (by decide) (hts (.fieldLink RX0 19 "BoxProver$Log" "draft" "[J") (by decide +kernel)) (fun _ h9 => h9) rfl dX0_draftIsInRange_42 ?_
        refine lv_iconst (v := xw_i 4) hx hb dX0_draftIsInRange_45 (by decide) ?_
        obtain ⟨hin, h⟩ := h
        refine xw_lald (n := 5) hx hb hK hP 3 2 rfl rfl (by decide) hin dX0_draftIsInRange_46 ?_
        refine lv_ldc2 (v := xw_j (-1000000000000)) hx hb hown (hts (.constantLong RX0 77 (xw_j (-1000000000000))) (by decide +kernel)) dX0_draftIsInRange_47 ?_
        refine W.lcmp hx hb dX0_draftIsInRange_50 ?_
        obtain ⟨hr2, h⟩ := h
        refine xw_lif_lt (tgt := 71) hx hb ⟨hr2, ⟨by decide, by decide⟩⟩ dX0_draftIsInRange_51 (by decide) (fun hcd => ?_) (fun hcd => ?_)
        · have h := h.1 hcd
          refine lv_iconst (v := xw_i 0) hx hb dX0_draftIsInRange_71 (by decide) ?_
          exact hret _ _ _ _ 0 () dX0_draftIsInRange_72 (by decide) h hP hD hK hS
        · have h := h.2 hcd
          refine lv_aload_n hx hb dX0_draftIsInRange_54 rfl (lv_at hl 1 rfl) ?_
          refine va_get (D := (dC, dI)) (ci := 0) (v := .ref aL2) (C := RX0) (T := TX0) (N := 7) hx hb hts hwsX00 hown hK hP 0 rfl rfl 2 (by decide) (hts (.fieldLink RX0 19 "BoxProver$Log" "draft" "[J") (by decide +kernel)) (fun _ h9 => h9) rfl dX0_draftIsInRange_55 ?_
          refine lv_iconst (v := xw_i 4) hx hb dX0_draftIsInRange_58 (by decide) ?_
          obtain ⟨hin, h⟩ := h
          refine xw_lald (n := 5) hx hb hK hP 3 2 rfl rfl (by decide) hin dX0_draftIsInRange_59 ?_
          refine lv_ldc2 (v := xw_j 1000000000000) hx hb hown (hts (.constantLong RX0 79 (xw_j 1000000000000)) (by decide +kernel)) dX0_draftIsInRange_60 ?_
          refine W.lcmp hx hb dX0_draftIsInRange_63 ?_
          refine xw_lif_gt (tgt := 71) hx hb ⟨hr2, ⟨by decide, by decide⟩⟩ dX0_draftIsInRange_64 (by decide) (fun hcd => ?_) (fun hcd => ?_)
          · have h := h.1 hcd
            refine lv_iconst (v := xw_i 0) hx hb dX0_draftIsInRange_71 (by decide) ?_
            exact hret _ _ _ _ 0 () dX0_draftIsInRange_72 (by decide) h hP hD hK hS
          · have h := h.2 hcd
            refine lv_iconst (v := xw_i 1) hx hb dX0_draftIsInRange_67 (by decide) ?_
            refine lv_goto (tgt := 72) hx hb dX0_draftIsInRange_68 (by decide) ?_
            exact hret _ _ _ _ 1 () dX0_draftIsInRange_72 (by decide) h hP hD hK hS
      · have h := h.2 hcd
        refine lv_aload_n hx hb dX0_draftIsInRange_7 rfl (lv_at hl 1 rfl) ?_
        refine va_get (D := (dC, dI)) (ci := 0) (v := .ref aL2) (C := RX0) (T := TX0) (N := 7) hx hb hts hwsX00 hown hK hP 0 rfl rfl 2 (by decide) (hts (.fieldLink RX0 19 "BoxProver$Log" "draft" "[J") (by decide +kernel)) (fun _ h9 => h9) rfl dX0_draftIsInRange_8 ?_
        refine lv_iload_n hx hb dX0_draftIsInRange_11 rfl (lv_at hl 0 rfl) ?_
        obtain ⟨hin, h⟩ := h
        refine xw_lald (n := 5) hx hb hK hP 3 2 rfl rfl (by decide) hin dX0_draftIsInRange_12 ?_
        refine lv_ldc2 (v := xw_j (-1000000000)) hx hb hown (hts (.constantLong RX0 73 (xw_j (-1000000000))) (by decide +kernel)) dX0_draftIsInRange_13 ?_
        refine W.lcmp hx hb dX0_draftIsInRange_16 ?_
        obtain ⟨hr3, h⟩ := h
        refine xw_lif_lt (tgt := 33) hx hb ⟨hr3, ⟨by decide, by decide⟩⟩ dX0_draftIsInRange_17 (by decide) (fun hcd => ?_) (fun hcd => ?_)
        · have h := h.1 hcd
          refine lv_iconst (v := xw_i 0) hx hb dX0_draftIsInRange_33 (by decide) ?_
          exact hret _ _ _ _ 0 () dX0_draftIsInRange_34 (by decide) h hP hD hK hS
        · have h := h.2 hcd
          refine lv_aload_n hx hb dX0_draftIsInRange_20 rfl (lv_at hl 1 rfl) ?_
          refine va_get (D := (dC, dI)) (ci := 0) (v := .ref aL2) (C := RX0) (T := TX0) (N := 7) hx hb hts hwsX00 hown hK hP 0 rfl rfl 2 (by decide) (hts (.fieldLink RX0 19 "BoxProver$Log" "draft" "[J") (by decide +kernel)) (fun _ h9 => h9) rfl dX0_draftIsInRange_21 ?_
          refine lv_iload_n hx hb dX0_draftIsInRange_24 rfl (lv_at hl 0 rfl) ?_
          obtain ⟨hin, h⟩ := h
          refine xw_lald (n := 5) hx hb hK hP 3 2 rfl rfl (by decide) hin dX0_draftIsInRange_25 ?_
          refine lv_ldc2 (v := xw_j 1000000000) hx hb hown (hts (.constantLong RX0 75 (xw_j 1000000000)) (by decide +kernel)) dX0_draftIsInRange_26 ?_
          refine W.lcmp hx hb dX0_draftIsInRange_29 ?_
          refine xw_lif_le (tgt := 35) hx hb ⟨hr3, ⟨by decide, by decide⟩⟩ dX0_draftIsInRange_30 (by decide) (fun hcd => ?_) (fun hcd => ?_)
          · have h := h.1 hcd
            obtain ⟨x1_1, ex1_1⟩ : ∃ y : Int, y = x1 + 1 := ⟨_, rfl⟩
            have h := h x1_1 ex1_1
            refine lv_iinc (v := xw_i x1_1) (lv' := [(1, .int (xw_i x1_1)), (0, .ref qL)]) hx hb dX0_draftIsInRange_35 hl (k := 0) rfl (xw_inc ex1_1) (by decide) rfl (fun ls hl => ?_)
            refine lv_goto (tgt := 2) hx hb dX0_draftIsInRange_38 (by decide) ?_
            exact ih_2 x1_1 _ _ _ h hP hD hS (lv_sub hl [0, 1] rfl)
          · have h := h.2 hcd
            refine lv_iconst (v := xw_i 0) hx hb dX0_draftIsInRange_33 (by decide) ?_
            exact hret _ _ _ _ 0 () dX0_draftIsInRange_34 (by decide) h hP hD hK hS
  obtain ⟨fu, h⟩ := h
  exact k_2 fu 0 _ _ _ h hP hD hS (lv_sub hl [0, 1] rfl)
set_option maxHeartbeats 4000000 in
set_option maxRecDepth 100000 in
theorem c_X0_appendSum (l : Launch) (dC : Nat → ClassId) (dI : Nat → Nat → Nat) (qL aL0 aL1 aL2 : Nat) (kL0 kL1 kL2 : ClassId) (sz : Nat) (lnc : Int) (lsc : Int) (lcl : Int) (lwh : Int) (lce : Nat → Int) (lsp : Nat → Int) (ldr : Nat → Int) (p1 : Int) (p2 : Int) (p3 : Int) (p4 : Int) (post : Int → Int → (Nat → Int) → (Nat → Int) → Prop) (h : wp_X0_appendSum post lnc lsc lcl lwh lce lsp ldr p1 p2 p3 p4) : Met l yX0_appendSum wsX0_appendSum ({ frames := 1, cells := 0, slots := 0, locals := 22 }) (va_Pc [.ref qL, .int (xw_i p1), .int (xw_i p2), .int (xw_i p3), .int (xw_i p4)] (xw_Pre (dC, dI) vwCl (wd_X0 qL aL0 aL1 aL2 kL0 kL1 kL2 lnc lsc lcl lwh lce lsp ldr) [(kL0, .long), (kL1, .int), (kL2, .long)] sz)) (va_Qi (xw_pi (fun v (u : Int × (Nat → Int) × (Nat → Int)) => post v u.1 u.2.1 u.2.2)) (xw_B (dC, dI) vwCl (fun (_ : Int × (Nat → Int) × (Nat → Int)) => [(kL0, .long), (kL1, .int), (kL2, .long)]) (va_A (wd_X0 qL aL0 aL1 aL2 kL0 kL1 kL2 lnc lsc lcl lwh lce lsp ldr) sz) (fun (u : Int × (Nat → Int) × (Nat → Int)) => (wd_X0 qL aL0 aL1 aL2 kL0 kL1 kL2 u.1 lsc lcl lwh u.2.1 lsp u.2.2))) (va_A (wd_X0 qL aL0 aL1 aL2 kL0 kL1 kL2 lnc lsc lcl lwh lce lsp ldr) sz)) 0 0 (va_A (wd_X0 qL aL0 aL1 aL2 kL0 kL1 kL2 lnc lsc lcl lwh lce lsp ldr) sz) := by
  refine xw_ofI (cc := cX0_appendSum) (maxL := 6) (by decide +kernel) rfl (Nat.le_of_ble_eq_true rfl) ?_
  intro p e s m args below meth c hx hb hml hown hts A hA hP hD hK Q hret ls hl hS
  have hl : lv_has ls 6 [(0, .ref qL), (1, .int (xw_i p1)), (2, .int (xw_i p2)), (3, .int (xw_i p3)), (4, .int (xw_i p4))] := hl
  have hwsX00 : ∀ w ∈ wsX00, w ∈ wsX0_appendSum := fun _ h => List.mem_cons_of_mem _ (List.mem_append_right _ h)
  unfold wp_X0_appendSum at h
  refine lv_aload_n hx hb dX0_appendSum_0 rfl (lv_at hl 0 rfl) ?_
  refine lv_iload_n hx hb dX0_appendSum_1 rfl (lv_at hl 1 rfl) ?_
  refine xw_backi (wc := (wd_X0 qL aL0 aL1 aL2 kL0 kL1 kL2 lnc lsc lcl lwh lce lsp ldr)) (wr := []) (va_runV (As := [.int (xw_i p1)]) (rest := []) ⟨hx, hb, hml, hown, hts⟩ (c_X0_hasLine l dC dI qL aL0 aL1 aL2 kL0 kL1 kL2 s.heap.size lnc lsc lcl lwh lce lsp ldr p1 _ h) (cwV 1 hts gX0_appendSum_X0_hasLine rfl rfl rfl (by decide +kernel) ⟨Nat.le_of_ble_eq_true rfl, Nat.le_of_ble_eq_true rfl⟩) (xw_preV (ci := 0) hK hP hD [0, 1, 2, 3] rfl rfl (by decide) [0, 1, 2] rfl rfl rfl) rfl rfl hl.1 rfl (lv_room (Nat.le_of_ble_eq_true rfl)) dX0_appendSum_2 ⟨Nat.le_of_ble_eq_true rfl, Nat.le_of_ble_eq_true rfl⟩) hK hP hD hS hA [0, 1, 2, 3] [] rfl rfl (by decide) (by decide) (fun r u H locs h hP hD hK2 hS => ?_)
  try dsimp only at h
  have hP : va_P (dC, dI) vwCl (wd_X0 qL aL0 aL1 aL2 kL0 kL1 kL2 lnc lsc lcl lwh lce lsp ldr) H := hP
  have hD : va_D A (wd_X0 qL aL0 aL1 aL2 kL0 kL1 kL2 lnc lsc lcl lwh lce lsp ldr) := hD
  obtain ⟨hr1, h⟩ := h
  refine xw_if_eq (tgt := 40) hx hb hr1 dX0_appendSum_5 (by decide) (fun hcd => ?_) (fun hcd => ?_)
  · have h := h.1 hcd
    refine lv_iconst (v := xw_i (-1)) hx hb dX0_appendSum_40 (by decide) ?_
    exact hret _ _ _ _ (-1) (lnc, lce, ldr) dX0_appendSum_41 h hP hD hK hS
  · have h := h.2 hcd
    refine lv_aload_n hx hb dX0_appendSum_8 rfl (lv_at hl 0 rfl) ?_
    refine lv_iload_n hx hb dX0_appendSum_9 rfl (lv_at hl 3 rfl) ?_
    refine xw_backi (wc := (wd_X0 qL aL0 aL1 aL2 kL0 kL1 kL2 lnc lsc lcl lwh lce lsp ldr)) (wr := []) (va_runV (As := [.int (xw_i p3)]) (rest := []) ⟨hx, hb, hml, hown, hts⟩ (c_X0_hasLine l dC dI qL aL0 aL1 aL2 kL0 kL1 kL2 H.size lnc lsc lcl lwh lce lsp ldr p3 _ h) (cwV 1 hts gX0_appendSum_X0_hasLine rfl rfl rfl (by decide +kernel) ⟨Nat.le_of_ble_eq_true rfl, Nat.le_of_ble_eq_true rfl⟩) (xw_preV (ci := 0) hK hP hD [0, 1, 2, 3] rfl rfl (by decide) [0, 1, 2] rfl rfl rfl) rfl rfl hl.1 rfl (lv_room (Nat.le_of_ble_eq_true rfl)) dX0_appendSum_10 ⟨Nat.le_of_ble_eq_true rfl, Nat.le_of_ble_eq_true rfl⟩) hK hP hD hS hA [0, 1, 2, 3] [] rfl rfl (by decide) (by decide) (fun r_1 u H locs h hP hD hK2 hS => ?_)
    try dsimp only at h
    have hP : va_P (dC, dI) vwCl (wd_X0 qL aL0 aL1 aL2 kL0 kL1 kL2 lnc lsc lcl lwh lce lsp ldr) H := hP
    have hD : va_D A (wd_X0 qL aL0 aL1 aL2 kL0 kL1 kL2 lnc lsc lcl lwh lce lsp ldr) := hD
    obtain ⟨hr2, h⟩ := h
    refine xw_if_eq (tgt := 40) hx hb hr2 dX0_appendSum_13 (by decide) (fun hcd => ?_) (fun hcd => ?_)
    · have h := h.1 hcd
      refine lv_iconst (v := xw_i (-1)) hx hb dX0_appendSum_40 (by decide) ?_
      exact hret _ _ _ _ (-1) (lnc, lce, ldr) dX0_appendSum_41 h hP hD hK hS
    · have h := h.2 hcd
      refine lv_iload_n hx hb dX0_appendSum_16 rfl (lv_at hl 2 rfl) ?_
      obtain ⟨hr3, h⟩ := h
      refine xw_if_lt (tgt := 40) hx hb hr3 dX0_appendSum_17 (by decide) (fun hcd => ?_) (fun hcd => ?_)
      · have h := h.1 hcd
        refine lv_iconst (v := xw_i (-1)) hx hb dX0_appendSum_40 (by decide) ?_
        exact hret _ _ _ _ (-1) (lnc, lce, ldr) dX0_appendSum_41 h hP hD hK hS
      · have h := h.2 hcd
        refine lv_iload_n hx hb dX0_appendSum_20 rfl (lv_at hl 2 rfl) ?_
        refine lv_sipush (v := xw_i 1000) hx hb dX0_appendSum_21 (by decide) ?_
        refine xw_icmp_gt (tgt := 40) hx hb ⟨hr3, ⟨by decide, by decide⟩⟩ dX0_appendSum_24 (by decide) (fun hcd => ?_) (fun hcd => ?_)
        · have h := h.1 hcd
          refine lv_iconst (v := xw_i (-1)) hx hb dX0_appendSum_40 (by decide) ?_
          exact hret _ _ _ _ (-1) (lnc, lce, ldr) dX0_appendSum_41 h hP hD hK hS
        · have h := h.2 hcd
          refine lv_iload hx hb dX0_appendSum_27 (lv_at hl 4 rfl) ?_
          obtain ⟨hr4, h⟩ := h
          refine xw_if_lt (tgt := 40) hx hb hr4 dX0_appendSum_29 (by decide) (fun hcd => ?_) (fun hcd => ?_)
          · have h := h.1 hcd
            refine lv_iconst (v := xw_i (-1)) hx hb dX0_appendSum_40 (by decide) ?_
            exact hret _ _ _ _ (-1) (lnc, lce, ldr) dX0_appendSum_41 h hP hD hK hS
          · have h := h.2 hcd
            refine lv_iload hx hb dX0_appendSum_32 (lv_at hl 4 rfl) ?_
            refine lv_sipush (v := xw_i 1000) hx hb dX0_appendSum_34 (by decide) ?_
            refine xw_icmp_le (tgt := 42) hx hb ⟨hr4, ⟨by decide, by decide⟩⟩ dX0_appendSum_37 (by decide) (fun hcd => ?_) (fun hcd => ?_)
            · have h := h.1 hcd
              refine lv_iconst (v := xw_i 0) hx hb dX0_appendSum_42 (by decide) ?_
              refine lv_istore (lv' := [(5, .int (xw_i 0)), (0, .ref qL), (1, .int (xw_i p1)), (2, .int (xw_i p2)), (3, .int (xw_i p3)), (4, .int (xw_i p4))]) hx hb dX0_appendSum_43 hl (by decide) rfl (fun ls hl => ?_)
              have k_45 : ∀ (n_45 : Nat) (lnc_1 : Int) (lce_1 : Nat → Int) (ldr_1 : Nat → Int) (x5 : Int) (H : Heap) (locs : List Loc) (ls : Array Slot), wp_X0_appendSum_45 p1 p2 p3 p4 lsc lcl lwh lsp post n_45 lnc_1 lce_1 ldr_1 x5 → va_P (dC, dI) vwCl (wd_X0 qL aL0 aL1 aL2 kL0 kL1 kL2 lnc_1 lsc lcl lwh lce_1 lsp ldr_1) H → va_D A (wd_X0 qL aL0 aL1 aL2 kL0 kL1 kL2 lnc_1 lsc lcl lwh lce_1 lsp ldr_1) → va_S A s.heap H locs → lv_has ls 6 [(5, .int (xw_i x5)), (0, .ref qL), (1, .int (xw_i p1)), (2, .int (xw_i p2)), (3, .int (xw_i p3)), (4, .int (xw_i p4))] → W p l e ({ frames := 1, cells := 0, slots := 0, locals := 22 } : Room) s m args below meth c H locs 0 0 Q (F0 m 45 ls []) := by
                intro n_45
                induction n_45 with
                | zero => intro lnc_1 lce_1 ldr_1 x5 H locs ls h; exact False.elim h
                | succ n_45 ih_45 =>
                  intro lnc_1 lce_1 ldr_1 x5 H locs ls h hP hD hS hl
                  have h : wl_X0_appendSum_45 p1 p2 p3 p4 lsc lcl lwh lsp post (wp_X0_appendSum_45 p1 p2 p3 p4 lsc lcl lwh lsp post n_45) lnc_1 lce_1 ldr_1 x5 := h
                  unfold wl_X0_appendSum_45 at h
                  refine lv_iload hx hb dX0_appendSum_45 (lv_at hl 0 rfl) ?_
                  refine lv_iconst (v := xw_i 5) hx hb dX0_appendSum_47 (by decide) ?_
                  obtain ⟨hr5, h⟩ := h
                  refine xw_icmp_ge (tgt := 86) hx hb ⟨hr5, ⟨by decide, by decide⟩⟩ dX0_appendSum_48 (by decide) (fun hcd => ?_) (fun hcd => ?_)
                  · have h := h.1 hcd
                    refine lv_aload_n hx hb dX0_appendSum_86 rfl (lv_at hl 1 rfl) ?_
                    refine xw_backi (wc := (wd_X0 qL aL0 aL1 aL2 kL0 kL1 kL2 lnc_1 lsc lcl lwh lce_1 lsp ldr_1)) (wr := []) (va_runV (As := []) (rest := []) ⟨hx, hb, hml, hown, hts⟩ (c_X0_draftIsInRange l dC dI qL aL0 aL1 aL2 kL0 kL1 kL2 H.size lnc_1 lsc lcl lwh lce_1 lsp ldr_1 _ h) (cwV 0 hts gX0_appendSum_X0_draftIsInRange rfl rfl rfl (by decide +kernel) ⟨Nat.le_of_ble_eq_true rfl, Nat.le_of_ble_eq_true rfl⟩) (xw_preV (ci := 0) hK hP hD [0, 1, 2, 3] rfl rfl (by decide) [0, 1, 2] rfl rfl rfl) rfl rfl hl.1 rfl (lv_room (Nat.le_of_ble_eq_true rfl)) dX0_appendSum_87 ⟨Nat.le_of_ble_eq_true rfl, Nat.le_of_ble_eq_true rfl⟩) hK hP hD hS hA [0, 1, 2, 3] [] rfl rfl (by decide) (by decide) (fun r_2 u H locs h hP hD hK2 hS => ?_)
                    try dsimp only at h
                    have hP : va_P (dC, dI) vwCl (wd_X0 qL aL0 aL1 aL2 kL0 kL1 kL2 lnc_1 lsc lcl lwh lce_1 lsp ldr_1) H := hP
                    have hD : va_D A (wd_X0 qL aL0 aL1 aL2 kL0 kL1 kL2 lnc_1 lsc lcl lwh lce_1 lsp ldr_1) := hD
                    obtain ⟨hr6, h⟩ := h
                    refine xw_if_eq (tgt := 100) hx hb hr6 dX0_appendSum_90 (by decide) (fun hcd => ?_) (fun hcd => ?_)
                    · have h := h.1 hcd
                      refine lv_iconst (v := xw_i (-1)) hx hb dX0_appendSum_100 (by decide) ?_
                      exact hret _ _ _ _ (-1) (lnc_1, lce_1, ldr_1) dX0_appendSum_101 h hP hD hK hS
                    · have h := h.2 hcd
                      refine lv_aload_n hx hb dX0_appendSum_93 rfl (lv_at hl 1 rfl) ?_
                      refine xw_backi (wc := (wd_X0 qL aL0 aL1 aL2 kL0 kL1 kL2 lnc_1 lsc lcl lwh lce_1 lsp ldr_1)) (wr := []) (va_runV (As := []) (rest := []) ⟨hx, hb, hml, hown, hts⟩ (c_X0_appendDraft l dC dI qL aL0 aL1 aL2 kL0 kL1 kL2 H.size lnc_1 lsc lcl lwh lce_1 lsp ldr_1 _ h) (cwV 0 hts gX0_appendSum_X0_appendDraft rfl rfl rfl (by decide +kernel) ⟨Nat.le_of_ble_eq_true rfl, Nat.le_of_ble_eq_true rfl⟩) (xw_preV (ci := 0) hK hP hD [0, 1, 2, 3] rfl rfl (by decide) [0, 1, 2] rfl rfl rfl) rfl rfl hl.1 rfl (lv_room (Nat.le_of_ble_eq_true rfl)) dX0_appendSum_94 ⟨Nat.le_of_ble_eq_true rfl, Nat.le_of_ble_eq_true rfl⟩) hK hP hD hS hA [0, 1, 2, 3] [] rfl rfl (by decide) (by decide) (fun r_3 u H locs h hP hD hK2 hS => ?_)
                      obtain ⟨lnc_2, lce_2⟩ := u
                      try dsimp only at h
                      have hP : va_P (dC, dI) vwCl (wd_X0 qL aL0 aL1 aL2 kL0 kL1 kL2 lnc_2 lsc lcl lwh lce_2 lsp ldr_1) H := hP
                      have hD : va_D A (wd_X0 qL aL0 aL1 aL2 kL0 kL1 kL2 lnc_2 lsc lcl lwh lce_2 lsp ldr_1) := hD
                      refine lv_goto (tgt := 101) hx hb dX0_appendSum_97 (by decide) ?_
                      exact hret _ _ _ _ r_3 (lnc_2, lce_2, ldr_1) dX0_appendSum_101 h hP hD hK hS
                  · have h := h.2 hcd
                    refine lv_aload_n hx hb dX0_appendSum_51 rfl (lv_at hl 1 rfl) ?_
                    refine va_get (D := (dC, dI)) (ci := 0) (v := .ref aL2) (C := RX0) (T := TX0) (N := 7) hx hb hts hwsX00 hown hK hP 0 rfl rfl 2 (by decide) (hts (.fieldLink RX0 19 "BoxProver$Log" "draft" "[J") (by decide +kernel)) (fun _ h9 => h9) rfl dX0_appendSum_52 ?_
                    refine lv_iload hx hb dX0_appendSum_55 (lv_at hl 0 rfl) ?_
                    refine lv_iload_n hx hb dX0_appendSum_57 rfl (lv_at hl 3 rfl) ?_
                    refine xw_i2l hx hb hr3 dX0_appendSum_58 ?_
                    refine lv_aload_n hx hb dX0_appendSum_59 rfl (lv_at hl 1 rfl) ?_
                    refine lv_iload_n hx hb dX0_appendSum_60 rfl (lv_at hl 2 rfl) ?_
                    refine lv_iload hx hb dX0_appendSum_61 (lv_at hl 0 rfl) ?_
                    refine xw_backl (wc := (wd_X0 qL aL0 aL1 aL2 kL0 kL1 kL2 lnc_1 lsc lcl lwh lce_1 lsp ldr_1)) (wr := []) (va_runV (As := [.int (xw_i p1), .int (xw_i x5)]) (rest := [.long (xw_j p2), .int (xw_i x5), .ref aL2]) ⟨hx, hb, hml, hown, hts⟩ (c_X0_lineCell l dC dI qL aL0 aL1 aL2 kL0 kL1 kL2 H.size lnc_1 lsc lcl lwh lce_1 lsp ldr_1 p1 x5 _ h) (cwV 2 hts gX0_appendSum_X0_lineCell rfl rfl rfl (by decide +kernel) ⟨Nat.le_of_ble_eq_true rfl, Nat.le_of_ble_eq_true rfl⟩) (xw_preV (ci := 0) hK hP hD [0, 1, 2, 3] rfl rfl (by decide) [0, 1, 2] rfl rfl rfl) rfl rfl hl.1 rfl (lv_room (Nat.le_of_ble_eq_true rfl)) dX0_appendSum_63 ⟨Nat.le_of_ble_eq_true rfl, Nat.le_of_ble_eq_true rfl⟩) hK hP hD hS hA [0, 1, 2, 3] [] rfl rfl (by decide) (by decide) (fun r_4 u H locs h hP hD hK2 hS => ?_)
                    try dsimp only at h
                    have hP : va_P (dC, dI) vwCl (wd_X0 qL aL0 aL1 aL2 kL0 kL1 kL2 lnc_1 lsc lcl lwh lce_1 lsp ldr_1) H := hP
                    have hD : va_D A (wd_X0 qL aL0 aL1 aL2 kL0 kL1 kL2 lnc_1 lsc lcl lwh lce_1 lsp ldr_1) := hD
                    refine xw_lmul hx hb dX0_appendSum_66 ?_
                    refine lv_iload hx hb dX0_appendSum_67 (lv_at hl 5 rfl) ?_
                    refine xw_i2l hx hb hr4 dX0_appendSum_69 ?_
                    refine lv_aload_n hx hb dX0_appendSum_70 rfl (lv_at hl 1 rfl) ?_
                    refine lv_iload_n hx hb dX0_appendSum_71 rfl (lv_at hl 4 rfl) ?_
                    refine lv_iload hx hb dX0_appendSum_72 (lv_at hl 0 rfl) ?_
                    refine xw_backl (wc := (wd_X0 qL aL0 aL1 aL2 kL0 kL1 kL2 lnc_1 lsc lcl lwh lce_1 lsp ldr_1)) (wr := []) (va_runV (As := [.int (xw_i p3), .int (xw_i x5)]) (rest := [.long (xw_j p4), .long (xw_j (p2 * r_4)), .int (xw_i x5), .ref aL2]) ⟨hx, hb, hml, hown, hts⟩ (c_X0_lineCell l dC dI qL aL0 aL1 aL2 kL0 kL1 kL2 H.size lnc_1 lsc lcl lwh lce_1 lsp ldr_1 p3 x5 _ h) (cwV 2 hts gX0_appendSum_X0_lineCell rfl rfl rfl (by decide +kernel) ⟨Nat.le_of_ble_eq_true rfl, Nat.le_of_ble_eq_true rfl⟩) (xw_preV (ci := 0) hK hP hD [0, 1, 2, 3] rfl rfl (by decide) [0, 1, 2] rfl rfl rfl) rfl rfl hl.1 rfl (lv_room (Nat.le_of_ble_eq_true rfl)) dX0_appendSum_74 ⟨Nat.le_of_ble_eq_true rfl, Nat.le_of_ble_eq_true rfl⟩) hK hP hD hS hA [0, 1, 2, 3] [] rfl rfl (by decide) (by decide) (fun r_5 u H locs h hP hD hK2 hS => ?_)
                    try dsimp only at h
                    have hP : va_P (dC, dI) vwCl (wd_X0 qL aL0 aL1 aL2 kL0 kL1 kL2 lnc_1 lsc lcl lwh lce_1 lsp ldr_1) H := hP
                    have hD : va_D A (wd_X0 qL aL0 aL1 aL2 kL0 kL1 kL2 lnc_1 lsc lcl lwh lce_1 lsp ldr_1) := hD
                    refine xw_lmul hx hb dX0_appendSum_77 ?_
                    refine xw_ladd hx hb dX0_appendSum_78 ?_
                    obtain ⟨hin, h⟩ := h
                    obtain ⟨ldr_2, eldr_2⟩ : ∃ z : Nat → Int, z = xw_u ldr_1 x5 ((p2 * r_4) + (p4 * r_5)) := ⟨_, rfl⟩
                    have h := h ldr_2 eldr_2
                    refine xw_last (n := 5) hx hb hK hP hD hS 3 2 rfl rfl (by decide) hin eldr_2 dX0_appendSum_79 (fun H locs hP hD hS => ?_)
                    have hP : va_P (dC, dI) vwCl (wd_X0 qL aL0 aL1 aL2 kL0 kL1 kL2 lnc_1 lsc lcl lwh lce_1 lsp ldr_2) H := hP
                    have hD : va_D A (wd_X0 qL aL0 aL1 aL2 kL0 kL1 kL2 lnc_1 lsc lcl lwh lce_1 lsp ldr_2) := hD
                    obtain ⟨x5_1, ex5_1⟩ : ∃ y : Int, y = x5 + 1 := ⟨_, rfl⟩
                    have h := h x5_1 ex5_1
                    refine lv_iinc (v := xw_i x5_1) (lv' := [(5, .int (xw_i x5_1)), (0, .ref qL), (1, .int (xw_i p1)), (2, .int (xw_i p2)), (3, .int (xw_i p3)), (4, .int (xw_i p4))]) hx hb dX0_appendSum_80 hl (k := 0) rfl (xw_inc ex5_1) (by decide) rfl (fun ls hl => ?_)
                    refine lv_goto (tgt := 45) hx hb dX0_appendSum_83 (by decide) ?_
                    exact ih_45 lnc_1 lce_1 ldr_2 x5_1 _ _ _ h hP hD hS (lv_sub hl [0, 1, 2, 3, 4, 5] rfl)
              obtain ⟨fu, h⟩ := h
              exact k_45 fu lnc lce ldr 0 _ _ _ h hP hD hS (lv_sub hl [0, 1, 2, 3, 4, 5] rfl)
            · have h := h.2 hcd
              refine lv_iconst (v := xw_i (-1)) hx hb dX0_appendSum_40 (by decide) ?_
              exact hret _ _ _ _ (-1) (lnc, lce, ldr) dX0_appendSum_41 h hP hD hK hS
set_option maxHeartbeats 4000000 in
set_option maxRecDepth 100000 in
theorem c_X0_appendQuotient (l : Launch) (dC : Nat → ClassId) (dI : Nat → Nat → Nat) (qL aL0 aL1 aL2 : Nat) (kL0 kL1 kL2 : ClassId) (sz : Nat) (lnc : Int) (lsc : Int) (lcl : Int) (lwh : Int) (lce : Nat → Int) (lsp : Nat → Int) (ldr : Nat → Int) (p1 : Int) (p2 : Int) (post : Int → Int → (Nat → Int) → (Nat → Int) → Prop) (h : wp_X0_appendQuotient post lnc lsc lcl lwh lce lsp ldr p1 p2) : Met l yX0_appendQuotient wsX0_appendQuotient ({ frames := 1, cells := 0, slots := 0, locals := 25 }) (va_Pc [.ref qL, .int (xw_i p1), .int (xw_i p2)] (xw_Pre (dC, dI) vwCl (wd_X0 qL aL0 aL1 aL2 kL0 kL1 kL2 lnc lsc lcl lwh lce lsp ldr) [(kL0, .long), (kL1, .int), (kL2, .long)] sz)) (va_Qi (xw_pi (fun v (u : Int × (Nat → Int) × (Nat → Int)) => post v u.1 u.2.1 u.2.2)) (xw_B (dC, dI) vwCl (fun (_ : Int × (Nat → Int) × (Nat → Int)) => [(kL0, .long), (kL1, .int), (kL2, .long)]) (va_A (wd_X0 qL aL0 aL1 aL2 kL0 kL1 kL2 lnc lsc lcl lwh lce lsp ldr) sz) (fun (u : Int × (Nat → Int) × (Nat → Int)) => (wd_X0 qL aL0 aL1 aL2 kL0 kL1 kL2 u.1 lsc lcl lwh u.2.1 lsp u.2.2))) (va_A (wd_X0 qL aL0 aL1 aL2 kL0 kL1 kL2 lnc lsc lcl lwh lce lsp ldr) sz)) 0 0 (va_A (wd_X0 qL aL0 aL1 aL2 kL0 kL1 kL2 lnc lsc lcl lwh lce lsp ldr) sz) := by
  refine xw_ofI (cc := cX0_appendQuotient) (maxL := 6) (by decide +kernel) rfl (Nat.le_of_ble_eq_true rfl) ?_
  intro p e s m args below meth c hx hb hml hown hts A hA hP hD hK Q hret ls hl hS
  have hl : lv_has ls 6 [(0, .ref qL), (1, .int (xw_i p1)), (2, .int (xw_i p2))] := hl
  have hwsX00 : ∀ w ∈ wsX00, w ∈ wsX0_appendQuotient := fun _ h => List.mem_cons_of_mem _ (List.mem_append_right _ h)
  unfold wp_X0_appendQuotient at h
  refine lv_aload_n hx hb dX0_appendQuotient_0 rfl (lv_at hl 0 rfl) ?_
  refine lv_iload_n hx hb dX0_appendQuotient_1 rfl (lv_at hl 1 rfl) ?_
  refine xw_backi (wc := (wd_X0 qL aL0 aL1 aL2 kL0 kL1 kL2 lnc lsc lcl lwh lce lsp ldr)) (wr := []) (va_runV (As := [.int (xw_i p1)]) (rest := []) ⟨hx, hb, hml, hown, hts⟩ (c_X0_hasLine l dC dI qL aL0 aL1 aL2 kL0 kL1 kL2 s.heap.size lnc lsc lcl lwh lce lsp ldr p1 _ h) (cwV 1 hts gX0_appendQuotient_X0_hasLine rfl rfl rfl (by decide +kernel) ⟨Nat.le_of_ble_eq_true rfl, Nat.le_of_ble_eq_true rfl⟩) (xw_preV (ci := 0) hK hP hD [0, 1, 2, 3] rfl rfl (by decide) [0, 1, 2] rfl rfl rfl) rfl rfl hl.1 rfl (lv_room (Nat.le_of_ble_eq_true rfl)) dX0_appendQuotient_2 ⟨Nat.le_of_ble_eq_true rfl, Nat.le_of_ble_eq_true rfl⟩) hK hP hD hS hA [0, 1, 2, 3] [] rfl rfl (by decide) (by decide) (fun r u H locs h hP hD hK2 hS => ?_)
  try dsimp only at h
  have hP : va_P (dC, dI) vwCl (wd_X0 qL aL0 aL1 aL2 kL0 kL1 kL2 lnc lsc lcl lwh lce lsp ldr) H := hP
  have hD : va_D A (wd_X0 qL aL0 aL1 aL2 kL0 kL1 kL2 lnc lsc lcl lwh lce lsp ldr) := hD
  obtain ⟨hr1, h⟩ := h
  refine xw_if_eq (tgt := 19) hx hb hr1 dX0_appendQuotient_5 (by decide) (fun hcd => ?_) (fun hcd => ?_)
  · have h := h.1 hcd
    refine lv_iconst (v := xw_i (-1)) hx hb dX0_appendQuotient_19 (by decide) ?_
    exact hret _ _ _ _ (-1) (lnc, lce, ldr) dX0_appendQuotient_20 h hP hD hK hS
  · have h := h.2 hcd
    refine lv_iload_n hx hb dX0_appendQuotient_8 rfl (lv_at hl 2 rfl) ?_
    refine lv_iconst (v := xw_i 1) hx hb dX0_appendQuotient_9 (by decide) ?_
    obtain ⟨hr2, h⟩ := h
    refine xw_icmp_lt (tgt := 19) hx hb ⟨hr2, ⟨by decide, by decide⟩⟩ dX0_appendQuotient_10 (by decide) (fun hcd => ?_) (fun hcd => ?_)
    · have h := h.1 hcd
      refine lv_iconst (v := xw_i (-1)) hx hb dX0_appendQuotient_19 (by decide) ?_
      exact hret _ _ _ _ (-1) (lnc, lce, ldr) dX0_appendQuotient_20 h hP hD hK hS
    · have h := h.2 hcd
      refine lv_iload_n hx hb dX0_appendQuotient_13 rfl (lv_at hl 2 rfl) ?_
      refine lv_ldc (v := xw_i 1000000000) hx hb hown (hts (.constant RX0 52 (xw_i 1000000000)) (by decide +kernel)) dX0_appendQuotient_14 ?_
      refine xw_icmp_le (tgt := 21) hx hb ⟨hr2, ⟨by decide, by decide⟩⟩ dX0_appendQuotient_16 (by decide) (fun hcd => ?_) (fun hcd => ?_)
      · have h := h.1 hcd
        refine lv_iconst (v := xw_i 0) hx hb dX0_appendQuotient_21 (by decide) ?_
        refine lv_istore_n (lv' := [(3, .int (xw_i 0)), (0, .ref qL), (1, .int (xw_i p1)), (2, .int (xw_i p2))]) hx hb dX0_appendQuotient_22 rfl hl (by decide) rfl (fun ls hl => ?_)
        have k_23 : ∀ (n_23 : Nat) (lnc_1 : Int) (lce_1 : Nat → Int) (ldr_1 : Nat → Int) (x3 : Int) (H : Heap) (locs : List Loc) (ls : Array Slot), wp_X0_appendQuotient_23 p1 p2 lsc lcl lwh lsp post n_23 lnc_1 lce_1 ldr_1 x3 → va_P (dC, dI) vwCl (wd_X0 qL aL0 aL1 aL2 kL0 kL1 kL2 lnc_1 lsc lcl lwh lce_1 lsp ldr_1) H → va_D A (wd_X0 qL aL0 aL1 aL2 kL0 kL1 kL2 lnc_1 lsc lcl lwh lce_1 lsp ldr_1) → va_S A s.heap H locs → lv_has ls 6 [(3, .int (xw_i x3)), (0, .ref qL), (1, .int (xw_i p1)), (2, .int (xw_i p2))] → W p l e ({ frames := 1, cells := 0, slots := 0, locals := 25 } : Room) s m args below meth c H locs 0 0 Q (F0 m 23 ls []) := by
          intro n_23
          induction n_23 with
          | zero => intro lnc_1 lce_1 ldr_1 x3 H locs ls h; exact False.elim h
          | succ n_23 ih_23 =>
            intro lnc_1 lce_1 ldr_1 x3 H locs ls h hP hD hS hl
            have h : wl_X0_appendQuotient_23 p1 p2 lsc lcl lwh lsp post (wp_X0_appendQuotient_23 p1 p2 lsc lcl lwh lsp post n_23) lnc_1 lce_1 ldr_1 x3 := h
            unfold wl_X0_appendQuotient_23 at h
            refine lv_iload_n hx hb dX0_appendQuotient_23 rfl (lv_at hl 0 rfl) ?_
            refine lv_iconst (v := xw_i 4) hx hb dX0_appendQuotient_24 (by decide) ?_
            obtain ⟨hr3, h⟩ := h
            refine xw_icmp_ge (tgt := 65) hx hb ⟨hr3, ⟨by decide, by decide⟩⟩ dX0_appendQuotient_25 (by decide) (fun hcd => ?_) (fun hcd => ?_)
            · have h := h.1 hcd
              refine lv_aload_n hx hb dX0_appendQuotient_65 rfl (lv_at hl 1 rfl) ?_
              refine va_get (D := (dC, dI)) (ci := 0) (v := .ref aL2) (C := RX0) (T := TX0) (N := 7) hx hb hts hwsX00 hown hK hP 0 rfl rfl 2 (by decide) (hts (.fieldLink RX0 19 "BoxProver$Log" "draft" "[J") (by decide +kernel)) (fun _ h9 => h9) rfl dX0_appendQuotient_66 ?_
              refine lv_iconst (v := xw_i 4) hx hb dX0_appendQuotient_69 (by decide) ?_
              refine lv_aload_n hx hb dX0_appendQuotient_70 rfl (lv_at hl 1 rfl) ?_
              refine lv_iload_n hx hb dX0_appendQuotient_71 rfl (lv_at hl 2 rfl) ?_
              refine lv_iconst (v := xw_i 4) hx hb dX0_appendQuotient_72 (by decide) ?_
              refine xw_backl (wc := (wd_X0 qL aL0 aL1 aL2 kL0 kL1 kL2 lnc_1 lsc lcl lwh lce_1 lsp ldr_1)) (wr := []) (va_runV (As := [.int (xw_i p1), .int (xw_i 4)]) (rest := [.int (xw_i 4), .ref aL2]) ⟨hx, hb, hml, hown, hts⟩ (c_X0_lineCell l dC dI qL aL0 aL1 aL2 kL0 kL1 kL2 H.size lnc_1 lsc lcl lwh lce_1 lsp ldr_1 p1 4 _ h) (cwV 2 hts gX0_appendQuotient_X0_lineCell rfl rfl rfl (by decide +kernel) ⟨Nat.le_of_ble_eq_true rfl, Nat.le_of_ble_eq_true rfl⟩) (xw_preV (ci := 0) hK hP hD [0, 1, 2, 3] rfl rfl (by decide) [0, 1, 2] rfl rfl rfl) rfl rfl hl.1 rfl (lv_room (Nat.le_of_ble_eq_true rfl)) dX0_appendQuotient_73 ⟨Nat.le_of_ble_eq_true rfl, Nat.le_of_ble_eq_true rfl⟩) hK hP hD hS hA [0, 1, 2, 3] [] rfl rfl (by decide) (by decide) (fun r_1 u H locs h hP hD hK2 hS => ?_)
              try dsimp only at h
              have hP : va_P (dC, dI) vwCl (wd_X0 qL aL0 aL1 aL2 kL0 kL1 kL2 lnc_1 lsc lcl lwh lce_1 lsp ldr_1) H := hP
              have hD : va_D A (wd_X0 qL aL0 aL1 aL2 kL0 kL1 kL2 lnc_1 lsc lcl lwh lce_1 lsp ldr_1) := hD
              refine lv_iload_n hx hb dX0_appendQuotient_76 rfl (lv_at hl 3 rfl) ?_
              refine xw_i2l hx hb hr2 dX0_appendQuotient_77 ?_
              refine xw_backl (wc := []) (wr := [(qL, .inr (0, [.ref aL0, .ref aL1, .ref aL2, .int (xw_i lnc_1), .int (xw_i lsc), .int (xw_i lcl), .int (xw_i lwh)])), (aL0, .inl (kL0, 1000, .inr (.inl (xw_b lce_1)))), (aL1, .inl (kL1, 40, .inl (xw_a lsp))), (aL2, .inl (kL2, 5, .inr (.inl (xw_b ldr_1))))]) (va_runS (As := [.long (xw_j r_1), .long (xw_j p2)]) (rest := [.int (xw_i 4), .ref aL2]) ⟨hx, hb, hml, hown, hts⟩ (c_J9_floorDiv_f86c9 l dC dI H.size r_1 p2 _ h) (va_cwS 2 hts gX0_appendQuotient_J9_floorDiv_f86c9 rfl rfl rfl (by decide +kernel) ⟨Nat.le_of_ble_eq_true rfl, Nat.le_of_ble_eq_true rfl⟩) (xw_preS hK hP hD [] rfl rfl (by decide) [] rfl) rfl rfl hl.1 rfl (lv_room (Nat.le_of_ble_eq_true rfl)) dX0_appendQuotient_78 ⟨Nat.le_of_ble_eq_true rfl, Nat.le_of_ble_eq_true rfl⟩) hK hP hD hS hA [] [0, 1, 2, 3] rfl rfl (by decide) (by decide) (fun r_2 u H locs h hP hD hK2 hS => ?_)
              try dsimp only at h
              have hP : va_P (dC, dI) vwCl (wd_X0 qL aL0 aL1 aL2 kL0 kL1 kL2 lnc_1 lsc lcl lwh lce_1 lsp ldr_1) H := hP
              have hD : va_D A (wd_X0 qL aL0 aL1 aL2 kL0 kL1 kL2 lnc_1 lsc lcl lwh lce_1 lsp ldr_1) := hD
              obtain ⟨hin, h⟩ := h
              obtain ⟨ldr_2, eldr_2⟩ : ∃ z : Nat → Int, z = xw_u ldr_1 4 r_2 := ⟨_, rfl⟩
              have h := h ldr_2 eldr_2
              refine xw_last (n := 5) hx hb hK hP hD hS 3 2 rfl rfl (by decide) hin eldr_2 dX0_appendQuotient_81 (fun H locs hP hD hS => ?_)
              have hP : va_P (dC, dI) vwCl (wd_X0 qL aL0 aL1 aL2 kL0 kL1 kL2 lnc_1 lsc lcl lwh lce_1 lsp ldr_2) H := hP
              have hD : va_D A (wd_X0 qL aL0 aL1 aL2 kL0 kL1 kL2 lnc_1 lsc lcl lwh lce_1 lsp ldr_2) := hD
              refine lv_aload_n hx hb dX0_appendQuotient_82 rfl (lv_at hl 1 rfl) ?_
              refine xw_backi (wc := (wd_X0 qL aL0 aL1 aL2 kL0 kL1 kL2 lnc_1 lsc lcl lwh lce_1 lsp ldr_2)) (wr := []) (va_runV (As := []) (rest := []) ⟨hx, hb, hml, hown, hts⟩ (c_X0_appendDraft l dC dI qL aL0 aL1 aL2 kL0 kL1 kL2 H.size lnc_1 lsc lcl lwh lce_1 lsp ldr_2 _ h) (cwV 0 hts gX0_appendQuotient_X0_appendDraft rfl rfl rfl (by decide +kernel) ⟨Nat.le_of_ble_eq_true rfl, Nat.le_of_ble_eq_true rfl⟩) (xw_preV (ci := 0) hK hP hD [0, 1, 2, 3] rfl rfl (by decide) [0, 1, 2] rfl rfl rfl) rfl rfl hl.1 rfl (lv_room (Nat.le_of_ble_eq_true rfl)) dX0_appendQuotient_83 ⟨Nat.le_of_ble_eq_true rfl, Nat.le_of_ble_eq_true rfl⟩) hK hP hD hS hA [0, 1, 2, 3] [] rfl rfl (by decide) (by decide) (fun r_3 u H locs h hP hD hK2 hS => ?_)
              obtain ⟨lnc_2, lce_2⟩ := u
              try dsimp only at h
              have hP : va_P (dC, dI) vwCl (wd_X0 qL aL0 aL1 aL2 kL0 kL1 kL2 lnc_2 lsc lcl lwh lce_2 lsp ldr_2) H := hP
              have hD : va_D A (wd_X0 qL aL0 aL1 aL2 kL0 kL1 kL2 lnc_2 lsc lcl lwh lce_2 lsp ldr_2) := hD
              exact hret _ _ _ _ r_3 (lnc_2, lce_2, ldr_2) dX0_appendQuotient_86 h hP hD hK hS
            · have h := h.2 hcd
              refine lv_aload_n hx hb dX0_appendQuotient_28 rfl (lv_at hl 1 rfl) ?_
              refine lv_iload_n hx hb dX0_appendQuotient_29 rfl (lv_at hl 2 rfl) ?_
              refine lv_iload_n hx hb dX0_appendQuotient_30 rfl (lv_at hl 0 rfl) ?_
              refine xw_backl (wc := (wd_X0 qL aL0 aL1 aL2 kL0 kL1 kL2 lnc_1 lsc lcl lwh lce_1 lsp ldr_1)) (wr := []) (va_runV (As := [.int (xw_i p1), .int (xw_i x3)]) (rest := []) ⟨hx, hb, hml, hown, hts⟩ (c_X0_lineCell l dC dI qL aL0 aL1 aL2 kL0 kL1 kL2 H.size lnc_1 lsc lcl lwh lce_1 lsp ldr_1 p1 x3 _ h) (cwV 2 hts gX0_appendQuotient_X0_lineCell rfl rfl rfl (by decide +kernel) ⟨Nat.le_of_ble_eq_true rfl, Nat.le_of_ble_eq_true rfl⟩) (xw_preV (ci := 0) hK hP hD [0, 1, 2, 3] rfl rfl (by decide) [0, 1, 2] rfl rfl rfl) rfl rfl hl.1 rfl (lv_room (Nat.le_of_ble_eq_true rfl)) dX0_appendQuotient_31 ⟨Nat.le_of_ble_eq_true rfl, Nat.le_of_ble_eq_true rfl⟩) hK hP hD hS hA [0, 1, 2, 3] [] rfl rfl (by decide) (by decide) (fun r_4 u H locs h hP hD hK2 hS => ?_)
              try dsimp only at h
              have hP : va_P (dC, dI) vwCl (wd_X0 qL aL0 aL1 aL2 kL0 kL1 kL2 lnc_1 lsc lcl lwh lce_1 lsp ldr_1) H := hP
              have hD : va_D A (wd_X0 qL aL0 aL1 aL2 kL0 kL1 kL2 lnc_1 lsc lcl lwh lce_1 lsp ldr_1) := hD
              refine lv_lstore (lv' := [(4, .long (xw_j r_4)), (3, .int (xw_i x3)), (0, .ref qL), (1, .int (xw_i p1)), (2, .int (xw_i p2))]) hx hb dX0_appendQuotient_34 hl (by decide) rfl (fun ls hl => ?_)
              refine lv_lload hx hb dX0_appendQuotient_36 (lv_at hl 0 rfl) ?_
              refine lv_iload_n hx hb dX0_appendQuotient_38 rfl (lv_at hl 4 rfl) ?_
              refine xw_i2l hx hb hr2 dX0_appendQuotient_39 ?_
              obtain ⟨hr4, h⟩ := h
              obtain ⟨hr5, h⟩ := h
              obtain ⟨hne, h⟩ := h
              refine xw_lrem hx hb ⟨hr4, hr5⟩ hne dX0_appendQuotient_40 ?_
              refine lv_lconst (v := xw_j 0) hx hb dX0_appendQuotient_41 (by decide) ?_
              refine W.lcmp hx hb dX0_appendQuotient_42 ?_
              obtain ⟨hr6, h⟩ := h
              refine xw_lif_eq (tgt := 48) hx hb ⟨hr6, ⟨by decide, by decide⟩⟩ dX0_appendQuotient_43 (by decide) (fun hcd => ?_) (fun hcd => ?_)
              · have h := h.1 hcd
                refine lv_aload_n hx hb dX0_appendQuotient_48 rfl (lv_at hl 2 rfl) ?_
                refine va_get (D := (dC, dI)) (ci := 0) (v := .ref aL2) (C := RX0) (T := TX0) (N := 7) hx hb hts hwsX00 hown hK hP 0 rfl rfl 2 (by decide) (hts (.fieldLink RX0 19 "BoxProver$Log" "draft" "[J") (by decide +kernel)) (fun _ h9 => h9) rfl dX0_appendQuotient_49 ?_
                refine lv_iload_n hx hb dX0_appendQuotient_52 rfl (lv_at hl 1 rfl) ?_
                refine lv_lload hx hb dX0_appendQuotient_53 (lv_at hl 0 rfl) ?_
                refine lv_iload_n hx hb dX0_appendQuotient_55 rfl (lv_at hl 4 rfl) ?_
                refine xw_i2l hx hb hr2 dX0_appendQuotient_56 ?_
                obtain ⟨hne, h⟩ := h
                refine xw_ldiv hx hb ⟨hr4, hr5⟩ hne dX0_appendQuotient_57 ?_
                obtain ⟨hin, h⟩ := h
                obtain ⟨ldr_3, eldr_3⟩ : ∃ z : Nat → Int, z = xw_u ldr_1 x3 (Int.tdiv r_4 p2) := ⟨_, rfl⟩
                have h := h ldr_3 eldr_3
                refine xw_last (n := 5) hx hb hK hP hD hS 3 2 rfl rfl (by decide) hin eldr_3 dX0_appendQuotient_58 (fun H locs hP hD hS => ?_)
                have hP : va_P (dC, dI) vwCl (wd_X0 qL aL0 aL1 aL2 kL0 kL1 kL2 lnc_1 lsc lcl lwh lce_1 lsp ldr_3) H := hP
                have hD : va_D A (wd_X0 qL aL0 aL1 aL2 kL0 kL1 kL2 lnc_1 lsc lcl lwh lce_1 lsp ldr_3) := hD
                obtain ⟨x3_1, ex3_1⟩ : ∃ y : Int, y = x3 + 1 := ⟨_, rfl⟩
                have h := h x3_1 ex3_1
                refine lv_iinc (v := xw_i x3_1) (lv' := [(3, .int (xw_i x3_1)), (4, .long (xw_j r_4)), (0, .ref qL), (1, .int (xw_i p1)), (2, .int (xw_i p2))]) hx hb dX0_appendQuotient_59 hl (k := 1) rfl (xw_inc ex3_1) (by decide) rfl (fun ls hl => ?_)
                refine lv_goto (tgt := 23) hx hb dX0_appendQuotient_62 (by decide) ?_
                exact ih_23 lnc_1 lce_1 ldr_3 x3_1 _ _ _ h hP hD hS (lv_sub hl [0, 2, 3, 4] rfl)
              · have h := h.2 hcd
                refine lv_iconst (v := xw_i (-1)) hx hb dX0_appendQuotient_46 (by decide) ?_
                exact hret _ _ _ _ (-1) (lnc_1, lce_1, ldr_1) dX0_appendQuotient_47 h hP hD hK hS
        obtain ⟨fu, h⟩ := h
        exact k_23 fu lnc lce ldr 0 _ _ _ h hP hD hS (lv_sub hl [0, 1, 2, 3] rfl)
      · have h := h.2 hcd
        refine lv_iconst (v := xw_i (-1)) hx hb dX0_appendQuotient_19 (by decide) ?_
        exact hret _ _ _ _ (-1) (lnc, lce, ldr) dX0_appendQuotient_20 h hP hD hK hS
set_option maxHeartbeats 4000000 in
set_option maxRecDepth 100000 in
theorem c_X0_openSplit (l : Launch) (dC : Nat → ClassId) (dI : Nat → Nat → Nat) (qL aL0 aL1 aL2 : Nat) (kL0 kL1 kL2 : ClassId) (sz : Nat) (lnc : Int) (lsc : Int) (lcl : Int) (lwh : Int) (lce : Nat → Int) (lsp : Nat → Int) (ldr : Nat → Int) (p1 : Int) (p2 : Int) (post : Int → Int → Int → (Nat → Int) → (Nat → Int) → (Nat → Int) → Prop) (h : wp_X0_openSplit post lnc lsc lcl lwh lce lsp ldr p1 p2) : Met l yX0_openSplit wsX0_openSplit ({ frames := 1, cells := 0, slots := 0, locals := 24 }) (va_Pc [.ref qL, .int (xw_i p1), .int (xw_i p2)] (xw_Pre (dC, dI) vwCl (wd_X0 qL aL0 aL1 aL2 kL0 kL1 kL2 lnc lsc lcl lwh lce lsp ldr) [(kL0, .long), (kL1, .int), (kL2, .long)] sz)) (va_Qi (xw_pi (fun v (u : Int × Int × (Nat → Int) × (Nat → Int) × (Nat → Int)) => post v u.1 u.2.1 u.2.2.1 u.2.2.2.1 u.2.2.2.2)) (xw_B (dC, dI) vwCl (fun (_ : Int × Int × (Nat → Int) × (Nat → Int) × (Nat → Int)) => [(kL0, .long), (kL1, .int), (kL2, .long)]) (va_A (wd_X0 qL aL0 aL1 aL2 kL0 kL1 kL2 lnc lsc lcl lwh lce lsp ldr) sz) (fun (u : Int × Int × (Nat → Int) × (Nat → Int) × (Nat → Int)) => (wd_X0 qL aL0 aL1 aL2 kL0 kL1 kL2 u.1 u.2.1 lcl lwh u.2.2.1 u.2.2.2.1 u.2.2.2.2))) (va_A (wd_X0 qL aL0 aL1 aL2 kL0 kL1 kL2 lnc lsc lcl lwh lce lsp ldr) sz)) 0 0 (va_A (wd_X0 qL aL0 aL1 aL2 kL0 kL1 kL2 lnc lsc lcl lwh lce lsp ldr) sz) := by
  refine xw_ofI (cc := cX0_openSplit) (maxL := 5) (by decide +kernel) rfl (Nat.le_of_ble_eq_true rfl) ?_
  intro p e s m args below meth c hx hb hml hown hts A hA hP hD hK Q hret ls hl hS
  have hl : lv_has ls 5 [(0, .ref qL), (1, .int (xw_i p1)), (2, .int (xw_i p2))] := hl
  have hwsX00 : ∀ w ∈ wsX00, w ∈ wsX0_openSplit := fun _ h => List.mem_cons_of_mem _ (List.mem_append_right _ h)
  unfold wp_X0_openSplit at h
  refine lv_iload_n hx hb dX0_openSplit_0 rfl (lv_at hl 2 rfl) ?_
  refine lv_bipush (v := xw_i (-16)) hx hb dX0_openSplit_1 (by decide) ?_
  obtain ⟨hr1, h⟩ := h
  refine xw_icmp_lt (tgt := 21) hx hb ⟨hr1, ⟨by decide, by decide⟩⟩ dX0_openSplit_3 (by decide) (fun hcd => ?_) (fun hcd => ?_)
  · have h := h.1 hcd
    refine lv_iconst (v := xw_i (-1)) hx hb dX0_openSplit_21 (by decide) ?_
    exact hret _ _ _ _ (-1) (lnc, lsc, lce, lsp, ldr) dX0_openSplit_22 h hP hD hK hS
  · have h := h.2 hcd
    refine lv_iload_n hx hb dX0_openSplit_6 rfl (lv_at hl 2 rfl) ?_
    refine lv_bipush (v := xw_i 15) hx hb dX0_openSplit_7 (by decide) ?_
    refine xw_icmp_gt (tgt := 21) hx hb ⟨hr1, ⟨by decide, by decide⟩⟩ dX0_openSplit_9 (by decide) (fun hcd => ?_) (fun hcd => ?_)
    · have h := h.1 hcd
      refine lv_iconst (v := xw_i (-1)) hx hb dX0_openSplit_21 (by decide) ?_
      exact hret _ _ _ _ (-1) (lnc, lsc, lce, lsp, ldr) dX0_openSplit_22 h hP hD hK hS
    · have h := h.2 hcd
      refine lv_aload_n hx hb dX0_openSplit_12 rfl (lv_at hl 0 rfl) ?_
      refine va_get (D := (dC, dI)) (ci := 0) (v := .int (xw_i lsc)) (C := RX0) (T := TX0) (N := 7) hx hb hts hwsX00 hown hK hP 0 rfl rfl 4 (by decide) (hts (.fieldLink RX0 26 "BoxProver$Log" "splitCount" "I") (by decide +kernel)) (fun _ h9 => h9) rfl dX0_openSplit_13 ?_
      refine lv_bipush (v := xw_i 10) hx hb dX0_openSplit_16 (by decide) ?_
      obtain ⟨hr2, h⟩ := h
      refine xw_icmp_lt (tgt := 23) hx hb ⟨hr2, ⟨by decide, by decide⟩⟩ dX0_openSplit_18 (by decide) (fun hcd => ?_) (fun hcd => ?_)
      · have h := h.1 hcd
        refine lv_aload_n hx hb dX0_openSplit_23 rfl (lv_at hl 0 rfl) ?_
        refine lv_iload_n hx hb dX0_openSplit_24 rfl (lv_at hl 1 rfl) ?_
        refine lv_iconst (v := xw_i 1) hx hb dX0_openSplit_25 (by decide) ?_
        refine lv_iload_n hx hb dX0_openSplit_26 rfl (lv_at hl 2 rfl) ?_
        refine xw_backv (wc := (wd_X0 qL aL0 aL1 aL2 kL0 kL1 kL2 lnc lsc lcl lwh lce lsp ldr)) (wr := []) (va_runV (As := [.int (xw_i p1), .int (xw_i 1), .int (xw_i p2)]) (rest := []) ⟨hx, hb, hml, hown, hts⟩ (c_X0_draftWord l dC dI qL aL0 aL1 aL2 kL0 kL1 kL2 s.heap.size lnc lsc lcl lwh lce lsp ldr p1 1 p2 _ h) (cwV 3 hts gX0_openSplit_X0_draftWord rfl rfl rfl (by decide +kernel) ⟨Nat.le_of_ble_eq_true rfl, Nat.le_of_ble_eq_true rfl⟩) (xw_preV (ci := 0) hK hP hD [0, 1, 2, 3] rfl rfl (by decide) [0, 1, 2] rfl rfl rfl) rfl rfl hl.1 rfl (lv_room (Nat.le_of_ble_eq_true rfl)) dX0_openSplit_27 ⟨Nat.le_of_ble_eq_true rfl, Nat.le_of_ble_eq_true rfl⟩) hK hP hD hS hA [0, 1, 2, 3] [] rfl rfl (by decide) (by decide) (fun ldr_1 H locs h hP hD hK2 hS => ?_)
        try dsimp only at h
        have hP : va_P (dC, dI) vwCl (wd_X0 qL aL0 aL1 aL2 kL0 kL1 kL2 lnc lsc lcl lwh lce lsp ldr_1) H := hP
        have hD : va_D A (wd_X0 qL aL0 aL1 aL2 kL0 kL1 kL2 lnc lsc lcl lwh lce lsp ldr_1) := hD
        refine lv_aload_n hx hb dX0_openSplit_30 rfl (lv_at hl 0 rfl) ?_
        refine xw_backi (wc := (wd_X0 qL aL0 aL1 aL2 kL0 kL1 kL2 lnc lsc lcl lwh lce lsp ldr_1)) (wr := []) (va_runV (As := []) (rest := []) ⟨hx, hb, hml, hown, hts⟩ (c_X0_appendDraft l dC dI qL aL0 aL1 aL2 kL0 kL1 kL2 H.size lnc lsc lcl lwh lce lsp ldr_1 _ h) (cwV 0 hts gX0_openSplit_X0_appendDraft rfl rfl rfl (by decide +kernel) ⟨Nat.le_of_ble_eq_true rfl, Nat.le_of_ble_eq_true rfl⟩) (xw_preV (ci := 0) hK hP hD [0, 1, 2, 3] rfl rfl (by decide) [0, 1, 2] rfl rfl rfl) rfl rfl hl.1 rfl (lv_room (Nat.le_of_ble_eq_true rfl)) dX0_openSplit_31 ⟨Nat.le_of_ble_eq_true rfl, Nat.le_of_ble_eq_true rfl⟩) hK hP hD hS hA [0, 1, 2, 3] [] rfl rfl (by decide) (by decide) (fun r u H locs h hP hD hK2 hS => ?_)
        obtain ⟨lnc_1, lce_1⟩ := u
        try dsimp only at h
        have hP : va_P (dC, dI) vwCl (wd_X0 qL aL0 aL1 aL2 kL0 kL1 kL2 lnc_1 lsc lcl lwh lce_1 lsp ldr_1) H := hP
        have hD : va_D A (wd_X0 qL aL0 aL1 aL2 kL0 kL1 kL2 lnc_1 lsc lcl lwh lce_1 lsp ldr_1) := hD
        refine lv_istore_n (lv' := [(3, .int (xw_i r)), (0, .ref qL), (1, .int (xw_i p1)), (2, .int (xw_i p2))]) hx hb dX0_openSplit_34 rfl hl (by decide) rfl (fun ls hl => ?_)
        refine lv_iload_n hx hb dX0_openSplit_35 rfl (lv_at hl 0 rfl) ?_
        refine lv_iconst (v := xw_i (-1)) hx hb dX0_openSplit_36 (by decide) ?_
        obtain ⟨hr3, h⟩ := h
        refine xw_icmp_ne (tgt := 42) hx hb ⟨hr3, ⟨by decide, by decide⟩⟩ dX0_openSplit_37 (by decide) (fun hcd => ?_) (fun hcd => ?_)
        · have h := h.2 hcd
          refine lv_aload_n hx hb dX0_openSplit_42 rfl (lv_at hl 1 rfl) ?_
          refine va_get (D := (dC, dI)) (ci := 0) (v := .int (xw_i lsc)) (C := RX0) (T := TX0) (N := 7) hx hb hts hwsX00 hown hK hP 0 rfl rfl 4 (by decide) (hts (.fieldLink RX0 26 "BoxProver$Log" "splitCount" "I") (by decide +kernel)) (fun _ h9 => h9) rfl dX0_openSplit_43 ?_
          refine lv_iconst (v := xw_i 4) hx hb dX0_openSplit_46 (by decide) ?_
          refine xw_imul hx hb dX0_openSplit_47 ?_
          refine xw_topi (fun x4 ex4 => ?_)
          have h := h x4 ex4
          refine lv_istore (lv' := [(4, .int (xw_i x4)), (3, .int (xw_i r)), (0, .ref qL), (1, .int (xw_i p1)), (2, .int (xw_i p2))]) hx hb dX0_openSplit_48 hl (by decide) rfl (fun ls hl => ?_)
          refine lv_aload_n hx hb dX0_openSplit_50 rfl (lv_at hl 2 rfl) ?_
          refine va_get (D := (dC, dI)) (ci := 0) (v := .ref aL1) (C := RX0) (T := TX0) (N := 7) hx hb hts hwsX00 hown hK hP 0 rfl rfl 1 (by decide) (hts (.fieldLink RX0 15 "BoxProver$Log" "splitCells" "[I") (by decide +kernel)) (fun _ h9 => h9) rfl dX0_openSplit_51 ?_
          refine lv_iload hx hb dX0_openSplit_54 (lv_at hl 0 rfl) ?_
          refine lv_iconst (v := xw_i 0) hx hb dX0_openSplit_56 (by decide) ?_
          refine xw_iadd hx hb dX0_openSplit_57 ?_
          refine lv_iload_n hx hb dX0_openSplit_58 rfl (lv_at hl 3 rfl) ?_
          obtain ⟨hin, h⟩ := h
          obtain ⟨lsp_1, elsp_1⟩ : ∃ z : Nat → Int, z = xw_u lsp (x4 + 0) p1 := ⟨_, rfl⟩
          have h := h lsp_1 elsp_1
          refine xw_iast (n := 40) hx hb hK hP hD hS 2 1 rfl rfl (by decide) hin elsp_1 dX0_openSplit_59 (fun H locs hP hD hS => ?_)
          have hP : va_P (dC, dI) vwCl (wd_X0 qL aL0 aL1 aL2 kL0 kL1 kL2 lnc_1 lsc lcl lwh lce_1 lsp_1 ldr_1) H := hP
          have hD : va_D A (wd_X0 qL aL0 aL1 aL2 kL0 kL1 kL2 lnc_1 lsc lcl lwh lce_1 lsp_1 ldr_1) := hD
          refine lv_aload_n hx hb dX0_openSplit_60 rfl (lv_at hl 2 rfl) ?_
          refine va_get (D := (dC, dI)) (ci := 0) (v := .ref aL1) (C := RX0) (T := TX0) (N := 7) hx hb hts hwsX00 hown hK hP 0 rfl rfl 1 (by decide) (hts (.fieldLink RX0 15 "BoxProver$Log" "splitCells" "[I") (by decide +kernel)) (fun _ h9 => h9) rfl dX0_openSplit_61 ?_
          refine lv_iload hx hb dX0_openSplit_64 (lv_at hl 0 rfl) ?_
          refine lv_iconst (v := xw_i 1) hx hb dX0_openSplit_66 (by decide) ?_
          refine xw_iadd hx hb dX0_openSplit_67 ?_
          refine lv_iload_n hx hb dX0_openSplit_68 rfl (lv_at hl 4 rfl) ?_
          obtain ⟨hin, h⟩ := h
          obtain ⟨lsp_2, elsp_2⟩ : ∃ z : Nat → Int, z = xw_u lsp_1 (x4 + 1) p2 := ⟨_, rfl⟩
          have h := h lsp_2 elsp_2
          refine xw_iast (n := 40) hx hb hK hP hD hS 2 1 rfl rfl (by decide) hin elsp_2 dX0_openSplit_69 (fun H locs hP hD hS => ?_)
          have hP : va_P (dC, dI) vwCl (wd_X0 qL aL0 aL1 aL2 kL0 kL1 kL2 lnc_1 lsc lcl lwh lce_1 lsp_2 ldr_1) H := hP
          have hD : va_D A (wd_X0 qL aL0 aL1 aL2 kL0 kL1 kL2 lnc_1 lsc lcl lwh lce_1 lsp_2 ldr_1) := hD
          refine lv_aload_n hx hb dX0_openSplit_70 rfl (lv_at hl 2 rfl) ?_
          refine va_get (D := (dC, dI)) (ci := 0) (v := .ref aL1) (C := RX0) (T := TX0) (N := 7) hx hb hts hwsX00 hown hK hP 0 rfl rfl 1 (by decide) (hts (.fieldLink RX0 15 "BoxProver$Log" "splitCells" "[I") (by decide +kernel)) (fun _ h9 => h9) rfl dX0_openSplit_71 ?_
          refine lv_iload hx hb dX0_openSplit_74 (lv_at hl 0 rfl) ?_
          refine lv_iconst (v := xw_i 2) hx hb dX0_openSplit_76 (by decide) ?_
          refine xw_iadd hx hb dX0_openSplit_77 ?_
          refine lv_iconst (v := xw_i 1) hx hb dX0_openSplit_78 (by decide) ?_
          obtain ⟨hin, h⟩ := h
          obtain ⟨lsp_3, elsp_3⟩ : ∃ z : Nat → Int, z = xw_u lsp_2 (x4 + 2) 1 := ⟨_, rfl⟩
          have h := h lsp_3 elsp_3
          refine xw_iast (n := 40) hx hb hK hP hD hS 2 1 rfl rfl (by decide) hin elsp_3 dX0_openSplit_79 (fun H locs hP hD hS => ?_)
          have hP : va_P (dC, dI) vwCl (wd_X0 qL aL0 aL1 aL2 kL0 kL1 kL2 lnc_1 lsc lcl lwh lce_1 lsp_3 ldr_1) H := hP
          have hD : va_D A (wd_X0 qL aL0 aL1 aL2 kL0 kL1 kL2 lnc_1 lsc lcl lwh lce_1 lsp_3 ldr_1) := hD
          refine lv_aload_n hx hb dX0_openSplit_80 rfl (lv_at hl 2 rfl) ?_
          refine va_get (D := (dC, dI)) (ci := 0) (v := .ref aL1) (C := RX0) (T := TX0) (N := 7) hx hb hts hwsX00 hown hK hP 0 rfl rfl 1 (by decide) (hts (.fieldLink RX0 15 "BoxProver$Log" "splitCells" "[I") (by decide +kernel)) (fun _ h9 => h9) rfl dX0_openSplit_81 ?_
          refine lv_iload hx hb dX0_openSplit_84 (lv_at hl 0 rfl) ?_
          refine lv_iconst (v := xw_i 3) hx hb dX0_openSplit_86 (by decide) ?_
          refine xw_iadd hx hb dX0_openSplit_87 ?_
          refine lv_iload_n hx hb dX0_openSplit_88 rfl (lv_at hl 1 rfl) ?_
          obtain ⟨hin, h⟩ := h
          obtain ⟨lsp_4, elsp_4⟩ : ∃ z : Nat → Int, z = xw_u lsp_3 (x4 + 3) r := ⟨_, rfl⟩
          have h := h lsp_4 elsp_4
          refine xw_iast (n := 40) hx hb hK hP hD hS 2 1 rfl rfl (by decide) hin elsp_4 dX0_openSplit_89 (fun H locs hP hD hS => ?_)
          have hP : va_P (dC, dI) vwCl (wd_X0 qL aL0 aL1 aL2 kL0 kL1 kL2 lnc_1 lsc lcl lwh lce_1 lsp_4 ldr_1) H := hP
          have hD : va_D A (wd_X0 qL aL0 aL1 aL2 kL0 kL1 kL2 lnc_1 lsc lcl lwh lce_1 lsp_4 ldr_1) := hD
          refine lv_aload_n hx hb dX0_openSplit_90 rfl (lv_at hl 2 rfl) ?_
          refine lv_dup hx hb dX0_openSplit_91 rfl ?_
          refine va_get (D := (dC, dI)) (ci := 0) (v := .int (xw_i lsc)) (C := RX0) (T := TX0) (N := 7) hx hb hts hwsX00 hown hK hP 0 rfl rfl 4 (by decide) (hts (.fieldLink RX0 26 "BoxProver$Log" "splitCount" "I") (by decide +kernel)) (fun _ h9 => h9) rfl dX0_openSplit_92 ?_
          refine lv_iconst (v := xw_i 1) hx hb dX0_openSplit_95 (by decide) ?_
          refine xw_iadd hx hb dX0_openSplit_96 ?_
          refine xw_topi (fun sf esf => ?_)
          have h := h sf esf
          refine va_put (D := (dC, dI)) (ci := 0) (v := .int (xw_i sf)) (ty := .int) (C := RX0) (T := TX0) (N := 7) hx hb hts hwsX00 tyX0 tyX0_ok nmX0 hown hK hP hD hS 0 rfl rfl 4 (by decide) (hts (.fieldLink RX0 26 "BoxProver$Log" "splitCount" "I") (by decide +kernel)) (fun _ h9 => h9) rfl (by decide +kernel) rfl rfl (Nat.le_of_ble_eq_true rfl) dX0_openSplit_97 (fun H locs hP hD hS => ?_)
          have hP : va_P (dC, dI) vwCl (wd_X0 qL aL0 aL1 aL2 kL0 kL1 kL2 lnc_1 sf lcl lwh lce_1 lsp_4 ldr_1) H := hP
          have hD : va_D A (wd_X0 qL aL0 aL1 aL2 kL0 kL1 kL2 lnc_1 sf lcl lwh lce_1 lsp_4 ldr_1) := hD
          refine lv_iload_n hx hb dX0_openSplit_100 rfl (lv_at hl 1 rfl) ?_
          exact hret _ _ _ _ r (lnc_1, sf, lce_1, lsp_4, ldr_1) dX0_openSplit_101 h hP hD hK hS
        · have h := h.1 hcd
          refine lv_iconst (v := xw_i (-1)) hx hb dX0_openSplit_40 (by decide) ?_
          exact hret _ _ _ _ (-1) (lnc_1, lsc, lce_1, lsp, ldr_1) dX0_openSplit_41 h hP hD hK hS
      · have h := h.2 hcd
        refine lv_iconst (v := xw_i (-1)) hx hb dX0_openSplit_21 (by decide) ?_
        exact hret _ _ _ _ (-1) (lnc, lsc, lce, lsp, ldr) dX0_openSplit_22 h hP hD hK hS
set_option maxHeartbeats 4000000 in
set_option maxRecDepth 100000 in
theorem c_X0_closeAll (l : Launch) (dC : Nat → ClassId) (dI : Nat → Nat → Nat) (qL aL0 aL1 aL2 : Nat) (kL0 kL1 kL2 : ClassId) (sz : Nat) (lnc : Int) (lsc : Int) (lcl : Int) (lwh : Int) (lce : Nat → Int) (lsp : Nat → Int) (ldr : Nat → Int) (post : Int → Int → Int → Prop) (h : wp_X0_closeAll post lnc lsc lcl lwh lce lsp ldr) : Met l yX0_closeAll wsX0_closeAll ({ frames := 1, cells := 0, slots := 0, locals := 22 }) (va_Pc [.ref qL] (xw_Pre (dC, dI) vwCl (wd_X0 qL aL0 aL1 aL2 kL0 kL1 kL2 lnc lsc lcl lwh lce lsp ldr) [(kL0, .long), (kL1, .int), (kL2, .long)] sz)) (va_Qv (fun (u : Int × Int × Int) => post u.1 u.2.1 u.2.2) (xw_B (dC, dI) vwCl (fun (_ : Int × Int × Int) => [(kL0, .long), (kL1, .int), (kL2, .long)]) (va_A (wd_X0 qL aL0 aL1 aL2 kL0 kL1 kL2 lnc lsc lcl lwh lce lsp ldr) sz) (fun (u : Int × Int × Int) => (wd_X0 qL aL0 aL1 aL2 kL0 kL1 kL2 u.1 u.2.1 lcl u.2.2 lce lsp ldr))) (va_A (wd_X0 qL aL0 aL1 aL2 kL0 kL1 kL2 lnc lsc lcl lwh lce lsp ldr) sz)) 0 0 (va_A (wd_X0 qL aL0 aL1 aL2 kL0 kL1 kL2 lnc lsc lcl lwh lce lsp ldr) sz) := by
  refine xw_ofV (cc := cX0_closeAll) (maxL := 1) (by decide +kernel) rfl (Nat.le_of_ble_eq_true rfl) ?_
  intro p e s m args below meth c hx hb hml hown hts hin A hA hP hD hK Q hret ls hl hS
  have hl : lv_has ls 1 [(0, .ref qL)] := hl
  have hwsX00 : ∀ w ∈ wsX00, w ∈ wsX0_closeAll := fun _ h => List.mem_cons_of_mem _ (List.mem_append_right _ h)
  unfold wp_X0_closeAll at h
  refine lv_aload_n hx hb dX0_closeAll_0 rfl (lv_at hl 0 rfl) ?_
  refine va_get (D := (dC, dI)) (ci := 0) (v := .int (xw_i lsc)) (C := RX0) (T := TX0) (N := 7) hx hb hts hwsX00 hown hK hP 0 rfl rfl 4 (by decide) (hts (.fieldLink RX0 26 "BoxProver$Log" "splitCount" "I") (by decide +kernel)) (fun _ h9 => h9) rfl dX0_closeAll_1 ?_
  obtain ⟨hr1, h⟩ := h
  refine xw_if_le (tgt := 17) hx hb hr1 dX0_closeAll_4 (by decide) (fun hcd => ?_) (fun hcd => ?_)
  · have h := h.1 hcd
    refine lv_aload_n hx hb dX0_closeAll_17 rfl (lv_at hl 0 rfl) ?_
    refine lv_iconst (v := xw_i 0) hx hb dX0_closeAll_18 (by decide) ?_
    refine va_put (D := (dC, dI)) (ci := 0) (v := .int (xw_i 0)) (ty := .int) (C := RX0) (T := TX0) (N := 7) hx hb hts hwsX00 tyX0 tyX0_ok nmX0 hown hK hP hD hS 0 rfl rfl 4 (by decide) (hts (.fieldLink RX0 26 "BoxProver$Log" "splitCount" "I") (by decide +kernel)) (fun _ h9 => h9) rfl (by decide +kernel) rfl rfl (Nat.le_of_ble_eq_true rfl) dX0_closeAll_19 (fun H locs hP hD hS => ?_)
    have hP : va_P (dC, dI) vwCl (wd_X0 qL aL0 aL1 aL2 kL0 kL1 kL2 lnc 0 lcl lwh lce lsp ldr) H := hP
    have hD : va_D A (wd_X0 qL aL0 aL1 aL2 kL0 kL1 kL2 lnc 0 lcl lwh lce lsp ldr) := hD
    refine lv_aload_n hx hb dX0_closeAll_22 rfl (lv_at hl 0 rfl) ?_
    refine lv_iconst (v := xw_i 1) hx hb dX0_closeAll_23 (by decide) ?_
    refine va_put (D := (dC, dI)) (ci := 0) (v := .int (xw_i 1)) (ty := .boolean) (C := RX0) (T := TX0) (N := 7) hx hb hts hwsX00 tyX0 tyX0_ok nmX0 hown hK hP hD hS 0 rfl rfl 6 (by decide) (hts (.fieldLink RX0 32 "BoxProver$Log" "whole" "Z") (by decide +kernel)) (fun _ h9 => h9) rfl (by decide +kernel) rfl rfl (Nat.le_of_ble_eq_true rfl) dX0_closeAll_24 (fun H locs hP hD hS => ?_)
    have hP : va_P (dC, dI) vwCl (wd_X0 qL aL0 aL1 aL2 kL0 kL1 kL2 lnc 0 lcl 1 lce lsp ldr) H := hP
    have hD : va_D A (wd_X0 qL aL0 aL1 aL2 kL0 kL1 kL2 lnc 0 lcl 1 lce lsp ldr) := hD
    exact hret _ _ _ _ (lnc, 0, 1) dX0_closeAll_27 h hP hD hK hS
  · have h := h.2 hcd
    refine lv_aload_n hx hb dX0_closeAll_7 rfl (lv_at hl 0 rfl) ?_
    refine lv_aload_n hx hb dX0_closeAll_8 rfl (lv_at hl 0 rfl) ?_
    refine lv_iconst (v := xw_i 0) hx hb dX0_closeAll_9 (by decide) ?_
    refine lv_iconst (v := xw_i 3) hx hb dX0_closeAll_10 (by decide) ?_
    refine xw_backi (wc := (wd_X0 qL aL0 aL1 aL2 kL0 kL1 kL2 lnc lsc lcl lwh lce lsp ldr)) (wr := []) (va_runV (As := [.int (xw_i 0), .int (xw_i 3)]) (rest := [.ref qL]) ⟨hx, hb, hml, hown, hts⟩ (c_X0_splitCell l dC dI qL aL0 aL1 aL2 kL0 kL1 kL2 s.heap.size lnc lsc lcl lwh lce lsp ldr 0 3 _ h) (cwV 2 hts gX0_closeAll_X0_splitCell rfl rfl rfl (by decide +kernel) ⟨Nat.le_of_ble_eq_true rfl, Nat.le_of_ble_eq_true rfl⟩) (xw_preV (ci := 0) hK hP hD [0, 1, 2, 3] rfl rfl (by decide) [0, 1, 2] rfl rfl rfl) rfl rfl hl.1 rfl (lv_room (Nat.le_of_ble_eq_true rfl)) dX0_closeAll_11 ⟨Nat.le_of_ble_eq_true rfl, Nat.le_of_ble_eq_true rfl⟩) hK hP hD hS hA [0, 1, 2, 3] [] rfl rfl (by decide) (by decide) (fun r u H locs h hP hD hK2 hS => ?_)
    try dsimp only at h
    have hP : va_P (dC, dI) vwCl (wd_X0 qL aL0 aL1 aL2 kL0 kL1 kL2 lnc lsc lcl lwh lce lsp ldr) H := hP
    have hD : va_D A (wd_X0 qL aL0 aL1 aL2 kL0 kL1 kL2 lnc lsc lcl lwh lce lsp ldr) := hD
    refine va_put (D := (dC, dI)) (ci := 0) (v := .int (xw_i r)) (ty := .int) (C := RX0) (T := TX0) (N := 7) hx hb hts hwsX00 tyX0 tyX0_ok nmX0 hown hK hP hD hS 0 rfl rfl 3 (by decide) (hts (.fieldLink RX0 22 "BoxProver$Log" "lineCount" "I") (by decide +kernel)) (fun _ h9 => h9) rfl (by decide +kernel) rfl rfl (Nat.le_of_ble_eq_true rfl) dX0_closeAll_14 (fun H locs hP hD hS => ?_)
    have hP : va_P (dC, dI) vwCl (wd_X0 qL aL0 aL1 aL2 kL0 kL1 kL2 r lsc lcl lwh lce lsp ldr) H := hP
    have hD : va_D A (wd_X0 qL aL0 aL1 aL2 kL0 kL1 kL2 r lsc lcl lwh lce lsp ldr) := hD
    refine lv_aload_n hx hb dX0_closeAll_17 rfl (lv_at hl 0 rfl) ?_
    refine lv_iconst (v := xw_i 0) hx hb dX0_closeAll_18 (by decide) ?_
    refine va_put (D := (dC, dI)) (ci := 0) (v := .int (xw_i 0)) (ty := .int) (C := RX0) (T := TX0) (N := 7) hx hb hts hwsX00 tyX0 tyX0_ok nmX0 hown hK hP hD hS 0 rfl rfl 4 (by decide) (hts (.fieldLink RX0 26 "BoxProver$Log" "splitCount" "I") (by decide +kernel)) (fun _ h9 => h9) rfl (by decide +kernel) rfl rfl (Nat.le_of_ble_eq_true rfl) dX0_closeAll_19 (fun H locs hP hD hS => ?_)
    have hP : va_P (dC, dI) vwCl (wd_X0 qL aL0 aL1 aL2 kL0 kL1 kL2 r 0 lcl lwh lce lsp ldr) H := hP
    have hD : va_D A (wd_X0 qL aL0 aL1 aL2 kL0 kL1 kL2 r 0 lcl lwh lce lsp ldr) := hD
    refine lv_aload_n hx hb dX0_closeAll_22 rfl (lv_at hl 0 rfl) ?_
    refine lv_iconst (v := xw_i 1) hx hb dX0_closeAll_23 (by decide) ?_
    refine va_put (D := (dC, dI)) (ci := 0) (v := .int (xw_i 1)) (ty := .boolean) (C := RX0) (T := TX0) (N := 7) hx hb hts hwsX00 tyX0 tyX0_ok nmX0 hown hK hP hD hS 0 rfl rfl 6 (by decide) (hts (.fieldLink RX0 32 "BoxProver$Log" "whole" "Z") (by decide +kernel)) (fun _ h9 => h9) rfl (by decide +kernel) rfl rfl (Nat.le_of_ble_eq_true rfl) dX0_closeAll_24 (fun H locs hP hD hS => ?_)
    have hP : va_P (dC, dI) vwCl (wd_X0 qL aL0 aL1 aL2 kL0 kL1 kL2 r 0 lcl 1 lce lsp ldr) H := hP
    have hD : va_D A (wd_X0 qL aL0 aL1 aL2 kL0 kL1 kL2 r 0 lcl 1 lce lsp ldr) := hD
    exact hret _ _ _ _ (r, 0, 1) dX0_closeAll_27 h hP hD hK hS
set_option maxHeartbeats 4000000 in
set_option maxRecDepth 100000 in
theorem c_X0_leaveBranch (l : Launch) (dC : Nat → ClassId) (dI : Nat → Nat → Nat) (qL aL0 aL1 aL2 : Nat) (kL0 kL1 kL2 : ClassId) (sz : Nat) (lnc : Int) (lsc : Int) (lcl : Int) (lwh : Int) (lce : Nat → Int) (lsp : Nat → Int) (ldr : Nat → Int) (post : Int → Int → Int → (Nat → Int) → (Nat → Int) → (Nat → Int) → Prop) (h : wp_X0_leaveBranch post lnc lsc lcl lwh lce lsp ldr) : Met l yX0_leaveBranch wsX0_leaveBranch ({ frames := 1, cells := 0, slots := 0, locals := 24 }) (va_Pc [.ref qL] (xw_Pre (dC, dI) vwCl (wd_X0 qL aL0 aL1 aL2 kL0 kL1 kL2 lnc lsc lcl lwh lce lsp ldr) [(kL0, .long), (kL1, .int), (kL2, .long)] sz)) (va_Qv (fun (u : Int × Int × Int × (Nat → Int) × (Nat → Int) × (Nat → Int)) => post u.1 u.2.1 u.2.2.1 u.2.2.2.1 u.2.2.2.2.1 u.2.2.2.2.2) (xw_B (dC, dI) vwCl (fun (_ : Int × Int × Int × (Nat → Int) × (Nat → Int) × (Nat → Int)) => [(kL0, .long), (kL1, .int), (kL2, .long)]) (va_A (wd_X0 qL aL0 aL1 aL2 kL0 kL1 kL2 lnc lsc lcl lwh lce lsp ldr) sz) (fun (u : Int × Int × Int × (Nat → Int) × (Nat → Int) × (Nat → Int)) => (wd_X0 qL aL0 aL1 aL2 kL0 kL1 kL2 u.1 u.2.1 lcl u.2.2.1 u.2.2.2.1 u.2.2.2.2.1 u.2.2.2.2.2))) (va_A (wd_X0 qL aL0 aL1 aL2 kL0 kL1 kL2 lnc lsc lcl lwh lce lsp ldr) sz)) 0 0 (va_A (wd_X0 qL aL0 aL1 aL2 kL0 kL1 kL2 lnc lsc lcl lwh lce lsp ldr) sz) := by
  refine xw_ofV (cc := cX0_leaveBranch) (maxL := 2) (by decide +kernel) rfl (Nat.le_of_ble_eq_true rfl) ?_
  intro p e s m args below meth c hx hb hml hown hts hin A hA hP hD hK Q hret ls hl hS
  have hl : lv_has ls 2 [(0, .ref qL)] := hl
  have hwsX00 : ∀ w ∈ wsX00, w ∈ wsX0_leaveBranch := fun _ h => List.mem_cons_of_mem _ (List.mem_append_right _ h)
  unfold wp_X0_leaveBranch at h
  refine lv_aload_n hx hb dX0_leaveBranch_0 rfl (lv_at hl 0 rfl) ?_
  refine va_get (D := (dC, dI)) (ci := 0) (v := .int (xw_i lsc)) (C := RX0) (T := TX0) (N := 7) hx hb hts hwsX00 hown hK hP 0 rfl rfl 4 (by decide) (hts (.fieldLink RX0 26 "BoxProver$Log" "splitCount" "I") (by decide +kernel)) (fun _ h9 => h9) rfl dX0_leaveBranch_1 ?_
  refine lv_iconst (v := xw_i 1) hx hb dX0_leaveBranch_4 (by decide) ?_
  refine xw_isub hx hb dX0_leaveBranch_5 ?_
  refine xw_topi (fun x1 ex1 => ?_)
  have h := h x1 ex1
  refine lv_istore_n (lv' := [(1, .int (xw_i x1)), (0, .ref qL)]) hx hb dX0_leaveBranch_6 rfl hl (by decide) rfl (fun ls hl => ?_)
  have k_7 : ∀ (n_7 : Nat) (lnc_1 : Int) (lsc_1 : Int) (lwh_1 : Int) (lce_1 : Nat → Int) (lsp_1 : Nat → Int) (ldr_1 : Nat → Int) (x1_1 : Int) (H : Heap) (locs : List Loc) (ls : Array Slot), wp_X0_leaveBranch_7 lcl post n_7 lnc_1 lsc_1 lwh_1 lce_1 lsp_1 ldr_1 x1_1 → va_P (dC, dI) vwCl (wd_X0 qL aL0 aL1 aL2 kL0 kL1 kL2 lnc_1 lsc_1 lcl lwh_1 lce_1 lsp_1 ldr_1) H → va_D A (wd_X0 qL aL0 aL1 aL2 kL0 kL1 kL2 lnc_1 lsc_1 lcl lwh_1 lce_1 lsp_1 ldr_1) → va_S A s.heap H locs → lv_has ls 2 [(1, .int (xw_i x1_1)), (0, .ref qL)] → W p l e ({ frames := 1, cells := 0, slots := 0, locals := 24 } : Room) s m args below meth c H locs 0 0 Q (F0 m 7 ls []) := by
    intro n_7
    induction n_7 with
    | zero => intro lnc_1 lsc_1 lwh_1 lce_1 lsp_1 ldr_1 x1_1 H locs ls h; exact False.elim h
    | succ n_7 ih_7 =>
      intro lnc_1 lsc_1 lwh_1 lce_1 lsp_1 ldr_1 x1_1 H locs ls h hP hD hS hl
      have h : wl_X0_leaveBranch_7 lcl post (wp_X0_leaveBranch_7 lcl post n_7) lnc_1 lsc_1 lwh_1 lce_1 lsp_1 ldr_1 x1_1 := h
      unfold wl_X0_leaveBranch_7 at h
      refine lv_iload_n hx hb dX0_leaveBranch_7 rfl (lv_at hl 0 rfl) ?_
      obtain ⟨hr1, h⟩ := h
      refine xw_if_lt (tgt := 79) hx hb hr1 dX0_leaveBranch_8 (by decide) (fun hcd => ?_) (fun hcd => ?_)
      · have h := h.1 hcd
        refine lv_aload_n hx hb dX0_leaveBranch_79 rfl (lv_at hl 1 rfl) ?_
        refine lv_iconst (v := xw_i 1) hx hb dX0_leaveBranch_80 (by decide) ?_
        refine va_put (D := (dC, dI)) (ci := 0) (v := .int (xw_i 1)) (ty := .boolean) (C := RX0) (T := TX0) (N := 7) hx hb hts hwsX00 tyX0 tyX0_ok nmX0 hown hK hP hD hS 0 rfl rfl 6 (by decide) (hts (.fieldLink RX0 32 "BoxProver$Log" "whole" "Z") (by decide +kernel)) (fun _ h9 => h9) rfl (by decide +kernel) rfl rfl (Nat.le_of_ble_eq_true rfl) dX0_leaveBranch_81 (fun H locs hP hD hS => ?_)
        have hP : va_P (dC, dI) vwCl (wd_X0 qL aL0 aL1 aL2 kL0 kL1 kL2 lnc_1 lsc_1 lcl 1 lce_1 lsp_1 ldr_1) H := hP
        have hD : va_D A (wd_X0 qL aL0 aL1 aL2 kL0 kL1 kL2 lnc_1 lsc_1 lcl 1 lce_1 lsp_1 ldr_1) := hD
        exact hret _ _ _ _ (lnc_1, lsc_1, 1, lce_1, lsp_1, ldr_1) dX0_leaveBranch_84 h hP hD hK hS
      · have h := h.2 hcd
        refine lv_aload_n hx hb dX0_leaveBranch_11 rfl (lv_at hl 1 rfl) ?_
        refine lv_aload_n hx hb dX0_leaveBranch_12 rfl (lv_at hl 1 rfl) ?_
        refine lv_iload_n hx hb dX0_leaveBranch_13 rfl (lv_at hl 0 rfl) ?_
        refine lv_iconst (v := xw_i 3) hx hb dX0_leaveBranch_14 (by decide) ?_
        refine xw_backi (wc := (wd_X0 qL aL0 aL1 aL2 kL0 kL1 kL2 lnc_1 lsc_1 lcl lwh_1 lce_1 lsp_1 ldr_1)) (wr := []) (va_runV (As := [.int (xw_i x1_1), .int (xw_i 3)]) (rest := [.ref qL]) ⟨hx, hb, hml, hown, hts⟩ (c_X0_splitCell l dC dI qL aL0 aL1 aL2 kL0 kL1 kL2 H.size lnc_1 lsc_1 lcl lwh_1 lce_1 lsp_1 ldr_1 x1_1 3 _ h) (cwV 2 hts gX0_leaveBranch_X0_splitCell rfl rfl rfl (by decide +kernel) ⟨Nat.le_of_ble_eq_true rfl, Nat.le_of_ble_eq_true rfl⟩) (xw_preV (ci := 0) hK hP hD [0, 1, 2, 3] rfl rfl (by decide) [0, 1, 2] rfl rfl rfl) rfl rfl hl.1 rfl (lv_room (Nat.le_of_ble_eq_true rfl)) dX0_leaveBranch_15 ⟨Nat.le_of_ble_eq_true rfl, Nat.le_of_ble_eq_true rfl⟩) hK hP hD hS hA [0, 1, 2, 3] [] rfl rfl (by decide) (by decide) (fun r u H locs h hP hD hK2 hS => ?_)
        try dsimp only at h
        have hP : va_P (dC, dI) vwCl (wd_X0 qL aL0 aL1 aL2 kL0 kL1 kL2 lnc_1 lsc_1 lcl lwh_1 lce_1 lsp_1 ldr_1) H := hP
        have hD : va_D A (wd_X0 qL aL0 aL1 aL2 kL0 kL1 kL2 lnc_1 lsc_1 lcl lwh_1 lce_1 lsp_1 ldr_1) := hD
        refine va_put (D := (dC, dI)) (ci := 0) (v := .int (xw_i r)) (ty := .int) (C := RX0) (T := TX0) (N := 7) hx hb hts hwsX00 tyX0 tyX0_ok nmX0 hown hK hP hD hS 0 rfl rfl 3 (by decide) (hts (.fieldLink RX0 22 "BoxProver$Log" "lineCount" "I") (by decide +kernel)) (fun _ h9 => h9) rfl (by decide +kernel) rfl rfl (Nat.le_of_ble_eq_true rfl) dX0_leaveBranch_18 (fun H locs hP hD hS => ?_)
        have hP : va_P (dC, dI) vwCl (wd_X0 qL aL0 aL1 aL2 kL0 kL1 kL2 r lsc_1 lcl lwh_1 lce_1 lsp_1 ldr_1) H := hP
        have hD : va_D A (wd_X0 qL aL0 aL1 aL2 kL0 kL1 kL2 r lsc_1 lcl lwh_1 lce_1 lsp_1 ldr_1) := hD
        refine lv_aload_n hx hb dX0_leaveBranch_21 rfl (lv_at hl 1 rfl) ?_
        refine lv_iload_n hx hb dX0_leaveBranch_22 rfl (lv_at hl 0 rfl) ?_
        refine lv_iconst (v := xw_i 2) hx hb dX0_leaveBranch_23 (by decide) ?_
        refine xw_backi (wc := (wd_X0 qL aL0 aL1 aL2 kL0 kL1 kL2 r lsc_1 lcl lwh_1 lce_1 lsp_1 ldr_1)) (wr := []) (va_runV (As := [.int (xw_i x1_1), .int (xw_i 2)]) (rest := []) ⟨hx, hb, hml, hown, hts⟩ (c_X0_splitCell l dC dI qL aL0 aL1 aL2 kL0 kL1 kL2 H.size r lsc_1 lcl lwh_1 lce_1 lsp_1 ldr_1 x1_1 2 _ h) (cwV 2 hts gX0_leaveBranch_X0_splitCell rfl rfl rfl (by decide +kernel) ⟨Nat.le_of_ble_eq_true rfl, Nat.le_of_ble_eq_true rfl⟩) (xw_preV (ci := 0) hK hP hD [0, 1, 2, 3] rfl rfl (by decide) [0, 1, 2] rfl rfl rfl) rfl rfl hl.1 rfl (lv_room (Nat.le_of_ble_eq_true rfl)) dX0_leaveBranch_24 ⟨Nat.le_of_ble_eq_true rfl, Nat.le_of_ble_eq_true rfl⟩) hK hP hD hS hA [0, 1, 2, 3] [] rfl rfl (by decide) (by decide) (fun r_1 u H locs h hP hD hK2 hS => ?_)
        try dsimp only at h
        have hP : va_P (dC, dI) vwCl (wd_X0 qL aL0 aL1 aL2 kL0 kL1 kL2 r lsc_1 lcl lwh_1 lce_1 lsp_1 ldr_1) H := hP
        have hD : va_D A (wd_X0 qL aL0 aL1 aL2 kL0 kL1 kL2 r lsc_1 lcl lwh_1 lce_1 lsp_1 ldr_1) := hD
        refine lv_iconst (v := xw_i 1) hx hb dX0_leaveBranch_27 (by decide) ?_
        obtain ⟨hr2, h⟩ := h
        refine xw_icmp_ne (tgt := 68) hx hb ⟨hr2, ⟨by decide, by decide⟩⟩ dX0_leaveBranch_28 (by decide) (fun hcd => ?_) (fun hcd => ?_)
        · have h := h.2 hcd
          refine lv_aload_n hx hb dX0_leaveBranch_68 rfl (lv_at hl 1 rfl) ?_
          refine lv_iload_n hx hb dX0_leaveBranch_69 rfl (lv_at hl 0 rfl) ?_
          refine va_put (D := (dC, dI)) (ci := 0) (v := .int (xw_i x1_1)) (ty := .int) (C := RX0) (T := TX0) (N := 7) hx hb hts hwsX00 tyX0 tyX0_ok nmX0 hown hK hP hD hS 0 rfl rfl 4 (by decide) (hts (.fieldLink RX0 26 "BoxProver$Log" "splitCount" "I") (by decide +kernel)) (fun _ h9 => h9) rfl (by decide +kernel) rfl rfl (Nat.le_of_ble_eq_true rfl) dX0_leaveBranch_70 (fun H locs hP hD hS => ?_)
          have hP : va_P (dC, dI) vwCl (wd_X0 qL aL0 aL1 aL2 kL0 kL1 kL2 r x1_1 lcl lwh_1 lce_1 lsp_1 ldr_1) H := hP
          have hD : va_D A (wd_X0 qL aL0 aL1 aL2 kL0 kL1 kL2 r x1_1 lcl lwh_1 lce_1 lsp_1 ldr_1) := hD
          obtain ⟨x1_2, ex1_2⟩ : ∃ y : Int, y = x1_1 + (-1) := ⟨_, rfl⟩
          have h := h x1_2 ex1_2
          refine lv_iinc (v := xw_i x1_2) (lv' := [(1, .int (xw_i x1_2)), (0, .ref qL)]) hx hb dX0_leaveBranch_73 hl (k := 0) rfl (xw_inc ex1_2) (by decide) rfl (fun ls hl => ?_)
          refine lv_goto (tgt := 7) hx hb dX0_leaveBranch_76 (by decide) ?_
          exact ih_7 r x1_1 lwh_1 lce_1 lsp_1 ldr_1 x1_2 _ _ _ h hP hD hS (lv_sub hl [0, 1] rfl)
        · have h := h.1 hcd
          refine lv_aload_n hx hb dX0_leaveBranch_31 rfl (lv_at hl 1 rfl) ?_
          refine va_get (D := (dC, dI)) (ci := 0) (v := .ref aL1) (C := RX0) (T := TX0) (N := 7) hx hb hts hwsX00 hown hK hP 0 rfl rfl 1 (by decide) (hts (.fieldLink RX0 15 "BoxProver$Log" "splitCells" "[I") (by decide +kernel)) (fun _ h9 => h9) rfl dX0_leaveBranch_32 ?_
          refine lv_iload_n hx hb dX0_leaveBranch_35 rfl (lv_at hl 0 rfl) ?_
          refine lv_iconst (v := xw_i 4) hx hb dX0_leaveBranch_36 (by decide) ?_
          refine xw_imul hx hb dX0_leaveBranch_37 ?_
          refine lv_iconst (v := xw_i 2) hx hb dX0_leaveBranch_38 (by decide) ?_
          refine xw_iadd hx hb dX0_leaveBranch_39 ?_
          refine lv_iconst (v := xw_i 2) hx hb dX0_leaveBranch_40 (by decide) ?_
          obtain ⟨hin, h⟩ := h
          obtain ⟨lsp_2, elsp_2⟩ : ∃ z : Nat → Int, z = xw_u lsp_1 ((x1_1 * 4) + 2) 2 := ⟨_, rfl⟩
          have h := h lsp_2 elsp_2
          refine xw_iast (n := 40) hx hb hK hP hD hS 2 1 rfl rfl (by decide) hin elsp_2 dX0_leaveBranch_41 (fun H locs hP hD hS => ?_)
          have hP : va_P (dC, dI) vwCl (wd_X0 qL aL0 aL1 aL2 kL0 kL1 kL2 r lsc_1 lcl lwh_1 lce_1 lsp_2 ldr_1) H := hP
          have hD : va_D A (wd_X0 qL aL0 aL1 aL2 kL0 kL1 kL2 r lsc_1 lcl lwh_1 lce_1 lsp_2 ldr_1) := hD
          refine lv_aload_n hx hb dX0_leaveBranch_42 rfl (lv_at hl 1 rfl) ?_
          refine lv_aload_n hx hb dX0_leaveBranch_43 rfl (lv_at hl 1 rfl) ?_
          refine lv_iload_n hx hb dX0_leaveBranch_44 rfl (lv_at hl 0 rfl) ?_
          refine lv_iconst (v := xw_i 0) hx hb dX0_leaveBranch_45 (by decide) ?_
          refine xw_backi (wc := (wd_X0 qL aL0 aL1 aL2 kL0 kL1 kL2 r lsc_1 lcl lwh_1 lce_1 lsp_2 ldr_1)) (wr := []) (va_runV (As := [.int (xw_i x1_1), .int (xw_i 0)]) (rest := [.ref qL]) ⟨hx, hb, hml, hown, hts⟩ (c_X0_splitCell l dC dI qL aL0 aL1 aL2 kL0 kL1 kL2 H.size r lsc_1 lcl lwh_1 lce_1 lsp_2 ldr_1 x1_1 0 _ h) (cwV 2 hts gX0_leaveBranch_X0_splitCell rfl rfl rfl (by decide +kernel) ⟨Nat.le_of_ble_eq_true rfl, Nat.le_of_ble_eq_true rfl⟩) (xw_preV (ci := 0) hK hP hD [0, 1, 2, 3] rfl rfl (by decide) [0, 1, 2] rfl rfl rfl) rfl rfl hl.1 rfl (lv_room (Nat.le_of_ble_eq_true rfl)) dX0_leaveBranch_46 ⟨Nat.le_of_ble_eq_true rfl, Nat.le_of_ble_eq_true rfl⟩) hK hP hD hS hA [0, 1, 2, 3] [] rfl rfl (by decide) (by decide) (fun r_2 u H locs h hP hD hK2 hS => ?_)
          try dsimp only at h
          have hP : va_P (dC, dI) vwCl (wd_X0 qL aL0 aL1 aL2 kL0 kL1 kL2 r lsc_1 lcl lwh_1 lce_1 lsp_2 ldr_1) H := hP
          have hD : va_D A (wd_X0 qL aL0 aL1 aL2 kL0 kL1 kL2 r lsc_1 lcl lwh_1 lce_1 lsp_2 ldr_1) := hD
          refine lv_iconst (v := xw_i (-1)) hx hb dX0_leaveBranch_49 (by decide) ?_
          refine lv_aload_n hx hb dX0_leaveBranch_50 rfl (lv_at hl 1 rfl) ?_
          refine lv_iload_n hx hb dX0_leaveBranch_51 rfl (lv_at hl 0 rfl) ?_
          refine lv_iconst (v := xw_i 1) hx hb dX0_leaveBranch_52 (by decide) ?_
          refine xw_backi (wc := (wd_X0 qL aL0 aL1 aL2 kL0 kL1 kL2 r lsc_1 lcl lwh_1 lce_1 lsp_2 ldr_1)) (wr := []) (va_runV (As := [.int (xw_i x1_1), .int (xw_i 1)]) (rest := [.int (xw_i (-1)), .int (xw_i r_2), .ref qL]) ⟨hx, hb, hml, hown, hts⟩ (c_X0_splitCell l dC dI qL aL0 aL1 aL2 kL0 kL1 kL2 H.size r lsc_1 lcl lwh_1 lce_1 lsp_2 ldr_1 x1_1 1 _ h) (cwV 2 hts gX0_leaveBranch_X0_splitCell rfl rfl rfl (by decide +kernel) ⟨Nat.le_of_ble_eq_true rfl, Nat.le_of_ble_eq_true rfl⟩) (xw_preV (ci := 0) hK hP hD [0, 1, 2, 3] rfl rfl (by decide) [0, 1, 2] rfl rfl rfl) rfl rfl hl.1 rfl (lv_room (Nat.le_of_ble_eq_true rfl)) dX0_leaveBranch_53 ⟨Nat.le_of_ble_eq_true rfl, Nat.le_of_ble_eq_true rfl⟩) hK hP hD hS hA [0, 1, 2, 3] [] rfl rfl (by decide) (by decide) (fun r_3 u H locs h hP hD hK2 hS => ?_)
          try dsimp only at h
          have hP : va_P (dC, dI) vwCl (wd_X0 qL aL0 aL1 aL2 kL0 kL1 kL2 r lsc_1 lcl lwh_1 lce_1 lsp_2 ldr_1) H := hP
          have hD : va_D A (wd_X0 qL aL0 aL1 aL2 kL0 kL1 kL2 r lsc_1 lcl lwh_1 lce_1 lsp_2 ldr_1) := hD
          refine xw_ineg hx hb dX0_leaveBranch_56 ?_
          refine lv_iconst (v := xw_i 1) hx hb dX0_leaveBranch_57 (by decide) ?_
          refine xw_isub hx hb dX0_leaveBranch_58 ?_
          refine xw_backv (wc := (wd_X0 qL aL0 aL1 aL2 kL0 kL1 kL2 r lsc_1 lcl lwh_1 lce_1 lsp_2 ldr_1)) (wr := []) (va_runV (As := [.int (xw_i r_2), .int (xw_i (-1)), .int (xw_i ((-r_3) - 1))]) (rest := []) ⟨hx, hb, hml, hown, hts⟩ (c_X0_draftWord l dC dI qL aL0 aL1 aL2 kL0 kL1 kL2 H.size r lsc_1 lcl lwh_1 lce_1 lsp_2 ldr_1 r_2 (-1) ((-r_3) - 1) _ h) (cwV 3 hts gX0_leaveBranch_X0_draftWord rfl rfl rfl (by decide +kernel) ⟨Nat.le_of_ble_eq_true rfl, Nat.le_of_ble_eq_true rfl⟩) (xw_preV (ci := 0) hK hP hD [0, 1, 2, 3] rfl rfl (by decide) [0, 1, 2] rfl rfl rfl) rfl rfl hl.1 rfl (lv_room (Nat.le_of_ble_eq_true rfl)) dX0_leaveBranch_59 ⟨Nat.le_of_ble_eq_true rfl, Nat.le_of_ble_eq_true rfl⟩) hK hP hD hS hA [0, 1, 2, 3] [] rfl rfl (by decide) (by decide) (fun ldr_2 H locs h hP hD hK2 hS => ?_)
          try dsimp only at h
          have hP : va_P (dC, dI) vwCl (wd_X0 qL aL0 aL1 aL2 kL0 kL1 kL2 r lsc_1 lcl lwh_1 lce_1 lsp_2 ldr_2) H := hP
          have hD : va_D A (wd_X0 qL aL0 aL1 aL2 kL0 kL1 kL2 r lsc_1 lcl lwh_1 lce_1 lsp_2 ldr_2) := hD
          refine lv_aload_n hx hb dX0_leaveBranch_62 rfl (lv_at hl 1 rfl) ?_
          refine xw_backi (wc := (wd_X0 qL aL0 aL1 aL2 kL0 kL1 kL2 r lsc_1 lcl lwh_1 lce_1 lsp_2 ldr_2)) (wr := []) (va_runV (As := []) (rest := []) ⟨hx, hb, hml, hown, hts⟩ (c_X0_appendDraft l dC dI qL aL0 aL1 aL2 kL0 kL1 kL2 H.size r lsc_1 lcl lwh_1 lce_1 lsp_2 ldr_2 _ h) (cwV 0 hts gX0_leaveBranch_X0_appendDraft rfl rfl rfl (by decide +kernel) ⟨Nat.le_of_ble_eq_true rfl, Nat.le_of_ble_eq_true rfl⟩) (xw_preV (ci := 0) hK hP hD [0, 1, 2, 3] rfl rfl (by decide) [0, 1, 2] rfl rfl rfl) rfl rfl hl.1 rfl (lv_room (Nat.le_of_ble_eq_true rfl)) dX0_leaveBranch_63 ⟨Nat.le_of_ble_eq_true rfl, Nat.le_of_ble_eq_true rfl⟩) hK hP hD hS hA [0, 1, 2, 3] [] rfl rfl (by decide) (by decide) (fun r_4 u H locs h hP hD hK2 hS => ?_)
          obtain ⟨r_5, lce_2⟩ := u
          try dsimp only at h
          have hP : va_P (dC, dI) vwCl (wd_X0 qL aL0 aL1 aL2 kL0 kL1 kL2 r_5 lsc_1 lcl lwh_1 lce_2 lsp_2 ldr_2) H := hP
          have hD : va_D A (wd_X0 qL aL0 aL1 aL2 kL0 kL1 kL2 r_5 lsc_1 lcl lwh_1 lce_2 lsp_2 ldr_2) := hD
          refine lv_pop hx hb dX0_leaveBranch_66 rfl ?_
          exact hret _ _ _ _ (r_5, lsc_1, lwh_1, lce_2, lsp_2, ldr_2) dX0_leaveBranch_67 h hP hD hK hS
  obtain ⟨fu, h⟩ := h
  exact k_7 fu lnc lsc lwh lce lsp ldr x1 _ _ _ h hP hD hS (lv_sub hl [0, 1] rfl)
set_option maxHeartbeats 4000000 in
set_option maxRecDepth 100000 in
theorem c_X0_closeBranch (l : Launch) (dC : Nat → ClassId) (dI : Nat → Nat → Nat) (qL aL0 aL1 aL2 : Nat) (kL0 kL1 kL2 : ClassId) (sz : Nat) (lnc : Int) (lsc : Int) (lcl : Int) (lwh : Int) (lce : Nat → Int) (lsp : Nat → Int) (ldr : Nat → Int) (p1 : Int) (post : Int → Int → Int → Int → Int → (Nat → Int) → (Nat → Int) → (Nat → Int) → Prop) (h : wp_X0_closeBranch post lnc lsc lcl lwh lce lsp ldr p1) : Met l yX0_closeBranch wsX0_closeBranch ({ frames := 2, cells := 0, slots := 0, locals := 45 }) (va_Pc [.ref qL, .int (xw_i p1)] (xw_Pre (dC, dI) vwCl (wd_X0 qL aL0 aL1 aL2 kL0 kL1 kL2 lnc lsc lcl lwh lce lsp ldr) [(kL0, .long), (kL1, .int), (kL2, .long)] sz)) (va_Qi (xw_pi (fun v (u : Int × Int × Int × Int × (Nat → Int) × (Nat → Int) × (Nat → Int)) => post v u.1 u.2.1 u.2.2.1 u.2.2.2.1 u.2.2.2.2.1 u.2.2.2.2.2.1 u.2.2.2.2.2.2)) (xw_B (dC, dI) vwCl (fun (_ : Int × Int × Int × Int × (Nat → Int) × (Nat → Int) × (Nat → Int)) => [(kL0, .long), (kL1, .int), (kL2, .long)]) (va_A (wd_X0 qL aL0 aL1 aL2 kL0 kL1 kL2 lnc lsc lcl lwh lce lsp ldr) sz) (fun (u : Int × Int × Int × Int × (Nat → Int) × (Nat → Int) × (Nat → Int)) => (wd_X0 qL aL0 aL1 aL2 kL0 kL1 kL2 u.1 u.2.1 u.2.2.1 u.2.2.2.1 u.2.2.2.2.1 u.2.2.2.2.2.1 u.2.2.2.2.2.2))) (va_A (wd_X0 qL aL0 aL1 aL2 kL0 kL1 kL2 lnc lsc lcl lwh lce lsp ldr) sz)) 0 0 (va_A (wd_X0 qL aL0 aL1 aL2 kL0 kL1 kL2 lnc lsc lcl lwh lce lsp ldr) sz) := by
  refine xw_ofI (cc := cX0_closeBranch) (maxL := 2) (by decide +kernel) rfl (Nat.le_of_ble_eq_true rfl) ?_
  intro p e s m args below meth c hx hb hml hown hts A hA hP hD hK Q hret ls hl hS
  have hl : lv_has ls 2 [(0, .ref qL), (1, .int (xw_i p1))] := hl
  have hwsX00 : ∀ w ∈ wsX00, w ∈ wsX0_closeBranch := fun _ h => List.mem_cons_of_mem _ (List.mem_append_right _ h)
  unfold wp_X0_closeBranch at h
  refine lv_aload_n hx hb dX0_closeBranch_0 rfl (lv_at hl 0 rfl) ?_
  refine va_get (D := (dC, dI)) (ci := 0) (v := .int (xw_i lwh)) (C := RX0) (T := TX0) (N := 7) hx hb hts hwsX00 hown hK hP 0 rfl rfl 6 (by decide) (hts (.fieldLink RX0 32 "BoxProver$Log" "whole" "Z") (by decide +kernel)) (fun _ h9 => h9) rfl dX0_closeBranch_1 ?_
  obtain ⟨hr1, h⟩ := h
  refine xw_if_ne (tgt := 23) hx hb hr1 dX0_closeBranch_4 (by decide) (fun hcd => ?_) (fun hcd => ?_)
  · have h := h.2 hcd
    refine lv_iconst (v := xw_i (-1)) hx hb dX0_closeBranch_23 (by decide) ?_
    exact hret _ _ _ _ (-1) (lnc, lsc, lcl, lwh, lce, lsp, ldr) dX0_closeBranch_24 h hP hD hK hS
  · have h := h.1 hcd
    refine lv_aload_n hx hb dX0_closeBranch_7 rfl (lv_at hl 0 rfl) ?_
    refine lv_iload_n hx hb dX0_closeBranch_8 rfl (lv_at hl 1 rfl) ?_
    refine xw_backi (wc := (wd_X0 qL aL0 aL1 aL2 kL0 kL1 kL2 lnc lsc lcl lwh lce lsp ldr)) (wr := []) (va_runV (As := [.int (xw_i p1)]) (rest := []) ⟨hx, hb, hml, hown, hts⟩ (c_X0_hasLine l dC dI qL aL0 aL1 aL2 kL0 kL1 kL2 s.heap.size lnc lsc lcl lwh lce lsp ldr p1 _ h) (cwV 1 hts gX0_closeBranch_X0_hasLine rfl rfl rfl (by decide +kernel) ⟨Nat.le_of_ble_eq_true rfl, Nat.le_of_ble_eq_true rfl⟩) (xw_preV (ci := 0) hK hP hD [0, 1, 2, 3] rfl rfl (by decide) [0, 1, 2] rfl rfl rfl) rfl rfl hl.1 rfl (lv_room (Nat.le_of_ble_eq_true rfl)) dX0_closeBranch_9 ⟨Nat.le_of_ble_eq_true rfl, Nat.le_of_ble_eq_true rfl⟩) hK hP hD hS hA [0, 1, 2, 3] [] rfl rfl (by decide) (by decide) (fun r u H locs h hP hD hK2 hS => ?_)
    try dsimp only at h
    have hP : va_P (dC, dI) vwCl (wd_X0 qL aL0 aL1 aL2 kL0 kL1 kL2 lnc lsc lcl lwh lce lsp ldr) H := hP
    have hD : va_D A (wd_X0 qL aL0 aL1 aL2 kL0 kL1 kL2 lnc lsc lcl lwh lce lsp ldr) := hD
    obtain ⟨hr2, h⟩ := h
    refine xw_if_eq (tgt := 23) hx hb hr2 dX0_closeBranch_12 (by decide) (fun hcd => ?_) (fun hcd => ?_)
    · have h := h.1 hcd
      refine lv_iconst (v := xw_i (-1)) hx hb dX0_closeBranch_23 (by decide) ?_
      exact hret _ _ _ _ (-1) (lnc, lsc, lcl, lwh, lce, lsp, ldr) dX0_closeBranch_24 h hP hD hK hS
    · have h := h.2 hcd
      refine lv_aload_n hx hb dX0_closeBranch_15 rfl (lv_at hl 0 rfl) ?_
      refine lv_iload_n hx hb dX0_closeBranch_16 rfl (lv_at hl 1 rfl) ?_
      refine xw_backi (wc := (wd_X0 qL aL0 aL1 aL2 kL0 kL1 kL2 lnc lsc lcl lwh lce lsp ldr)) (wr := []) (va_runV (As := [.int (xw_i p1)]) (rest := []) ⟨hx, hb, hml, hown, hts⟩ (c_X0_isContradiction l dC dI qL aL0 aL1 aL2 kL0 kL1 kL2 H.size lnc lsc lcl lwh lce lsp ldr p1 _ h) (cwV 1 hts gX0_closeBranch_X0_isContradiction rfl rfl rfl (by decide +kernel) ⟨Nat.le_of_ble_eq_true rfl, Nat.le_of_ble_eq_true rfl⟩) (xw_preV (ci := 0) hK hP hD [0, 1, 2, 3] rfl rfl (by decide) [0, 1, 2] rfl rfl rfl) rfl rfl hl.1 rfl (lv_room (Nat.le_of_ble_eq_true rfl)) dX0_closeBranch_17 ⟨Nat.le_of_ble_eq_true rfl, Nat.le_of_ble_eq_true rfl⟩) hK hP hD hS hA [0, 1, 2, 3] [] rfl rfl (by decide) (by decide) (fun r_1 u H locs h hP hD hK2 hS => ?_)
      try dsimp only at h
      have hP : va_P (dC, dI) vwCl (wd_X0 qL aL0 aL1 aL2 kL0 kL1 kL2 lnc lsc lcl lwh lce lsp ldr) H := hP
      have hD : va_D A (wd_X0 qL aL0 aL1 aL2 kL0 kL1 kL2 lnc lsc lcl lwh lce lsp ldr) := hD
      obtain ⟨hr3, h⟩ := h
      refine xw_if_ne (tgt := 25) hx hb hr3 dX0_closeBranch_20 (by decide) (fun hcd => ?_) (fun hcd => ?_)
      · have h := h.2 hcd
        refine lv_aload_n hx hb dX0_closeBranch_25 rfl (lv_at hl 0 rfl) ?_
        refine lv_dup hx hb dX0_closeBranch_26 rfl ?_
        refine va_get (D := (dC, dI)) (ci := 0) (v := .int (xw_i lcl)) (C := RX0) (T := TX0) (N := 7) hx hb hts hwsX00 hown hK hP 0 rfl rfl 5 (by decide) (hts (.fieldLink RX0 29 "BoxProver$Log" "closings" "I") (by decide +kernel)) (fun _ h9 => h9) rfl dX0_closeBranch_27 ?_
        refine lv_iconst (v := xw_i 1) hx hb dX0_closeBranch_30 (by decide) ?_
        refine xw_iadd hx hb dX0_closeBranch_31 ?_
        refine xw_topi (fun cf ecf => ?_)
        have h := h cf ecf
        refine va_put (D := (dC, dI)) (ci := 0) (v := .int (xw_i cf)) (ty := .int) (C := RX0) (T := TX0) (N := 7) hx hb hts hwsX00 tyX0 tyX0_ok nmX0 hown hK hP hD hS 0 rfl rfl 5 (by decide) (hts (.fieldLink RX0 29 "BoxProver$Log" "closings" "I") (by decide +kernel)) (fun _ h9 => h9) rfl (by decide +kernel) rfl rfl (Nat.le_of_ble_eq_true rfl) dX0_closeBranch_32 (fun H locs hP hD hS => ?_)
        have hP : va_P (dC, dI) vwCl (wd_X0 qL aL0 aL1 aL2 kL0 kL1 kL2 lnc lsc cf lwh lce lsp ldr) H := hP
        have hD : va_D A (wd_X0 qL aL0 aL1 aL2 kL0 kL1 kL2 lnc lsc cf lwh lce lsp ldr) := hD
        refine lv_aload_n hx hb dX0_closeBranch_35 rfl (lv_at hl 0 rfl) ?_
        refine xw_backv (wc := (wd_X0 qL aL0 aL1 aL2 kL0 kL1 kL2 lnc lsc cf lwh lce lsp ldr)) (wr := []) (va_runV (As := []) (rest := []) ⟨hx, hb, hml, hown, hts⟩ (c_X0_leaveBranch l dC dI qL aL0 aL1 aL2 kL0 kL1 kL2 H.size lnc lsc cf lwh lce lsp ldr _ h) (cwV 0 hts gX0_closeBranch_X0_leaveBranch rfl rfl rfl (by decide +kernel) ⟨Nat.le_of_ble_eq_true rfl, Nat.le_of_ble_eq_true rfl⟩) (xw_preV (ci := 0) hK hP hD [0, 1, 2, 3] rfl rfl (by decide) [0, 1, 2] rfl rfl rfl) rfl rfl hl.1 rfl (lv_room (Nat.le_of_ble_eq_true rfl)) dX0_closeBranch_36 ⟨Nat.le_of_ble_eq_true rfl, Nat.le_of_ble_eq_true rfl⟩) hK hP hD hS hA [0, 1, 2, 3] [] rfl rfl (by decide) (by decide) (fun u H locs h hP hD hK2 hS => ?_)
        obtain ⟨lnc_1, lsc_1, lwh_1, lce_1, lsp_1, ldr_1⟩ := u
        try dsimp only at h
        have hP : va_P (dC, dI) vwCl (wd_X0 qL aL0 aL1 aL2 kL0 kL1 kL2 lnc_1 lsc_1 cf lwh_1 lce_1 lsp_1 ldr_1) H := hP
        have hD : va_D A (wd_X0 qL aL0 aL1 aL2 kL0 kL1 kL2 lnc_1 lsc_1 cf lwh_1 lce_1 lsp_1 ldr_1) := hD
        refine lv_aload_n hx hb dX0_closeBranch_39 rfl (lv_at hl 0 rfl) ?_
        refine va_get (D := (dC, dI)) (ci := 0) (v := .int (xw_i lsc_1)) (C := RX0) (T := TX0) (N := 7) hx hb hts hwsX00 hown hK hP 0 rfl rfl 4 (by decide) (hts (.fieldLink RX0 26 "BoxProver$Log" "splitCount" "I") (by decide +kernel)) (fun _ h9 => h9) rfl dX0_closeBranch_40 ?_
        exact hret _ _ _ _ lsc_1 (lnc_1, lsc_1, cf, lwh_1, lce_1, lsp_1, ldr_1) dX0_closeBranch_43 h hP hD hK hS
      · have h := h.1 hcd
        refine lv_iconst (v := xw_i (-1)) hx hb dX0_closeBranch_23 (by decide) ?_
        exact hret _ _ _ _ (-1) (lnc, lsc, lcl, lwh, lce, lsp, ldr) dX0_closeBranch_24 h hP hD hK hS
