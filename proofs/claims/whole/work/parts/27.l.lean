/-! SPLITS, the class. -/
/-- splits as they can stand -/
def xl_ok (ns : Nat) (lsp : Nat → Int) : Prop := ns ≤ 10 ∧ ∀ s, s < ns → (0 ≤ lsp (4 * s) ∧ lsp (4 * s) < 4) ∧ (-16 ≤ lsp (4 * s + 1) ∧ lsp (4 * s + 1) ≤ 15) ∧ (lsp (4 * s + 2) = 1 ∨ lsp (4 * s + 2) = 2) ∧ 0 ≤ lsp (4 * s + 3) ∧ lsp (4 * s + 3) < 200
def xl_con (lce : Nat → Int) (i : Nat) : Prop := (∀ c, c < 4 → lce (5 * i + c) = 0) ∧ lce (5 * i + 4) < 0
section SC
variable {bkn rsz rly lnc lsc lcl lwh sid sfo soe : Int} {rce rst lce lsp ldr sfa sre sle spe spc sfr sto sva sff slf sgf : Nat → Int}
theorem sp3_split {post : Int → Int → Int → (Nat → Int) → (Nat → Int) → (Nat → Int) → Prop} {nl ns : Nat} {p q : Int} (rp : xw_r p) (rq : xw_r q) (hn : nl ≤ 200) (hs : ns ≤ 10) (hw : lwh = 0 ∨ lwh = 1)
    (kn : ¬ ((0 ≤ p ∧ p < 4) ∧ (-16 ≤ q ∧ q ≤ 15) ∧ ns < 10 ∧ lwh = 0 ∧ nl < 200) → ∀ dr, post (-1) (nl : Int) (ns : Int) lce lsp dr)
    (ky : ∀ w : Nat, p = (w : Int) → w < 4 → (-16 ≤ q ∧ q ≤ 15) → ns < 10 → lwh = 0 → nl < 200 → ∀ ce sp dr, xl_new nl lce ce (xl_word w 1 q) → (∀ j, j < 4 * ns → sp j = lsp j) → sp (4 * ns) = (w : Int) → sp (4 * ns + 1) = q → sp (4 * ns + 2) = 1 → sp (4 * ns + 3) = (nl : Int) → post (nl : Int) ((nl + 1 : Nat) : Int) ((ns + 1 : Nat) : Int) ce sp dr) :
    wp_X3_split post bkn rsz rly rce rst (nl : Int) (ns : Int) lcl lwh lce lsp ldr sid sfo soe sfa sre sle spe spc sfr sto sva sff slf sgf p q := by
  unfold wp_X3_split wp_X0_openSplit
  refine sp_isWord rp (fun h => ⟨⟨by omega, by omega⟩, fun _ => kn (by omega) _, fun q => absurd rfl q⟩) (fun w ew hw4 => ⟨⟨by omega, by omega⟩, fun q => absurd q (by omega), fun _ => ?_⟩)
  subst ew
  refine ⟨rq, fun h => kn (by omega) _, fun h1 => ⟨fun h => kn (by omega) _, fun h2 => ⟨⟨by omega, by omega⟩, fun h3 => ?_, fun h => kn (by omega) _⟩⟩⟩
  refine sp_dW hw4 ⟨by omega, by omega⟩ rq (fun dr d1 d2 => sp_aD hn hw (fun z => ⟨⟨by omega, by omega⟩, fun _ => kn (by omega) _, fun z => absurd rfl z⟩) (fun z1 z2 ce hce => ⟨⟨by omega, by omega⟩, fun z => absurd z (by omega), fun _ x4 hx4 => ⟨by omega, fun s1 e1 => ⟨by omega, fun s2 e2 => ⟨by omega, fun s3 e3 => ⟨by omega, fun s4 e4 y hy => ?_⟩⟩⟩⟩⟩))
  rw [xw_uI _ (4 * ns) (by omega)] at e1
  rw [xw_uI _ (4 * ns + 1) (by omega)] at e2
  rw [xw_uI _ (4 * ns + 2) (by omega)] at e3
  rw [xw_uI _ (4 * ns + 3) (by omega)] at e4
  subst e1; subst e2; subst e3
  rw [hy, show (ns : Int) + 1 = ((ns + 1 : Nat) : Int) by omega]
  refine ky w rfl hw4 ⟨by omega, by omega⟩ (by omega) z1 z2 ce s4 dr (xl_new_cg hce (xl_word_eq hw4 d1 d2)) (fun j hj => ?_) ?_ ?_ ?_ ?_
  · rw [e4]; simp only []; rw [if_neg (by omega), if_neg (by omega), if_neg (by omega), if_neg (by omega)]
  · rw [e4]; simp
  · rw [e4]; simp
  · rw [e4]; simp
  · rw [e4]; simp
theorem sp_splitCell {post : Int → Prop} {i c : Nat} (hi : i < 10) (hc : c < 4) (k : post (lsp (4 * i + c))) : wp_X0_splitCell post lnc lsc lcl lwh lce lsp ldr (i : Int) (c : Int) := by
  unfold wp_X0_splitCell
  refine ⟨by omega, ?_⟩
  rw [show ((i : Int) * 4 + (c : Int)).toNat = 4 * i + c by omega]; exact k
theorem sp_isCon {post : Int → Prop} {nl i : Nat} (hL : xl_big nl lce) (hn : nl ≤ 200) (hi : i < nl) (k0 : ¬ xl_con lce i → post 0) (k1 : xl_con lce i → post 1) : wp_X0_isContradiction post lnc lsc lcl lwh lce lsp ldr (i : Int) := by
  unfold wp_X0_isContradiction
  refine ⟨5, ?_⟩
  have loop : ∀ (t c : Nat), c + t = 4 → (∀ j, j < c → lce (5 * i + j) = 0) → wp_X0_isContradiction_2 (i : Int) lnc lsc lcl lwh lce lsp ldr post (t + 1) (c : Int) := by
    intro t
    induction t with
    | zero =>
      intro c hc h
      show wl_X0_isContradiction_2 _ _ _ _ _ _ _ _ _ _ _
      unfold wl_X0_isContradiction_2
      have h4 := hL i hi 4 (by omega)
      refine ⟨⟨by omega, by omega⟩, fun _ => sp_lineCell (c := 4) (by omega) (by omega) ⟨⟨by omega, by omega⟩, fun q => k0 (fun z => by have := z.2; omega), fun q => k1 ⟨fun j hj => h j (by omega), by omega⟩⟩, fun q => absurd (show (4 : Int) ≤ (c : Int) by omega) q⟩
    | succ t ih =>
      intro c hc h
      show wl_X0_isContradiction_2 _ _ _ _ _ _ _ _ _ _ _
      unfold wl_X0_isContradiction_2
      have h4 := hL i hi c (by omega)
      refine ⟨⟨by omega, by omega⟩, fun q => absurd q (by omega), fun _ => sp_lineCell (by omega) (by omega) ⟨⟨by omega, by omega⟩, fun q y hy => ?_, fun q => k0 (fun z => q (z.1 c (by omega)))⟩⟩
      rw [hy, show (c : Int) + 1 = ((c + 1 : Nat) : Int) by omega]
      refine ih (c + 1) (by omega) (fun j hj => ?_)
      by_cases e : j = c
      · rw [e]; exact q
      · exact h j (by omega)
  exact loop 4 0 rfl (fun j h => absurd h (by omega))
theorem sp3_close {post : Int → Int → Int → Int → Int → (Nat → Int) → (Nat → Int) → (Nat → Int) → Prop} {nl ns : Nat} {p : Int} (rp : xw_r p) (hn : nl ≤ 200) (hS : xl_ok ns lsp) (hw : lwh = 0 ∨ lwh = 1) (hL : xl_big nl lce)
    (kn : ¬ (lwh = 0 ∧ (0 ≤ p ∧ p < nl) ∧ xl_con lce p.toNat) → post (-1) (nl : Int) (ns : Int) lcl lwh lce lsp ldr)
    (kw : lwh = 0 → ∀ i : Nat, p = (i : Int) → i < nl → xl_con lce i → (∀ s, s < ns → lsp (4 * s + 2) = 2) → post 0 (if ns = 0 then (nl : Int) else lsp 3) 0 (lcl + 1) 1 lce lsp ldr)
    (kc : lwh = 0 → ∀ i : Nat, p = (i : Int) → i < nl → xl_con lce i → ∀ s bf w : Nat, s < ns → lsp (4 * s + 2) = 1 → (∀ z, s < z → z < ns → lsp (4 * z + 2) = 2) → lsp (4 * s + 3) = (bf : Int) → lsp (4 * s) = (w : Int) → ∀ ce sp dr, xl_new bf lce ce (xl_word w (-1) (-lsp (4 * s + 1) - 1)) → (∀ j, j ≠ 4 * s + 2 → sp j = lsp j) → sp (4 * s + 2) = 2 → post ((s + 1 : Nat) : Int) ((bf + 1 : Nat) : Int) ((s + 1 : Nat) : Int) (lcl + 1) 0 ce sp dr) :
    wp_X3_close post bkn rsz rly rce rst (nl : Int) (ns : Int) lcl lwh lce lsp ldr sid sfo soe sfa sre sle spe spc sfr sto sva sff slf sgf p := by
  unfold wp_X3_close wp_X0_closeBranch
  refine ⟨⟨by omega, by omega⟩, fun h0 => ?_, fun h0 => kn (fun z => h0 z.1)⟩
  subst h0
  refine sp_hasLine rp hn (fun h => ⟨⟨by omega, by omega⟩, fun _ => kn (fun z => h z.2.1), fun q => absurd rfl q⟩) (fun i ei hi => ⟨⟨by omega, by omega⟩, fun q => absurd q (by omega), fun _ => ?_⟩)
  subst ei
  rw [Int.toNat_natCast] at kn
  refine sp_isCon hL hn hi (fun h => ⟨⟨by omega, by omega⟩, fun _ => kn (fun z => h z.2.2), fun q => absurd rfl q⟩) (fun hcon => ⟨⟨by omega, by omega⟩, fun q => absurd q (by omega), fun _ cf hcf => ?_⟩)
  subst hcf
  unfold wp_X0_leaveBranch
  intro x1 hx1
  obtain ⟨hs10, hsp⟩ := hS
  refine ⟨ns + 1, ?_⟩
  have loop : ∀ (t : Nat) (ln : Int), t ≤ ns → (∀ z, t ≤ z → z < ns → lsp (4 * z + 2) = 2) → (if t = ns then ln = (nl : Int) else ln = lsp (4 * t + 3)) → wp_X0_leaveBranch_7 (lcl + 1) (fun lnc_1 lsc_1 lwh_1 lce_1 lsp_1 ldr_1 => (post lsc_1 lnc_1 lsc_1 (lcl + 1) lwh_1 lce_1 lsp_1 ldr_1)) (t + 1) ln (t : Int) 0 lce lsp ldr ((t : Int) - 1) := by
    intro t
    induction t with
    | zero =>
      intro ln _ hz hln
      rw [wp_X0_leaveBranch_7]
      unfold wl_X0_leaveBranch_7
      refine ⟨⟨by omega, by omega⟩, fun _ => ?_, fun q => absurd (show ((0 : Nat) : Int) - 1 < 0 by omega) q⟩
      have e : ln = (if ns = 0 then (nl : Int) else lsp 3) := by
        by_cases q : ns = 0
        · rw [if_pos q.symm] at hln; rw [if_pos q, hln]
        · rw [if_neg (fun z => q z.symm)] at hln; rw [if_neg q, hln]
      rw [e]
      exact kw rfl i rfl hi hcon (fun s hs => hz s (by omega) hs)
    | succ t ih =>
      intro ln ht hz hln
      rw [wp_X0_leaveBranch_7]
      unfold wl_X0_leaveBranch_7
      rw [show ((t + 1 : Nat) : Int) - 1 = (t : Int) by omega]
      obtain ⟨o1, o2, o3, o4⟩ := hsp t (by omega)
      refine ⟨⟨by omega, by omega⟩, fun q => absurd q (by omega), fun _ => sp_splitCell (c := 3) (by omega) (by omega) (sp_splitCell (c := 2) (by omega) (by omega) ⟨⟨by omega, by omega⟩, fun q => ⟨by omega, fun sp hspe => ?_⟩, fun q y hy => ?_⟩)⟩
      · rw [xw_uI _ (4 * t + 2) (by omega)] at hspe
        have n1 : ∀ j, j ≠ 4 * t + 2 → sp j = lsp j := fun j hj => by rw [hspe]; simp [hj]
        have n2 : sp (4 * t + 2) = 2 := by rw [hspe]; simp
        obtain ⟨bf, ebf⟩ : ∃ bf : Nat, lsp (4 * t + 3) = (bf : Int) := ⟨(lsp (4 * t + 3)).toNat, by omega⟩
        obtain ⟨w, ew⟩ : ∃ w : Nat, lsp (4 * t) = (w : Int) := ⟨(lsp (4 * t)).toNat, by omega⟩
        refine sp_splitCell (c := 0) (by omega) (by omega) (sp_splitCell (c := 1) (by omega) (by omega) ?_)
        rw [n1 (4 * t + 0) (by omega), n1 (4 * t + 1) (by omega), show 4 * t + 0 = 4 * t from rfl, ew, ebf]
        refine sp_dW (by omega) ⟨by omega, by omega⟩ ⟨by omega, by omega⟩ (fun dr d1 d2 => sp_aD (by omega) (Or.inl rfl) (fun z => absurd (show (0 : Int) = 0 ∧ bf < 200 by omega) z) (fun _ z2 ce hce => ?_))
        exact kc rfl i rfl hi hcon t bf w (by omega) q (fun z z1 z3 => hz z (by omega) z3) ebf ew ce sp dr (xl_new_cg hce (xl_word_eq (by omega) d1 d2)) n1 n2
      · rw [hy, show (t : Int) + (-1) = (t : Int) - 1 by omega]
        refine ih (lsp (4 * t + 3)) (by omega) (fun z z1 z2 => ?_) (by rw [if_neg (by omega)])
        by_cases e : z = t
        · rw [e]; omega
        · exact hz z (by omega) z2
  rw [hx1]
  exact loop ns (nl : Int) (Nat.le_refl ns) (fun z z1 z2 => by omega) (by rw [if_pos rfl])
theorem sp3_finish {post : Int → Int → Int → Int → Int → Int → Int → Int → (Nat → Int) → (Nat → Int) → (Nat → Int) → (Nat → Int) → (Nat → Int) → (Nat → Int) → (Nat → Int) → (Nat → Int) → (Nat → Int) → (Nat → Int) → (Nat → Int) → Prop} {n ns : Nat} (hok : xr_ok n rce) (hs : ns ≤ 10) (hw : lwh = 0 ∨ lwh = 1) (hK : xv_K n rce bkn sfo sff slf sgf)
    (kn : lwh = 1 → post (-1) bkn lnc (ns : Int) lwh sid sfo soe sfa sre sle spe spc sfr sto sva sff slf sgf)
    (k0 : lwh = 0 → ∀ kn sid fo oe fa re le pe pc fr to_ va ff lf gf, xm_F (xr_P n rce) 923521 fo ff → 0 < fo → xv_K n rce kn fo ff lf gf → post 0 kn lnc (ns : Int) lwh sid fo oe fa re le pe pc fr to_ va ff lf gf)
    (k1 : lwh = 0 → ∀ kn sid fo oe fa re le pe pc fr to_ va ff lf gf, xm_F (xr_P n rce) 923521 fo ff → fo = 0 → xv_K n rce kn fo ff lf gf → post 1 kn (if ns = 0 then lnc else lsp 3) 0 1 sid fo oe fa re le pe pc fr to_ va ff lf gf) :
    wp_X3_finish post bkn (n : Int) rly rce rst lnc (ns : Int) lcl lwh lce lsp ldr sid sfo soe sfa sre sle spe spc sfr sto sva sff slf sgf := by
  unfold wp_X3_finish wp_X0_isWhole wp_X2_found wp_X0_closeAll
  refine ⟨hw, ⟨by omega, by omega⟩, fun h => ?_, fun h => kn (by omega)⟩
  refine sp3_learn hok (Or.inl rfl) hK (fun kn sid fo oe fa re le pe pc fr to_ va ff lf gf h1 hk => ?_)
  obtain ⟨f1, f2⟩ := xv_K_F hk h1
  refine ⟨⟨by omega, by omega⟩, fun h2 => ⟨⟨by omega, by omega⟩, fun h3 => ?_, fun h3 => ?_⟩, fun h2 => k0 h _ _ _ _ _ _ _ _ _ _ _ _ _ _ _ f2 (by omega) hk⟩
  · have := k1 h kn sid fo oe fa re le pe pc fr to_ va ff lf gf f2 (by omega) hk
    rw [if_pos (by omega)] at this
    exact this
  · refine sp_splitCell (i := 0) (c := 3) (by omega) (by omega) ?_
    have := k1 h kn sid fo oe fa re le pe pc fr to_ va ff lf gf f2 (by omega) hk
    rw [if_neg (by omega)] at this
    exact this
theorem sp3_line {post : Int → Prop} {nl : Nat} {p1 p2 : Int} (r1 : xw_r p1) (r2 : xw_r p2) (hn : nl ≤ 200) (kn : ¬ (0 ≤ p1 ∧ p1 < nl ∧ 0 ≤ p2 ∧ p2 < 5) → post (-9223372036854775808)) (ky : ∀ i w : Nat, p1 = (i : Int) → p2 = (w : Int) → i < nl → w < 5 → post (lce (5 * i + w))) :
    wp_X3_line post bkn rsz rly rce rst (nl : Int) lsc lcl lwh lce lsp ldr sid sfo soe sfa sre sle spe spc sfr sto sva sff slf sgf p1 p2 := by
  unfold wp_X3_line
  refine sp_hasLine r1 hn (fun h => ⟨⟨by omega, by omega⟩, fun _ => kn (by omega), fun q => absurd rfl q⟩) (fun i ei hi => ⟨⟨by omega, by omega⟩, fun q => absurd q (by omega), fun _ => ⟨r2, fun h => kn (by omega), fun h => ⟨fun h2 => kn (by omega), fun h2 => ?_⟩⟩⟩)
  obtain ⟨w, ew⟩ : ∃ w : Nat, p2 = (w : Int) := ⟨p2.toNat, by omega⟩
  subst ei; subst ew
  exact sp_lineCell (by omega) (by omega) (ky i w rfl rfl hi (by omega))
theorem sp3_ofSplit {post : Int → Prop} {ns : Nat} {p1 p2 : Int} (r1 : xw_r p1) (r2 : xw_r p2) (hn : ns ≤ 10) (kn : ¬ (0 ≤ p1 ∧ p1 < ns ∧ 0 ≤ p2 ∧ p2 < 4) → post (-2147483648)) (ky : ∀ i w : Nat, p1 = (i : Int) → p2 = (w : Int) → i < ns → w < 4 → post (lsp (4 * i + w))) :
    wp_X3_ofSplit post bkn rsz rly rce rst lnc (ns : Int) lcl lwh lce lsp ldr sid sfo soe sfa sre sle spe spc sfr sto sva sff slf sgf p1 p2 := by
  unfold wp_X3_ofSplit wp_X0_hasSplit
  refine ⟨r1, fun h => ⟨⟨by omega, by omega⟩, fun _ => kn (by omega), fun q => absurd rfl q⟩, fun h => ⟨⟨by omega, by omega⟩, fun h2 => ⟨⟨by omega, by omega⟩, fun _ => kn (by omega), fun q => absurd rfl q⟩, fun h2 => ⟨⟨by omega, by omega⟩, fun q => absurd q (by omega), fun _ => ⟨r2, fun h3 => kn (by omega), fun h3 => ⟨fun h4 => kn (by omega), fun h4 => ?_⟩⟩⟩⟩⟩
  obtain ⟨i, ei⟩ : ∃ i : Nat, p1 = (i : Int) := ⟨p1.toNat, by omega⟩
  obtain ⟨w, ew⟩ : ∃ w : Nat, p2 = (w : Int) := ⟨p2.toNat, by omega⟩
  subst ei; subst ew
  exact sp_splitCell (by omega) (by omega) (ky i w rfl rfl (by omega) (by omega))
theorem sp3_count {post : Int → Prop} {p : Int} (rp : xw_r p) (hw : lwh = 0 ∨ lwh = 1) (kn : p < 0 ∨ 4 < p → post (-1)) (k0 : p = 0 → post rsz) (k1 : p = 1 → post rly) (k2 : p = 2 → post lwh) (k3 : p = 3 → post lsc) (k4 : p = 4 → post lcl) :
    wp_X3_count post bkn rsz rly rce rst lnc lsc lcl lwh lce lsp ldr sid sfo soe sfa sre sle spe spc sfr sto sva sff slf sgf p := by
  unfold wp_X3_count wp_X1_size wp_X1_layerCount wp_X0_isWhole wp_X0_splitCount wp_X0_closings
  exact ⟨rp, kn, k0, k1, fun h => ⟨hw, ⟨by omega, by omega⟩, fun q => by have := k2 h; rw [q] at this; exact this, fun q => by have := k2 h; rw [show lwh = 1 by omega] at this; exact this⟩, k3, k4, trivial⟩
end SC
