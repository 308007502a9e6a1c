/-! ROWS AND LAYERS, both sides. -/
def xv_arg (p1 p2 p3 p4 p5 p6 : Int) : Prop := (0 ≤ p1 ∧ p1 ≤ 1) ∧ (-99 ≤ p2 ∧ p2 ≤ 99) ∧ (-99 ≤ p3 ∧ p3 ≤ 99) ∧ (-99 ≤ p4 ∧ p4 ≤ 99) ∧ (-99 ≤ p5 ∧ p5 ≤ 99) ∧ (-9999 ≤ p6 ∧ p6 ≤ 9999)
section RO
variable {bkn rsz rly lnc lsc lcl lwh sid sfo soe : Int} {rce rst lce lsp ldr sfa sre sle spe spc sfr sto sva sff slf sgf : Nat → Int}
theorem sp_isFactor {post : Int → Prop} {p : Int} (hp : xw_r p) (k0 : ¬ (-99 ≤ p ∧ p ≤ 99) → post 0) (k1 : -99 ≤ p ∧ p ≤ 99 → post 1) : wp_X1_isFactor post p := by
  unfold wp_X1_isFactor
  exact ⟨hp, fun h => k0 (by omega), fun h => ⟨fun h2 => k0 (by omega), fun h2 => k1 (by omega)⟩⟩
theorem sp3_row {post : Int → Int → Int → (Nat → Int) → Int → Int → Int → Int → Prop} {n : Nat} {p1 p2 p3 p4 p5 p6 : Int} (hn : n ≤ 16) (r1 : xw_r p1) (r2 : xw_r p2) (r3 : xw_r p3) (r4 : xw_r p4) (r5 : xw_r p5) (r6 : xw_r p6)
    (kn : ¬ (xv_arg p1 p2 p3 p4 p5 p6 ∧ n < 16) → post (-1) bkn (n : Int) rce lnc lsc lcl lwh)
    (ky : xv_arg p1 p2 p3 p4 p5 p6 → n < 16 → ∀ rc : Nat → Int, (∀ i, i < 6 * n → rc i = rce i) → rc (6 * n) = p1 → rc (6 * n + 1) = p2 → rc (6 * n + 2) = p3 → rc (6 * n + 3) = p4 → rc (6 * n + 4) = p5 → rc (6 * n + 5) = p6 → post (n : Int) 0 ((n + 1 : Nat) : Int) rc 0 0 0 0) :
    wp_X3_row post bkn (n : Int) rly rce rst lnc lsc lcl lwh lce lsp ldr sid sfo soe sfa sre sle spe spc sfr sto sva sff slf sgf p1 p2 p3 p4 p5 p6 := by
  unfold wp_X3_row wp_X1_append
  have hno : ¬ (xv_arg p1 p2 p3 p4 p5 p6 ∧ n < 16) → xw_r (-1) ∧ (((-1 : Int) = (-1) → post (-1) bkn (n : Int) rce lnc lsc lcl lwh) ∧ (¬ (-1 : Int) = (-1) → wp_X3_startAnew (fun bkn_1 lnc_1 lsc_1 lcl_1 lwh_1 => (post (-1) bkn_1 (n : Int) rce lnc_1 lsc_1 lcl_1 lwh_1)) bkn (n : Int) rly rce rst lnc lsc lcl lwh lce lsp ldr sid sfo soe sfa sre sle spe spc sfr sto sva sff slf sgf)) := fun h => ⟨⟨by omega, by omega⟩, fun _ => kn h, fun q => absurd rfl q⟩
  refine ⟨r1, fun h => hno (fun z => by unfold xv_arg at z; omega), fun h1 => ⟨fun h => hno (fun z => by unfold xv_arg at z; omega), fun h2 => ⟨r6, fun h => hno (fun z => by unfold xv_arg at z; omega), fun h3 => ⟨fun h => hno (fun z => by unfold xv_arg at z; omega), fun h4 => ⟨⟨by omega, by omega⟩, fun h5 => ?_, fun h => hno (fun z => by omega)⟩⟩⟩⟩⟩
  refine sp_isFactor r2 (fun h => ⟨⟨by omega, by omega⟩, fun _ => hno (fun z => by unfold xv_arg at z; omega), fun q => absurd rfl q⟩) (fun f2 => ⟨⟨by omega, by omega⟩, fun q => absurd q (by omega), fun _ => ?_⟩)
  refine sp_isFactor r3 (fun h => ⟨⟨by omega, by omega⟩, fun _ => hno (fun z => by unfold xv_arg at z; omega), fun q => absurd rfl q⟩) (fun f3 => ⟨⟨by omega, by omega⟩, fun q => absurd q (by omega), fun _ => ?_⟩)
  refine sp_isFactor r4 (fun h => ⟨⟨by omega, by omega⟩, fun _ => hno (fun z => by unfold xv_arg at z; omega), fun q => absurd rfl q⟩) (fun f4 => ⟨⟨by omega, by omega⟩, fun q => absurd q (by omega), fun _ => ?_⟩)
  refine sp_isFactor r5 (fun h => ⟨⟨by omega, by omega⟩, fun _ => hno (fun z => by unfold xv_arg at z; omega), fun q => absurd rfl q⟩) (fun f5 => ⟨⟨by omega, by omega⟩, fun q => absurd q (by omega), fun _ => ?_⟩)
  intro x7 hx7
  refine ⟨by omega, fun c1 e1 => ⟨by omega, fun c2 e2 => ⟨by omega, fun c3 e3 => ⟨by omega, fun c4 e4 => ⟨by omega, fun c5 e5 => ⟨by omega, fun c6 e6 z hz => ?_⟩⟩⟩⟩⟩⟩
  rw [xw_uI _ (6 * n) (by omega)] at e1
  rw [xw_uI _ (6 * n + 1) (by omega)] at e2
  rw [xw_uI _ (6 * n + 2) (by omega)] at e3
  rw [xw_uI _ (6 * n + 3) (by omega)] at e4
  rw [xw_uI _ (6 * n + 4) (by omega)] at e5
  rw [xw_uI _ (6 * n + 5) (by omega)] at e6
  rw [hz, show (n : Int) + 1 - 1 = (n : Int) by omega, show (n : Int) + 1 = ((n + 1 : Nat) : Int) by omega]
  refine ⟨⟨by omega, by omega⟩, fun q => absurd q (by omega), fun _ => ?_⟩
  unfold wp_X3_startAnew wp_X0_makeEmpty
  subst e1; subst e2; subst e3; subst e4; subst e5
  refine ky ⟨by omega, f2, f3, f4, f5, by omega⟩ (by omega) c6 (fun i hi => ?_) ?_ ?_ ?_ ?_ ?_ ?_
  · rw [e6]; simp only []; rw [if_neg (by omega), if_neg (by omega), if_neg (by omega), if_neg (by omega), if_neg (by omega), if_neg (by omega)]
  · rw [e6]; simp
  · rw [e6]; simp
  · rw [e6]; simp
  · rw [e6]; simp
  · rw [e6]; simp
  · rw [e6]; simp
theorem sp3_push {post : Int → Int → Int → (Nat → Int) → Int → Int → Int → Int → Prop} {ly : Nat} (hl : ly ≤ 8)
    (kn : ly = 8 → post (-1) bkn (ly : Int) rst lnc lsc lcl lwh)
    (ky : ly < 8 → ∀ st : Nat → Int, (∀ i, i ≠ ly → st i = rst i) → st ly = rsz → post ((ly + 1 : Nat) : Int) 0 ((ly + 1 : Nat) : Int) st 0 0 0 0) :
    wp_X3_push post bkn rsz (ly : Int) rce rst lnc lsc lcl lwh lce lsp ldr sid sfo soe sfa sre sle spe spc sfr sto sva sff slf sgf := by
  unfold wp_X3_push wp_X1_beginLayer
  refine ⟨⟨by omega, by omega⟩, fun h => ⟨by omega, fun st hst y hy => ?_⟩, fun h => ⟨⟨by omega, by omega⟩, fun _ => kn (by omega), fun q => absurd rfl q⟩⟩
  rw [xw_uI rst ly rfl] at hst
  rw [hy, show (ly : Int) + 1 = ((ly + 1 : Nat) : Int) by omega]
  refine ⟨⟨by omega, by omega⟩, fun q => absurd q (by omega), fun _ => ?_⟩
  unfold wp_X3_startAnew wp_X0_makeEmpty
  exact ky (by omega) st (fun i hi => by rw [hst]; simp [hi]) (by rw [hst]; simp)
theorem sp3_pop {post : Int → Int → Int → Int → Int → Int → Int → Int → Prop} {n ly : Nat} (hn : n ≤ 16) (hl : ly ≤ 8) (hst : ∀ i, i < ly → 0 ≤ rst i ∧ rst i ≤ n)
    (kn : ly = 0 → post (-1) bkn (n : Int) (ly : Int) lnc lsc lcl lwh)
    (ky : ∀ q : Nat, ly = q + 1 → post ((n : Int) - rst q) 0 (rst q) (q : Int) 0 0 0 0) :
    wp_X3_pop post bkn (n : Int) (ly : Int) rce rst lnc lsc lcl lwh lce lsp ldr sid sfo soe sfa sre sle spe spc sfr sto sva sff slf sgf := by
  unfold wp_X3_pop wp_X1_dropLayer
  refine ⟨⟨by omega, by omega⟩, fun h y hy => ?_, fun h => ⟨⟨by omega, by omega⟩, fun _ => kn (by omega), fun q => absurd rfl q⟩⟩
  obtain ⟨q, hq⟩ : ∃ q, ly = q + 1 := ⟨ly - 1, by omega⟩
  have ey : y = (q : Int) := by omega
  subst ey
  rw [Int.toNat_natCast]
  have := hst q (by omega)
  refine ⟨by omega, fun x1 hx1 => ⟨by omega, fun z hz => ?_⟩⟩
  subst hx1; subst hz
  refine ⟨⟨by omega, by omega⟩, fun q => absurd q (by omega), fun _ => ?_⟩
  unfold wp_X3_startAnew wp_X0_makeEmpty
  exact ky q hq
theorem sp3_ofRow {post : Int → Prop} {n : Nat} {p1 p2 : Int} (hn : n ≤ 16) (r1 : xw_r p1) (r2 : xw_r p2) (kn : ¬ (0 ≤ p1 ∧ p1 < n ∧ 0 ≤ p2 ∧ p2 < 6) → post (-2147483648)) (ky : ∀ i w : Nat, p1 = (i : Int) → p2 = (w : Int) → i < n → w < 6 → post (rce (6 * i + w))) :
    wp_X3_ofRow post bkn (n : Int) rly rce rst lnc lsc lcl lwh lce lsp ldr sid sfo soe sfa sre sle spe spc sfr sto sva sff slf sgf p1 p2 := by
  unfold wp_X3_ofRow wp_X1_has wp_X1_cell
  refine ⟨r1, fun h => ⟨⟨by omega, by omega⟩, fun _ => kn (by omega), fun q => absurd rfl q⟩, fun h => ⟨⟨by omega, by omega⟩, fun h2 => ⟨⟨by omega, by omega⟩, fun _ => kn (by omega), fun q => absurd rfl q⟩, fun h2 => ⟨⟨by omega, by omega⟩, fun q => absurd q (by omega), fun _ => ⟨r2, fun h3 => kn (by omega), fun h3 => ⟨fun h4 => kn (by omega), fun h4 => ⟨by omega, ?_⟩⟩⟩⟩⟩⟩
  have := ky p1.toNat p2.toNat (by omega) (by omega) (by omega) (by omega)
  rw [show (p1 * 6 + p2).toNat = 6 * p1.toNat + p2.toNat by omega]
  exact this
end RO
section RM
variable {mrw mly mln msp mwh mcl mtr mfo : Int} {mki mro mlf mli msw msa msc msl mff mlt mgr mxx msu : Nat → Int}
theorem sp_isIn {post : Int → Prop} {p m : Int} (hp : xw_r p) (hm : 0 ≤ m ∧ m ≤ 10000000000000) (k0 : ¬ (-m ≤ p ∧ p ≤ m) → post 0) (k1 : -m ≤ p ∧ p ≤ m → post 1) : wp_X4_isIn post p m := by
  unfold wp_X4_isIn
  exact ⟨⟨by omega, by omega⟩, ⟨by omega, by omega⟩, fun h => k0 (by omega), fun h => ⟨⟨by omega, by omega⟩, fun h2 => k0 (by omega), fun h2 => k1 (by omega)⟩⟩
theorem xr_Mset {mki mro ki ro : Nat → Int} {n : Nat} {p1 p2 p3 p4 p5 p6 : Int} (h1 : ∀ i, i ≠ n → ki i = mki i) (h2 : ki n = p1) (h3 : ∀ i, i < 5 * n → ro i = mro i) (a0 : ro (5 * n) = p2) (a1 : ro (5 * n + 1) = p3) (a2 : ro (5 * n + 2) = p4) (a3 : ro (5 * n + 3) = p5) (a4 : ro (5 * n + 4) = p6) :
    (∀ i, i < 6 * n → xr_M ki ro i = xr_M mki mro i) ∧ xr_M ki ro (6 * n) = p1 ∧ xr_M ki ro (6 * n + 1) = p2 ∧ xr_M ki ro (6 * n + 2) = p3 ∧ xr_M ki ro (6 * n + 3) = p4 ∧ xr_M ki ro (6 * n + 4) = p5 ∧ xr_M ki ro (6 * n + 5) = p6 := by
  refine ⟨fun i hi => ?_, ?_, ?_, ?_, ?_, ?_, ?_⟩
  · unfold xr_M
    by_cases e : i % 6 = 0
    · rw [if_pos e, if_pos e, h1 _ (by omega)]
    · rw [if_neg e, if_neg e, h3 _ (by omega)]
  · rw [xr_M0, h2]
  · exact (xr_M1 ki ro n 0 (by omega)).trans a0
  · exact (xr_M1 ki ro n 1 (by omega)).trans a1
  · exact (xr_M1 ki ro n 2 (by omega)).trans a2
  · exact (xr_M1 ki ro n 3 (by omega)).trans a3
  · exact (xr_M1 ki ro n 4 (by omega)).trans a4
theorem sp4_row {post : Int → Int → Int → Int → Int → Int → Int → (Nat → Int) → (Nat → Int) → Prop} {n : Nat} {p1 p2 p3 p4 p5 p6 : Int} (hn : n ≤ 16) (r1 : xw_r p1) (r2 : xw_r p2) (r3 : xw_r p3) (r4 : xw_r p4) (r5 : xw_r p5) (r6 : xw_r p6)
    (kn : ¬ (xv_arg p1 p2 p3 p4 p5 p6 ∧ n < 16) → post (-1) (n : Int) mln msp mwh mcl mtr mki mro)
    (ky : xv_arg p1 p2 p3 p4 p5 p6 → n < 16 → ∀ ki ro : Nat → Int, (∀ i, i < 6 * n → xr_M ki ro i = xr_M mki mro i) → xr_M ki ro (6 * n) = p1 → xr_M ki ro (6 * n + 1) = p2 → xr_M ki ro (6 * n + 2) = p3 → xr_M ki ro (6 * n + 3) = p4 → xr_M ki ro (6 * n + 4) = p5 → xr_M ki ro (6 * n + 5) = p6 → post (n : Int) ((n + 1 : Nat) : Int) 0 0 0 0 0 ki ro) :
    wp_X4_row post (n : Int) mly mln msp mwh mcl mtr mfo mki mro mlf mli msw msa msc msl mff mlt mgr mxx msu p1 p2 p3 p4 p5 p6 := by
  have hno : ¬ xv_arg p1 p2 p3 p4 p5 p6 → wp_X4_row_71 p1 p2 p3 p4 p5 p6 mly mfo mlf mli msw msa msc msl mff mlt mgr mxx msu post (n : Int) mln msp mwh mcl mtr mki mro := fun h => by
    unfold wp_X4_row_71 wp_X4_row_72
    exact ⟨⟨by omega, by omega⟩, fun _ => kn (fun z => h z.1), fun q => absurd rfl q⟩
  unfold wp_X4_row
  refine ⟨r1, fun h => hno (fun z => by unfold xv_arg at z; omega), fun h1 => ⟨fun h => hno (fun z => by unfold xv_arg at z; omega), fun h2 => ⟨r2, ?_⟩⟩⟩
  refine sp_isIn r2 (by omega) (fun h => ⟨⟨by omega, by omega⟩, fun _ => hno (fun z => by unfold xv_arg at z; omega), fun q => absurd rfl q⟩) (fun f2 => ⟨⟨by omega, by omega⟩, fun q => absurd q (by omega), fun _ => ⟨r3, ?_⟩⟩)
  refine sp_isIn r3 (by omega) (fun h => ⟨⟨by omega, by omega⟩, fun _ => hno (fun z => by unfold xv_arg at z; omega), fun q => absurd rfl q⟩) (fun f3 => ⟨⟨by omega, by omega⟩, fun q => absurd q (by omega), fun _ => ⟨r4, ?_⟩⟩)
  refine sp_isIn r4 (by omega) (fun h => ⟨⟨by omega, by omega⟩, fun _ => hno (fun z => by unfold xv_arg at z; omega), fun q => absurd rfl q⟩) (fun f4 => ⟨⟨by omega, by omega⟩, fun q => absurd q (by omega), fun _ => ⟨r5, ?_⟩⟩)
  refine sp_isIn r5 (by omega) (fun h => ⟨⟨by omega, by omega⟩, fun _ => hno (fun z => by unfold xv_arg at z; omega), fun q => absurd rfl q⟩) (fun f5 => ⟨⟨by omega, by omega⟩, fun q => absurd q (by omega), fun _ => ⟨r6, ?_⟩⟩)
  refine sp_isIn r6 (by omega) (fun h => ⟨⟨by omega, by omega⟩, fun _ => hno (fun z => by unfold xv_arg at z; omega), fun q => absurd rfl q⟩) (fun f6 => ⟨⟨by omega, by omega⟩, fun q => absurd q (by omega), fun _ => ?_⟩)
  have ha : xv_arg p1 p2 p3 p4 p5 p6 := ⟨by omega, f2, f3, f4, f5, f6⟩
  unfold wp_X4_row_72
  refine ⟨⟨by omega, by omega⟩, fun q => absurd q (by omega), fun _ => ⟨⟨by omega, by omega⟩, fun h => kn (by omega), fun h x8 hx8 => ⟨by omega, fun c1 e1 => ⟨by omega, fun c2 e2 => ⟨by omega, fun c3 e3 => ⟨by omega, fun c4 e4 => ⟨by omega, fun c5 e5 => ⟨by omega, fun c6 e6 z hz => ?_⟩⟩⟩⟩⟩⟩⟩⟩
  rw [xw_uI _ n rfl] at e1
  rw [xw_uI _ (5 * n) (by omega)] at e2
  rw [xw_uI _ (5 * n + 1) (by omega)] at e3
  rw [xw_uI _ (5 * n + 2) (by omega)] at e4
  rw [xw_uI _ (5 * n + 3) (by omega)] at e5
  rw [xw_uI _ (5 * n + 4) (by omega)] at e6
  rw [hz, show (n : Int) + 1 - 1 = (n : Int) by omega, show (n : Int) + 1 = ((n + 1 : Nat) : Int) by omega]
  unfold wp_X4_changed
  subst e2; subst e3; subst e4; subst e5
  obtain ⟨m0, m1, m2, m3, m4, m5, m6⟩ := xr_Mset (mki := mki) (mro := mro) (ki := c1) (ro := c6) (n := n) (p1 := p1) (p2 := p2) (p3 := p3) (p4 := p4) (p5 := p5) (p6 := p6) (fun i hi => by rw [e1]; simp [hi]) (by rw [e1]; simp) (fun i hi => by rw [e6]; simp only []; rw [if_neg (by omega), if_neg (by omega), if_neg (by omega), if_neg (by omega), if_neg (by omega)]) (by rw [e6]; simp) (by rw [e6]; simp) (by rw [e6]; simp) (by rw [e6]; simp) (by rw [e6]; simp)
  exact ky ha (by omega) c1 c6 m0 m1 m2 m3 m4 m5 m6
theorem sp4_push {post : Int → Int → Int → Int → Int → Int → Int → (Nat → Int) → Prop} {ly : Nat} (hl : ly ≤ 8)
    (kn : ly = 8 → post (-1) (ly : Int) mln msp mwh mcl mtr mlf)
    (ky : ly < 8 → ∀ st : Nat → Int, (∀ i, i ≠ ly → st i = mlf i) → st ly = mrw → post ((ly + 1 : Nat) : Int) ((ly + 1 : Nat) : Int) 0 0 0 0 0 st) :
    wp_X4_push post mrw (ly : Int) mln msp mwh mcl mtr mfo mki mro mlf mli msw msa msc msl mff mlt mgr mxx msu := by
  unfold wp_X4_push
  refine ⟨⟨by omega, by omega⟩, fun h => kn (by omega), fun h => ⟨by omega, fun st hst y hy => ?_⟩⟩
  rw [xw_uI mlf ly rfl] at hst
  rw [hy, show (ly : Int) + 1 = ((ly + 1 : Nat) : Int) by omega]
  unfold wp_X4_changed
  exact ky (by omega) st (fun i hi => by rw [hst]; simp [hi]) (by rw [hst]; simp)
theorem sp4_pop {post : Int → Int → Int → Int → Int → Int → Int → Int → Prop} {ly : Nat} (hl : ly ≤ 8)
    (kn : ly = 0 → post (-1) mrw (ly : Int) mln msp mwh mcl mtr)
    (ky : ∀ q : Nat, ly = q + 1 → post (mrw - mlf q) (mlf q) (q : Int) 0 0 0 0 0) :
    wp_X4_pop post mrw (ly : Int) mln msp mwh mcl mtr mfo mki mro mlf mli msw msa msc msl mff mlt mgr mxx msu := by
  unfold wp_X4_pop
  refine ⟨⟨by omega, by omega⟩, fun h => kn (by omega), fun h y hy => ?_⟩
  obtain ⟨q, hq⟩ : ∃ q, ly = q + 1 := ⟨ly - 1, by omega⟩
  have ey : y = (q : Int) := by omega
  subst ey
  rw [Int.toNat_natCast]
  refine ⟨by omega, fun x1 hx1 => ⟨by omega, fun z hz => ?_⟩⟩
  subst hx1; subst hz
  unfold wp_X4_changed
  exact ky q hq
theorem sp4_ofRow {post : Int → Prop} {n : Nat} {p1 p2 : Int} (hn : n ≤ 16) (r1 : xw_r p1) (r2 : xw_r p2) (kn : ¬ (0 ≤ p1 ∧ p1 < n ∧ 0 ≤ p2 ∧ p2 < 6) → post (-2147483648)) (ky : ∀ i w : Nat, p1 = (i : Int) → p2 = (w : Int) → i < n → w < 6 → post (xr_M mki mro (6 * i + w))) :
    wp_X4_ofRow post (n : Int) mly mln msp mwh mcl mtr mfo mki mro mlf mli msw msa msc msl mff mlt mgr mxx msu p1 p2 := by
  unfold wp_X4_ofRow
  refine ⟨r1, fun h => kn (by omega), fun h => ⟨⟨by omega, by omega⟩, fun h2 => kn (by omega), fun h2 => ⟨r2, fun h3 => kn (by omega), fun h3 => ⟨fun h4 => ⟨fun h5 => ⟨by omega, ?_⟩, fun h5 => ⟨by omega, ?_⟩⟩, fun h4 => kn (by omega)⟩⟩⟩⟩
  · have := ky p1.toNat p2.toNat (by omega) (by omega) (by omega) (by omega)
    rw [show p2.toNat = 0 by omega, Nat.add_zero, xr_M0] at this
    exact this
  · have := ky p1.toNat p2.toNat (by omega) (by omega) (by omega) (by omega)
    rw [show 6 * p1.toNat + p2.toNat = 6 * p1.toNat + 1 + (p2.toNat - 1) by omega, xr_M1 _ _ _ _ (by omega)] at this
    rw [show (5 * p1 + p2 - 1).toNat = 5 * p1.toNat + (p2.toNat - 1) by omega]
    exact this
end RM
