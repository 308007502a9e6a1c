/-! THE REFERENCE's own search: all points, one behind the other. -/
/-- the reference's rows in the class's places -/
def xr_M (mki mro : Nat → Int) : Nat → Int := fun i => if i % 6 = 0 then mki (i / 6) else mro (5 * (i / 6) + i % 6 - 1)
theorem xr_M0 (mki mro : Nat → Int) (r : Nat) : xr_M mki mro (6 * r) = mki r := by
  unfold xr_M; rw [if_pos (by omega), show 6 * r / 6 = r by omega]
theorem xr_M1 (mki mro : Nat → Int) (r w : Nat) (hw : w < 5) : xr_M mki mro (6 * r + 1 + w) = mro (5 * r + w) := by
  unfold xr_M; rw [if_neg (by omega), show 5 * ((6 * r + 1 + w) / 6) + (6 * r + 1 + w) % 6 - 1 = 5 * r + w by omega]
noncomputable def xr_P (n : Nat) (rce : Nat → Int) : Nat → Bool := fun N => @decide (∀ r, r < n → xr_H rce (xm_p N) r) (Classical.propDecidable _)
theorem xr_P_iff (n : Nat) (rce : Nat → Int) (N : Nat) : xr_P n rce N = true ↔ ∀ r, r < n → xr_H rce (xm_p N) r := by unfold xr_P; exact @decide_eq_true_iff _ (Classical.propDecidable _)
theorem xr_P_false (n : Nat) (rce : Nat → Int) (N : Nat) : xr_P n rce N = false ↔ ¬ ∀ r, r < n → xr_H rce (xm_p N) r := by
  rw [← xr_P_iff]; cases xr_P n rce N <;> simp
section MS
variable {mrw mly mln msp mwh mcl mtr mfo : Int} {mki mro mlf mli msw msa msc msl mff mlt mgr mxx msu : Nat → Int}
theorem sp_holds {post : Int → Prop} {n : Nat} {x : Nat → Int} (hok : xr_ok n (xr_M mki mro)) (hx : xs_Box x) (hsum : ∀ r, r < n → msu r = mro (5 * r) * x 0 + mro (5 * r + 1) * x 1 + mro (5 * r + 2) * x 2)
    (k1 : (∀ r, r < n → xr_H (xr_M mki mro) x r) → post 1) (k0 : ¬ (∀ r, r < n → xr_H (xr_M mki mro) x r) → post 0) : wp_X4_holds post (n : Int) mly mln msp mwh mcl mtr mfo mki mro mlf mli msw msa msc msl mff mlt mgr mxx msu (x 3) := by
  unfold wp_X4_holds
  refine ⟨n + 1, ?_⟩
  have hn := hok.1
  have loop : ∀ (t r : Nat) (g : Int), r + t = n → (g = 1 ∧ (∀ r', r' < r → xr_H (xr_M mki mro) x r') ∨ g = 0 ∧ ¬ ∀ r', r' < n → xr_H (xr_M mki mro) x r') → wp_X4_holds_4 (x 3) (n : Int) mki mro msu post (t + 1) (r : Int) g := by
    intro t
    induction t with
    | zero =>
      intro r g hr hg
      show wl_X4_holds_4 _ _ _ _ _ _ _ _ _
      unfold wl_X4_holds_4
      refine ⟨⟨by omega, by omega⟩, ⟨by omega, by omega⟩, fun _ => ?_, fun h => absurd (show (n : Int) ≤ (r : Int) by omega) h⟩
      rcases hg with ⟨e, h⟩ | ⟨e, h⟩
      · rw [e]; exact ⟨Or.inr rfl, k1 (fun r' h' => h r' (by omega))⟩
      · rw [e]; exact ⟨Or.inl rfl, k0 h⟩
    | succ t ih =>
      intro r g hr hg
      show wl_X4_holds_4 _ _ _ _ _ _ _ _ _
      unfold wl_X4_holds_4
      rw [Int.toNat_natCast]
      rcases hg with ⟨e, h⟩ | ⟨e, h⟩
      · subst e
        refine ⟨⟨by omega, by omega⟩, ⟨by omega, by omega⟩, fun q => absurd q (by omega), fun _ => ⟨⟨by omega, by omega⟩, fun q => absurd q (by omega), fun _ => ⟨by omega, by omega, fun x4 hx4 => ⟨by omega, ?_⟩⟩⟩⟩
        rw [show (5 * (r : Int) + 3).toNat = 5 * r + 3 by omega, hsum r (by omega)] at hx4
        rw [show (5 * (r : Int) + 4).toNat = 5 * r + 4 by omega]
        obtain ⟨o1, o2, o3⟩ := hok.2 r (by omega)
        rw [xr_M0] at o1
        have e5 : xr_M mki mro (6 * r + 5) = mro (5 * r + 4) := xr_M1 mki mro r 4 (by omega)
        rw [e5] at o3
        have a0 : xr_M mki mro (6 * r + 1) = mro (5 * r) := xr_M1 mki mro r 0 (by omega)
        have a1 : xr_M mki mro (6 * r + 2) = mro (5 * r + 1) := xr_M1 mki mro r 1 (by omega)
        have a2 : xr_M mki mro (6 * r + 3) = mro (5 * r + 2) := xr_M1 mki mro r 2 (by omega)
        have a3 : xr_M mki mro (6 * r + 4) = mro (5 * r + 3) := xr_M1 mki mro r 3 (by omega)
        have hd : xr_d (xr_M mki mro) x r = x4 := by unfold xr_d; rw [a0, a1, a2, a3, hx4]
        have p0 := o2 0 (by omega)
        have p1 := o2 1 (by omega)
        have p2 := o2 2 (by omega)
        have p3 := o2 3 (by omega)
        rw [xr_M1 _ _ _ _ (by omega)] at p0 p1 p2 p3
        have s0 := xm_small p0 (hx 0 (by omega))
        have s1 := xm_small p1 (hx 1 (by omega))
        have s2 := xm_small p2 (hx 2 (by omega))
        have s3 := xm_small p3 (hx 3 (by omega))
        have hH : xr_H (xr_M mki mro) x r ↔ (mki r = 0 → x4 = mro (5 * r + 4)) ∧ (¬ mki r = 0 → x4 ≤ mro (5 * r + 4)) := by unfold xr_H; rw [hd, xr_M0, e5]
        have yes : xr_H (xr_M mki mro) x r → wp_X4_holds_89 (wp_X4_holds_4 (x 3) (n : Int) mki mro msu post (t + 1)) (r : Int) 1 := by
          intro hh
          unfold wp_X4_holds_89
          intro y hy
          rw [hy, show (r : Int) + 1 = ((r + 1 : Nat) : Int) by omega]
          refine ih (r + 1) 1 (by omega) (Or.inl ⟨rfl, fun r' h' => ?_⟩)
          by_cases e : r' = r
          · rw [e]; exact hh
          · exact h r' (by omega)
        have no : ¬ xr_H (xr_M mki mro) x r → wp_X4_holds_89 (wp_X4_holds_4 (x 3) (n : Int) mki mro msu post (t + 1)) (r : Int) 0 := by
          intro hh
          unfold wp_X4_holds_89
          intro y hy
          rw [hy, show (r : Int) + 1 = ((r + 1 : Nat) : Int) by omega]
          exact ih (r + 1) 0 (by omega) (Or.inr ⟨rfl, fun z => hh (z r (by omega))⟩)
        have hx4r : xw_r x4 := by
          rw [hx4]
          have s0' : 5 * r + 0 = 5 * r := by omega
          rw [s0'] at s0
          exact ⟨by omega, by omega⟩
        refine ⟨⟨by omega, by omega⟩, fun h0 => ⟨by omega, hx4r, ⟨by omega, by omega⟩, fun h1 => yes (hH.mpr ⟨fun _ => h1, fun q => absurd h0 q⟩), fun h1 => no (fun z => h1 ((hH.mp z).1 h0))⟩, fun h0 => ⟨by omega, hx4r, ⟨by omega, by omega⟩, fun h1 => no (fun z => by have := (hH.mp z).2 h0; omega), fun h1 => yes (hH.mpr ⟨fun q => absurd q h0, fun _ => by omega⟩)⟩⟩
      · subst e
        refine ⟨⟨by omega, by omega⟩, ⟨by omega, by omega⟩, fun q => absurd q (by omega), fun _ => ⟨⟨by omega, by omega⟩, fun _ => ⟨Or.inl rfl, k0 h⟩, fun q => absurd rfl q⟩⟩
  exact loop n 0 1 (by omega) (Or.inl ⟨rfl, fun r' h => absurd h (by omega)⟩)
theorem sp_addUp {post : (Nat → Int) → Prop} {n : Nat} (hn : n ≤ 16) (k : ∀ su : Nat → Int, (∀ r, r < n → su r = mro (5 * r) * mxx 0 + mro (5 * r + 1) * mxx 1 + mro (5 * r + 2) * mxx 2) → post su) : wp_X4_addUp post (n : Int) mly mln msp mwh mcl mtr mfo mki mro mlf mli msw msa msc msl mff mlt mgr mxx msu := by
  unfold wp_X4_addUp
  refine ⟨n + 1, ?_⟩
  have loop : ∀ (t r : Nat) (su : Nat → Int), r + t = n → (∀ r', r' < r → su r' = mro (5 * r') * mxx 0 + mro (5 * r' + 1) * mxx 1 + mro (5 * r' + 2) * mxx 2) → wp_X4_addUp_2 (n : Int) mro mxx post (t + 1) su (r : Int) := by
    intro t
    induction t with
    | zero =>
      intro r su hr h
      show wl_X4_addUp_2 _ _ _ _ _ _ _
      unfold wl_X4_addUp_2
      refine ⟨⟨by omega, by omega⟩, ⟨by omega, by omega⟩, fun _ => k su (fun r' h' => h r' (by omega)), fun q => absurd (show (n : Int) ≤ (r : Int) by omega) q⟩
    | succ t ih =>
      intro r su hr h
      show wl_X4_addUp_2 _ _ _ _ _ _ _
      unfold wl_X4_addUp_2
      rw [show (5 * (r : Int)).toNat = 5 * r by omega, show (5 * (r : Int) + 1).toNat = 5 * r + 1 by omega, show (5 * (r : Int) + 2).toNat = 5 * r + 2 by omega]
      refine ⟨⟨by omega, by omega⟩, ⟨by omega, by omega⟩, fun q => absurd q (by omega), fun _ => ⟨by omega, by omega, by omega, by omega, by omega, by omega, by omega, fun su2 hsu2 y hy => ?_⟩⟩
      rw [xw_uI su r rfl] at hsu2
      rw [hy, show (r : Int) + 1 = ((r + 1 : Nat) : Int) by omega]
      refine ih (r + 1) su2 (by omega) (fun r' h' => ?_)
      rw [hsu2]
      by_cases e : r' = r
      · subst e; simp
      · simp only []; rw [if_neg e]; exact h r' (by omega)
  exact loop n 0 msu (by omega) (fun r' h => absurd h (by omega))
theorem sp_take {post : Int → (Nat → Int) → (Nat → Int) → (Nat → Int) → Prop} (hx : ∀ w, w < 4 → -15 ≤ mxx w ∧ mxx w ≤ 15) (hfo : 0 ≤ mfo ∧ mfo ≤ 923521) (hlf : ¬ mfo = 0 → ∀ w, w < 4 → xw_r (mlt w) ∧ xw_r (mgr w))
    (k : ∀ ff lf gf : Nat → Int, (mfo = 0 → ∀ w, w < 4 → ff w = mxx w ∧ lf w = mxx w ∧ gf w = mxx w) → (¬ mfo = 0 → ∀ w, w < 4 → ff w = mff w ∧ lf w = (if mxx w < mlt w then mxx w else mlt w) ∧ gf w = (if mgr w < mxx w then mxx w else mgr w)) → post (mfo + 1) ff lf gf) :
    wp_X4_take post mrw mly mln msp mwh mcl mtr mfo mki mro mlf mli msw msa msc msl mff mlt mgr mxx msu := by
  unfold wp_X4_take
  refine ⟨5, ?_⟩
  have loop : ∀ (t w : Nat) (ff lf gf : Nat → Int), w + t = 4 → (∀ j, j < w → (mfo = 0 → ff j = mxx j ∧ lf j = mxx j ∧ gf j = mxx j) ∧ (¬ mfo = 0 → ff j = mff j ∧ lf j = (if mxx j < mlt j then mxx j else mlt j) ∧ gf j = (if mgr j < mxx j then mxx j else mgr j))) → (∀ j, w ≤ j → ff j = mff j ∧ lf j = mlt j ∧ gf j = mgr j) → wp_X4_take_2 mxx post (t + 1) mfo ff lf gf (w : Int) := by
    intro t
    induction t with
    | zero =>
      intro w ff lf gf hw h1 h2
      show wl_X4_take_2 _ _ _ _ _ _ _ _
      unfold wl_X4_take_2
      refine ⟨⟨by omega, by omega⟩, fun _ y hy => ?_, fun q => absurd (show (4 : Int) ≤ (w : Int) by omega) q⟩
      rw [hy]
      exact k ff lf gf (fun h j hj => (h1 j (by omega)).1 h) (fun h j hj => (h1 j (by omega)).2 h)
    | succ t ih =>
      intro w ff lf gf hw h1 h2
      show wl_X4_take_2 _ _ _ _ _ _ _ _
      unfold wl_X4_take_2
      rw [Int.toNat_natCast]
      have hw4 : w < 4 := by omega
      have hxw := hx w hw4
      obtain ⟨b1, b2, b3⟩ := h2 w (Nat.le_refl w)
      have fin : ∀ z0 z1 z2 : Int, (mfo = 0 → z0 = mxx w ∧ z1 = mxx w ∧ z2 = mxx w) → (¬ mfo = 0 → z0 = mff w ∧ z1 = (if mxx w < mlt w then mxx w else mlt w) ∧ z2 = (if mgr w < mxx w then mxx w else mgr w)) → ∀ ff1 lf1, ff1 = xw_u ff (w : Int) z0 → lf1 = xw_u lf (w : Int) z1 → wp_X4_take_120 (wp_X4_take_2 mxx post (t + 1)) (w : Int) mfo ff1 lf1 gf z2 (w : Int) := by
        intro z0 z1 z2 hz hz2 ff1 lf1 e1 e2
        unfold wp_X4_take_120
        refine ⟨by omega, fun gf1 e3 y hy => ?_⟩
        rw [xw_uI _ w rfl] at e1 e2 e3
        rw [hy, show (w : Int) + 1 = ((w + 1 : Nat) : Int) by omega]
        refine ih (w + 1) ff1 lf1 gf1 (by omega) (fun j hj => ?_) (fun j hj => ?_)
        · by_cases e : j = w
          · subst e; rw [e1, e2, e3]; simp only [if_true]; exact ⟨hz, hz2⟩
          · rw [e1, e2, e3]; simp only [if_neg e]; exact h1 j (by omega)
        · have e : ¬ j = w := by omega
          rw [e1, e2, e3]; simp only [if_neg e]; exact h2 j (by omega)
      refine ⟨⟨by omega, by omega⟩, fun q => absurd q (by omega), fun _ => ⟨⟨by omega, by omega⟩, fun h0 => ⟨by omega, ?_⟩, fun h0 => ⟨by omega, ?_⟩⟩⟩
      · unfold wp_X4_take_34 wp_X4_take_62 wp_X4_take_77 wp_X4_take_105
        rw [Int.toNat_natCast]
        refine ⟨by omega, fun ff1 e1 => ⟨⟨by omega, by omega⟩, fun _ => ⟨by omega, by omega, fun lf1 e2 => ⟨⟨by omega, by omega⟩, fun _ => ⟨by omega, fin _ _ _ (fun _ => ⟨rfl, rfl, rfl⟩) (fun q => absurd h0 q) ff1 lf1 e1 e2⟩, fun q => absurd h0 q⟩⟩, fun q => absurd h0 q⟩⟩
      · have hr := hlf h0 w hw4
        have hg : ∀ z1 ff1 lf1, z1 = (if mxx w < mlt w then mxx w else mlt w) → ff1 = xw_u ff (w : Int) (ff w) → lf1 = xw_u lf (w : Int) z1 → (0 ≤ (w : Int) ∧ (w : Int) < 4) ∧ ((0 ≤ (w : Int) ∧ (w : Int) < 4) ∧ (xw_r (mxx w) ∧ (xw_r (gf w) ∧ ((mxx w ≤ gf w → ((0 ≤ (w : Int) ∧ (w : Int) < 4) ∧ (wp_X4_take_120 (wp_X4_take_2 mxx post (t + 1)) (w : Int) mfo ff1 lf1 gf (gf w) (w : Int)))) ∧ (¬ mxx w ≤ gf w → ((0 ≤ (w : Int) ∧ (w : Int) < 4) ∧ (wp_X4_take_120 (wp_X4_take_2 mxx post (t + 1)) (w : Int) mfo ff1 lf1 gf (mxx w) (w : Int)))))))) := by
          intro z1 ff1 lf1 ez e1 e2
          refine ⟨by omega, by omega, ⟨by omega, by omega⟩, by rw [b3]; exact hr.2, fun q => ⟨by omega, fin _ _ _ (fun z => absurd z h0) (fun _ => ⟨b1, ez, ?_⟩) ff1 lf1 e1 e2⟩, fun q => ⟨by omega, fin _ _ _ (fun z => absurd z h0) (fun _ => ⟨b1, ez, ?_⟩) ff1 lf1 e1 e2⟩⟩
          · rw [b3] at q ⊢; rw [if_neg (by omega)]
          · rw [b3] at q; rw [if_pos (by omega)]
        unfold wp_X4_take_34 wp_X4_take_62 wp_X4_take_77 wp_X4_take_105
        rw [Int.toNat_natCast]
        refine ⟨by omega, fun ff1 e1 => ⟨⟨by omega, by omega⟩, fun q => absurd q h0, fun _ => ⟨by omega, by omega, ⟨by omega, by omega⟩, by rw [b2]; exact hr.1, fun q => ⟨by omega, by omega, fun lf1 e2 => ⟨⟨by omega, by omega⟩, fun z => absurd z h0, fun _ => hg _ ff1 lf1 ?_ e1 e2⟩⟩, fun q => ⟨by omega, by omega, fun lf1 e2 => ⟨⟨by omega, by omega⟩, fun z => absurd z h0, fun _ => hg _ ff1 lf1 ?_ e1 e2⟩⟩⟩⟩⟩
        · rw [b2] at q ⊢; rw [if_neg (by omega)]
        · rw [b2] at q; rw [if_pos (by omega)]
  exact loop 4 0 mff mlt mgr rfl (fun j h => absurd h (by omega)) (fun j _ => ⟨rfl, rfl, rfl⟩)
end MS
