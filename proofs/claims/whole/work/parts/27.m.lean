/-! LINES AND SPLITS, the reference. -/
section LR
variable {mrw mly mln msp mwh mcl mtr mfo : Int} {mki mro mlf mli msw msa msc msl mff mlt mgr mxx msu : Nat → Int}
theorem sp_isLine {post : Int → Prop} {nl : Nat} {p : Int} (hp : xw_r p) (hn : nl ≤ 200) (k0 : ¬ (0 ≤ p ∧ p < nl) → post 0) (k1 : ∀ i : Nat, p = (i : Int) → i < nl → post 1) : wp_X4_isLine post mrw mly (nl : Int) msp mwh mcl mtr mfo mki mro mlf mli msw msa msc msl mff mlt mgr mxx msu p := by
  unfold wp_X4_isLine
  exact ⟨hp, fun h => k0 (by omega), fun h => ⟨⟨by omega, by omega⟩, fun h2 => k0 (by omega), fun h2 => k1 p.toNat (by omega) (by omega)⟩⟩
theorem sp_isFull {post : Int → Prop} {nl : Nat} (hn : nl ≤ 200) (hw : mwh = 0 ∨ mwh = 1) (k0 : mwh = 0 → nl < 200 → post 0) (k1 : ¬ (mwh = 0 ∧ nl < 200) → post 1) : wp_X4_isFull post mrw mly (nl : Int) msp mwh mcl mtr mfo mki mro mlf mli msw msa msc msl mff mlt mgr mxx msu := by
  unfold wp_X4_isFull
  exact ⟨⟨by omega, by omega⟩, fun h => ⟨⟨by omega, by omega⟩, fun h2 => k1 (by omega), fun h2 => k0 h (by omega)⟩, fun h => k1 (by omega)⟩
theorem sp_put {post : Int → Int → (Nat → Int) → Prop} {nl : Nat} {a0 a1 a2 a3 a4 : Int} {l : Nat → Int} (hn : nl < 200) (e0 : l 0 = a0) (e1 : l 1 = a1) (e2 : l 2 = a2) (e3 : l 3 = a3) (e4 : l 4 = a4) (k : ∀ li, xl_new nl mli li l → post (nl : Int) ((nl + 1 : Nat) : Int) li) :
    wp_X4_put post mrw mly (nl : Int) msp mwh mcl mtr mfo mki mro mlf mli msw msa msc msl mff mlt mgr mxx msu a0 a1 a2 a3 a4 := by
  unfold wp_X4_put
  intro x hx
  refine ⟨by omega, fun c1 h1 => ⟨by omega, fun c2 h2 => ⟨by omega, fun c3 h3 => ⟨by omega, fun c4 h4 => ⟨by omega, fun c5 h5 y hy => ?_⟩⟩⟩⟩⟩
  rw [xw_uI _ (5 * nl) (by omega)] at h1
  rw [xw_uI _ (5 * nl + 1) (by omega)] at h2
  rw [xw_uI _ (5 * nl + 2) (by omega)] at h3
  rw [xw_uI _ (5 * nl + 3) (by omega)] at h4
  rw [xw_uI _ (5 * nl + 4) (by omega)] at h5
  subst h1; subst h2; subst h3; subst h4
  rw [hy, show (nl : Int) + 1 - 1 = (nl : Int) by omega, show (nl : Int) + 1 = ((nl + 1 : Nat) : Int) by omega]
  refine k c5 ⟨fun j hj => ?_, fun c hc => ?_⟩
  · rw [h5]; simp only []; rw [if_neg (by omega), if_neg (by omega), if_neg (by omega), if_neg (by omega), if_neg (by omega)]
  · match c, hc with
    | 0, _ => rw [h5, e0]; simp
    | 1, _ => rw [h5, e1]; simp
    | 2, _ => rw [h5, e2]; simp
    | 3, _ => rw [h5, e3]; simp
    | 4, _ => rw [h5, e4]; simp
theorem sp_putWord {post : Int → Int → (Nat → Int) → Prop} {nl w : Nat} {s b : Int} (hn : nl < 200) (hw : w < 4) (k : ∀ li, xl_new nl mli li (xl_word w s b) → post (nl : Int) ((nl + 1 : Nat) : Int) li) :
    wp_X4_putWord post mrw mly (nl : Int) msp mwh mcl mtr mfo mki mro mlf mli msw msa msc msl mff mlt mgr mxx msu (w : Int) s b := by
  unfold wp_X4_putWord wp_X4_putWord_10 wp_X4_putWord_20
  have go : ∀ a0 a1 a2 a3, a0 = xl_word w s b 0 → a1 = xl_word w s b 1 → a2 = xl_word w s b 2 → a3 = xl_word w s b 3 → wp_X4_put post mrw mly (nl : Int) msp mwh mcl mtr mfo mki mro mlf mli msw msa msc msl mff mlt mgr mxx msu a0 a1 a2 a3 b := fun a0 a1 a2 a3 e0 e1 e2 e3 => sp_put (l := xl_word w s b) hn e0.symm e1.symm e2.symm e3.symm rfl k
  have v : ∀ c, c < 4 → xl_word w s b c = if c = w then s else 0 := fun c hc => by unfold xl_word; rw [if_neg (by omega)]
  have y : ∀ c, c < 4 → c = w → s = xl_word w s b c := fun c hc e => by rw [v c hc, if_pos e]
  have z : ∀ c, c < 4 → ¬ c = w → 0 = xl_word w s b c := fun c hc e => by rw [v c hc, if_neg e]
  have r : xw_r (w : Int) := ⟨by omega, by omega⟩
  refine ⟨r, fun e => ⟨r, fun e1 => by omega, fun e1 => ⟨r, fun e2 => by omega, fun e2 => ⟨fun e3 => by omega, fun e3 => go _ _ _ _ (y 0 (by omega) (by omega)) (z 1 (by omega) (by omega)) (z 2 (by omega) (by omega)) (z 3 (by omega) (by omega))⟩⟩⟩, fun e => ⟨r, fun e1 => ⟨r, fun e2 => by omega, fun e2 => ⟨fun e3 => by omega, fun e3 => go _ _ _ _ (z 0 (by omega) (by omega)) (y 1 (by omega) (by omega)) (z 2 (by omega) (by omega)) (z 3 (by omega) (by omega))⟩⟩, fun e1 => ⟨r, fun e2 => ⟨fun e3 => by omega, fun e3 => go _ _ _ _ (z 0 (by omega) (by omega)) (z 1 (by omega) (by omega)) (y 2 (by omega) (by omega)) (z 3 (by omega) (by omega))⟩, fun e2 => ⟨fun e3 => go _ _ _ _ (z 0 (by omega) (by omega)) (z 1 (by omega) (by omega)) (z 2 (by omega) (by omega)) (y 3 (by omega) (by omega)), fun e3 => go _ _ _ _ (z 0 (by omega) (by omega)) (z 1 (by omega) (by omega)) (z 2 (by omega) (by omega)) (z 3 (by omega) (by omega))⟩⟩⟩⟩
theorem sp4_assume {post : Int → Int → (Nat → Int) → Prop} {n nl : Nat} {p b : Int} (hp : xw_r p) (hb : b = 0 ∨ b = 1) (hok : xr_ok n (xr_M mki mro)) (hn : nl ≤ 200) (hw : mwh = 0 ∨ mwh = 1)
    (kn : ¬ (0 ≤ p ∧ p < n ∧ (b = 0 ∨ xr_M mki mro (6 * p.toNat) = 0) ∧ mwh = 0 ∧ nl < 200) → post (-1) (nl : Int) mli)
    (ky : ∀ i : Nat, p = (i : Int) → i < n → (b = 0 ∨ xr_M mki mro (6 * i) = 0) → mwh = 0 → nl < 200 → ∀ li, xl_new nl mli li (xl_row (xr_M mki mro) i (if b = 0 then 1 else -1)) → post (nl : Int) ((nl + 1 : Nat) : Int) li) :
    wp_X4_assume post (n : Int) mly (nl : Int) msp mwh mcl mtr mfo mki mro mlf mli msw msa msc msl mff mlt mgr mxx msu p b := by
  unfold wp_X4_assume
  have hn16 := hok.1
  refine ⟨hp, fun h => kn (by omega), fun h => ⟨⟨by omega, by omega⟩, fun h2 => kn (by omega), fun h2 => ?_⟩⟩
  obtain ⟨i, ei⟩ : ∃ i : Nat, p = (i : Int) := ⟨p.toNat, by omega⟩
  subst ei
  obtain ⟨o1, o2, o3⟩ := hok.2 i (by omega)
  rw [xr_M0] at o1
  rw [Int.toNat_natCast, xr_M0] at kn
  rw [Int.toNat_natCast]
  have main : (b = 0 ∨ mki i = 0) → wp_X4_assume_26 (i : Int) b (n : Int) mly msp mwh mcl mtr mfo mki mro mlf msw msa msc msl mff mlt mgr mxx msu post (nl : Int) mli := by
    intro hor
    unfold wp_X4_assume_26
    refine sp_isFull hn hw (fun f1 f2 => ⟨⟨by omega, by omega⟩, fun _ x hx => ?_, fun q => absurd rfl q⟩) (fun f => ⟨⟨by omega, by omega⟩, fun q => absurd q (by omega), fun _ => kn (by omega)⟩)
    have go : ∀ sg, sg = (if b = 0 then 1 else -1) → wp_X4_assume_50 (n : Int) mly msp mwh mcl mtr mfo mki mro mlf msw msa msc msl mff mlt mgr mxx msu post x (nl : Int) mli sg := by
      intro sg hsg
      unfold wp_X4_assume_50
      rw [show x.toNat = 5 * i by omega, show (x + 1).toNat = 5 * i + 1 by omega, show (x + 2).toNat = 5 * i + 2 by omega, show (x + 3).toNat = 5 * i + 3 by omega, show (x + 4).toNat = 5 * i + 4 by omega]
      have p0 := o2 0 (by omega)
      have p1 := o2 1 (by omega)
      have p2 := o2 2 (by omega)
      have p3 := o2 3 (by omega)
      rw [xr_M1 _ _ _ _ (by omega)] at p0 p1 p2 p3
      have p4 := o3
      have e5 : xr_M mki mro (6 * i + 5) = mro (5 * i + 4) := xr_M1 mki mro i 4 (by omega)
      rw [e5] at p4
      have e0 : 5 * i + 0 = 5 * i := rfl
      rw [e0] at p0
      have hl : ∀ c, c < 5 → xl_row (xr_M mki mro) i (if b = 0 then 1 else -1) c = sg * mro (5 * i + c) := fun c hc => by unfold xl_row; rw [xr_M1 _ _ _ _ hc, hsg]
      exact ⟨by omega, ⟨by omega, by omega⟩, by omega, ⟨by omega, by omega⟩, by omega, ⟨by omega, by omega⟩, by omega, ⟨by omega, by omega⟩, by omega, ⟨by omega, by omega⟩, sp_put (l := xl_row (xr_M mki mro) i (if b = 0 then 1 else -1)) f2 (hl 0 (by omega)) (hl 1 (by omega)) (hl 2 (by omega)) (hl 3 (by omega)) (hl 4 (by omega)) (fun li hli => ky i rfl (by omega) (by rw [xr_M0]; exact hor) f1 f2 li hli)⟩
    exact ⟨⟨by omega, by omega⟩, fun e => go 1 (by rw [if_pos e]), fun e => go (-1) (by rw [if_neg e])⟩
  exact ⟨⟨by omega, by omega⟩, fun e => main (Or.inl e), fun e => ⟨by omega, ⟨by omega, by omega⟩, fun e2 => kn (by omega), fun e2 => main (Or.inr (by omega))⟩⟩
theorem sp4_bound {post : Int → Int → (Nat → Int) → Prop} {nl : Nat} {p b : Int} (hp : xw_r p) (hb : b = 0 ∨ b = 1) (hn : nl ≤ 200) (hw : mwh = 0 ∨ mwh = 1)
    (kn : ¬ (0 ≤ p ∧ p < 4 ∧ mwh = 0 ∧ nl < 200) → post (-1) (nl : Int) mli)
    (ky : ∀ w : Nat, p = (w : Int) → w < 4 → mwh = 0 → nl < 200 → ∀ li, xl_new nl mli li (xl_word w (if b = 0 then 1 else -1) 15) → post (nl : Int) ((nl + 1 : Nat) : Int) li) :
    wp_X4_bound post mrw mly (nl : Int) msp mwh mcl mtr mfo mki mro mlf mli msw msa msc msl mff mlt mgr mxx msu p b := by
  unfold wp_X4_bound
  refine ⟨hp, fun h => kn (by omega), fun h => ⟨fun h2 => kn (by omega), fun h2 => ?_⟩⟩
  obtain ⟨w, ew⟩ : ∃ w : Nat, p = (w : Int) := ⟨p.toNat, by omega⟩
  subst ew
  refine sp_isFull hn hw (fun f1 f2 => ⟨⟨by omega, by omega⟩, fun _ => ⟨⟨by omega, by omega⟩, fun e => sp_putWord f2 (by omega) (fun li hli => ky w rfl (by omega) f1 f2 li (by rw [if_pos e]; exact hli)), fun e => sp_putWord f2 (by omega) (fun li hli => ky w rfl (by omega) f1 f2 li (by rw [if_neg e]; exact hli))⟩, fun q => absurd rfl q⟩) (fun f => ⟨⟨by omega, by omega⟩, fun q => absurd q (by omega), fun _ => kn (by omega)⟩)
theorem sp_isInL {post : Int → Prop} {p m : Int} (hp : -9000000000000000 ≤ p ∧ p ≤ 9000000000000000) (hm : 0 ≤ m ∧ m ≤ 10000000000000) (k0 : ¬ (-m ≤ p ∧ p ≤ m) → post 0) (k1 : -m ≤ p ∧ p ≤ m → post 1) : wp_X4_isIn post p m := by
  unfold wp_X4_isIn
  exact ⟨⟨by omega, by omega⟩, ⟨by omega, by omega⟩, fun h => k0 (by omega), fun h => ⟨⟨by omega, by omega⟩, fun h2 => k0 (by omega), fun h2 => k1 (by omega)⟩⟩
theorem sp4_add {post : Int → Int → (Nat → Int) → Prop} {nl : Nat} {p1 p2 p3 p4 : Int} (r1 : xw_r p1) (r2 : xw_r p2) (r3 : xw_r p3) (r4 : xw_r p4) (hn : nl ≤ 200) (hw : mwh = 0 ∨ mwh = 1) (hL : xl_big nl mli)
    (kn : ¬ ((0 ≤ p1 ∧ p1 < nl) ∧ (0 ≤ p3 ∧ p3 < nl) ∧ (0 ≤ p2 ∧ p2 ≤ 1000) ∧ (0 ≤ p4 ∧ p4 ≤ 1000) ∧ xl_in (xl_add mli p1.toNat p2 p3.toNat p4) ∧ mwh = 0 ∧ nl < 200) → ∀ li, (∀ j, j < 5 * nl → li j = mli j) → post (-1) (nl : Int) li)
    (ky : ∀ a b : Nat, p1 = (a : Int) → p3 = (b : Int) → a < nl → b < nl → (0 ≤ p2 ∧ p2 ≤ 1000) → (0 ≤ p4 ∧ p4 ≤ 1000) → xl_in (xl_add mli a p2 b p4) → mwh = 0 → nl < 200 → ∀ li, xl_new nl mli li (xl_add mli a p2 b p4) → post (nl : Int) ((nl + 1 : Nat) : Int) li) :
    wp_X4_add post mrw mly (nl : Int) msp mwh mcl mtr mfo mki mro mlf mli msw msa msc msl mff mlt mgr mxx msu p1 p2 p3 p4 := by
  unfold wp_X4_add
  refine sp_isLine r1 hn (fun h => ⟨⟨by omega, by omega⟩, fun _ => kn (fun z => h z.1) _ (fun _ _ => rfl), fun q => absurd rfl q⟩) (fun a ea ha => ⟨⟨by omega, by omega⟩, fun q => absurd q (by omega), fun _ => ?_⟩)
  refine sp_isLine r3 hn (fun h => ⟨⟨by omega, by omega⟩, fun _ => kn (fun z => h z.2.1) _ (fun _ _ => rfl), fun q => absurd rfl q⟩) (fun b eb hb => ⟨⟨by omega, by omega⟩, fun q => absurd q (by omega), fun _ => ?_⟩)
  subst ea; subst eb
  rw [Int.toNat_natCast, Int.toNat_natCast] at kn
  refine ⟨r2, fun h => kn (fun z => by omega) _ (fun _ _ => rfl), fun h1 => ⟨fun h => kn (fun z => by omega) _ (fun _ _ => rfl), fun h2 => ⟨r4, fun h => kn (fun z => by omega) _ (fun _ _ => rfl), fun h3 => ⟨fun h => kn (fun z => by omega) _ (fun _ _ => rfl), fun h4 => ?_⟩⟩⟩⟩
  refine sp_isFull hn hw (fun f1 f2 => ⟨⟨by omega, by omega⟩, fun _ x5 hx5 => ⟨6, ?_⟩, fun q => absurd rfl q⟩) (fun f => ⟨⟨by omega, by omega⟩, fun q => absurd q (by omega), fun _ => kn (fun z => f z.2.2.2.2.2) _ (fun _ _ => rfl)⟩)
  have hbig := xl_add_big hL ha hb (m := p2) (n := p4) ⟨by omega, by omega⟩ ⟨by omega, by omega⟩
  obtain ⟨l, el⟩ : ∃ l, l = xl_add mli a p2 b p4 := ⟨_, rfl⟩
  rw [← el] at hbig kn
  have loop : ∀ (t c : Nat) (g : Int) (li : Nat → Int), c + t = 5 → (∀ j, j < 5 * nl → li j = mli j) → (∀ j, j < c → li (5 * nl + j) = l j) → (g = 1 ∧ (∀ j, j < c → (j < 4 → -1000000000 ≤ l j ∧ l j ≤ 1000000000) ∧ (4 ≤ j → -1000000000000 ≤ l j ∧ l j ≤ 1000000000000)) ∨ g = 0 ∧ ¬ xl_in l) → wp_X4_add_63 (a : Int) p2 (b : Int) p4 post x5 (t + 1) (nl : Int) li (c : Int) g := by
    intro t
    induction t with
    | zero =>
      intro c g li hc i1 i2 i3
      show wl_X4_add_63 _ _ _ _ _ _ _ _ _ _ _
      unfold wl_X4_add_63
      refine ⟨⟨by omega, by omega⟩, fun _ => ?_, fun q => absurd (show (5 : Int) ≤ (c : Int) by omega) q⟩
      rcases i3 with ⟨eg, i3⟩ | ⟨eg, i3⟩
      · subst eg
        refine ⟨⟨by omega, by omega⟩, fun q => absurd q (by omega), fun _ y hy => ?_⟩
        rw [hy, show (nl : Int) + 1 - 1 = (nl : Int) by omega, show (nl : Int) + 1 = ((nl + 1 : Nat) : Int) by omega]
        have hin : xl_in l := ⟨fun j hj => (i3 j (by omega)).1 hj, (i3 4 (by omega)).2 (Nat.le_refl 4)⟩
        rw [el] at hin
        exact ky a b rfl rfl ha hb ⟨by omega, by omega⟩ ⟨by omega, by omega⟩ hin f1 f2 li ⟨i1, fun j hj => by rw [i2 j (by omega), el]⟩
      · subst eg
        exact ⟨⟨by omega, by omega⟩, fun _ => kn (fun z => i3 z.2.2.2.2.1) li i1, fun q => absurd rfl q⟩
    | succ t ih =>
      intro c g li hc i1 i2 i3
      show wl_X4_add_63 _ _ _ _ _ _ _ _ _ _ _
      unfold wl_X4_add_63
      refine ⟨⟨by omega, by omega⟩, fun q => absurd q (by omega), fun _ => ⟨by omega, by omega, by omega, fun li2 hli2 => ⟨by omega, ?_⟩⟩⟩
      rw [xw_uI li (5 * nl + c) (by omega), show (5 * (a : Int) + (c : Int)).toNat = 5 * a + c by omega, show (5 * (b : Int) + (c : Int)).toNat = 5 * b + c by omega, i1 _ (by omega), i1 _ (by omega)] at hli2
      rw [show (x5 + (c : Int)).toNat = 5 * nl + c by omega]
      have e1 : li2 (5 * nl + c) = l c := by rw [hli2, el]; simp [xl_add]
      have e2 : ∀ j, j ≠ 5 * nl + c → li2 j = li j := fun j hj => by rw [hli2]; simp [hj]
      have step : ∀ m, (c < 4 → m = 1000000000) → (4 ≤ c → m = 1000000000000) → wp_X4_add_136 (wp_X4_add_63 (a : Int) p2 (b : Int) p4 post x5 (t + 1)) (c : Int) (nl : Int) li2 m (li2 (5 * nl + c)) g := by
        intro m m1 m2
        unfold wp_X4_add_136
        have hm : m = 1000000000 ∨ m = 1000000000000 := by rcases Nat.lt_or_ge c 4 with q | q; exact Or.inl (m1 q); exact Or.inr (m2 q)
        have hg : g = 0 ∨ g = 1 := by rcases i3 with ⟨q, -⟩ | ⟨q, -⟩; exact Or.inr q; exact Or.inl q
        rw [e1]
        refine sp_isInL (hbig c (by omega)) (by omega) (fun q => ⟨⟨hg, Or.inl rfl⟩, fun x6 hx6 y hy => ?_⟩) (fun q => ⟨⟨hg, Or.inr rfl⟩, fun x6 hx6 y hy => ?_⟩)
        · rw [hy, hx6, show (c : Int) + 1 = ((c + 1 : Nat) : Int) by omega, Int.mul_zero]
          refine ih (c + 1) 0 li2 (by omega) (fun j hj => by rw [e2 j (by omega), i1 j hj]) (fun j hj => ?_) (Or.inr ⟨rfl, fun z => ?_⟩)
          · by_cases e : j = c
            · rw [e, e1]
            · rw [e2 _ (by omega), i2 j (by omega)]
          · rcases Nat.lt_or_ge c 4 with w | w
            · have := z.1 c w
              rw [m1 w] at q
              exact q this
            · have e : c = 4 := by omega
              have := z.2
              rw [m2 w, e] at q
              exact q this
        · rw [hy, hx6, show (c : Int) + 1 = ((c + 1 : Nat) : Int) by omega, Int.mul_one]
          refine ih (c + 1) g li2 (by omega) (fun j hj => by rw [e2 j (by omega), i1 j hj]) (fun j hj => ?_) ?_
          · by_cases e : j = c
            · rw [e, e1]
            · rw [e2 _ (by omega), i2 j (by omega)]
          · rcases i3 with ⟨eg, i3⟩ | ⟨eg, i3⟩
            · refine Or.inl ⟨eg, fun j hj => ?_⟩
              by_cases e : j = c
              · subst e
                exact ⟨fun w => by rw [m1 w] at q; exact q, fun w => by rw [m2 w] at q; exact q⟩
              · exact i3 j (by omega)
            · exact Or.inr ⟨eg, i3⟩
      exact ⟨fun q => step _ (fun w => by omega) (fun _ => rfl), fun q => step _ (fun _ => rfl) (fun w => by omega)⟩
  exact loop 5 0 1 mli rfl (fun _ _ => rfl) (fun j hj => absurd hj (by omega)) (Or.inl ⟨rfl, fun j hj => absurd hj (by omega)⟩)
/-- the reference's way to divide with rounding -/
theorem xm_fl {v d : Int} (hd : 0 < d) : (0 ≤ v - v.tdiv d * d → v.tdiv d = v / d) ∧ (¬ 0 ≤ v - v.tdiv d * d → v.tdiv d - 1 = v / d) := by
  rcases Int.lt_or_le v 0 with q | q
  · obtain ⟨h1, h2, h3⟩ := xm_fd hd q
    rcases h1 with ⟨p1, p2⟩ | ⟨p1, p2⟩
    · exact ⟨fun _ => p2, fun z => by omega⟩
    · exact ⟨fun z => by omega, fun _ => by omega⟩
  · have e := Int.tdiv_eq_ediv_of_nonneg (b := d) q
    have h1 : v % d = v - d * (v / d) := Int.emod_def v d
    have h2 := Int.emod_nonneg v (show d ≠ 0 by omega)
    rw [Int.mul_comm] at h1
    rw [e]
    exact ⟨fun _ => rfl, fun z => by omega⟩
theorem sp4_divide {post : Int → Int → (Nat → Int) → Prop} {nl : Nat} {p1 p2 : Int} (r1 : xw_r p1) (r2 : xw_r p2) (hn : nl ≤ 200) (hw : mwh = 0 ∨ mwh = 1) (hL : xl_big nl mli)
    (kn : ¬ ((0 ≤ p1 ∧ p1 < nl) ∧ (1 ≤ p2 ∧ p2 ≤ 1000000000) ∧ xl_dvd mli p1.toNat p2 ∧ mwh = 0 ∧ nl < 200) → ∀ li, (∀ j, j < 5 * nl → li j = mli j) → post (-1) (nl : Int) li)
    (ky : ∀ a : Nat, p1 = (a : Int) → a < nl → (1 ≤ p2 ∧ p2 ≤ 1000000000) → xl_dvd mli a p2 → mwh = 0 → nl < 200 → ∀ li, xl_new nl mli li (xl_div mli a p2) → post (nl : Int) ((nl + 1 : Nat) : Int) li) :
    wp_X4_divide post mrw mly (nl : Int) msp mwh mcl mtr mfo mki mro mlf mli msw msa msc msl mff mlt mgr mxx msu p1 p2 := by
  unfold wp_X4_divide
  refine sp_isLine r1 hn (fun h => ⟨⟨by omega, by omega⟩, fun _ => kn (fun z => h z.1) _ (fun _ _ => rfl), fun q => absurd rfl q⟩) (fun a ea ha => ⟨⟨by omega, by omega⟩, fun q => absurd q (by omega), fun _ => ?_⟩)
  subst ea
  rw [Int.toNat_natCast] at kn
  refine ⟨r2, fun h => kn (fun z => by omega) _ (fun _ _ => rfl), fun h1 => ⟨fun h => kn (fun z => by omega) _ (fun _ _ => rfl), fun h2 => ?_⟩⟩
  refine sp_isFull hn hw (fun f1 f2 => ⟨⟨by omega, by omega⟩, fun _ x3 hx3 => ⟨6, ?_⟩, fun q => absurd rfl q⟩) (fun f => ⟨⟨by omega, by omega⟩, fun q => absurd q (by omega), fun _ => kn (fun z => f z.2.2.2) _ (fun _ _ => rfl)⟩)
  have loop : ∀ (t c : Nat) (g : Int) (li : Nat → Int), c + t = 5 → (∀ j, j < 5 * nl → li j = mli j) → (g = 1 ∧ (∀ j, j < c → li (5 * nl + j) = xl_div mli a p2 j ∧ (j < 4 → mli (5 * a + j) - (mli (5 * a + j)).tdiv p2 * p2 = 0)) ∨ g = 0 ∧ ¬ xl_dvd mli a p2) → wp_X4_divide_41 (a : Int) p2 post x3 (t + 1) (nl : Int) li (c : Int) g := by
    intro t
    induction t with
    | zero =>
      intro c g li hc i1 i3
      show wl_X4_divide_41 _ _ _ _ _ _ _ _ _
      unfold wl_X4_divide_41
      refine ⟨⟨by omega, by omega⟩, fun _ => ?_, fun q => absurd (show (5 : Int) ≤ (c : Int) by omega) q⟩
      rcases i3 with ⟨eg, i3⟩ | ⟨eg, i3⟩
      · subst eg
        refine ⟨⟨by omega, by omega⟩, fun q => absurd q (by omega), fun _ y hy => ?_⟩
        rw [hy, show (nl : Int) + 1 - 1 = (nl : Int) by omega, show (nl : Int) + 1 = ((nl + 1 : Nat) : Int) by omega]
        exact ky a rfl ha ⟨by omega, by omega⟩ (fun j hj => (i3 j (by omega)).2 hj) f1 f2 li ⟨i1, fun j hj => (i3 j (by omega)).1⟩
      · subst eg
        exact ⟨⟨by omega, by omega⟩, fun _ => kn (fun z => i3 z.2.2.1) li i1, fun q => absurd rfl q⟩
    | succ t ih =>
      intro c g li hc i1 i3
      show wl_X4_divide_41 _ _ _ _ _ _ _ _ _
      unfold wl_X4_divide_41
      have h4 := hL a ha c (by omega)
      have h5 := xm_rem (v := mli (5 * a + c)) (d := p2) (by omega) h4
      have hfl := xm_fl (v := mli (5 * a + c)) (d := p2) (by omega)
      have hg : g = 0 ∨ g = 1 := by rcases i3 with ⟨q, -⟩ | ⟨q, -⟩; exact Or.inr q; exact Or.inl q
      refine ⟨⟨by omega, by omega⟩, fun q => absurd q (by omega), fun _ => ⟨by omega, fun x6 hx6 => ?_⟩⟩
      rw [show (5 * (a : Int) + (c : Int)).toNat = 5 * a + c by omega, i1 _ (by omega)] at hx6
      subst hx6
      -- what is written at place c, whatever became of 'good'
      have wr : ∀ g2 : Int, (g2 = 1 ∧ g = 1 ∧ (c < 4 → mli (5 * a + c) - (mli (5 * a + c)).tdiv p2 * p2 = 0) ∨ g2 = 0 ∧ ¬ xl_dvd mli a p2) → ∀ v, (c = 4 → v = mli (5 * a + 4) / p2) → (c < 4 → mli (5 * a + c) - (mli (5 * a + c)).tdiv p2 * p2 = 0 → v = (mli (5 * a + c)).tdiv p2) → ∀ li2, li2 = xw_u li (x3 + (c : Int)) v → wp_X4_divide_41 (a : Int) p2 post x3 (t + 1) (nl : Int) li2 ((c + 1 : Nat) : Int) g2 := by
        intro g2 hg2 v v1 v2 li2 hli2
        rw [xw_uI li (5 * nl + c) (by omega)] at hli2
        have e1 : li2 (5 * nl + c) = v := by rw [hli2]; simp
        have e2 : ∀ j, j ≠ 5 * nl + c → li2 j = li j := fun j hj => by rw [hli2]; simp [hj]
        refine ih (c + 1) g2 li2 (by omega) (fun j hj => by rw [e2 j (by omega), i1 j hj]) ?_
        rcases hg2 with ⟨q1, q2, q3⟩ | q
        · refine Or.inl ⟨q1, fun j hj => ?_⟩
          rcases i3 with ⟨-, i3⟩ | ⟨z, -⟩
          · by_cases e : j = c
            · subst e
              refine ⟨?_, q3⟩
              rw [e1]
              unfold xl_div
              by_cases e4 : j = 4
              · rw [if_pos e4, v1 e4]
              · rw [if_neg e4, v2 (by omega) (q3 (by omega))]
            · rw [e2 _ (by omega)]; exact i3 j (by omega)
          · omega
        · exact Or.inr q
      have last : ∀ g2 : Int, (g2 = 1 ∧ g = 1 ∧ (c < 4 → mli (5 * a + c) - (mli (5 * a + c)).tdiv p2 * p2 = 0) ∨ g2 = 0 ∧ ¬ xl_dvd mli a p2) → ∀ g3, (g3 = 0 ∨ g3 = 1) → g * g3 = g2 → wp_X4_divide_83 (wp_X4_divide_41 (a : Int) p2 post x3 (t + 1)) p2 x3 (c : Int) (mli (5 * a + c)) (nl : Int) li g3 g := by
        intro g2 hg2 g3 hg3 he
        unfold wp_X4_divide_83 wp_X4_divide_114
        refine ⟨⟨hg, hg3⟩, fun x4 hx4 => ⟨⟨by omega, by omega⟩, ⟨by omega, by omega⟩, by omega, by omega, ⟨by omega, by omega⟩, fun q => ⟨by omega, fun li2 hli2 y hy => ?_⟩, fun q => ⟨by omega, fun li2 hli2 y hy => ?_⟩⟩⟩
        · rw [hy, hx4, he, show (c : Int) + 1 = ((c + 1 : Nat) : Int) by omega]
          refine wr g2 hg2 _ (fun e => ?_) (fun e e2 => by omega) li2 hli2
          have := hfl.1 q
          rw [e] at this ⊢
          omega
        · rw [hy, hx4, he, show (c : Int) + 1 = ((c + 1 : Nat) : Int) by omega]
          refine wr g2 hg2 _ (fun e => ?_) (fun e e2 => by omega) li2 hli2
          have := hfl.2 q
          rw [e] at this ⊢
          omega
      have good : (c < 4 → mli (5 * a + c) - (mli (5 * a + c)).tdiv p2 * p2 = 0) → wp_X4_divide_78 (wp_X4_divide_41 (a : Int) p2 post x3 (t + 1)) p2 x3 (c : Int) (mli (5 * a + c)) (nl : Int) li g := by
        intro hd0
        unfold wp_X4_divide_78
        refine last g ?_ 1 (Or.inr rfl) (Int.mul_one g)
        rcases i3 with ⟨q, -⟩ | ⟨q, i3⟩
        · exact Or.inl ⟨q, q, hd0⟩
        · exact Or.inr ⟨q, i3⟩
      refine ⟨fun e => good (fun z => by omega), fun e => ⟨⟨by omega, by omega⟩, ⟨by omega, by omega⟩, by omega, ⟨by omega, by omega⟩, fun q => good (fun _ => q), fun q => last 0 (Or.inr ⟨rfl, fun z => q (z c (by omega))⟩) 0 (Or.inl rfl) (Int.mul_zero g)⟩⟩
  exact loop 5 0 1 mli rfl (fun _ _ => rfl) (Or.inl ⟨rfl, fun j hj => absurd hj (by omega)⟩)
end LR
