section SW
variable {sid sfo soe rsz rly : Int} {sfa sre sle spe spc sfr sto sva sff slf sgf rce rst : Nat → Int}
theorem sp_setWord_loop {post : (Nat → Int) → (Nat → Int) → Prop} {d m K : Nat} {u : Int} {va : Nat → Int} (hd : d < 3) (hm : m ≤ 32) (hK : K ≤ 32) (hpe : ∀ q : Nat, q < K → ∃ s, s < m ∧ spe (32 * (d + 1) + q) = (s : Int))
    (k : ∀ le : Nat → Int, (∀ j, j < 32 * (d + 1) → le j = sle j) → (∀ q : Nat, q < K → ∀ s : Nat, spe (32 * (d + 1) + q) = (s : Int) → le (32 * (d + 1) + s) = sle (32 * d + s) - sfa (32 * d + s) * u) → post le va) :
    ∀ (n p : Nat) (le : Nat → Int), p + n = K → (∀ j, j < 32 * (d + 1) → le j = sle j) → (∀ q : Nat, q < p → ∀ s : Nat, spe (32 * (d + 1) + q) = (s : Int) → le (32 * (d + 1) + s) = sle (32 * d + s) - sfa (32 * d + s) * u) →
      wp_X2_setWord_19 (d : Int) u sfa spe post (K : Int) (n + 1) le va (p : Int) := by
  intro n
  induction n with
  | zero =>
    intro p le hp h1 h2
    show wl_X2_setWord_19 _ _ _ _ _ _ _ _ _ _
    unfold wl_X2_setWord_19
    refine ⟨⟨by omega, by omega⟩, ⟨by omega, by omega⟩, fun _ => ?_, fun h => absurd (show (K : Int) ≤ (p : Int) by omega) h⟩
    exact k le h1 (fun q hq => h2 q (by omega))
  | succ n ih =>
    intro p le hp h1 h2
    show wl_X2_setWord_19 _ _ _ _ _ _ _ _ _ _
    unfold wl_X2_setWord_19
    obtain ⟨s, hs, es⟩ := hpe p (by omega)
    have e0 : (((d : Int) + 1) * 32 + (p : Int)).toNat = 32 * (d + 1) + p := by omega
    refine ⟨⟨by omega, by omega⟩, ⟨by omega, by omega⟩, fun h => absurd h (by omega), fun h => ⟨by omega, fun x5 hx5 => ?_⟩⟩
    rw [e0, es] at hx5
    have ex5 : x5.toNat = 32 * d + s := by omega
    rw [ex5]
    refine ⟨by omega, by omega, by omega, fun le2 hle2 x4 hx4 => ?_⟩
    rw [xw_uI le (32 * (d + 1) + s) (by omega)] at hle2
    rw [hx4, show (p : Int) + 1 = ((p + 1 : Nat) : Int) by omega]
    have hs0 : le (32 * d + s) = sle (32 * d + s) := h1 _ (by omega)
    refine ih (p + 1) le2 (by omega) (fun j hj => by rw [hle2]; simp only []; rw [if_neg (by omega)]; exact h1 j hj) (fun q hq s0 es0 => ?_)
    rw [hle2]
    simp only []
    by_cases e : s0 = s
    · rw [if_pos (by omega), hs0, e]
    · rw [if_neg (by omega)]
      rcases Nat.lt_or_ge q p with z | z
      · exact h2 q z s0 es0
      · rw [show q = p by omega, es] at es0
        omega
/-- behind setWord(d, u): depth d + 1 stands -/
theorem sp_setWord {post : (Nat → Int) → (Nat → Int) → Prop} {m : Nat} {b : Nat → Int} (C : xs_C m sfa sre b) {d : Nat} (hd : d < 3) {lo hi : Int} (hQ : xs_Q m sfa sre b sva sle spe spc d lo hi) {u : Int} (hu : -15 ≤ u ∧ u ≤ 15)
    (k : ∀ le va : Nat → Int, (∀ j, j < 32 * (d + 1) → le j = sle j) → (∀ j, j ≠ d → va j = sva j) → va d = u → xs_P m sfa sre b va le spe spc (d + 1) → post le va) : wp_X2_setWord post sid sfo soe sfa sre sle spe spc sfr sto sva sff slf sgf rsz rly rce rst (d : Int) u := by
  obtain ⟨a1, a2, a3, a4⟩ := hQ
  unfold wp_X2_setWord
  refine ⟨by omega, fun va hva => ⟨by omega, fun x3 hx3 => ?_⟩⟩
  rw [xw_uI sva d rfl] at hva
  rw [show ((d : Int) + 1).toNat = d + 1 by omega] at hx3
  obtain ⟨K, hK⟩ : ∃ K : Nat, spc (d + 1) = (K : Int) := ⟨(spc (d + 1)).toNat, by omega⟩
  have hvd : va d = u := by rw [hva]; simp
  have hvo : ∀ j, j ≠ d → va j = sva j := fun j hj => by rw [hva]; simp [hj]
  have hsv : ∀ s, xs_s sfa va s d = xs_s sfa sva s d := fun s => xs_s_cg d (fun w hw => hvo w (by omega))
  have hss : ∀ s, xs_s sfa va s (d + 1) = xs_s sfa sva s d + sfa (32 * d + s) * u := fun s => by
    show xs_s sfa va s d + sfa (32 * d + s) * va d = _
    rw [hsv, hvd]
  refine ⟨K + 1, ?_⟩
  rw [hx3, hK]
  refine sp_setWord_loop (m := m) hd C.1 (by omega) (fun q hq => by obtain ⟨s, s1, s2, -⟩ := a3 q (by omega); exact ⟨s, s1, s2⟩) (fun le l1 l2 => ?_) K 0 sle (by omega) (fun _ _ => rfl) (fun q hq => absurd hq (by omega))
  refine k le va l1 hvo hvd ⟨a1, fun q hq => ?_, fun s hs => ?_⟩
  · obtain ⟨s, s1, s2, s3, -⟩ := a3 q hq
    refine ⟨s, s1, s2, ?_⟩
    rw [l2 q (by omega) s s2, s3, hss]
    omega
  · rcases a4 s hs with z | z
    · exact Or.inl z
    · refine Or.inr ?_
      obtain ⟨-, c2⟩ := (C.2 s hs).2.2 d (by omega)
      rw [show 32 * (d + 1) + s = 32 * d + s + 32 by omega, hss]
      have := xs_mul15 (a := sfa (32 * d + s)) (x := u) ⟨by omega, by omega⟩
      omega
def xs_lo (d : Nat) (fr va : Nat → Int) (w : Nat) : Int := if w < d then va w else if w = d then fr w else -15
def xs_hi (d : Nat) (to_ va : Nat → Int) (w : Nat) : Int := if w < d then va w else if w = d then to_ w else 15
def xs_mm (lo hi : Nat → Int) : Nat → Int
  | 0 => 1
  | w + 1 => xs_mm lo hi w * ((hi w - lo w) + 1)
theorem sp_note_71 {J : Int → (Nat → Int) → (Nat → Int) → (Nat → Int) → Int → Int → Prop} {w : Nat} (hw : w < 4) {x2 z0 z1 fo : Int} {ff lf gf : Nat → Int} (hfo : xw_r fo) (hz0 : xw_r z0) (hz1 : xw_r z1) (hlf : ¬ fo = 0 → xw_r (lf w) ∧ xw_r (gf w))
    (k : ∀ ff2 lf2 gf2 : Nat → Int, (∀ j, j ≠ w → ff2 j = ff j ∧ lf2 j = lf j ∧ gf2 j = gf j) → (fo = 0 → ff2 w = z0 ∧ lf2 w = z0 ∧ gf2 w = z1) → (¬ fo = 0 → ff2 w = ff w ∧ lf2 w = (if z0 < lf w then z0 else lf w) ∧ gf2 w = (if gf w < z1 then z1 else gf w)) → J fo ff2 lf2 gf2 ((w + 1 : Nat) : Int) (x2 * ((z1 - z0) + 1))) :
    wp_X2_noteSolutions_71 J (w : Int) x2 z0 fo ff lf gf z1 := by
  unfold wp_X2_noteSolutions_71 wp_X2_noteSolutions_151
  intro y hy
  subst hy
  rw [Int.toNat_natCast]
  have e3 : (w : Int) + 1 = ((w + 1 : Nat) : Int) := by omega
  refine ⟨hfo, fun h0 => ⟨by omega, fun f1 hf1 => ⟨by omega, fun f2 hf2 => ⟨by omega, fun f3 hf3 x hx => ?_⟩⟩⟩, fun h0 => ⟨by omega, (hlf h0).1, hz0, by omega, fun f2 hf2 => ⟨by omega, (hlf h0).2, hz1, by omega, fun f3 hf3 x hx => ?_⟩⟩⟩
  · rw [xw_uI _ w rfl] at hf1 hf2 hf3
    rw [hx, e3]
    refine k f1 f2 f3 (fun j hj => by rw [hf1, hf2, hf3]; simp [hj]) (fun _ => by rw [hf1, hf2, hf3]; simp) (fun h => absurd h0 h)
  · rw [xw_uI _ w rfl] at hf2 hf3
    rw [hx, e3]
    refine k ff f2 f3 (fun j hj => by rw [hf2, hf3]; simp [hj]) (fun h => absurd h h0) (fun _ => by rw [hf2, hf3]; simp)
theorem sp_note {post : Int → (Nat → Int) → (Nat → Int) → (Nat → Int) → Prop} {d : Nat} (hd : d < 4) (hfo : 0 ≤ sfo ∧ sfo ≤ 923521) (hv : ∀ w, w < d → -15 ≤ sva w ∧ sva w ≤ 15) (hfr : -15 ≤ sfr d ∧ sfr d ≤ sto d ∧ sto d ≤ 15) (hlf : ¬ sfo = 0 → ∀ w, w < 4 → xw_r (slf w) ∧ xw_r (sgf w))
    (k : ∀ ff lf gf : Nat → Int, (sfo = 0 → ∀ w, w < 4 → ff w = xs_lo d sfr sva w ∧ lf w = xs_lo d sfr sva w ∧ gf w = xs_hi d sto sva w) → (¬ sfo = 0 → ∀ w, w < 4 → ff w = sff w ∧ lf w = (if xs_lo d sfr sva w < slf w then xs_lo d sfr sva w else slf w) ∧ gf w = (if sgf w < xs_hi d sto sva w then xs_hi d sto sva w else sgf w)) → post (sfo + xs_mm (xs_lo d sfr sva) (xs_hi d sto sva) 4) ff lf gf) :
    wp_X2_noteSolutions post sid sfo soe sfa sre sle spe spc sfr sto sva sff slf sgf rsz rly rce rst (d : Int) := by
  unfold wp_X2_noteSolutions
  have main : ∀ (n w : Nat) (ff lf gf : Nat → Int), w + n = 4 → (∀ j, j < w → (sfo = 0 → ff j = xs_lo d sfr sva j ∧ lf j = xs_lo d sfr sva j ∧ gf j = xs_hi d sto sva j) ∧ (¬ sfo = 0 → ff j = sff j ∧ lf j = (if xs_lo d sfr sva j < slf j then xs_lo d sfr sva j else slf j) ∧ gf j = (if sgf j < xs_hi d sto sva j then xs_hi d sto sva j else sgf j))) → (∀ j, w ≤ j → ff j = sff j ∧ lf j = slf j ∧ gf j = sgf j) →
      wp_X2_noteSolutions_4 (d : Int) sfr sto sva post (n + 1) sfo ff lf gf (w : Int) (xs_mm (xs_lo d sfr sva) (xs_hi d sto sva) w) := by
    intro n
    induction n with
    | zero =>
      intro w ff lf gf hw h1 h2
      show wl_X2_noteSolutions_4 _ _ _ _ _ _ _ _ _ _ _ _
      unfold wl_X2_noteSolutions_4
      have e : w = 4 := by omega
      subst e
      refine ⟨⟨by omega, by omega⟩, fun _ f hf => ?_, fun h => absurd (show (4 : Int) ≤ ((4 : Nat) : Int) by omega) h⟩
      subst hf
      exact k ff lf gf (fun h w hw => (h1 w hw).1 h) (fun h w hw => (h1 w hw).2 h)
    | succ n ih =>
      intro w ff lf gf hw h1 h2
      show wl_X2_noteSolutions_4 _ _ _ _ _ _ _ _ _ _ _ _
      unfold wl_X2_noteSolutions_4
      have hw4 : w < 4 := by omega
      have step : ∀ z0 z1, z0 = xs_lo d sfr sva w → z1 = xs_hi d sto sva w → wp_X2_noteSolutions_71 (wp_X2_noteSolutions_4 (d : Int) sfr sto sva post (n + 1)) (w : Int) (xs_mm (xs_lo d sfr sva) (xs_hi d sto sva) w) z0 sfo ff lf gf z1 := by
        intro z0 z1 e0 e1
        have hb : (-15 ≤ z0 ∧ z0 ≤ 15) ∧ -15 ≤ z1 ∧ z1 ≤ 15 := by
          rw [e0, e1]; unfold xs_lo xs_hi
          rcases Nat.lt_or_ge w d with q | q
          · have := hv w q
            rw [if_pos q, if_pos q]; omega
          · have q2 : ¬ w < d := by omega
            rw [if_neg q2, if_neg q2]
            by_cases e : w = d
            · rw [if_pos e, if_pos e, e]; omega
            · rw [if_neg e, if_neg e]; omega
        obtain ⟨b1, b2, b3⟩ := h2 w (Nat.le_refl w)
        refine sp_note_71 hw4 ⟨by omega, by omega⟩ ⟨by omega, by omega⟩ ⟨by omega, by omega⟩ (fun h => by rw [b2, b3]; exact hlf h w hw4) (fun ff2 lf2 gf2 g1 g2 g3 => ?_)
        have em : xs_mm (xs_lo d sfr sva) (xs_hi d sto sva) w * ((z1 - z0) + 1) = xs_mm (xs_lo d sfr sva) (xs_hi d sto sva) (w + 1) := by rw [e0, e1]; rfl
        rw [em]
        refine ih (w + 1) ff2 lf2 gf2 (by omega) (fun j hj => ?_) (fun j hj => ?_)
        · by_cases e : j = w
          · subst e
            rw [← e0, ← e1, ← b1, ← b2, ← b3]
            exact ⟨g2, g3⟩
          · obtain ⟨q1, q2, q3⟩ := g1 j e
            rw [q1, q2, q3]
            exact h1 j (by omega)
        · obtain ⟨q1, q2, q3⟩ := g1 j (by omega)
          rw [q1, q2, q3]
          exact h2 j (by omega)
      have step2 : ∀ z0, z0 = xs_lo d sfr sva w → wp_X2_noteSolutions_39 (wp_X2_noteSolutions_4 (d : Int) sfr sto sva post (n + 1)) (d : Int) sto sva (w : Int) (xs_mm (xs_lo d sfr sva) (xs_hi d sto sva) w) sfo ff lf gf z0 := by
        intro z0 e0
        unfold wp_X2_noteSolutions_39
        rw [Int.toNat_natCast]
        refine ⟨⟨by omega, by omega⟩, fun g1 => ⟨fun g2 => ⟨by omega, step z0 _ e0 ?_⟩, fun g2 => step z0 _ e0 ?_⟩, fun g1 => ⟨by omega, step z0 _ e0 ?_⟩⟩
        · unfold xs_hi; rw [if_neg (by omega), if_pos (by omega)]
        · unfold xs_hi; rw [if_neg (by omega), if_neg (by omega)]
        · unfold xs_hi; rw [if_pos (by omega)]
      rw [Int.toNat_natCast]
      refine ⟨⟨by omega, by omega⟩, fun h => absurd h (by omega), fun _ => ⟨⟨by omega, by omega⟩, fun g1 => ⟨fun g2 => ⟨by omega, step2 _ ?_⟩, fun g2 => step2 _ ?_⟩, fun g1 => ⟨by omega, step2 _ ?_⟩⟩⟩
      · unfold xs_lo; rw [if_neg (by omega), if_pos (by omega)]
      · unfold xs_lo; rw [if_neg (by omega), if_neg (by omega)]
      · unfold xs_lo; rw [if_pos (by omega)]
  exact ⟨5, main 4 0 sff slf sgf rfl (fun j hj => absurd hj (by omega)) (fun j _ => ⟨rfl, rfl, rfl⟩)⟩
end SW
