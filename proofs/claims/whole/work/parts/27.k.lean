/-! LINES, the class: each call's line. -/
def xl_in (f : Nat → Int) : Prop := (∀ c, c < 4 → -1000000000 ≤ f c ∧ f c ≤ 1000000000) ∧ -1000000000000 ≤ f 4 ∧ f 4 ≤ 1000000000000
/-- a line more -/
def xl_new (nl : Nat) (lce ce l : Nat → Int) : Prop := (∀ j, j < 5 * nl → ce j = lce j) ∧ ∀ c, c < 5 → ce (5 * nl + c) = l c
def xl_big (nl : Nat) (lce : Nat → Int) : Prop := ∀ k, k < nl → ∀ c, c < 5 → -1000000000000 ≤ lce (5 * k + c) ∧ lce (5 * k + c) ≤ 1000000000000
section LC
variable {bkn rsz rly lnc lsc lcl lwh sid sfo soe : Int} {rce rst lce lsp ldr sfa sre sle spe spc sfr sto sva sff slf sgf : Nat → Int}
theorem sp_dW {post : (Nat → Int) → Prop} {w : Nat} (hw : w < 4) {s b : Int} (hs : xw_r s) (hb : xw_r b) (k : ∀ dr : Nat → Int, (∀ c, c < 4 → dr c = if c = w then s else 0) → dr 4 = b → post dr) : wp_X0_draftWord post lnc lsc lcl lwh lce lsp ldr (w : Int) s b := by
  unfold wp_X0_draftWord
  refine ⟨5, ?_⟩
  have loop : ∀ (t c : Nat) (dr : Nat → Int), c + t = 4 → (∀ j, j < c → dr j = if j = w then s else 0) → wp_X0_draftWord_3 (w : Int) s b post (t + 1) dr (c : Int) := by
    intro t
    induction t with
    | zero =>
      intro c dr hc h
      show wl_X0_draftWord_3 _ _ _ _ _ _ _
      unfold wl_X0_draftWord_3
      refine ⟨⟨by omega, by omega⟩, fun _ => ⟨hb, by omega, fun d hd => ?_⟩, fun q => absurd (show (4 : Int) ≤ (c : Int) by omega) q⟩
      rw [xw_uI dr (k := 4) 4 (by omega)] at hd
      exact k d (fun j hj => by rw [hd]; simp only []; rw [if_neg (by omega)]; exact h j (by omega)) (by rw [hd]; simp)
    | succ t ih =>
      intro c dr hc h
      show wl_X0_draftWord_3 _ _ _ _ _ _ _
      unfold wl_X0_draftWord_3
      have step : ∀ z, z = (if c = w then s else 0) → wp_X0_draftWord_27 (wp_X0_draftWord_3 (w : Int) s b post (t + 1)) (c : Int) dr z (c : Int) := by
        intro z hz
        unfold wp_X0_draftWord_27
        refine ⟨by omega, fun d hd y hy => ?_⟩
        rw [xw_uI dr c rfl] at hd
        rw [hy, show (c : Int) + 1 = ((c + 1 : Nat) : Int) by omega]
        refine ih (c + 1) d (by omega) (fun j hj => ?_)
        rw [hd]
        by_cases e : j = c
        · subst e; simp only [if_true]; exact hz
        · simp only [if_neg e]; exact h j (by omega)
      refine ⟨⟨by omega, by omega⟩, fun q => absurd q (by omega), fun _ => ⟨⟨by omega, by omega⟩, fun e => ⟨hs, step _ (by rw [if_pos (by omega)])⟩, fun e => step _ (by rw [if_neg (by omega)])⟩⟩
  exact loop 4 0 ldr rfl (fun j h => absurd h (by omega))
theorem sp_aD {post : Int → Int → (Nat → Int) → Prop} {nl : Nat} (hn : nl ≤ 200) (hw : lwh = 0 ∨ lwh = 1) (kn : ¬ (lwh = 0 ∧ nl < 200) → post (-1) (nl : Int) lce) (ky : lwh = 0 → nl < 200 → ∀ ce, xl_new nl lce ce ldr → post (nl : Int) ((nl + 1 : Nat) : Int) ce) : wp_X0_appendDraft post (nl : Int) lsc lcl lwh lce lsp ldr := by
  unfold wp_X0_appendDraft
  refine ⟨⟨by omega, by omega⟩, fun h0 => ⟨⟨by omega, by omega⟩, fun h1 => ⟨6, ?_⟩, fun h1 => kn (by omega)⟩, fun h0 => kn (by omega)⟩
  have loop : ∀ (t c : Nat) (ce : Nat → Int), c + t = 5 → (∀ j, j < 5 * nl → ce j = lce j) → (∀ j, j < c → ce (5 * nl + j) = ldr j) → wp_X0_appendDraft_21 ldr post (t + 1) (nl : Int) ce (c : Int) := by
    intro t
    induction t with
    | zero =>
      intro c ce hc h2 h3
      show wl_X0_appendDraft_21 _ _ _ _ _ _
      unfold wl_X0_appendDraft_21
      refine ⟨⟨by omega, by omega⟩, fun _ y hy => ?_, fun q => absurd (show (5 : Int) ≤ (c : Int) by omega) q⟩
      rw [hy, show (nl : Int) + 1 - 1 = (nl : Int) by omega, show (nl : Int) + 1 = ((nl + 1 : Nat) : Int) by omega]
      exact ky h0 (by omega) ce ⟨h2, fun j hj => h3 j (by omega)⟩
    | succ t ih =>
      intro c ce hc h2 h3
      show wl_X0_appendDraft_21 _ _ _ _ _ _
      unfold wl_X0_appendDraft_21
      rw [Int.toNat_natCast]
      refine ⟨⟨by omega, by omega⟩, fun q => absurd q (by omega), fun _ => ⟨by omega, by omega, fun d hd y hy => ?_⟩⟩
      rw [xw_uI ce (5 * nl + c) (by omega)] at hd
      rw [hy, show (c : Int) + 1 = ((c + 1 : Nat) : Int) by omega]
      refine ih (c + 1) d (by omega) (fun j hj => by rw [hd]; simp only []; rw [if_neg (by omega)]; exact h2 j hj) (fun j hj => ?_)
      rw [hd]
      by_cases e : j = c
      · subst e; simp
      · simp only []; rw [if_neg (by omega)]; exact h3 j (by omega)
  exact loop 5 0 lce rfl (fun _ _ => rfl) (fun j h => absurd h (by omega))
theorem xl_new_cg {nl : Nat} {lce ce l m : Nat → Int} (h : xl_new nl lce ce l) (e : ∀ c, c < 5 → l c = m c) : xl_new nl lce ce m := ⟨h.1, fun c hc => by rw [h.2 c hc, e c hc]⟩
/-- the line of a row -/
def xl_row (rce : Nat → Int) (i : Nat) (sg : Int) : Nat → Int := fun c => sg * rce (6 * i + 1 + c)
/-- the line of a word -/
def xl_word (w : Nat) (s b : Int) : Nat → Int := fun c => if c = 4 then b else if c = w then s else 0
theorem xl_word_eq {w : Nat} (hw : w < 4) {s b : Int} {dr : Nat → Int} (h1 : ∀ c, c < 4 → dr c = if c = w then s else 0) (h2 : dr 4 = b) : ∀ c, c < 5 → dr c = xl_word w s b c := fun c hc => by
  unfold xl_word
  by_cases e : c = 4
  · rw [if_pos e, e, h2]
  · rw [if_neg e, h1 c (by omega)]
theorem sp3_assume {post : Int → Int → (Nat → Int) → (Nat → Int) → Prop} {n nl : Nat} {p b : Int} (hp : xw_r p) (hb : b = 0 ∨ b = 1) (hok : xr_ok n rce) (hn : nl ≤ 200) (hw : lwh = 0 ∨ lwh = 1)
    (kn : ¬ (0 ≤ p ∧ p < n ∧ (b = 0 ∨ rce (6 * p.toNat) = 0) ∧ lwh = 0 ∧ nl < 200) → ∀ dr, post (-1) (nl : Int) lce dr)
    (ky : ∀ i : Nat, p = (i : Int) → i < n → (b = 0 ∨ rce (6 * i) = 0) → lwh = 0 → nl < 200 → ∀ ce dr, xl_new nl lce ce (xl_row rce i (if b = 0 then 1 else -1)) → post (nl : Int) ((nl + 1 : Nat) : Int) ce dr) :
    wp_X3_assume post bkn (n : Int) rly rce rst (nl : Int) lsc lcl lwh lce lsp ldr sid sfo soe sfa sre sle spe spc sfr sto sva sff slf sgf p b := by
  unfold wp_X3_assume wp_X1_has
  have hn16 := hok.1
  refine ⟨hp, fun h => ⟨⟨by omega, by omega⟩, fun _ => kn (by omega) _, fun q => absurd rfl q⟩, fun h => ⟨⟨by omega, by omega⟩, fun h2 => ⟨⟨by omega, by omega⟩, fun _ => kn (by omega) _, fun q => absurd rfl q⟩, fun h2 => ⟨⟨by omega, by omega⟩, fun q => absurd q (by omega), fun _ => ?_⟩⟩⟩
  obtain ⟨i, ei⟩ : ∃ i : Nat, p = (i : Int) := ⟨p.toNat, by omega⟩
  subst ei
  obtain ⟨o1, o2, o3⟩ := hok.2 i (by omega)
  rw [Int.toNat_natCast] at kn
  have main : (b = 0 ∨ rce (6 * i) = 0) → wp_X3_assume_28 (i : Int) b (n : Int) rly rce rst lsc lcl lwh lsp post (nl : Int) lce ldr := by
    intro hor
    unfold wp_X3_assume_28 wp_X3_assume_37
    have go : ∀ sg, sg = (if b = 0 then 1 else -1) → ∃ fu : Nat, wp_X3_assume_41 (i : Int) (n : Int) rly rce rst lsc lcl lwh lsp post sg fu (nl : Int) lce ldr 0 := by
      intro sg hsg
      have hs1 : sg = 1 ∨ sg = -1 := by rw [hsg]; split <;> omega
      refine ⟨5, ?_⟩
      have loop : ∀ (t c : Nat) (dr : Nat → Int), c + t = 4 → (∀ j, j < c → dr j = sg * rce (6 * i + 1 + j)) → wp_X3_assume_41 (i : Int) (n : Int) rly rce rst lsc lcl lwh lsp post sg (t + 1) (nl : Int) lce dr (c : Int) := by
        intro t
        induction t with
        | zero =>
          intro c dr hc hdr
          show wl_X3_assume_41 _ _ _ _ _ _ _ _ _ _ _ _ _ _ _ _
          unfold wl_X3_assume_41
          refine ⟨⟨by omega, by omega⟩, fun _ => sp_limit (by omega) ⟨by rcases hs1 with e | e <;> rw [e] <;> exact ⟨by omega, by omega⟩, ?_⟩, fun q => absurd (show (4 : Int) ≤ (c : Int) by omega) q⟩
          unfold wp_X0_draftBound
          refine ⟨by omega, fun d hd => ?_⟩
          rw [xw_uI dr (k := 4) 4 (by omega)] at hd
          refine sp_aD hn hw (fun q => kn (by omega) _) (fun q1 q2 ce hce => ky i rfl (by omega) hor q1 q2 ce d (xl_new_cg hce (fun c hc => ?_)))
          unfold xl_row
          rw [hd, ← hsg]
          by_cases e : c = 4
          · subst e; simp
          · simp only []; rw [if_neg e]; exact hdr c (by omega)
        | succ t ih =>
          intro c dr hc hdr
          show wl_X3_assume_41 _ _ _ _ _ _ _ _ _ _ _ _ _ _ _ _
          unfold wl_X3_assume_41
          have := o2 c (by omega)
          refine ⟨⟨by omega, by omega⟩, fun q => absurd q (by omega), fun _ => sp_factor (by omega) (by omega) ⟨by rcases hs1 with e | e <;> rw [e] <;> exact ⟨by omega, by omega⟩, ?_⟩⟩
          unfold wp_X0_draftNumber
          refine ⟨by omega, fun d hd y hy => ?_⟩
          rw [xw_uI dr c rfl] at hd
          rw [hy, show (c : Int) + 1 = ((c + 1 : Nat) : Int) by omega]
          refine ih (c + 1) d (by omega) (fun j hj => ?_)
          rw [hd]
          by_cases e : j = c
          · subst e; simp
          · simp only [if_neg e]; exact hdr j (by omega)
      exact loop 4 0 ldr rfl (fun j hj => absurd hj (by omega))
    exact ⟨⟨by omega, by omega⟩, fun e => go 1 (by rw [if_pos e]), fun e => go (-1) (by rw [if_neg e])⟩
  refine ⟨⟨by omega, by omega⟩, fun e => main (Or.inl e), fun e => sp_isEq (by omega) o1 (fun h0 => ⟨⟨by omega, by omega⟩, fun q => absurd q (by omega), fun _ => main (Or.inr h0)⟩) (fun h0 => ⟨⟨by omega, by omega⟩, fun _ => kn (by omega) _, fun q => absurd rfl q⟩)⟩
theorem sp3_bound {post : Int → Int → (Nat → Int) → (Nat → Int) → Prop} {nl : Nat} {p b : Int} (hp : xw_r p) (hb : b = 0 ∨ b = 1) (hn : nl ≤ 200) (hw : lwh = 0 ∨ lwh = 1)
    (kn : ¬ (0 ≤ p ∧ p < 4 ∧ lwh = 0 ∧ nl < 200) → ∀ dr, post (-1) (nl : Int) lce dr)
    (ky : ∀ w : Nat, p = (w : Int) → w < 4 → lwh = 0 → nl < 200 → ∀ ce dr, xl_new nl lce ce (xl_word w (if b = 0 then 1 else -1) 15) → post (nl : Int) ((nl + 1 : Nat) : Int) ce dr) :
    wp_X3_bound post bkn rsz rly rce rst (nl : Int) lsc lcl lwh lce lsp ldr sid sfo soe sfa sre sle spe spc sfr sto sva sff slf sgf p b := by
  unfold wp_X3_bound
  refine sp_isWord hp (fun h => ⟨⟨by omega, by omega⟩, fun _ => kn (by omega) _, fun q => absurd rfl q⟩) (fun w ew hw4 => ⟨⟨by omega, by omega⟩, fun q => absurd q (by omega), fun _ => ?_⟩)
  subst ew
  refine ⟨⟨by omega, by omega⟩, fun e => ?_, fun e => ?_⟩
  · refine sp_dW hw4 ⟨by omega, by omega⟩ ⟨by omega, by omega⟩ (fun dr d1 d2 => sp_aD hn hw (fun q => kn (by omega) _) (fun q1 q2 ce hce => ky w rfl hw4 q1 q2 ce dr (xl_new_cg hce ?_)))
    rw [if_pos e]; exact xl_word_eq hw4 d1 d2
  · refine sp_dW hw4 ⟨by omega, by omega⟩ ⟨by omega, by omega⟩ (fun dr d1 d2 => sp_aD hn hw (fun q => kn (by omega) _) (fun q1 q2 ce hce => ky w rfl hw4 q1 q2 ce dr (xl_new_cg hce ?_)))
    rw [if_neg e]; exact xl_word_eq hw4 d1 d2
theorem sp_hasLine {post : Int → Prop} {nl : Nat} {p : Int} (hp : xw_r p) (hn : nl ≤ 200) (k0 : ¬ (0 ≤ p ∧ p < nl) → post 0) (k1 : ∀ i : Nat, p = (i : Int) → i < nl → post 1) : wp_X0_hasLine post (nl : Int) lsc lcl lwh lce lsp ldr p := by
  unfold wp_X0_hasLine
  exact ⟨hp, fun h => k0 (by omega), fun h => ⟨⟨by omega, by omega⟩, fun h2 => k0 (by omega), fun h2 => k1 p.toNat (by omega) (by omega)⟩⟩
theorem sp_lineCell {post : Int → Prop} {i c : Nat} (hi : i < 200) (hc : c < 5) (k : post (lce (5 * i + c))) : wp_X0_lineCell post lnc lsc lcl lwh lce lsp ldr (i : Int) (c : Int) := by
  unfold wp_X0_lineCell
  refine ⟨by omega, ?_⟩
  rw [show ((i : Int) * 5 + (c : Int)).toNat = 5 * i + c by omega]; exact k
theorem sp_dIR {post : Int → Prop} (hr : ∀ c, c < 5 → -9000000000000000 ≤ ldr c ∧ ldr c ≤ 9000000000000000) (k0 : ¬ xl_in ldr → post 0) (k1 : xl_in ldr → post 1) : wp_X0_draftIsInRange post lnc lsc lcl lwh lce lsp ldr := by
  unfold wp_X0_draftIsInRange
  refine ⟨5, ?_⟩
  have loop : ∀ (t c : Nat), c + t = 4 → (∀ j, j < c → -1000000000 ≤ ldr j ∧ ldr j ≤ 1000000000) → wp_X0_draftIsInRange_2 ldr post (t + 1) (c : Int) := by
    intro t
    induction t with
    | zero =>
      intro c hc h
      show wl_X0_draftIsInRange_2 _ _ _ _
      unfold wl_X0_draftIsInRange_2
      have h4 := hr 4 (by omega)
      rw [show (4 : Int).toNat = 4 from rfl]
      refine ⟨⟨by omega, by omega⟩, fun _ => ⟨by omega, ⟨by omega, by omega⟩, fun q => k0 (fun z => by have := z.2; omega), fun q => ⟨by omega, fun q2 => k0 (fun z => by have := z.2; omega), fun q2 => k1 ⟨fun j hj => h j (by omega), by omega⟩⟩⟩, fun q => absurd (show (4 : Int) ≤ (c : Int) by omega) q⟩
    | succ t ih =>
      intro c hc h
      show wl_X0_draftIsInRange_2 _ _ _ _
      unfold wl_X0_draftIsInRange_2
      have h4 := hr c (by omega)
      rw [Int.toNat_natCast]
      refine ⟨⟨by omega, by omega⟩, fun q => absurd q (by omega), fun _ => ⟨by omega, ⟨by omega, by omega⟩, fun q => k0 (fun z => by have := z.1 c (by omega); omega), fun q => ⟨by omega, fun q2 y hy => ?_, fun q2 => k0 (fun z => by have := z.1 c (by omega); omega)⟩⟩⟩
      rw [hy, show (c : Int) + 1 = ((c + 1 : Nat) : Int) by omega]
      refine ih (c + 1) (by omega) (fun j hj => ?_)
      by_cases e : j = c
      · subst e; omega
      · exact h j (by omega)
  exact loop 4 0 rfl (fun j h => absurd h (by omega))
def xl_add (lce : Nat → Int) (a : Nat) (m : Int) (b : Nat) (n : Int) : Nat → Int := fun c => m * lce (5 * a + c) + n * lce (5 * b + c)
theorem xl_add_big {lce : Nat → Int} {nl a b : Nat} {m n : Int} (hL : xl_big nl lce) (ha : a < nl) (hb : b < nl) (hm : 0 ≤ m ∧ m ≤ 1000) (hn : 0 ≤ n ∧ n ≤ 1000) : ∀ c, c < 5 → -9000000000000000 ≤ xl_add lce a m b n c ∧ xl_add lce a m b n c ≤ 9000000000000000 := by
  intro c hc
  have e1 := hL a ha c hc
  have e2 := hL b hb c hc
  unfold xl_add
  have f : ∀ k v : Int, 0 ≤ k ∧ k ≤ 1000 → -1000000000000 ≤ v ∧ v ≤ 1000000000000 → -1000000000000000 ≤ k * v ∧ k * v ≤ 1000000000000000 := by
    intro k v hk hv
    have h1 : k * v ≤ k * 1000000000000 := Int.mul_le_mul_of_nonneg_left hv.2 hk.1
    have h2 : k * -1000000000000 ≤ k * v := Int.mul_le_mul_of_nonneg_left hv.1 hk.1
    omega
  have g1 := f m _ hm e1
  have g2 := f n _ hn e2
  omega
theorem sp3_add {post : Int → Int → (Nat → Int) → (Nat → Int) → Prop} {nl : Nat} {p1 p2 p3 p4 : Int} (r1 : xw_r p1) (r2 : xw_r p2) (r3 : xw_r p3) (r4 : xw_r p4) (hn : nl ≤ 200) (hw : lwh = 0 ∨ lwh = 1) (hL : xl_big nl lce)
    (kn : ¬ ((0 ≤ p1 ∧ p1 < nl) ∧ (0 ≤ p3 ∧ p3 < nl) ∧ (0 ≤ p2 ∧ p2 ≤ 1000) ∧ (0 ≤ p4 ∧ p4 ≤ 1000) ∧ xl_in (xl_add lce p1.toNat p2 p3.toNat p4) ∧ lwh = 0 ∧ nl < 200) → ∀ dr, post (-1) (nl : Int) lce dr)
    (ky : ∀ a b : Nat, p1 = (a : Int) → p3 = (b : Int) → a < nl → b < nl → (0 ≤ p2 ∧ p2 ≤ 1000) → (0 ≤ p4 ∧ p4 ≤ 1000) → xl_in (xl_add lce a p2 b p4) → lwh = 0 → nl < 200 → ∀ ce dr, xl_new nl lce ce (xl_add lce a p2 b p4) → post (nl : Int) ((nl + 1 : Nat) : Int) ce dr) :
    wp_X3_add post bkn rsz rly rce rst (nl : Int) lsc lcl lwh lce lsp ldr sid sfo soe sfa sre sle spe spc sfr sto sva sff slf sgf p1 p2 p3 p4 := by
  unfold wp_X3_add wp_X0_appendSum
  refine sp_hasLine r1 hn (fun h => ⟨⟨by omega, by omega⟩, fun _ => kn (fun z => h z.1) _, fun q => absurd rfl q⟩) (fun a ea ha => ⟨⟨by omega, by omega⟩, fun q => absurd q (by omega), fun _ => ?_⟩)
  refine sp_hasLine r3 hn (fun h => ⟨⟨by omega, by omega⟩, fun _ => kn (fun z => h z.2.1) _, fun q => absurd rfl q⟩) (fun b eb hb => ⟨⟨by omega, by omega⟩, fun q => absurd q (by omega), fun _ => ?_⟩)
  subst ea; subst eb
  rw [Int.toNat_natCast, Int.toNat_natCast] at kn
  refine ⟨r2, fun h => kn (fun z => by omega) _, fun h1 => ⟨fun h => kn (fun z => by omega) _, fun h2 => ⟨r4, fun h => kn (fun z => by omega) _, fun h3 => ⟨fun h4 => ⟨6, ?_⟩, fun h => kn (fun z => by omega) _⟩⟩⟩⟩
  have hbig := xl_add_big hL ha hb (m := p2) (n := p4) ⟨by omega, by omega⟩ ⟨by omega, by omega⟩
  have loop : ∀ (t c : Nat) (dr : Nat → Int), c + t = 5 → (∀ j, j < c → dr j = xl_add lce a p2 b p4 j) → wp_X0_appendSum_45 (a : Int) p2 (b : Int) p4 lsc lcl lwh lsp (fun r lnc_1 lce_1 ldr_1 => (post r lnc_1 lce_1 ldr_1)) (t + 1) (nl : Int) lce dr (c : Int) := by
    intro t
    induction t with
    | zero =>
      intro c dr hc hdr
      show wl_X0_appendSum_45 _ _ _ _ _ _ _ _ _ _ _ _ _ _
      unfold wl_X0_appendSum_45
      have e5 : ∀ j, j < 5 → dr j = xl_add lce a p2 b p4 j := fun j hj => hdr j (by omega)
      have ein : xl_in dr ↔ xl_in (xl_add lce a p2 b p4) := by
        unfold xl_in
        rw [e5 4 (by omega)]
        exact ⟨fun z => ⟨fun j hj => by have := z.1 j hj; rw [e5 j (by omega)] at this; exact this, z.2⟩, fun z => ⟨fun j hj => by rw [e5 j (by omega)]; exact z.1 j hj, z.2⟩⟩
      refine ⟨⟨by omega, by omega⟩, fun _ => ?_, fun q => absurd (show (5 : Int) ≤ (c : Int) by omega) q⟩
      refine sp_dIR (fun j hj => by rw [e5 j hj]; exact hbig j hj) (fun q => ⟨⟨by omega, by omega⟩, fun _ => kn (fun z => q (ein.mpr z.2.2.2.2.1)) _, fun z => absurd rfl z⟩) (fun q => ⟨⟨by omega, by omega⟩, fun z => absurd z (by omega), fun _ => ?_⟩)
      exact sp_aD hn hw (fun z => kn (fun y => z y.2.2.2.2.2) _) (fun z1 z2 ce hce => ky a b rfl rfl ha hb ⟨by omega, by omega⟩ ⟨by omega, by omega⟩ (ein.mp q) z1 z2 ce dr (xl_new_cg hce e5))
    | succ t ih =>
      intro c dr hc hdr
      show wl_X0_appendSum_45 _ _ _ _ _ _ _ _ _ _ _ _ _ _
      unfold wl_X0_appendSum_45
      refine ⟨⟨by omega, by omega⟩, fun q => absurd q (by omega), fun _ => sp_lineCell (by omega) (by omega) (sp_lineCell (by omega) (by omega) ⟨by omega, fun d hd y hy => ?_⟩)⟩
      rw [xw_uI dr c rfl] at hd
      rw [hy, show (c : Int) + 1 = ((c + 1 : Nat) : Int) by omega]
      refine ih (c + 1) d (by omega) (fun j hj => ?_)
      rw [hd]
      by_cases e : j = c
      · subst e; simp [xl_add]
      · simp only [if_neg e]; exact hdr j (by omega)
  exact loop 5 0 ldr rfl (fun j hj => absurd hj (by omega))
def xl_div (lce : Nat → Int) (a : Nat) (d : Int) : Nat → Int := fun c => if c = 4 then lce (5 * a + 4) / d else (lce (5 * a + c)).tdiv d
def xl_dvd (lce : Nat → Int) (a : Nat) (d : Int) : Prop := ∀ c, c < 4 → lce (5 * a + c) - (lce (5 * a + c)).tdiv d * d = 0
/-- the rest of a division is small -/
theorem xm_rem {v d : Int} (hd : 0 < d) (hv : -1000000000000 ≤ v ∧ v ≤ 1000000000000) : -1000000000000 ≤ v - v.tdiv d * d ∧ v - v.tdiv d * d ≤ 1000000000000 := by
  rcases Int.lt_or_le v 0 with q | q
  · obtain ⟨-, h2, h3⟩ := xm_fd hd q
    omega
  · rw [Int.tdiv_eq_ediv_of_nonneg q]
    have h1 : v % d = v - d * (v / d) := Int.emod_def v d
    have h2 := Int.emod_nonneg v (show d ≠ 0 by omega)
    have h3 : 0 ≤ v / d := Int.ediv_nonneg q (by omega)
    have h4 : 0 ≤ v / d * d := Int.mul_nonneg h3 (by omega)
    rw [Int.mul_comm] at h1
    omega
theorem sp3_divide {post : Int → Int → (Nat → Int) → (Nat → Int) → Prop} {nl : Nat} {p1 p2 : Int} (r1 : xw_r p1) (r2 : xw_r p2) (hn : nl ≤ 200) (hw : lwh = 0 ∨ lwh = 1) (hL : xl_big nl lce)
    (kn : ¬ ((0 ≤ p1 ∧ p1 < nl) ∧ (1 ≤ p2 ∧ p2 ≤ 1000000000) ∧ xl_dvd lce p1.toNat p2 ∧ lwh = 0 ∧ nl < 200) → ∀ dr, post (-1) (nl : Int) lce dr)
    (ky : ∀ a : Nat, p1 = (a : Int) → a < nl → (1 ≤ p2 ∧ p2 ≤ 1000000000) → xl_dvd lce a p2 → lwh = 0 → nl < 200 → ∀ ce dr, xl_new nl lce ce (xl_div lce a p2) → post (nl : Int) ((nl + 1 : Nat) : Int) ce dr) :
    wp_X3_divide post bkn rsz rly rce rst (nl : Int) lsc lcl lwh lce lsp ldr sid sfo soe sfa sre sle spe spc sfr sto sva sff slf sgf p1 p2 := by
  unfold wp_X3_divide wp_X0_appendQuotient
  refine sp_hasLine r1 hn (fun h => ⟨⟨by omega, by omega⟩, fun _ => kn (fun z => h z.1) _, fun q => absurd rfl q⟩) (fun a ea ha => ⟨⟨by omega, by omega⟩, fun q => absurd q (by omega), fun _ => ?_⟩)
  subst ea
  rw [Int.toNat_natCast] at kn
  refine ⟨r2, fun h => kn (fun z => by omega) _, fun h1 => ⟨fun h2 => ⟨5, ?_⟩, fun h => kn (fun z => by omega) _⟩⟩
  have loop : ∀ (t c : Nat) (dr : Nat → Int), c + t = 4 → (∀ j, j < c → dr j = (lce (5 * a + j)).tdiv p2 ∧ lce (5 * a + j) - (lce (5 * a + j)).tdiv p2 * p2 = 0) → wp_X0_appendQuotient_23 (a : Int) p2 lsc lcl lwh lsp (fun r lnc_1 lce_1 ldr_1 => (post r lnc_1 lce_1 ldr_1)) (t + 1) (nl : Int) lce dr (c : Int) := by
    intro t
    induction t with
    | zero =>
      intro c dr hc hdr
      show wl_X0_appendQuotient_23 _ _ _ _ _ _ _ _ _ _ _ _
      unfold wl_X0_appendQuotient_23
      have h4 := hL a ha 4 (by omega)
      refine ⟨⟨by omega, by omega⟩, fun _ => ?_, fun q => absurd (show (4 : Int) ≤ (c : Int) by omega) q⟩
      refine sp_lineCell (c := 4) (by omega) (by omega) (sp_fdL ⟨by omega, by omega⟩ (by omega) ⟨by omega, by omega⟩ ⟨by omega, fun d hd => ?_⟩)
      rw [xw_uI dr (k := 4) 4 (by omega)] at hd
      refine sp_aD hn hw (fun z => kn (fun y => z y.2.2.2) _) (fun z1 z2 ce hce => ky a rfl ha ⟨by omega, by omega⟩ (fun j hj => (hdr j (by omega)).2) z1 z2 ce d (xl_new_cg hce (fun j hj => ?_)))
      rw [hd]
      unfold xl_div
      by_cases e : j = 4
      · subst e; simp
      · simp only [if_neg e]; exact (hdr j (by omega)).1
    | succ t ih =>
      intro c dr hc hdr
      show wl_X0_appendQuotient_23 _ _ _ _ _ _ _ _ _ _ _ _
      unfold wl_X0_appendQuotient_23
      have h4 := hL a ha c (by omega)
      have h5 := xm_rem (v := lce (5 * a + c)) (d := p2) (by omega) h4
      refine ⟨⟨by omega, by omega⟩, fun q => absurd q (by omega), fun _ => sp_lineCell (by omega) (by omega) ⟨⟨by omega, by omega⟩, ⟨by omega, by omega⟩, by omega, ⟨by omega, by omega⟩, fun q => ⟨by omega, by omega, fun d hd y hy => ?_⟩, fun q => kn (fun z => q (z.2.2.1 c (by omega))) _⟩⟩
      rw [xw_uI dr c rfl] at hd
      rw [hy, show (c : Int) + 1 = ((c + 1 : Nat) : Int) by omega]
      refine ih (c + 1) d (by omega) (fun j hj => ?_)
      rw [hd]
      by_cases e : j = c
      · subst e; simp only [if_true]; exact ⟨trivial, q⟩
      · simp only [if_neg e]; exact hdr j (by omega)
  exact loop 4 0 ldr rfl (fun j hj => absurd hj (by omega))
end LC
