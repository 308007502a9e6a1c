/-! WHAT HOLDS BETWEEN CALLS: rows, lines and splits of both sides are the same; each line holds for all solutions of its branch; every solution is in what is open. -/
def xv_R (n ly : Nat) (rce rst mki mro mlf : Nat → Int) : Prop := xr_ok n rce ∧ ly ≤ 8 ∧ (∀ i, i < 6 * n → xr_M mki mro i = rce i) ∧ (∀ i, i < ly → mlf i = rst i ∧ 0 ≤ rst i ∧ rst i ≤ (n : Int)) ∧ ∀ i j, i < j → j < ly → rst i ≤ rst j
def xv_L (nl ns : Nat) (lce lsp mli msw msa msc msl : Nat → Int) : Prop :=
  nl ≤ 200 ∧ (∀ k, k < nl → xl_in (fun c => lce (5 * k + c))) ∧ xl_ok ns lsp ∧ (∀ s, s < ns → lsp (4 * s + 3) < (nl : Int)) ∧ (∀ s z, s < z → z < ns → lsp (4 * s + 3) < lsp (4 * z + 3)) ∧ (∀ j, j < 5 * nl → mli j = lce j) ∧ ∀ s, s < ns → msw s = lsp (4 * s) ∧ msa s = lsp (4 * s + 1) ∧ msc s = lsp (4 * s + 2) ∧ msl s = lsp (4 * s + 3)
def xl_sum (l x : Nat → Int) : Int := l 0 * x 0 + l 1 * x 1 + l 2 * x 2 + l 3 * x 3
def xl_at (lce : Nat → Int) (k : Nat) : Nat → Int := fun c => lce (5 * k + c)
def xl_cs (lsp : Nat → Int) (s : Nat) (x : Nat → Int) : Prop := xl_ca (lsp (4 * s)) (lsp (4 * s + 1)) (lsp (4 * s + 2)) x
def xv_So (n : Nat) (rce : Nat → Int) (x : Nat → Int) : Prop := xs_Box x ∧ ∀ r, r < n → xr_H rce x r
def xv_S (n : Nat) (rce : Nat → Int) (nl ns : Nat) (lce lsp : Nat → Int) : Prop :=
  (∀ x, xv_So n rce x → ∀ k, k < nl → (∀ s, s < ns → lsp (4 * s + 3) ≤ (k : Int) → xl_cs lsp s x) → xl_sum (xl_at lce k) x ≤ lce (5 * k + 4)) ∧
  ∀ x, xv_So n rce x → ∀ s, s < ns → (∀ z, z < s → xl_cs lsp z x) → ¬ xl_cs lsp s x → lsp (4 * s + 2) = 1
theorem xv_L_big {nl ns : Nat} {lce lsp mli msw msa msc msl : Nat → Int} (h : xv_L nl ns lce lsp mli msw msa msc msl) : xl_big nl lce ∧ xl_big nl mli := by
  have a : xl_big nl lce := fun k hk c hc => by
    have := h.2.1 k hk
    by_cases e : c = 4
    · have := this.2; rw [e]; exact this
    · have := this.1 c (by omega)
      have t : -1000000000 ≤ lce (5 * k + c) ∧ lce (5 * k + c) ≤ 1000000000 := this
      omega
  exact ⟨a, fun k hk c hc => by rw [h.2.2.2.2.2.1 _ (by omega)]; exact a k hk c hc⟩
theorem xv_L_okm {nl ns : Nat} {lce lsp mli msw msa msc msl : Nat → Int} (h : xv_L nl ns lce lsp mli msw msa msc msl) : xl_okm ns msw msa msc msl := by
  obtain ⟨-, -, h3, -, -, -, h7⟩ := h
  refine ⟨h3.1, fun s hs => ?_⟩
  obtain ⟨e1, e2, e3, e4⟩ := h7 s hs
  rw [e1, e2, e3, e4]
  exact h3.2 s hs
theorem xv_L_new {nl ns : Nat} {lce lsp mli msw msa msc msl ce li l : Nat → Int} (h : xv_L nl ns lce lsp mli msw msa msc msl) (hn : nl < 200) (h1 : xl_new nl lce ce l) (h2 : xl_new nl mli li l) (hl : xl_in l) : xv_L (nl + 1) ns ce lsp li msw msa msc msl := by
  obtain ⟨a1, a2, a3, a4, a5, a6, a7⟩ := h
  refine ⟨by omega, fun k hk => ?_, a3, fun s hs => by have := a4 s hs; omega, a5, fun j hj => ?_, a7⟩
  · rcases Nat.lt_or_ge k nl with q | q
    · have := a2 k q
      refine ⟨fun c hc => ?_, ?_⟩
      · show -1000000000 ≤ ce (5 * k + c) ∧ ce (5 * k + c) ≤ 1000000000
        rw [h1.1 _ (by omega)]; exact this.1 c hc
      · show -1000000000000 ≤ ce (5 * k + 4) ∧ ce (5 * k + 4) ≤ 1000000000000
        rw [h1.1 _ (by omega)]; exact this.2
    · have e : k = nl := by omega
      subst e
      refine ⟨fun c hc => ?_, ?_⟩
      · show -1000000000 ≤ ce (5 * k + c) ∧ ce (5 * k + c) ≤ 1000000000
        rw [h1.2 c (by omega)]; exact hl.1 c hc
      · show -1000000000000 ≤ ce (5 * k + 4) ∧ ce (5 * k + 4) ≤ 1000000000000
        rw [h1.2 4 (by omega)]; exact hl.2
  · rcases Nat.lt_or_ge j (5 * nl) with q | q
    · rw [h1.1 j q, h2.1 j q, a6 j q]
    · obtain ⟨c, ec⟩ : ∃ c, j = 5 * nl + c := ⟨j - 5 * nl, by omega⟩
      rw [ec, h1.2 c (by omega), h2.2 c (by omega)]
theorem xl_at_old {nl k : Nat} {lce ce l : Nat → Int} (h : xl_new nl lce ce l) (hk : k < nl) (x : Nat → Int) : xl_sum (xl_at ce k) x = xl_sum (xl_at lce k) x ∧ ce (5 * k + 4) = lce (5 * k + 4) := by
  unfold xl_sum xl_at
  rw [h.1 _ (by omega), h.1 _ (by omega), h.1 _ (by omega), h.1 _ (by omega), h.1 _ (by omega)]
  exact ⟨rfl, rfl⟩
theorem xl_at_new {nl : Nat} {lce ce l : Nat → Int} (h : xl_new nl lce ce l) (x : Nat → Int) : xl_sum (xl_at ce nl) x = xl_sum l x ∧ ce (5 * nl + 4) = l 4 := by
  unfold xl_sum xl_at
  rw [h.2 0 (by omega), h.2 1 (by omega), h.2 2 (by omega), h.2 3 (by omega), h.2 4 (by omega)]
  exact ⟨rfl, rfl⟩
theorem xv_S_new {n nl ns : Nat} {rce lce lsp ce l : Nat → Int} (hb : ∀ s, s < ns → lsp (4 * s + 3) < (nl : Int)) (h : xv_S n rce nl ns lce lsp) (h1 : xl_new nl lce ce l) (hl : ∀ x, xv_So n rce x → (∀ s, s < ns → xl_cs lsp s x) → xl_sum l x ≤ l 4) : xv_S n rce (nl + 1) ns ce lsp := by
  refine ⟨fun x hx k hk hc => ?_, h.2⟩
  rcases Nat.lt_or_ge k nl with q | q
  · rw [(xl_at_old h1 q x).1, (xl_at_old h1 q x).2]
    exact h.1 x hx k q hc
  · have e : k = nl := by omega
    subst e
    rw [(xl_at_new h1 x).1, (xl_at_new h1 x).2]
    exact hl x hx (fun s hs => hc s hs (by have := hb s hs; omega))
theorem xl_word_sum {w : Nat} (hw : w < 4) (s b : Int) (x : Nat → Int) : xl_sum (xl_word w s b) x = s * x w ∧ xl_word w s b 4 = b := by
  refine ⟨?_, rfl⟩
  unfold xl_sum xl_word
  match w, hw with
  | 0, _ => simp
  | 1, _ => simp
  | 2, _ => simp
  | 3, _ => simp
theorem xl_word_in {w : Nat} (hw : w < 4) {s b : Int} (hs : s = 1 ∨ s = -1) (hb : -100 ≤ b ∧ b ≤ 100) : xl_in (xl_word w s b) := by
  refine ⟨fun c hc => ?_, ?_⟩
  · unfold xl_word
    rw [if_neg (by omega)]
    split <;> omega
  · show -1000000000000 ≤ b ∧ b ≤ 1000000000000
    omega
/-- assume: its line -/
theorem xl_row_ok {n i : Nat} {rce : Nat → Int} {b : Int} (hok : xr_ok n rce) (hi : i < n) (hb : b = 0 ∨ rce (6 * i) = 0) : xl_in (xl_row rce i (if b = 0 then 1 else -1)) ∧ ∀ x, xv_So n rce x → xl_sum (xl_row rce i (if b = 0 then 1 else -1)) x ≤ xl_row rce i (if b = 0 then 1 else -1) 4 := by
  obtain ⟨o1, o2, o3⟩ := hok.2 i hi
  obtain ⟨sg, es⟩ : ∃ sg : Int, sg = (if b = 0 then 1 else -1) := ⟨_, rfl⟩
  rw [← es]
  have hs : (b = 0 ∧ sg = 1) ∨ (¬ b = 0 ∧ sg = -1) := by by_cases q : b = 0; exact Or.inl ⟨q, by rw [es, if_pos q]⟩; exact Or.inr ⟨q, by rw [es, if_neg q]⟩
  have o4 : -9999 ≤ rce (6 * i + 1 + 4) ∧ rce (6 * i + 1 + 4) ≤ 9999 := o3
  refine ⟨⟨fun c hc => ?_, ?_⟩, fun x hx => ?_⟩
  · unfold xl_row
    have := o2 c hc
    rcases hs with ⟨-, e⟩ | ⟨-, e⟩ <;> rw [e] <;> omega
  · unfold xl_row
    rcases hs with ⟨-, e⟩ | ⟨-, e⟩ <;> rw [e] <;> omega
  · have hH := hx.2 i hi
    unfold xr_H at hH
    have hd : xl_sum (xl_row rce i sg) x = sg * xr_d rce x i := by
      unfold xl_sum xl_row xr_d
      rw [show 6 * i + 1 + 0 = 6 * i + 1 from rfl, show 6 * i + 1 + 1 = 6 * i + 2 from rfl, show 6 * i + 1 + 2 = 6 * i + 3 from rfl, show 6 * i + 1 + 3 = 6 * i + 4 from rfl]
      simp only [Int.mul_add, Int.mul_assoc]
    have hf : xl_row rce i sg 4 = sg * rce (6 * i + 5) := rfl
    rw [hd, hf]
    rcases hs with ⟨e0, e⟩ | ⟨e0, e⟩
    · rw [e]
      by_cases q : rce (6 * i) = 0
      · have := hH.1 q; omega
      · have := hH.2 q; omega
    · rw [e]
      have q : rce (6 * i) = 0 := by rcases hb with z | z; exact absurd z e0; exact z
      have := hH.1 q
      omega
theorem xl_add_sum (lce : Nat → Int) (a : Nat) (m : Int) (b : Nat) (k : Int) (x : Nat → Int) : xl_sum (xl_add lce a m b k) x = m * xl_sum (xl_at lce a) x + k * xl_sum (xl_at lce b) x ∧ xl_add lce a m b k 4 = m * lce (5 * a + 4) + k * lce (5 * b + 4) := by
  refine ⟨?_, rfl⟩
  unfold xl_sum xl_add xl_at
  simp only [Int.mul_add, Int.add_mul, Int.mul_assoc]
  omega
theorem xl_div_ok {lce : Nat → Int} {a : Nat} {d : Int} (hd : 1 ≤ d ∧ d ≤ 1000000000) (hin : xl_in (xl_at lce a)) (hv : xl_dvd lce a d) : xl_in (xl_div lce a d) ∧ ∀ x, xl_sum (xl_at lce a) x ≤ lce (5 * a + 4) → xl_sum (xl_div lce a d) x ≤ xl_div lce a d 4 := by
  have e : ∀ c, c < 4 → lce (5 * a + c) = xl_div lce a d c * d := fun c hc => by
    have := hv c hc
    unfold xl_div
    rw [if_neg (by omega)]
    omega
  have small : ∀ v w : Int, v = w * d → -1000000000 ≤ v ∧ v ≤ 1000000000 → -1000000000 ≤ w ∧ w ≤ 1000000000 := by
    intro v w h1 h2
    constructor
    · rcases Int.lt_or_le w (-1000000000) with q | q
      · have h3 : w * d ≤ w * 1 := by
          have := Int.mul_le_mul_of_nonneg_left hd.1 (show 0 ≤ -w by omega)
          rw [Int.neg_mul, Int.neg_mul] at this
          omega
        omega
      · exact q
    · rcases Int.lt_or_le 1000000000 w with q | q
      · have h3 : w * 1 ≤ w * d := Int.mul_le_mul_of_nonneg_left hd.1 (by omega)
        omega
      · exact q
  refine ⟨⟨fun c hc => small _ _ (e c hc) (hin.1 c hc), ?_⟩, fun x h => ?_⟩
  · show -1000000000000 ≤ lce (5 * a + 4) / d ∧ lce (5 * a + 4) / d ≤ 1000000000000
    have h4 : -1000000000000 ≤ lce (5 * a + 4) ∧ lce (5 * a + 4) ≤ 1000000000000 := hin.2
    constructor
    · rw [Int.le_ediv_iff_mul_le (by omega)]
      have := Int.mul_le_mul_of_nonneg_left hd.1 (show (0 : Int) ≤ 1000000000000 by omega)
      rw [Int.neg_mul]
      omega
    · have h5 : lce (5 * a + 4) / d < 1000000000001 := by
        rw [Int.ediv_lt_iff_lt_mul (by omega)]
        have := Int.mul_le_mul_of_nonneg_left hd.1 (show (0 : Int) ≤ 1000000000001 by omega)
        omega
      omega
  · show xl_sum (xl_div lce a d) x ≤ lce (5 * a + 4) / d
    rw [Int.le_ediv_iff_mul_le (by omega)]
    have es : xl_sum (xl_div lce a d) x * d = xl_sum (xl_at lce a) x := by
      have e0 : lce (5 * a + 0) = xl_div lce a d 0 * d := e 0 (by omega)
      have e1 := e 1 (by omega)
      have e2 := e 2 (by omega)
      have e3 := e 3 (by omega)
      unfold xl_sum xl_at
      rw [e0, e1, e2, e3]
      simp only [Int.add_mul]
      rw [Int.mul_right_comm (xl_div lce a d 0), Int.mul_right_comm (xl_div lce a d 1), Int.mul_right_comm (xl_div lce a d 2), Int.mul_right_comm (xl_div lce a d 3)]
    rw [es]
    exact h
/-- a split is opened -/
theorem xv_split {n nl ns w : Nat} {q : Int} {rce lce lsp mli msw msa msc msl ce sp li sw sa sc sl : Nat → Int} (hL : xv_L nl ns lce lsp mli msw msa msc msl) (hS : xv_S n rce nl ns lce lsp) (hw : w < 4) (hq : -16 ≤ q ∧ q ≤ 15) (hns : ns < 10) (hnl : nl < 200) (h1 : xl_new nl lce ce (xl_word w 1 q)) (h2 : xl_new nl mli li (xl_word w 1 q)) (s0 : ∀ j, j < 4 * ns → sp j = lsp j) (s1 : sp (4 * ns) = (w : Int)) (s2 : sp (4 * ns + 1) = q) (s3 : sp (4 * ns + 2) = 1) (s4 : sp (4 * ns + 3) = (nl : Int))
    (t0 : ∀ j, j ≠ ns → sw j = msw j ∧ sa j = msa j ∧ sc j = msc j ∧ sl j = msl j) (t1 : sw ns = (w : Int)) (t2 : sa ns = q) (t3 : sc ns = 1) (t4 : sl ns = (nl : Int)) : xv_L (nl + 1) (ns + 1) ce sp li sw sa sc sl ∧ xv_S n rce (nl + 1) (ns + 1) ce sp := by
  have hL1 := xv_L_new hL hnl h1 h2 (xl_word_in hw (Or.inl rfl) ⟨by omega, by omega⟩)
  obtain ⟨a1, a2, a3, a4, a5, a6, a7⟩ := hL1
  obtain ⟨-, -, -, b4, -, -, -⟩ := hL
  have old : ∀ s, s < ns → sp (4 * s) = lsp (4 * s) ∧ sp (4 * s + 1) = lsp (4 * s + 1) ∧ sp (4 * s + 2) = lsp (4 * s + 2) ∧ sp (4 * s + 3) = lsp (4 * s + 3) := fun s hs => ⟨s0 _ (by omega), s0 _ (by omega), s0 _ (by omega), s0 _ (by omega)⟩
  have oc : ∀ s, s < ns → ∀ x, (xl_cs sp s x ↔ xl_cs lsp s x) := fun s hs x => by
    obtain ⟨e1, e2, e3, -⟩ := old s hs
    unfold xl_cs
    rw [e1, e2, e3]
  refine ⟨⟨a1, a2, ⟨by omega, fun s hs => ?_⟩, fun s hs => ?_, fun s z hsz hz => ?_, a6, fun s hs => ?_⟩, fun x hx k hk hc => ?_, fun x hx s hs hall hno => ?_⟩
  · by_cases e : s = ns
    · subst e; rw [s1, s2, s3, s4]; omega
    · obtain ⟨e1, e2, e3, e4⟩ := old s (by omega)
      rw [e1, e2, e3, e4]; exact a3.2 s (by omega)
  · by_cases e : s = ns
    · subst e; rw [s4]; omega
    · rw [(old s (by omega)).2.2.2]; exact a4 s (by omega)
  · rw [(old s (by omega)).2.2.2]
    by_cases e : z = ns
    · subst e; rw [s4]; exact b4 s (by omega)
    · rw [(old z (by omega)).2.2.2]; exact a5 s z hsz (by omega)
  · by_cases e : s = ns
    · subst e; rw [s1, s2, s3, s4, t1, t2, t3, t4]; exact ⟨rfl, rfl, rfl, rfl⟩
    · obtain ⟨e1, e2, e3, e4⟩ := old s (by omega)
      obtain ⟨f1, f2, f3, f4⟩ := t0 s e
      rw [e1, e2, e3, e4, f1, f2, f3, f4]; exact a7 s (by omega)
  · rcases Nat.lt_or_ge k nl with z | z
    · rw [(xl_at_old h1 z x).1, (xl_at_old h1 z x).2]
      refine hS.1 x hx k z (fun s hs hb => (oc s hs x).mp (hc s (by omega) ?_))
      rw [(old s hs).2.2.2]; exact hb
    · have e : k = nl := by omega
      subst e
      rw [(xl_at_new h1 x).1, (xl_at_new h1 x).2, (xl_word_sum hw 1 q x).1]
      have hcn := hc ns (by omega) (by rw [s4]; omega)
      unfold xl_cs xl_ca at hcn
      rw [s1, s2, s3, Int.toNat_natCast] at hcn
      have := hcn.1 rfl
      show 1 * x w ≤ q
      omega
  · by_cases e : s = ns
    · rw [e]; exact s3
    · rw [(old s (by omega)).2.2.1]
      exact hS.2 x hx s (by omega) (fun z hz => (oc z (by omega) x).mp (hall z hz)) (fun z => hno ((oc s (by omega) x).mpr z))
/-- a line that closes is no line of a solution's branch -/
theorem xl_con_no {n nl ns i : Nat} {rce lce lsp x : Nat → Int} (hS : xv_S n rce nl ns lce lsp) (hi : i < nl) (hc : xl_con lce i) (hx : xv_So n rce x) : ¬ ∀ s, s < ns → xl_cs lsp s x := fun h => by
  have := hS.1 x hx i hi (fun s hs _ => h s hs)
  have e : xl_sum (xl_at lce i) x = 0 := by
    have e0 : lce (5 * i + 0) = 0 := hc.1 0 (by omega)
    unfold xl_sum xl_at
    rw [e0, hc.1 1 (by omega), hc.1 2 (by omega), hc.1 3 (by omega)]
    simp
  rw [e] at this
  have := hc.2
  omega
/-- a case two begins -/
theorem xv_case {n nl ns i s bf w : Nat} {rce lce lsp mli msw msa msc msl ce sp li sc : Nat → Int} (hL : xv_L nl ns lce lsp mli msw msa msc msl) (hS : xv_S n rce nl ns lce lsp) (hi : i < nl) (hcon : xl_con lce i) (hs : s < ns) (h1 : lsp (4 * s + 2) = 1) (hz : ∀ z, s < z → z < ns → lsp (4 * z + 2) = 2) (hbf : lsp (4 * s + 3) = (bf : Int)) (hw : lsp (4 * s) = (w : Int))
    (n1 : xl_new bf lce ce (xl_word w (-1) (-lsp (4 * s + 1) - 1))) (n2 : xl_new bf mli li (xl_word w (-1) (-lsp (4 * s + 1) - 1))) (p0 : ∀ j, j ≠ 4 * s + 2 → sp j = lsp j) (p1 : sp (4 * s + 2) = 2) (q0 : ∀ j, j ≠ s → sc j = msc j) (q1 : sc s = 2) : xv_L (bf + 1) (s + 1) ce sp li msw msa sc msl ∧ xv_S n rce (bf + 1) (s + 1) ce sp := by
  obtain ⟨a1, a2, a3, a4, a5, a6, a7⟩ := hL
  have hb := a4 s hs
  obtain ⟨o1, o2, o3, o4⟩ := a3.2 s hs
  have hw4 : w < 4 := by omega
  have hLb : xv_L bf 0 lce lsp mli msw msa msc msl := ⟨by omega, fun k hk => a2 k (by omega), ⟨by omega, fun s hs => absurd hs (by omega)⟩, fun s hs => absurd hs (by omega), fun s z _ hz => absurd hz (by omega), fun j hj => a6 j (by omega), fun s hs => absurd hs (by omega)⟩
  obtain ⟨c1, c2, -, -, -, c6, -⟩ := xv_L_new hLb (by omega) n1 n2 (xl_word_in hw4 (Or.inr rfl) ⟨by omega, by omega⟩)
  have old : ∀ z, z < s → sp (4 * z) = lsp (4 * z) ∧ sp (4 * z + 1) = lsp (4 * z + 1) ∧ sp (4 * z + 2) = lsp (4 * z + 2) ∧ sp (4 * z + 3) = lsp (4 * z + 3) := fun z hz => ⟨p0 _ (by omega), p0 _ (by omega), p0 _ (by omega), p0 _ (by omega)⟩
  have oc : ∀ z, z < s → ∀ x, (xl_cs sp z x ↔ xl_cs lsp z x) := fun z hz x => by
    obtain ⟨e1, e2, e3, -⟩ := old z hz
    unfold xl_cs
    rw [e1, e2, e3]
  have new : sp (4 * s) = (w : Int) ∧ sp (4 * s + 1) = lsp (4 * s + 1) ∧ sp (4 * s + 3) = (bf : Int) := ⟨by rw [p0 _ (by omega), hw], p0 _ (by omega), by rw [p0 _ (by omega), hbf]⟩
  refine ⟨⟨c1, c2, ⟨by have := a3.1; omega, fun z hz => ?_⟩, fun z hz => ?_, fun y z hyz hz => ?_, c6, fun z hz => ?_⟩, fun x hx k hk hc => ?_, fun x hx z hz9 hall hno => ?_⟩
  · by_cases e : z = s
    · subst e; rw [new.1, new.2.1, new.2.2, p1]; omega
    · obtain ⟨e1, e2, e3, e4⟩ := old z (by omega)
      rw [e1, e2, e3, e4]; exact a3.2 z (by omega)
  · by_cases e : z = s
    · subst e; rw [new.2.2]; omega
    · rw [(old z (by omega)).2.2.2]
      have := a5 z s (by omega) hs
      omega
  · rw [(old y (by omega)).2.2.2]
    by_cases e : z = s
    · subst e; rw [p0 _ (by omega)]; exact a5 y z hyz hs
    · rw [(old z (by omega)).2.2.2]; exact a5 y z hyz (by omega)
  · obtain ⟨f1, f2, f3, f4⟩ := a7 z (by omega)
    by_cases e : z = s
    · subst e
      rw [q1, p1, f1, f2, f4, p0 _ (by omega), p0 _ (by omega), p0 _ (by omega)]
      exact ⟨rfl, rfl, rfl, rfl⟩
    · obtain ⟨e1, e2, e3, e4⟩ := old z (by omega)
      rw [e1, e2, e3, e4, q0 z e]
      exact ⟨f1, f2, f3, f4⟩
  · rcases Nat.lt_or_ge k bf with q | q
    · rw [(xl_at_old n1 q x).1, (xl_at_old n1 q x).2]
      refine hS.1 x hx k (by omega) (fun z hz2 hb2 => ?_)
      rcases Nat.lt_trichotomy z s with y | y | y
      · exact (oc z y x).mp (hc z (by omega) (by rw [(old z y).2.2.2]; exact hb2))
      · subst y; omega
      · have := a5 s z y hz2; omega
    · have e : k = bf := by omega
      subst e
      rw [(xl_at_new n1 x).1, (xl_at_new n1 x).2, (xl_word_sum hw4 _ _ x).1]
      have hcn := hc s (by omega) (by rw [new.2.2]; omega)
      unfold xl_cs xl_ca at hcn
      rw [new.1, new.2.1, p1, Int.toNat_natCast] at hcn
      have := hcn.2 (by omega)
      show -1 * x w ≤ -lsp (4 * s + 1) - 1
      omega
  · by_cases e : z = s
    · subst e
      -- x is in case one of this split, so in the branch that was closed
      exfalso
      have hin : xl_cs lsp z x := by
        unfold xl_cs xl_ca at hno ⊢
        rw [new.1, new.2.1, p1, Int.toNat_natCast] at hno
        rw [hw, h1, Int.toNat_natCast]
        refine ⟨fun _ => ?_, fun y => absurd rfl y⟩
        rcases Int.lt_or_le (lsp (4 * z + 1)) (x w) with y | y
        · exact absurd ⟨fun q => absurd q (by omega), fun _ => y⟩ hno
        · exact y
      have allin : ∀ t y : Nat, y ≤ z + t → y < ns → xl_cs lsp y x := by
        intro t
        induction t with
        | zero =>
          intro y hy hy2
          rcases Nat.lt_or_ge y z with q | q
          · exact (oc y q x).mp (hall y q)
          · rw [show y = z by omega]; exact hin
        | succ t ih =>
          intro y hy hy2
          rcases Nat.lt_or_ge y (z + t + 1) with q | q
          · exact ih y (by omega) hy2
          · rcases Classical.em (xl_cs lsp y x) with c | c
            · exact c
            · have := hS.2 x hx y hy2 (fun u hu => ih u (by omega) (by omega)) c
              have := hz y (by omega) hy2
              omega
      exact xl_con_no hS hi hcon hx (fun y hy => allin ns y (by omega) hy)
    · rw [(old z (by omega)).2.2.1]
      exact hS.2 x hx z (by omega) (fun y hy => (oc y (by omega) x).mp (hall y hy)) (fun y => hno ((oc z (by omega) x).mpr y))
/-- all splits are gone: the log is whole -/
theorem xv_L_cut {nl ns : Nat} {lce lsp mli msw msa msc msl : Nat → Int} (hL : xv_L nl ns lce lsp mli msw msa msc msl) : (∃ m : Nat, m ≤ nl ∧ (if ns = 0 then (nl : Int) else lsp 3) = (m : Int) ∧ (if ns = 0 then (nl : Int) else msl 0) = (m : Int) ∧ xv_L m 0 lce lsp mli msw msa msc msl) := by
  obtain ⟨a1, a2, a3, a4, a5, a6, a7⟩ := hL
  have mk : ∀ m : Nat, m ≤ nl → xv_L m 0 lce lsp mli msw msa msc msl := fun m hm => ⟨by omega, fun k hk => a2 k (by omega), ⟨by omega, fun s hs => absurd hs (by omega)⟩, fun s hs => absurd hs (by omega), fun s z _ hz => absurd hz (by omega), fun j hj => a6 j (by omega), fun s hs => absurd hs (by omega)⟩
  by_cases e : ns = 0
  · rw [if_pos e, if_pos e]; exact ⟨nl, Nat.le_refl nl, rfl, rfl, mk nl (Nat.le_refl nl)⟩
  · rw [if_neg e, if_neg e]
    have h4 : lsp 3 < (nl : Int) := a4 0 (by omega)
    have h3 : 0 ≤ lsp 3 ∧ lsp 3 < 200 := (a3.2 0 (by omega)).2.2.2
    have h7 : msl 0 = lsp 3 := (a7 0 (by omega)).2.2.2
    refine ⟨(lsp 3).toNat, by omega, by omega, by rw [h7]; omega, mk _ (by omega)⟩
theorem xv_L_0 (lce lsp mli msw msa msc msl : Nat → Int) : xv_L 0 0 lce lsp mli msw msa msc msl := ⟨by omega, fun k hk => absurd hk (by omega), ⟨by omega, fun s hs => absurd hs (by omega)⟩, fun s hs => absurd hs (by omega), fun s z _ hz => absurd hz (by omega), fun j hj => absurd hj (by omega), fun s hs => absurd hs (by omega)⟩
theorem xv_S_0 (n : Nat) (rce lce lsp : Nat → Int) : xv_S n rce 0 0 lce lsp := ⟨fun x _ k hk => absurd hk (by omega), fun x _ s hs => absurd hs (by omega)⟩
