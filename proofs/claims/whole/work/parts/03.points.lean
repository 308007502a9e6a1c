/-! THE POINTS: the 31^4 points in the document's order, by a code; counts; what a search that has come to code N must know. -/
def xm_p (N : Nat) : Nat → Int
  | 0 => ((N / 29791 % 31 : Nat) : Int) - 15
  | 1 => ((N / 961 % 31 : Nat) : Int) - 15
  | 2 => ((N / 31 % 31 : Nat) : Int) - 15
  | _ => ((N % 31 : Nat) : Int) - 15
theorem xm_p_in (N w : Nat) : -15 ≤ xm_p N w ∧ xm_p N w ≤ 15 := by
  match w with
  | 0 => simp only [xm_p]; omega
  | 1 => simp only [xm_p]; omega
  | 2 => simp only [xm_p]; omega
  | _ + 3 => simp only [xm_p]; omega
/-- the code of a point -/
def xm_k (x : Nat → Int) : Nat := ((x 0 + 15) * 29791 + (x 1 + 15) * 961 + (x 2 + 15) * 31 + (x 3 + 15)).toNat
def xm_c (P : Nat → Bool) : Nat → Nat
  | 0 => 0
  | n + 1 => xm_c P n + (if P n = true then 1 else 0)
theorem xm_c_le (P : Nat → Bool) (n : Nat) : xm_c P n ≤ n := by
  induction n with
  | zero => exact Nat.le_refl 0
  | succ n ih => show xm_c P n + (if P n = true then 1 else 0) ≤ n + 1; split <;> omega
theorem xm_c_none {P : Nat → Bool} {a : Nat} (k : Nat) (h : ∀ M, a ≤ M → M < a + k → P M = false) : xm_c P (a + k) = xm_c P a := by
  induction k with
  | zero => rfl
  | succ k ih =>
    show xm_c P (a + k) + (if P (a + k) = true then 1 else 0) = _
    rw [ih (fun M h1 h2 => h M h1 (by omega)), h (a + k) (by omega) (by omega)]
    simp
theorem xm_c_all {P : Nat → Bool} {a : Nat} (k : Nat) (h : ∀ M, a ≤ M → M < a + k → P M = true) : xm_c P (a + k) = xm_c P a + k := by
  induction k with
  | zero => rfl
  | succ k ih =>
    show xm_c P (a + k) + (if P (a + k) = true then 1 else 0) = _
    rw [ih (fun M h1 h2 => h M h1 (by omega)), h (a + k) (by omega) (by omega)]
    simp; omega
theorem xm_c_zero {P : Nat → Bool} {n : Nat} (h : xm_c P n = 0) : ∀ M, M < n → P M = false := by
  induction n with
  | zero => intro M h; omega
  | succ n ih =>
    intro M hM
    have e : xm_c P n + (if P n = true then 1 else 0) = 0 := h
    cases hp : P n with
    | false =>
      rcases Nat.lt_or_ge M n with q | q
      · exact ih (by omega) M q
      · rw [show M = n by omega, hp]
    | true => rw [hp] at e; simp at e
/-- what is known of the first solution when all codes below N have been looked at -/
def xm_F (P : Nat → Bool) (N : Nat) (fo : Int) (ff : Nat → Int) : Prop :=
  (fo = 0 ∧ ∀ M, M < N → P M = false) ∨ (0 < fo ∧ ∃ M, M < 923521 ∧ P M = true ∧ (∀ K, K < M → P K = false) ∧ ∀ w, w < 4 → ff w = xm_p M w)
def xm_A (P : Nat → Bool) (N : Nat) (fo : Int) (lf gf : Nat → Int) : Prop :=
  fo = (xm_c P N : Int) ∧ (0 < fo → ∀ w, w < 4 → (∃ M, M < N ∧ P M = true ∧ xm_p M w = lf w) ∧ (∃ M, M < N ∧ P M = true ∧ xm_p M w = gf w) ∧ ∀ M, M < N → P M = true → lf w ≤ xm_p M w ∧ xm_p M w ≤ gf w)
def xm_G (P : Nat → Bool) (N : Nat) (oe fo : Int) (ff lf gf : Nat → Int) : Prop :=
  0 ≤ fo ∧ fo ≤ 923521 ∧ xm_F P N fo ff ∧ (oe = 0 → xm_A P N fo lf gf)
theorem xm_G_skip {P : Nat → Bool} {N N2 : Nat} {oe fo : Int} {ff lf gf : Nat → Int} (g : xm_G P N oe fo ff lf gf) (hN : N ≤ N2) (h : ∀ M, N ≤ M → M < N2 → P M = false) : xm_G P N2 oe fo ff lf gf := by
  obtain ⟨g1, g2, g3, g4⟩ := g
  have hc : xm_c P N2 = xm_c P N := by
    have e := xm_c_none (P := P) (a := N) (N2 - N) (fun M h1 h2 => h M h1 (by omega))
    rw [show N + (N2 - N) = N2 by omega] at e
    exact e
  have hl : ∀ M, M < N2 → P M = true → M < N := fun M h1 h2 => by
    rcases Nat.lt_or_ge M N with q | q
    · exact q
    · rw [h M q h1] at h2; cases h2
  refine ⟨g1, g2, ?_, fun ho => ?_⟩
  · rcases g3 with ⟨q1, q2⟩ | q
    · refine Or.inl ⟨q1, fun M hM => ?_⟩
      rcases Nat.lt_or_ge M N with q | q
      · exact q2 M q
      · exact h M q hM
    · exact Or.inr q
  · obtain ⟨a1, a2⟩ := g4 ho
    refine ⟨by rw [a1, hc], fun hp w hw => ?_⟩
    obtain ⟨⟨M, b1, b2, b3⟩, ⟨K, c1, c2, c3⟩, b4⟩ := a2 hp w hw
    exact ⟨⟨M, by omega, b2, b3⟩, ⟨K, by omega, c2, c3⟩, fun M h1 h2 => b4 M (hl M h1 h2) h2⟩
theorem xm_G_done {P : Nat → Bool} {N N2 : Nat} {oe fo : Int} {ff lf gf : Nat → Int} (g : xm_G P N oe fo ff lf gf) (ho : ¬ oe = 0) (hp : 0 < fo) : xm_G P N2 oe fo ff lf gf := by
  obtain ⟨g1, g2, g3, g4⟩ := g
  refine ⟨g1, g2, ?_, fun h => absurd h ho⟩
  rcases g3 with ⟨q1, q2⟩ | q
  · omega
  · exact Or.inr q
/-- a block of codes, all of them solutions -/
theorem xm_G_block {P : Nat → Bool} {a k : Nat} {oe fo : Int} {ff lf gf lo hi ff2 lf2 gf2 : Nat → Int} (g : xm_G P a oe fo ff lf gf) (hk : 0 < k) (hb : a + k ≤ 923521) (hoe : ¬ oe = 0 → fo = 0) (hall : ∀ M, a ≤ M → M < a + k → P M = true)
    (hlo : ∀ w, w < 4 → xm_p a w = lo w) (hhi : ∀ w, w < 4 → ∃ M, a ≤ M ∧ M < a + k ∧ xm_p M w = hi w) (hin : ∀ w, w < 4 → ∀ M, a ≤ M → M < a + k → lo w ≤ xm_p M w ∧ xm_p M w ≤ hi w)
    (h0 : fo = 0 → ∀ w, w < 4 → ff2 w = lo w ∧ lf2 w = lo w ∧ gf2 w = hi w)
    (h1 : ¬ fo = 0 → ∀ w, w < 4 → ff2 w = ff w ∧ lf2 w = (if lo w < lf w then lo w else lf w) ∧ gf2 w = (if gf w < hi w then hi w else gf w)) : xm_G P (a + k) oe (fo + k) ff2 lf2 gf2 := by
  obtain ⟨g1, g2, g3, g4⟩ := g
  have hc : fo ≤ a := by
    by_cases ho : oe = 0
    · have := (g4 ho).1
      have := xm_c_le P a
      omega
    · have := hoe ho; omega
  refine ⟨by omega, by omega, ?_, fun ho => ?_⟩
  · refine Or.inr ⟨by omega, ?_⟩
    rcases g3 with ⟨q1, q2⟩ | ⟨q, M, q1, q2, q3, q4⟩
    · exact ⟨a, by omega, hall a (Nat.le_refl a) (by omega), q2, fun w hw => by rw [(h0 q1 w hw).1, hlo w hw]⟩
    · exact ⟨M, q1, q2, q3, fun w hw => by rw [(h1 (by omega) w hw).1, q4 w hw]⟩
  · obtain ⟨a1, a2⟩ := g4 ho
    refine ⟨by rw [xm_c_all k hall, a1]; omega, fun _ w hw => ?_⟩
    obtain ⟨H, e1, e2, e3⟩ := hhi w hw
    have hi0 := hin w hw
    by_cases hf : fo = 0
    · obtain ⟨b1, b2, b3⟩ := h0 hf w hw
      have hz := xm_c_zero (P := P) (n := a) (by omega)
      rw [b2, b3]
      refine ⟨⟨a, by omega, hall a (Nat.le_refl a) (by omega), hlo w hw⟩, ⟨H, by omega, hall H e1 (by omega), e3⟩, fun M m1 m2 => ?_⟩
      rcases Nat.lt_or_ge M a with q | q
      · rw [hz M q] at m2; cases m2
      · exact hi0 M q m1
    · obtain ⟨b1, b2, b3⟩ := h1 hf w hw
      obtain ⟨⟨M1, c1, c2, c3⟩, ⟨M2, d1, d2, d3⟩, c4⟩ := a2 (by omega) w hw
      rw [b2, b3]
      refine ⟨?_, ?_, fun M m1 m2 => ?_⟩
      · split
        · exact ⟨a, by omega, hall a (Nat.le_refl a) (by omega), hlo w hw⟩
        · exact ⟨M1, by omega, c2, c3⟩
      · split
        · exact ⟨H, by omega, hall H e1 (by omega), e3⟩
        · exact ⟨M2, by omega, d2, d3⟩
      · rcases Nat.lt_or_ge M a with q | q
        · have := c4 M q m2
          refine ⟨?_, ?_⟩ <;> split <;> omega
        · have := hi0 M q m1
          refine ⟨?_, ?_⟩ <;> split <;> omega
