/-! tryWord: from the first code of its block to the code behind it. -/
def xm_q (d : Nat) : Nat := match d with
  | 0 => 923521
  | 1 => 29791
  | 2 => 961
  | 3 => 31
  | _ => 1
theorem xm_qs {d : Nat} (hd : d < 4) : xm_q d = 31 * xm_q (d + 1) := by
  match d, hd with
  | 0, _ => rfl
  | 1, _ => rfl
  | 2, _ => rfl
  | 3, _ => rfl
/-- the first code of the block of the words below d -/
def xm_b (v : Nat → Int) : Nat → Nat
  | 0 => 0
  | d + 1 => xm_b v d + (v d + 15).toNat * xm_q (d + 1)
theorem xm_b_cg {v w : Nat → Int} (d : Nat) (h : ∀ j, j < d → v j = w j) : xm_b v d = xm_b w d := by
  induction d with
  | zero => rfl
  | succ d ih => show xm_b v d + _ = xm_b w d + _; rw [ih (fun j hj => h j (by omega)), h d (by omega)]
/-- the words of a code in the block -/
theorem xm_b_p {v : Nat → Int} {d : Nat} (hd : d ≤ 4) (hv : ∀ w, w < d → -15 ≤ v w ∧ v w ≤ 15) {r : Nat} (hr : r < xm_q d) : (∀ w, w < d → xm_p (xm_b v d + r) w = v w) ∧ xm_b v d + xm_q d ≤ 923521 := by
  match d, hd with
  | 0, _ => exact ⟨fun w hw => absurd hw (by omega), by simp only [xm_b, xm_q]; omega⟩
  | 1, _ =>
    have h0 := hv 0 (by omega)
    simp only [xm_b, xm_q] at hr ⊢
    refine ⟨fun w hw => ?_, by omega⟩
    match w, hw with
    | 0, _ => simp only [xm_p]; omega
  | 2, _ =>
    have h0 := hv 0 (by omega)
    have h1 := hv 1 (by omega)
    simp only [xm_b, xm_q] at hr ⊢
    refine ⟨fun w hw => ?_, by omega⟩
    match w, hw with
    | 0, _ => simp only [xm_p]; omega
    | 1, _ => simp only [xm_p]; omega
  | 3, _ =>
    have h0 := hv 0 (by omega)
    have h1 := hv 1 (by omega)
    have h2 := hv 2 (by omega)
    simp only [xm_b, xm_q] at hr ⊢
    refine ⟨fun w hw => ?_, by omega⟩
    match w, hw with
    | 0, _ => simp only [xm_p]; omega
    | 1, _ => simp only [xm_p]; omega
    | 2, _ => simp only [xm_p]; omega
  | 4, _ =>
    have h0 := hv 0 (by omega)
    have h1 := hv 1 (by omega)
    have h2 := hv 2 (by omega)
    have h3 := hv 3 (by omega)
    simp only [xm_b, xm_q] at hr ⊢
    refine ⟨fun w hw => ?_, by omega⟩
    match w, hw with
    | 0, _ => simp only [xm_p]; omega
    | 1, _ => simp only [xm_p]; omega
    | 2, _ => simp only [xm_p]; omega
    | 3, _ => simp only [xm_p]; omega
/-- a code in the block has a value of word d, and lies in that value's part -/
theorem xm_b_in {v : Nat → Int} {d : Nat} (hd : d < 4) (hv : ∀ w, w < d → -15 ≤ v w ∧ v w ≤ 15) {r : Nat} (hr : r < xm_q d) : xm_p (xm_b v d + r) d = ((r / xm_q (d + 1) : Nat) : Int) - 15 := by
  match d, hd with
  | 0, _ =>
    simp only [xm_b, xm_q] at hr ⊢
    simp only [xm_p]; omega
  | 1, _ =>
    have h0 := hv 0 (by omega)
    simp only [xm_b, xm_q] at hr ⊢
    simp only [xm_p]; omega
  | 2, _ =>
    have h0 := hv 0 (by omega)
    have h1 := hv 1 (by omega)
    simp only [xm_b, xm_q] at hr ⊢
    simp only [xm_p]; omega
  | 3, _ =>
    have h0 := hv 0 (by omega)
    have h1 := hv 1 (by omega)
    have h2 := hv 2 (by omega)
    simp only [xm_b, xm_q] at hr ⊢
    simp only [xm_p]; omega
/-- the block of the values fr d .. to d of word d, with all values of the later words -/
theorem xm_blk {v fr to_ : Nat → Int} {d : Nat} (hd : d < 4) (hv : ∀ w, w < d → -15 ≤ v w ∧ v w ≤ 15) (hf : -15 ≤ fr d ∧ fr d ≤ to_ d ∧ to_ d ≤ 15) {A K : Nat} (eA : A = xm_b v d + (fr d + 15).toNat * xm_q (d + 1)) (eK : K = (to_ d - fr d + 1).toNat * xm_q (d + 1)) :
    xs_mm (xs_lo d fr v) (xs_hi d to_ v) 4 = (K : Int) ∧ 0 < K ∧ A + K ≤ xm_b v d + xm_q d ∧ (∀ w, w < 4 → xm_p A w = xs_lo d fr v w) ∧ (∀ w, w < 4 → xm_p (A + K - 1) w = xs_hi d to_ v w) ∧ ∀ w, w < 4 → ∀ M, A ≤ M → M < A + K → xs_lo d fr v w ≤ xm_p M w ∧ xm_p M w ≤ xs_hi d to_ v w := by
  match d, hd with
  | 0, _ =>
    simp only [xm_b, xm_q] at eA eK ⊢
    have e4 : xs_mm (xs_lo 0 fr v) (xs_hi 0 to_ v) 4 = (((1 * ((to_ 0 - fr 0) + 1)) * ((15 - (-15)) + 1)) * ((15 - (-15)) + 1)) * ((15 - (-15)) + 1) := rfl
    refine ⟨?_, by omega, by omega, fun w hw => ?_, fun w hw => ?_, fun w hw M m1 m2 => ?_⟩
    · rw [e4]
      omega
    · match w, hw with
      | 0, _ => show ((A / 29791 % 31 : Nat) : Int) - 15 = fr 0; omega
      | 1, _ => show ((A / 961 % 31 : Nat) : Int) - 15 = (-15); omega
      | 2, _ => show ((A / 31 % 31 : Nat) : Int) - 15 = (-15); omega
      | 3, _ => show ((A % 31 : Nat) : Int) - 15 = (-15); omega
    · match w, hw with
      | 0, _ => show (((A + K - 1) / 29791 % 31 : Nat) : Int) - 15 = to_ 0; omega
      | 1, _ => show (((A + K - 1) / 961 % 31 : Nat) : Int) - 15 = 15; omega
      | 2, _ => show (((A + K - 1) / 31 % 31 : Nat) : Int) - 15 = 15; omega
      | 3, _ => show (((A + K - 1) % 31 : Nat) : Int) - 15 = 15; omega
    · match w, hw with
      | 0, _ => show fr 0 ≤ ((M / 29791 % 31 : Nat) : Int) - 15 ∧ ((M / 29791 % 31 : Nat) : Int) - 15 ≤ to_ 0; omega
      | 1, _ => show (-15) ≤ ((M / 961 % 31 : Nat) : Int) - 15 ∧ ((M / 961 % 31 : Nat) : Int) - 15 ≤ 15; omega
      | 2, _ => show (-15) ≤ ((M / 31 % 31 : Nat) : Int) - 15 ∧ ((M / 31 % 31 : Nat) : Int) - 15 ≤ 15; omega
      | 3, _ => show (-15) ≤ ((M % 31 : Nat) : Int) - 15 ∧ ((M % 31 : Nat) : Int) - 15 ≤ 15; omega
  | 1, _ =>
    have h0 := hv 0 (by omega)
    simp only [xm_b, xm_q] at eA eK ⊢
    have e4 : xs_mm (xs_lo 1 fr v) (xs_hi 1 to_ v) 4 = (((1 * ((v 0 - v 0) + 1)) * ((to_ 1 - fr 1) + 1)) * ((15 - (-15)) + 1)) * ((15 - (-15)) + 1) := rfl
    refine ⟨?_, by omega, by omega, fun w hw => ?_, fun w hw => ?_, fun w hw M m1 m2 => ?_⟩
    · rw [e4]
      rw [show (v 0 - v 0) + 1 = 1 by omega]
      omega
    · match w, hw with
      | 0, _ => show ((A / 29791 % 31 : Nat) : Int) - 15 = v 0; omega
      | 1, _ => show ((A / 961 % 31 : Nat) : Int) - 15 = fr 1; omega
      | 2, _ => show ((A / 31 % 31 : Nat) : Int) - 15 = (-15); omega
      | 3, _ => show ((A % 31 : Nat) : Int) - 15 = (-15); omega
    · match w, hw with
      | 0, _ => show (((A + K - 1) / 29791 % 31 : Nat) : Int) - 15 = v 0; omega
      | 1, _ => show (((A + K - 1) / 961 % 31 : Nat) : Int) - 15 = to_ 1; omega
      | 2, _ => show (((A + K - 1) / 31 % 31 : Nat) : Int) - 15 = 15; omega
      | 3, _ => show (((A + K - 1) % 31 : Nat) : Int) - 15 = 15; omega
    · match w, hw with
      | 0, _ => show v 0 ≤ ((M / 29791 % 31 : Nat) : Int) - 15 ∧ ((M / 29791 % 31 : Nat) : Int) - 15 ≤ v 0; omega
      | 1, _ => show fr 1 ≤ ((M / 961 % 31 : Nat) : Int) - 15 ∧ ((M / 961 % 31 : Nat) : Int) - 15 ≤ to_ 1; omega
      | 2, _ => show (-15) ≤ ((M / 31 % 31 : Nat) : Int) - 15 ∧ ((M / 31 % 31 : Nat) : Int) - 15 ≤ 15; omega
      | 3, _ => show (-15) ≤ ((M % 31 : Nat) : Int) - 15 ∧ ((M % 31 : Nat) : Int) - 15 ≤ 15; omega
  | 2, _ =>
    have h0 := hv 0 (by omega)
    have h1 := hv 1 (by omega)
    simp only [xm_b, xm_q] at eA eK ⊢
    have e4 : xs_mm (xs_lo 2 fr v) (xs_hi 2 to_ v) 4 = (((1 * ((v 0 - v 0) + 1)) * ((v 1 - v 1) + 1)) * ((to_ 2 - fr 2) + 1)) * ((15 - (-15)) + 1) := rfl
    refine ⟨?_, by omega, by omega, fun w hw => ?_, fun w hw => ?_, fun w hw M m1 m2 => ?_⟩
    · rw [e4]
      rw [show (v 0 - v 0) + 1 = 1 by omega]
      rw [show (v 1 - v 1) + 1 = 1 by omega]
      omega
    · match w, hw with
      | 0, _ => show ((A / 29791 % 31 : Nat) : Int) - 15 = v 0; omega
      | 1, _ => show ((A / 961 % 31 : Nat) : Int) - 15 = v 1; omega
      | 2, _ => show ((A / 31 % 31 : Nat) : Int) - 15 = fr 2; omega
      | 3, _ => show ((A % 31 : Nat) : Int) - 15 = (-15); omega
    · match w, hw with
      | 0, _ => show (((A + K - 1) / 29791 % 31 : Nat) : Int) - 15 = v 0; omega
      | 1, _ => show (((A + K - 1) / 961 % 31 : Nat) : Int) - 15 = v 1; omega
      | 2, _ => show (((A + K - 1) / 31 % 31 : Nat) : Int) - 15 = to_ 2; omega
      | 3, _ => show (((A + K - 1) % 31 : Nat) : Int) - 15 = 15; omega
    · match w, hw with
      | 0, _ => show v 0 ≤ ((M / 29791 % 31 : Nat) : Int) - 15 ∧ ((M / 29791 % 31 : Nat) : Int) - 15 ≤ v 0; omega
      | 1, _ => show v 1 ≤ ((M / 961 % 31 : Nat) : Int) - 15 ∧ ((M / 961 % 31 : Nat) : Int) - 15 ≤ v 1; omega
      | 2, _ => show fr 2 ≤ ((M / 31 % 31 : Nat) : Int) - 15 ∧ ((M / 31 % 31 : Nat) : Int) - 15 ≤ to_ 2; omega
      | 3, _ => show (-15) ≤ ((M % 31 : Nat) : Int) - 15 ∧ ((M % 31 : Nat) : Int) - 15 ≤ 15; omega
  | 3, _ =>
    have h0 := hv 0 (by omega)
    have h1 := hv 1 (by omega)
    have h2 := hv 2 (by omega)
    simp only [xm_b, xm_q] at eA eK ⊢
    have e4 : xs_mm (xs_lo 3 fr v) (xs_hi 3 to_ v) 4 = (((1 * ((v 0 - v 0) + 1)) * ((v 1 - v 1) + 1)) * ((v 2 - v 2) + 1)) * ((to_ 3 - fr 3) + 1) := rfl
    refine ⟨?_, by omega, by omega, fun w hw => ?_, fun w hw => ?_, fun w hw M m1 m2 => ?_⟩
    · rw [e4]
      rw [show (v 0 - v 0) + 1 = 1 by omega]
      rw [show (v 1 - v 1) + 1 = 1 by omega]
      rw [show (v 2 - v 2) + 1 = 1 by omega]
      omega
    · match w, hw with
      | 0, _ => show ((A / 29791 % 31 : Nat) : Int) - 15 = v 0; omega
      | 1, _ => show ((A / 961 % 31 : Nat) : Int) - 15 = v 1; omega
      | 2, _ => show ((A / 31 % 31 : Nat) : Int) - 15 = v 2; omega
      | 3, _ => show ((A % 31 : Nat) : Int) - 15 = fr 3; omega
    · match w, hw with
      | 0, _ => show (((A + K - 1) / 29791 % 31 : Nat) : Int) - 15 = v 0; omega
      | 1, _ => show (((A + K - 1) / 961 % 31 : Nat) : Int) - 15 = v 1; omega
      | 2, _ => show (((A + K - 1) / 31 % 31 : Nat) : Int) - 15 = v 2; omega
      | 3, _ => show (((A + K - 1) % 31 : Nat) : Int) - 15 = to_ 3; omega
    · match w, hw with
      | 0, _ => show v 0 ≤ ((M / 29791 % 31 : Nat) : Int) - 15 ∧ ((M / 29791 % 31 : Nat) : Int) - 15 ≤ v 0; omega
      | 1, _ => show v 1 ≤ ((M / 961 % 31 : Nat) : Int) - 15 ∧ ((M / 961 % 31 : Nat) : Int) - 15 ≤ v 1; omega
      | 2, _ => show v 2 ≤ ((M / 31 % 31 : Nat) : Int) - 15 ∧ ((M / 31 % 31 : Nat) : Int) - 15 ≤ v 2; omega
      | 3, _ => show fr 3 ≤ ((M % 31 : Nat) : Int) - 15 ∧ ((M % 31 : Nat) : Int) - 15 ≤ to_ 3; omega
section TW
variable {sid sfo soe rsz rly : Int} {sfa sre sle spe spc sfr sto sva sff slf sgf rce rst : Nat → Int}
/-- what a call of tryWord(d) leaves as it was -/
def xs_T (d : Nat) (le0 pe0 pc0 fr0 to0 va0 le pe pc fr to_ va : Nat → Int) : Prop :=
  (∀ j, j < 32 * (d + 1) → le j = le0 j) ∧ (∀ j, j < 32 * (d + 1) → pe j = pe0 j) ∧ (∀ j, j ≤ d → pc j = pc0 j) ∧ ∀ j, j < d → fr j = fr0 j ∧ to_ j = to0 j ∧ va j = va0 j
theorem xs_Q_cg {m : Nat} {fa re b v v2 le le2 pe pe2 pc pc2 : Nat → Int} {d : Nat} {lo hi : Int} (hm : m ≤ 32) (h1 : ∀ j, j < 32 * (d + 1) → le2 j = le j) (h2 : ∀ j, j < 32 * (d + 2) → pe2 j = pe j) (h3 : pc2 (d + 1) = pc (d + 1)) (h4 : ∀ j, j < d → v2 j = v j) (h : xs_Q m fa re b v le pe pc d lo hi) : xs_Q m fa re b v2 le2 pe2 pc2 d lo hi := by
  obtain ⟨a1, a2, a3, a4⟩ := h
  have hs : ∀ s, xs_s fa v2 s d = xs_s fa v s d := fun s => xs_s_cg d h4
  unfold xs_Q
  rw [h3]
  refine ⟨a1, a2, fun q hq => ?_, fun s hs0 => ?_⟩
  · obtain ⟨s, s1, s2, s3, s4⟩ := a3 q hq
    refine ⟨s, s1, by rw [h2 _ (by omega), s2], by rw [h1 _ (by omega), s3, hs], fun u hu1 hu2 => by rw [h1 _ (by omega)]; exact s4 u hu1 hu2⟩
  · rw [hs]
    rcases a4 s hs0 with ⟨q, q1, q2⟩ | z
    · exact Or.inl ⟨q, q1, by rw [h2 _ (by omega), q2]⟩
    · exact Or.inr z
/-- no side can fail any more: every point of the block is a solution -/
theorem xs_all {m : Nat} {fa re b v le pe pc x : Nat → Int} {d : Nat} {lo hi : Int} (C : xs_C m fa re b) (hd : d < 4) (hQ : xs_Q m fa re b v le pe pc d lo hi) (h : d = 3 ∨ pc (d + 1) = 0) (hx : xs_Box x) (hv : ∀ w, w < d → x w = v w) (hu : lo ≤ x d ∧ x d ≤ hi) : xs_Sol m fa b x := by
  obtain ⟨a1, a2, a3, a4⟩ := hQ
  intro s hs
  have key : re (32 * d + s) ≤ b s - xs_s fa v s d → xs_s fa x s 4 ≤ b s := fun z => by
    have hr := xs_reach C hs hx (4 - d) (by omega)
    rw [show 4 - (4 - d) = d by omega, xs_s_cg d hv] at hr
    omega
  rcases a4 s hs with ⟨q, q1, q2⟩ | z
  · rcases h with e | e
    · obtain ⟨s1, b1, b2, b3, b4⟩ := a3 q q1
      have : s1 = s := by omega
      subst this
      have h5 := b4 (x d) hu.1 hu.2
      have h6 := (C.2 s1 hs).2.1
      rw [show 32 * d + s1 + 32 = 128 + s1 by omega, h6, b3] at h5
      have e5 : xs_s fa x s1 4 = xs_s fa x s1 3 + fa (32 * 3 + s1) * x 3 := rfl
      subst e
      rw [e5, xs_s_cg 3 hv]
      omega
    · omega
  · exact key z
theorem sp_try {m : Nat} {b : Nat → Int} {P : Nat → Bool} (C : xs_C m sfa sre b) (hP : ∀ N, P N = true ↔ xs_Sol m sfa b (xm_p N)) (hoe : soe = 0 ∨ soe = 1) : ∀ (j d : Nat), d + j = 4 → 1 ≤ j → ∀ (sfo : Int) (sle spe spc sfr sto sva sff slf sgf : Nat → Int) (post : Int → (Nat → Int) → (Nat → Int) → (Nat → Int) → (Nat → Int) → (Nat → Int) → (Nat → Int) → (Nat → Int) → (Nat → Int) → (Nat → Int) → Prop),
    xs_P m sfa sre b sva sle spe spc d → (∀ w, w < d → -15 ≤ sva w ∧ sva w ≤ 15) → xm_G P (xm_b sva d) soe sfo sff slf sgf → (¬ soe = 0 → sfo = 0) →
    (∀ fo le pe pc fr to_ va ff lf gf, xs_T d sle spe spc sfr sto sva le pe pc fr to_ va → xm_G P (xm_b sva d + xm_q d) soe fo ff lf gf → post fo le pe pc fr to_ va ff lf gf) →
    wp_X2_tryWord j post sid sfo soe sfa sre sle spe spc sfr sto sva sff slf sgf rsz rly rce rst (d : Int) := by
  intro j
  induction j with
  | zero => intro d _ h; omega
  | succ j ih =>
    intro d hdj _ sfo sle spe spc sfr sto sva sff slf sgf post hPd hv hG ho k
    have hd : d < 4 := by omega
    show bd_X2_tryWord (wp_X2_tryWord j) post sid sfo soe sfa sre sle spe spc sfr sto sva sff slf sgf rsz rly rce rst (d : Int)
    unfold bd_X2_tryWord
    refine ⟨⟨by omega, by omega⟩, fun h => absurd h (by omega), fun _ => ⟨fun _ => ?_, fun h => absurd (show (d : Int) < 4 by omega) h⟩⟩
    refine sp_narrow C hd hPd hv (fun pe pc fr to_ hR => ?_)
    obtain ⟨r1, r2, r3, r4, r5, r6, r7⟩ := hR
    rw [Int.toNat_natCast]
    have hqs := xm_qs hd
    have hq : 0 < xm_q (d + 1) := by
      match d, hd with
      | 0, _ => decide
      | 1, _ => decide
      | 2, _ => decide
      | 3, _ => decide
    have hskip : ∀ t1 t2 : Nat, t2 ≤ 31 → (∀ t : Nat, t1 ≤ t → t < t2 → (t : Int) - 15 < fr d ∨ to_ d < (t : Int) - 15) → ∀ M, xm_b sva d + t1 * xm_q (d + 1) ≤ M → M < xm_b sva d + t2 * xm_q (d + 1) → P M = false := by
      intro t1 t2 ht2 h M m1 m2
      cases hM : P M with
      | false => rfl
      | true =>
        obtain ⟨r, er⟩ : ∃ r, M = xm_b sva d + r := ⟨M - xm_b sva d, by omega⟩
        have hr2 : r < t2 * xm_q (d + 1) := by omega
        have hr1 : t1 * xm_q (d + 1) ≤ r := by omega
        have hr3 : t2 * xm_q (d + 1) ≤ 31 * xm_q (d + 1) := Nat.mul_le_mul_right _ ht2
        have hrq : r < xm_q d := by omega
        have e1 := xm_b_in hd hv hrq
        have e2 := (xm_b_p (by omega) hv hrq).1
        have e3 : t1 ≤ r / xm_q (d + 1) := (Nat.le_div_iff_mul_le hq).mpr hr1
        have e4 : r / xm_q (d + 1) < t2 := (Nat.div_lt_iff_lt_mul hq).mpr hr2
        rw [er] at hM
        have e5 := r6 (xm_p (xm_b sva d + r)) (fun w _ => xm_p_in _ w) e2 ((hP _).mp hM)
        rw [e1] at e5
        have := h _ e3 e4
        omega
    have hT : ∀ le2 pe2 pc2 fr2 to2 va2 : Nat → Int, (∀ j, j < 32 * (d + 1) → le2 j = sle j) → (∀ j, j < 32 * (d + 2) → pe2 j = pe j) → (∀ j, j ≤ d + 1 → pc2 j = pc j) → (∀ j, j ≤ d → fr2 j = fr j ∧ to2 j = to_ j) → (∀ j, j < d → va2 j = sva j) → xs_T d sle spe spc sfr sto sva le2 pe2 pc2 fr2 to2 va2 := by
      intro le2 pe2 pc2 fr2 to2 va2 f1 f2 f3 f4 f5
      refine ⟨f1, fun i hi => by rw [f2 i (by omega), r1 i hi], fun i hi => by rw [f3 i (by omega), r2 i hi], fun i hi => ⟨by rw [(f4 i (by omega)).1, r3 i (by omega)], by rw [(f4 i (by omega)).2, r4 i (by omega)], f5 i hi⟩⟩
    refine ⟨by omega, by omega, ⟨by omega, by omega⟩, ⟨by omega, by omega⟩, fun h1 => ?_, fun h1 => ?_⟩
    · have hQ := r7 h1
      have hfo : 0 ≤ sfo ∧ sfo ≤ 923521 := ⟨hG.1, hG.2.1⟩
      -- all values that are left are solutions
      have note : (d = 3 ∨ pc (d + 1) = 0) → wp_X2_noteSolutions (fun fo ff lf gf => post fo sle pe pc fr to_ sva ff lf gf) sid sfo soe sfa sre sle pe pc fr to_ sva sff slf sgf rsz rly rce rst (d : Int) := by
        intro h3
        obtain ⟨A, eA⟩ : ∃ A, A = xm_b sva d + (fr d + 15).toNat * xm_q (d + 1) := ⟨_, rfl⟩
        obtain ⟨K, eK⟩ : ∃ K, K = (to_ d - fr d + 1).toNat * xm_q (d + 1) := ⟨_, rfl⟩
        obtain ⟨b1, b2, b3, b4, b5, b6⟩ := xm_blk hd hv ⟨by omega, h1, by omega⟩ eA eK
        have hAK : A + K = xm_b sva d + (to_ d + 16).toNat * xm_q (d + 1) := by
          rw [eA, eK, Nat.add_assoc, ← Nat.add_mul]
          congr 2
          omega
        have hend := (xm_b_p (by omega) hv (show 0 < xm_q d by omega)).2
        refine sp_note hd hfo hv ⟨by omega, h1, by omega⟩ (fun hf w hw => ?_) (fun ff lf gf k1 k2 => ?_)
        · have hs0 : soe = 0 := by
            rcases hoe with q | q
            · exact q
            · exact absurd (ho (by omega)) hf
          obtain ⟨⟨M1, -, -, c1⟩, ⟨M2, -, -, c2⟩, -⟩ := (hG.2.2.2 hs0).2 (by omega) w hw
          have p1 := xm_p_in M1 w
          have p2 := xm_p_in M2 w
          rw [← c1, ← c2]
          exact ⟨⟨by omega, by omega⟩, ⟨by omega, by omega⟩⟩
        · rw [b1]
          refine k _ _ _ _ _ _ _ _ _ _ (hT sle pe pc fr to_ sva (fun _ _ => rfl) (fun _ _ => rfl) (fun _ _ => rfl) (fun _ _ => ⟨rfl, rfl⟩) (fun _ _ => rfl)) ?_
          have g1 : xm_G P A soe sfo sff slf sgf := xm_G_skip hG (by omega) (fun M m1 m2 => hskip 0 (fr d + 15).toNat (by omega) (fun t _ _ => Or.inl (by omega)) M (by omega) (by omega))
          have hall : ∀ M, A ≤ M → M < A + K → P M = true := by
            intro M m1 m2
            refine (hP M).mpr ?_
            obtain ⟨r, er⟩ : ∃ r, M = xm_b sva d + r := ⟨M - xm_b sva d, by omega⟩
            have hrq : r < xm_q d := by omega
            have e1 := xm_b_in hd hv hrq
            have e2 := (xm_b_p (by omega) hv hrq).1
            have e3 : (fr d + 15).toNat ≤ r / xm_q (d + 1) := (Nat.le_div_iff_mul_le hq).mpr (by omega)
            have e4 : r / xm_q (d + 1) < (to_ d + 16).toNat := (Nat.div_lt_iff_lt_mul hq).mpr (by omega)
            rw [er]
            exact xs_all C hd hQ h3 (fun w _ => xm_p_in _ w) e2 (by rw [e1]; omega)
          have g2 := xm_G_block (ff2 := ff) (lf2 := lf) (gf2 := gf) g1 b2 (by omega) ho hall b4 (fun w hw => ⟨A + K - 1, by omega, by omega, b5 w hw⟩) (fun w hw M m1 m2 => b6 w hw M m1 m2) k1 k2
          refine xm_G_skip g2 (by omega) (fun M m1 m2 => hskip (to_ d + 16).toNat 31 (Nat.le_refl 31) (fun t _ _ => Or.inr (by omega)) M (by omega) (by omega))
      refine ⟨fun h2 => note (Or.inl (by omega)), fun h2 => ⟨by omega, ?_⟩⟩
      rw [show ((d : Int) + 1).toNat = d + 1 by omega]
      have hpc := hQ.1
      refine ⟨⟨by omega, by omega⟩, fun h3 => note (Or.inr h3), fun h3 => ⟨by omega, fun x2 hx2 => ⟨by omega, fun x3 hx3 => ⟨(to_ d - fr d + 1).toNat + 1, ?_⟩⟩⟩⟩
      have hd3 : d < 3 := by omega
      have loop : ∀ (n : Nat) (x fo : Int) (le2 pe2 pc2 fr2 to2 va2 ff lf gf : Nat → Int), x + n = to_ d + 1 → fr d ≤ x → (∀ j, j < 32 * (d + 1) → le2 j = sle j) → (∀ j, j < 32 * (d + 2) → pe2 j = pe j) → (∀ j, j ≤ d + 1 → pc2 j = pc j) → (∀ j, j ≤ d → fr2 j = fr j ∧ to2 j = to_ j) → (∀ j, j < d → va2 j = sva j) → xm_G P (xm_b sva d + (x + 15).toNat * xm_q (d + 1)) soe fo ff lf gf →
          wp_X2_tryWord_67 (d : Int) sid soe sfa sre rsz rly rce rst post (wp_X2_tryWord j) (to_ d) (n + 1) fo le2 pe2 pc2 fr2 to2 va2 ff lf gf x := by
        intro n
        induction n with
        | zero =>
          intro x fo le2 pe2 pc2 fr2 to2 va2 ff lf gf hx hfx f1 f2 f3 f4 f5 g
          show wl_X2_tryWord_67 _ _ _ _ _ _ _ _ _ _ _ _ _ _ _ _ _ _ _ _ _ _ _ _
          unfold wl_X2_tryWord_67
          refine ⟨⟨by omega, by omega⟩, ⟨by omega, by omega⟩, fun _ => ?_, fun h => absurd (show to_ d < x by omega) h⟩
          refine k _ _ _ _ _ _ _ _ _ _ (hT _ _ _ _ _ _ f1 f2 f3 f4 f5) (xm_G_skip g ?_ (fun M m1 m2 => hskip (x + 15).toNat 31 (Nat.le_refl 31) (fun t _ _ => Or.inr (by omega)) M m1 (by omega)))
          have : (x + 15).toNat * xm_q (d + 1) ≤ 31 * xm_q (d + 1) := Nat.mul_le_mul_right _ (by omega)
          omega
        | succ n ihn =>
          intro x fo le2 pe2 pc2 fr2 to2 va2 ff lf gf hx hfx f1 f2 f3 f4 f5 g
          show wl_X2_tryWord_67 _ _ _ _ _ _ _ _ _ _ _ _ _ _ _ _ _ _ _ _ _ _ _ _
          unfold wl_X2_tryWord_67
          refine ⟨⟨by omega, by omega⟩, ⟨by omega, by omega⟩, fun h => absurd h (by omega), fun _ => ?_⟩
          have hgo : (¬ soe = 0 → fo = 0) → wp_X2_setWord (fun sle_2 sva_2 => (wp_X2_tryWord j (fun sfo_3 sle_3 spe_3 spc_3 sfr_3 sto_3 sva_3 sff_3 slf_3 sgf_3 => (∀ x2_2 : Int, x2_2 = x + 1 → (wp_X2_tryWord_67 (d : Int) sid soe sfa sre rsz rly rce rst post (wp_X2_tryWord j) (to_ d) (n + 1) sfo_3 sle_3 spe_3 spc_3 sfr_3 sto_3 sva_3 sff_3 slf_3 sgf_3 x2_2))) sid fo soe sfa sre sle_2 pe2 pc2 fr2 to2 sva_2 ff lf gf rsz rly rce rst ((d : Int) + 1))) sid fo soe sfa sre le2 pe2 pc2 fr2 to2 va2 ff lf gf rsz rly rce rst (d : Int) x := by
            intro hofo
            have hQ2 : xs_Q m sfa sre b va2 le2 pe2 pc2 d (fr d) (to_ d) := xs_Q_cg C.1 f1 f2 (f3 _ (Nat.le_refl _)) f5 hQ
            refine sp_setWord C hd3 hQ2 (u := x) ⟨by omega, by omega⟩ (fun le3 va3 l1 l2 l3 hP3 => ?_)
            rw [show (d : Int) + 1 = ((d + 1 : Nat) : Int) by omega]
            have hv3 : ∀ w, w < d + 1 → -15 ≤ va3 w ∧ va3 w ≤ 15 := by
              intro w hw
              by_cases e : w = d
              · rw [e, l3]; omega
              · rw [l2 w e, f5 w (by omega)]; exact hv w (by omega)
            have hb3 : xm_b va3 (d + 1) = xm_b sva d + (x + 15).toNat * xm_q (d + 1) := by
              show xm_b va3 d + (va3 d + 15).toNat * xm_q (d + 1) = _
              rw [l3, xm_b_cg d (fun i hi => show va3 i = sva i by rw [l2 i (by omega), f5 i hi])]
            refine ih (d + 1) (by omega) (by omega) fo le3 pe2 pc2 fr2 to2 va3 ff lf gf _ hP3 hv3 (by rw [hb3]; exact g) hofo (fun fo4 le4 pe4 pc4 fr4 to4 va4 ff4 lf4 gf4 hT4 g4 x2 hx2 => ?_)
            subst hx2
            obtain ⟨t1, t2, t3, t4⟩ := hT4
            refine ihn (x + 1) fo4 le4 pe4 pc4 fr4 to4 va4 ff4 lf4 gf4 (by omega) (by omega) (fun i hi => by rw [t1 i (by omega), l1 i hi, f1 i hi]) (fun i hi => by rw [t2 i hi, f2 i hi]) (fun i hi => by rw [t3 i hi, f3 i hi]) (fun i hi => ⟨by rw [(t4 i (by omega)).1, (f4 i hi).1], by rw [(t4 i (by omega)).2.1, (f4 i hi).2]⟩) (fun i hi => by rw [(t4 i (by omega)).2.2, l2 i (by omega), f5 i hi]) ?_
            rw [hb3, Nat.add_assoc, ← Nat.succ_mul] at g4
            rw [show (x + 1 + 15).toNat = Nat.succ (x + 15).toNat by omega]
            exact g4
          unfold wp_X2_isEnough
          have hgr := g.1
          have hgr2 := g.2.1
          refine ⟨⟨by omega, by omega⟩, fun h0 => ⟨⟨by omega, by omega⟩, fun _ => hgo (fun q => absurd h0 q), fun q => absurd rfl q⟩, fun h0 => ⟨⟨by omega, by omega⟩, fun h4 => ⟨⟨by omega, by omega⟩, fun _ => hgo (fun _ => by omega), fun q => absurd rfl q⟩, fun h4 => ⟨⟨by omega, by omega⟩, fun q => absurd q (by omega), fun _ => ?_⟩⟩⟩
          exact k _ _ _ _ _ _ _ _ _ _ (hT _ _ _ _ _ _ f1 f2 f3 f4 f5) (xm_G_done g h0 (by omega))
      rw [hx2, hx3]
      refine loop (to_ d - fr d + 1).toNat (fr d) sfo sle pe pc fr to_ sva sff slf sgf (by omega) (Int.le_refl _) (fun _ _ => rfl) (fun _ _ => rfl) (fun _ _ => rfl) (fun _ _ => ⟨rfl, rfl⟩) (fun _ _ => rfl) ?_
      exact xm_G_skip hG (by omega) (fun M m1 m2 => hskip 0 (fr d + 15).toNat (by omega) (fun t _ _ => Or.inl (by omega)) M (by omega) m2)
    · refine k _ _ _ _ _ _ _ _ _ _ (hT sle pe pc fr to_ sva (fun _ _ => rfl) (fun _ _ => rfl) (fun _ _ => rfl) (fun _ _ => ⟨rfl, rfl⟩) (fun _ _ => rfl)) (xm_G_skip hG (by omega) (fun M m1 m2 => hskip 0 31 (Nat.le_refl 31) (fun t _ _ => by omega) M (by omega) (by omega)))
end TW
