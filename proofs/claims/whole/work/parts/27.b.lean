/-! THE SEARCH, method by method: what each predicate asks is met, and what comes of it. -/
theorem xw_uN (f : Nat → Int) (d : Nat) (v : Int) (j : Nat) : xw_u f (d : Int) v j = if j = d then v else f j := by
  unfold xw_u; rw [Int.toNat_natCast]
theorem xw_uI (f : Nat → Int) {k : Int} (d : Nat) (hk : k = (d : Int)) (v : Int) : xw_u f k v = fun j => if j = d then v else f j := by
  subst hk; funext j; exact xw_uN f d v j
theorem xm_fd {a b : Int} (hb : 0 < b) (ha : a < 0) : (a.tdiv b * b = a ∧ a.tdiv b = a / b ∨ ¬ a.tdiv b * b = a ∧ a.tdiv b = a / b + 1) ∧ a ≤ a.tdiv b * b ∧ a.tdiv b * b ≤ 0 := by
  have e := Int.tdiv_eq_ediv (a := a) (b := b)
  have h1 : a % b = a - b * (a / b) := Int.emod_def a b
  have h2 := Int.emod_nonneg a (show b ≠ 0 by omega)
  have h3 := Int.emod_lt_of_pos a hb
  have hs : Int.sign b = 1 := Int.sign_eq_one_of_pos hb
  have hm : a / b * b = b * (a / b) := Int.mul_comm _ _
  by_cases hd : b ∣ a
  · rw [if_pos (Or.inr hd), Int.add_zero] at e
    have h4 : a % b = 0 := Int.emod_eq_zero_of_dvd hd
    rw [e]
    omega
  · have h4 : ¬ a % b = 0 := fun q => hd (Int.dvd_of_emod_eq_zero q)
    rw [if_neg (fun q => q.elim (fun z => by omega) hd), hs] at e
    have h5 : (a / b + 1) * b = a / b * b + b := by rw [Int.add_mul, Int.one_mul]
    rw [e, h5, hm]
    have h6 : a / b < 0 := Int.ediv_neg_of_neg_of_pos ha hb
    have h7 : (a / b + 1) * b ≤ 0 := Int.mul_nonpos_of_nonpos_of_nonneg (by omega) (by omega)
    omega
theorem sp_fdI {post : Int → Prop} {a b : Int} (ha : xw_r a) (hb : 0 < b) (hr : xw_r b) (k : post (a / b)) : wp_J9_floorDiv_7cf53 post a b := by
  unfold wp_J9_floorDiv_7cf53
  refine ⟨ha, hr, by omega, fun x hx z hz hs => ⟨fun h => ?_, fun h => ?_⟩⟩
  · have h0 : 0 ≤ a := by
      rcases Int.lt_or_le a 0 with q | q
      · exact absurd (hs.mpr (by omega)) (by omega)
      · exact q
    rw [hx, Int.tdiv_eq_ediv_of_nonneg h0]; exact k
  · have h0 : a < 0 := by
      have := hs.mp (by omega)
      omega
    obtain ⟨h1, h2, h3⟩ := xm_fd hb h0
    rw [hx]
    refine ⟨⟨by omega, by omega⟩, fun q => ?_, fun q => ?_⟩
    · rcases h1 with ⟨p1, p2⟩ | ⟨p1, p2⟩
      · rw [p2]; exact k
      · exact absurd q p1
    · rcases h1 with ⟨p1, p2⟩ | ⟨p1, p2⟩
      · exact absurd p1 q
      · rw [p2, Int.add_sub_cancel]; exact k
theorem sp_fdL {post : Int → Prop} {a b : Int} (ha : xw_l a) (hb : 0 < b) (hr : xw_l b) (k : post (a / b)) : wp_J9_floorDiv_f86c9 post a b := by
  unfold wp_J9_floorDiv_f86c9
  refine ⟨ha, hr, by omega, fun x hx z hz hs => ⟨fun h => ?_, fun h => ?_⟩⟩
  · have h0 : 0 ≤ a := by
      rcases Int.lt_or_le a 0 with q | q
      · exact absurd (hs.mpr (by omega)) (by omega)
      · exact q
    rw [hx, Int.tdiv_eq_ediv_of_nonneg h0]; exact k
  · have h0 : a < 0 := by
      have := hs.mp (by omega)
      omega
    obtain ⟨h1, h2, h3⟩ := xm_fd hb h0
    rw [hx]
    refine ⟨⟨by omega, by omega⟩, fun q => ?_, fun q => ?_⟩
    · rcases h1 with ⟨p1, p2⟩ | ⟨p1, p2⟩
      · rw [p2]; exact k
      · exact absurd q p1
    · rcases h1 with ⟨p1, p2⟩ | ⟨p1, p2⟩
      · exact absurd p1 q
      · rw [p2, Int.add_sub_cancel]; exact k
/-- a product of small numbers is small -/
theorem xm_small {c u : Int} (hc : -99 ≤ c ∧ c ≤ 99) (hu : -15 ≤ u ∧ u ≤ 15) : -1485 ≤ c * u ∧ c * u ≤ 1485 := by
  have e3 := xs_mul15 (a := c) hu
  have e5 : 0 ≤ (if 0 ≤ c then c else 0 - c) ∧ (if 0 ≤ c then c else 0 - c) ≤ 99 := by split <;> omega
  omega
section SK
variable {sid sfo soe rsz rly : Int} {sfa sre sle spe spc sfr sto sva sff slf sgf rce rst : Nat → Int}
theorem sp_keep {post : (Nat → Int) → (Nat → Int) → Prop} {d : Nat} (hd : d < 4) {c n : Int} (hc : -99 ≤ c ∧ c ≤ 99) (hn : -20000 ≤ n ∧ n ≤ 20000) (hl : -15 ≤ sfr d ∧ sfr d ≤ 15) (hh : -15 ≤ sto d ∧ sto d ≤ 15)
    (k : ∀ fr to_ : Nat → Int, (∀ j, j ≠ d → fr j = sfr j) → (∀ j, j ≠ d → to_ j = sto j) → (-15 ≤ fr d ∧ fr d ≤ 20000 ∧ -20000 ≤ to_ d ∧ to_ d ≤ 15) → (∀ u, (sfr d ≤ u ∧ u ≤ sto d ∧ c * u ≤ n) ↔ (fr d ≤ u ∧ u ≤ to_ d)) → post fr to_) :
    wp_X2_keepAtMost post sid sfo soe sfa sre sle spe spc sfr sto sva sff slf sgf rsz rly rce rst (d : Int) c n := by
  unfold wp_X2_keepAtMost
  have hdi : 0 ≤ (d : Int) ∧ (d : Int) < 4 := by omega
  have hsame : (∀ u, sfr d ≤ u → u ≤ sto d → c * u ≤ n) → post sfr sto := fun h => k sfr sto (fun _ _ => rfl) (fun _ _ => rfl) ⟨by omega, by omega, by omega, by omega⟩ (fun u => ⟨fun q => ⟨q.1, q.2.1⟩, fun q => ⟨q.1, q.2, h u q.1 q.2⟩⟩)
  refine ⟨⟨by omega, by omega⟩, fun h1 => ⟨fun h2 => ?_, fun h2 => ?_⟩, fun h1 => ?_⟩
  · have hz : c = 0 := by omega
    subst hz
    refine ⟨⟨by omega, by omega⟩, fun h3 => hsame (fun u _ _ => by omega), fun h3 => ⟨hdi, fun t ht => ?_⟩⟩
    rw [xw_uI sto d rfl] at ht
    subst ht
    refine k sfr _ (fun _ _ => rfl) (fun j hj => by simp [hj]) (by simp; omega) (fun u => ?_)
    simp only [if_true]
    omega
  · refine ⟨hdi, ?_⟩
    rw [Int.toNat_natCast]
    have hp := xm_small hc hl
    refine ⟨⟨by omega, by omega⟩, ⟨by omega, by omega⟩, fun h3 => hsame (fun u h4 h5 => ?_), fun h3 => ?_⟩
    · have h6 : -c * sfr d ≤ -c * u := Int.mul_le_mul_of_nonneg_left h4 (by omega)
      rw [Int.neg_mul, Int.neg_mul] at h6
      omega
    · refine sp_fdI ⟨by omega, by omega⟩ (by omega) ⟨by omega, by omega⟩ ⟨hdi, fun t ht => ?_⟩
      rw [xw_uI sfr d rfl] at ht
      subst ht
      have key : ∀ u, -(n / -c) ≤ u ↔ c * u ≤ n := fun u => by
        have e := Int.le_ediv_iff_mul_le (a := -u) (b := n) (c := -c) (by omega)
        have e2 : -u * -c = c * u := by rw [Int.neg_mul_neg, Int.mul_comm]
        rw [e2] at e
        rw [← e]
        omega
      have kl : sfr d ≤ -(n / -c) := by
        rcases Int.lt_or_le (-(n / -c)) (sfr d) with q | q
        · exact absurd ((key (sfr d)).mp (by omega)) h3
        · exact q
      have kb : -(n / -c) ≤ 20000 := by
        have hq : n ≤ -1 * 0 + n := by omega
        refine (key 20000).mpr ?_
        have : -c * 20000 ≥ 1 * 20000 := Int.mul_le_mul_of_nonneg_right (by omega) (by omega)
        rw [Int.neg_mul] at this
        omega
      refine k _ sto (fun j hj => by simp [hj]) (fun _ _ => rfl) (by simp only [if_true]; omega) (fun u => ?_)
      simp only [if_true]
      have := key u
      omega
  · refine ⟨hdi, ?_⟩
    rw [Int.toNat_natCast]
    have hp := xm_small hc hh
    refine ⟨⟨by omega, by omega⟩, ⟨by omega, by omega⟩, fun h3 => hsame (fun u h4 h5 => ?_), fun h3 => ?_⟩
    · have h6 : c * u ≤ c * sto d := Int.mul_le_mul_of_nonneg_left h5 (by omega)
      omega
    · refine sp_fdI ⟨by omega, by omega⟩ (by omega) ⟨by omega, by omega⟩ ⟨hdi, fun t ht => ?_⟩
      rw [xw_uI sto d rfl] at ht
      subst ht
      have key : ∀ u, u ≤ n / c ↔ c * u ≤ n := fun u => by
        have e := Int.le_ediv_iff_mul_le (a := u) (b := n) (c := c) (by omega)
        rw [Int.mul_comm] at e
        exact e
      have kl : n / c ≤ sto d := by
        rcases Int.lt_or_le (sto d) (n / c) with q | q
        · exact absurd ((key (sto d)).mp (by omega)) h3
        · exact q
      have kb : -20000 ≤ n / c := by
        refine (key (-20000)).mpr ?_
        have : c * 20000 ≥ 1 * 20000 := Int.mul_le_mul_of_nonneg_right (by omega) (by omega)
        rw [Int.mul_neg]
        omega
      refine k sfr _ (fun _ _ => rfl) (fun j hj => by simp [hj]) (by simp only [if_true]; omega) (fun u => ?_)
      simp only [if_true]
      have := key u
      omega
end SK
