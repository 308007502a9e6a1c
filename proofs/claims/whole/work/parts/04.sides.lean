/-! SIDES: a side is four numbers and a bound, 'at most'; what the words from d on can add; what is left at depth d. -/
/-- the sum over the words below d -/
def xs_s (fa x : Nat → Int) (s : Nat) : Nat → Int
  | 0 => 0
  | d + 1 => xs_s fa x s d + fa (32 * d + s) * x d
theorem xs_s_cg {fa x y : Nat → Int} {s : Nat} (d : Nat) (h : ∀ w, w < d → x w = y w) : xs_s fa x s d = xs_s fa y s d := by
  induction d with
  | zero => rfl
  | succ d ih => show xs_s fa x s d + _ = xs_s fa y s d + _; rw [ih (fun w hw => h w (by omega)), h d (by omega)]
/-- the sides as the search has laid them: numbers, reaches, bounds -/
def xs_C (m : Nat) (fa re b : Nat → Int) : Prop :=
  m ≤ 32 ∧ ∀ s, s < m → (-9999 ≤ b s ∧ b s ≤ 9999) ∧ re (128 + s) = 0 ∧ ∀ w, w < 4 → (-99 ≤ fa (32 * w + s) ∧ fa (32 * w + s) ≤ 99) ∧ re (32 * w + s) = re (32 * w + s + 32) + (if 0 ≤ fa (32 * w + s) then fa (32 * w + s) else 0 - fa (32 * w + s)) * 15
theorem xs_mul15 {a x : Int} (hx : -15 ≤ x ∧ x ≤ 15) : a * x ≤ (if 0 ≤ a then a else 0 - a) * 15 ∧ -((if 0 ≤ a then a else 0 - a) * 15) ≤ a * x := by
  split
  · have h1 := Int.mul_le_mul_of_nonneg_left hx.2 (by assumption : 0 ≤ a)
    have h2 := Int.mul_le_mul_of_nonneg_left hx.1 (by assumption : 0 ≤ a)
    omega
  · have hn : 0 ≤ 0 - a := by omega
    have h1 := Int.mul_le_mul_of_nonneg_left hx.2 hn
    have h2 := Int.mul_le_mul_of_nonneg_left hx.1 hn
    have e : (0 - a) * x = -(a * x) := by rw [Int.sub_mul]; omega
    rw [e] at h1 h2
    omega
/-- reaches are reaches -/
theorem xs_reach {m : Nat} {fa re b x : Nat → Int} (C : xs_C m fa re b) {s : Nat} (hs : s < m) (hx : ∀ w, w < 4 → -15 ≤ x w ∧ x w ≤ 15) (j : Nat) (hj : j ≤ 4) : 0 ≤ re (32 * (4 - j) + s) ∧ re (32 * (4 - j) + s) ≤ 1485 * j ∧ xs_s fa x s 4 - xs_s fa x s (4 - j) ≤ re (32 * (4 - j) + s) ∧ -(re (32 * (4 - j) + s)) ≤ xs_s fa x s 4 - xs_s fa x s (4 - j) := by
  induction j with
  | zero =>
    have e := (C.2 s hs).2.1
    rw [show 32 * (4 - 0) + s = 128 + s by omega, e]
    simp
  | succ j ih =>
    obtain ⟨i0, i1, i2, i3⟩ := ih (by omega)
    obtain ⟨w, ew⟩ : ∃ w, w = 4 - (j + 1) := ⟨_, rfl⟩
    have e1 : 4 - j = w + 1 := by omega
    rw [← ew]
    rw [e1] at i0 i1 i2 i3
    obtain ⟨c1, c2⟩ := (C.2 s hs).2.2 w (by omega)
    have e2 : xs_s fa x s (w + 1) = xs_s fa x s w + fa (32 * w + s) * x w := rfl
    have e3 := xs_mul15 (a := fa (32 * w + s)) (hx w (by omega))
    have e4 : 32 * (w + 1) + s = 32 * w + s + 32 := by omega
    rw [e4] at i0 i1 i2 i3
    rw [e2] at i2 i3
    rw [c2]
    have e5 : 0 ≤ (if 0 ≤ fa (32 * w + s) then fa (32 * w + s) else 0 - fa (32 * w + s)) ∧ (if 0 ≤ fa (32 * w + s) then fa (32 * w + s) else 0 - fa (32 * w + s)) ≤ 99 := by split <;> omega
    omega
theorem xs_re {m : Nat} {fa re b : Nat → Int} (C : xs_C m fa re b) {s d : Nat} (hs : s < m) (hd : d ≤ 4) : 0 ≤ re (32 * d + s) ∧ re (32 * d + s) ≤ 5940 := by
  have h := xs_reach (x := fun _ => 0) C hs (fun _ _ => by omega) (4 - d) (by omega)
  rw [show 4 - (4 - d) = d by omega] at h
  omega
/-- a point holds in all sides -/
def xs_Sol (m : Nat) (fa b x : Nat → Int) : Prop := ∀ s, s < m → xs_s fa x s 4 ≤ b s
def xs_Box (x : Nat → Int) : Prop := ∀ w, w < 4 → -15 ≤ x w ∧ x w ≤ 15
/-- partial sums are small -/
theorem xs_small {m : Nat} {fa re b x : Nat → Int} (C : xs_C m fa re b) {s : Nat} (hs : s < m) (d : Nat) (hd : d ≤ 4) (hx : ∀ w, w < d → -15 ≤ x w ∧ x w ≤ 15) : -1485 * (d : Int) ≤ xs_s fa x s d ∧ xs_s fa x s d ≤ 1485 * (d : Int) := by
  induction d with
  | zero => simp [xs_s]
  | succ d ih =>
    have i := ih (by omega) (fun w hw => hx w (by omega))
    obtain ⟨c1, -⟩ := (C.2 s hs).2.2 d (by omega)
    have e3 := xs_mul15 (a := fa (32 * d + s)) (hx d (by omega))
    have e5 : 0 ≤ (if 0 ≤ fa (32 * d + s) then fa (32 * d + s) else 0 - fa (32 * d + s)) ∧ (if 0 ≤ fa (32 * d + s) then fa (32 * d + s) else 0 - fa (32 * d + s)) ≤ 99 := by split <;> omega
    show _ ≤ xs_s fa x s d + fa (32 * d + s) * x d ∧ xs_s fa x s d + fa (32 * d + s) * x d ≤ _
    omega
/-- the sides that are pending at depth d, of which the words below d have the values v -/
def xs_P (m : Nat) (fa re b v le pe pc : Nat → Int) (d : Nat) : Prop :=
  (0 ≤ pc d ∧ pc d ≤ 32) ∧ (∀ p : Nat, (p : Int) < pc d → ∃ s, s < m ∧ pe (32 * d + p) = (s : Int) ∧ le (32 * d + s) = b s - xs_s fa v s d) ∧ ∀ s, s < m → (∃ p : Nat, (p : Int) < pc d ∧ pe (32 * d + p) = (s : Int)) ∨ re (32 * d + s) ≤ b s - xs_s fa v s d
/-- what narrow(d) has found when it has looked at the sides below p: kept sides, the bounds lo and hi -/
def xs_N (m : Nat) (fa re b v le pe pc pe0 : Nat → Int) (d : Nat) (lo hi : Int) (p kept : Nat) : Prop :=
  (-15 ≤ lo ∧ lo ≤ 20000 ∧ -20000 ≤ hi ∧ hi ≤ 15) ∧ kept ≤ p ∧ (∀ j, j < 32 * (d + 1) → pe j = pe0 j) ∧ (kept = 0 → lo = -15 ∧ hi = 15) ∧
  (∀ q : Nat, q < kept → ∃ s, s < m ∧ pe (32 * (d + 1) + q) = (s : Int) ∧ le (32 * d + s) = b s - xs_s fa v s d ∧ ∀ u, lo ≤ u → u ≤ hi → fa (32 * d + s) * u ≤ le (32 * d + s) + re (32 * d + s + 32)) ∧
  (∀ q : Nat, q < p → ∀ s, s < m → pe (32 * d + q) = (s : Int) → (∃ z : Nat, z < kept ∧ pe (32 * (d + 1) + z) = (s : Int)) ∨ re (32 * d + s) ≤ b s - xs_s fa v s d) ∧
  (∀ x, xs_Box x → (∀ w, w < d → x w = v w) → xs_Sol m fa b x → lo ≤ x d ∧ x d ≤ hi)
