/-- what narrow(d) has found when it has looked at the sides below p: kept sides, the bounds lo and hi -/
def xs_NN (m : Nat) (fa re b v le pe pe0 : Nat → Int) (d : Nat) (lo hi : Int) (p kept : Nat) : Prop :=
  (-15 ≤ lo ∧ lo ≤ 20000 ∧ -20000 ≤ hi ∧ hi ≤ 15) ∧ kept ≤ p ∧ (∀ j, j < 32 * (d + 1) → pe j = pe0 j) ∧ (kept = 0 → lo = -15 ∧ hi = 15) ∧
  (∀ q : Nat, q < kept → ∃ s, s < m ∧ pe (32 * (d + 1) + q) = (s : Int) ∧ le (32 * d + s) = b s - xs_s fa v s d ∧ ∀ u, lo ≤ u → u ≤ hi → fa (32 * d + s) * u ≤ le (32 * d + s) + re (32 * d + s + 32)) ∧
  (∀ q : Nat, q < p → ∀ s, s < m → pe0 (32 * d + q) = (s : Int) → (∃ z : Nat, z < kept ∧ pe (32 * (d + 1) + z) = (s : Int)) ∨ re (32 * d + s) ≤ b s - xs_s fa v s d) ∧
  (∀ x, xs_Box x → (∀ w, w < d → x w = v w) → xs_Sol m fa b x → lo ≤ x d ∧ x d ≤ hi)
theorem xs_re2 {m : Nat} {fa re b : Nat → Int} (C : xs_C m fa re b) {s d : Nat} (hs : s < m) (hd : d ≤ 4) : 0 ≤ re (32 * d + s) ∧ re (32 * d + s) ≤ 1485 * (4 - (d : Int)) := by
  have h := xs_reach (x := fun _ => 0) C hs (fun _ _ => by omega) (4 - d) (by omega)
  rw [show 4 - (4 - d) = d by omega] at h
  omega
/-- a solution holds in the bound that a side sets to word d -/
theorem xs_keep {m : Nat} {fa re b v x : Nat → Int} (C : xs_C m fa re b) {s d : Nat} (hs : s < m) (hd : d < 4) (hx : xs_Box x) (hv : ∀ w, w < d → x w = v w) (hS : xs_Sol m fa b x) : fa (32 * d + s) * x d ≤ b s - xs_s fa v s d + re (32 * d + s + 32) := by
  have h := xs_reach C hs hx (4 - (d + 1)) (by omega)
  rw [show 4 - (4 - (d + 1)) = d + 1 by omega, show 32 * (d + 1) + s = 32 * d + s + 32 by omega] at h
  have e : xs_s fa x s (d + 1) = xs_s fa x s d + fa (32 * d + s) * x d := rfl
  rw [e, xs_s_cg d hv] at h
  have := hS s hs
  omega
