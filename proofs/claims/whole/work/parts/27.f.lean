/-! takeSide, look: the sides are laid; then the search has come to the code behind the last. -/
section TS
variable {sid sfo soe rsz rly : Int} {sfa sre sle spe spc sfr sto sva sff slf sgf rce rst : Nat → Int}
theorem sp_factor {post : Int → Prop} {r w : Nat} (hr : r < 16) (hw : w < 4) (k : post (rce (6 * r + 1 + w))) : wp_X1_factor post rsz rly rce rst (r : Int) (w : Int) := by
  unfold wp_X1_factor
  refine ⟨by omega, ?_⟩
  rw [show ((r : Int) * 6 + 1 + (w : Int)).toNat = 6 * r + 1 + w by omega]; exact k
theorem sp_limit {post : Int → Prop} {r : Nat} (hr : r < 16) (k : post (rce (6 * r + 5))) : wp_X1_limit post rsz rly rce rst (r : Int) := by
  unfold wp_X1_limit
  refine ⟨by omega, ?_⟩
  rw [show ((r : Int) * 6 + 5).toNat = 6 * r + 5 by omega]; exact k
theorem sp_isEq {post : Int → Prop} {r : Nat} (hr : r < 16) (hk : rce (6 * r) = 0 ∨ rce (6 * r) = 1) (k0 : rce (6 * r) = 0 → post 1) (k1 : ¬ rce (6 * r) = 0 → post 0) : wp_X1_isEquality post rsz rly rce rst (r : Int) := by
  unfold wp_X1_isEquality
  refine ⟨by omega, ?_⟩
  rw [show ((r : Int) * 6 + 0).toNat = 6 * r by omega]
  exact ⟨⟨by omega, by omega⟩, k0, k1⟩
def xs_ab (a : Int) : Int := if 0 ≤ a then a else 0 - a
/-- a side more -/
def xs_S (sg : Int) (c : Nat → Int) (bd : Int) (n : Nat) (fa0 re0 le0 pe0 fa re le pe : Nat → Int) : Prop :=
  (∀ i, (∀ w, w < 4 → i ≠ 32 * w + n) → fa i = fa0 i) ∧ (∀ w, w < 4 → fa (32 * w + n) = sg * c w) ∧ (∀ i, (∀ w, w < 5 → i ≠ 32 * w + n) → re i = re0 i) ∧ re (128 + n) = 0 ∧ (∀ w, w < 4 → re (32 * w + n) = re (32 * w + n + 32) + (if 0 ≤ fa (32 * w + n) then fa (32 * w + n) else 0 - fa (32 * w + n)) * 15) ∧ (∀ i, i ≠ n → le i = le0 i) ∧ le n = sg * bd ∧ (∀ i, i ≠ n → pe i = pe0 i) ∧ pe n = (n : Int)
theorem sp_takeSide {post : Int → (Nat → Int) → (Nat → Int) → (Nat → Int) → (Nat → Int) → Prop} {r n : Nat} {sg : Int} (hr : r < 16) (hn : n < 32) (hs : sg = 1 ∨ sg = -1) (hc : ∀ w, w < 4 → -99 ≤ rce (6 * r + 1 + w) ∧ rce (6 * r + 1 + w) ≤ 99)
    (k : ∀ fa re le pe : Nat → Int, xs_S sg (fun w => rce (6 * r + 1 + w)) (rce (6 * r + 5)) n sfa sre sle spe fa re le pe → post ((n + 1 : Nat) : Int) fa re le pe) :
    wp_X2_takeSide post (n : Int) sfo soe sfa sre sle spe spc sfr sto sva sff slf sgf rsz rly rce rst (r : Int) sg := by
  unfold wp_X2_takeSide
  refine ⟨⟨by omega, by omega⟩, fun _ => ⟨by omega, fun re0 hre0 => ⟨5, ?_⟩⟩, fun h => absurd (show (n : Int) < 32 by omega) h⟩
  rw [xw_uI sre (128 + n) (by omega)] at hre0
  have loop : ∀ (t : Nat) (fa re : Nat → Int), t ≤ 4 → (∀ i, (∀ w, w < 4 → i ≠ 32 * w + n) → fa i = sfa i) → (∀ w, t ≤ w → w < 4 → fa (32 * w + n) = sg * rce (6 * r + 1 + w)) → (∀ i, (∀ w, w < 5 → i ≠ 32 * w + n) → re i = sre i) → re (128 + n) = 0 → (∀ w, t ≤ w → w < 4 → re (32 * w + n) = re (32 * w + n + 32) + (if 0 ≤ fa (32 * w + n) then fa (32 * w + n) else 0 - fa (32 * w + n)) * 15) →
      wp_X2_takeSide_26 (r : Int) sg rsz rly rce rst post (t + 1) (n : Int) fa re sle spe ((t : Int) - 1) := by
    intro t
    induction t with
    | zero =>
      intro fa re _ f1 f2 f3 f4 f5
      show wl_X2_takeSide_26 _ _ _ _ _ _ _ _ _ _ _ _ _ _
      unfold wl_X2_takeSide_26
      refine ⟨⟨by omega, by omega⟩, fun _ => sp_limit hr ⟨by omega, fun le hle => ⟨by omega, fun pe hpe z hz => ?_⟩⟩, fun h => absurd (show ((0 : Nat) : Int) - 1 < 0 by omega) h⟩
      rw [xw_uI _ n rfl] at hle hpe
      rw [hz, show (n : Int) + 1 = ((n + 1 : Nat) : Int) by omega]
      exact k fa re le pe ⟨f1, fun w hw => f2 w (by omega) hw, f3, f4, fun w hw => f5 w (by omega) hw, fun i hi => by rw [hle]; simp [hi], by rw [hle]; simp, fun i hi => by rw [hpe]; simp [hi], by rw [hpe]; simp⟩
    | succ t ih =>
      intro fa re ht f1 f2 f3 f4 f5
      show wl_X2_takeSide_26 _ _ _ _ _ _ _ _ _ _ _ _ _ _
      unfold wl_X2_takeSide_26
      rw [show ((t + 1 : Nat) : Int) - 1 = (t : Int) by omega]
      refine ⟨⟨by omega, by omega⟩, fun h => absurd h (by omega), fun _ x4 hx4 => sp_factor hr (by omega) ⟨by omega, fun fa2 hfa2 => ?_⟩⟩
      have ex : x4.toNat = 32 * t + n := by omega
      have ex2 : (x4 + 32).toNat = 32 * t + n + 32 := by omega
      rw [xw_uI fa (32 * t + n) (by omega)] at hfa2
      rw [ex, ex2]
      have e1 : fa2 (32 * t + n) = sg * rce (6 * r + 1 + t) := by rw [hfa2]; simp
      have hct := hc t (by omega)
      have hsc : -99 ≤ sg * rce (6 * r + 1 + t) ∧ sg * rce (6 * r + 1 + t) ≤ 99 := by rcases hs with e | e <;> rw [e] <;> omega
      refine ⟨by omega, by omega, ⟨by omega, by omega⟩, by omega, fun re2 hre2 x3 hx3 => ?_⟩
      rw [xw_uI re (32 * t + n) (by omega)] at hre2
      rw [hx3, show (t : Int) + (-1) = (t : Int) - 1 by omega]
      have q1 : ∀ i, i ≠ 32 * t + n → fa2 i = fa i := fun i hi => by rw [hfa2]; simp [hi]
      have q2 : ∀ i, i ≠ 32 * t + n → re2 i = re i := fun i hi => by rw [hre2]; simp [hi]
      have q3 : re2 (32 * t + n) = re (32 * t + n + 32) + (if 0 ≤ fa2 (32 * t + n) then fa2 (32 * t + n) else 0 - fa2 (32 * t + n)) * 15 := by rw [hre2]; simp
      refine ih fa2 re2 (by omega) (fun i hi => by rw [q1 i (hi t (by omega)), f1 i hi]) (fun w h1 h2 => ?_) (fun i hi => by rw [q2 i (hi t (by omega)), f3 i hi]) (by rw [q2 _ (by omega), f4]) (fun w h1 h2 => ?_)
      · by_cases e : w = t
        · rw [e]; exact e1
        · rw [q1 _ (by omega)]; exact f2 w (by omega) h2
      · by_cases e : w = t
        · rw [e, q3, q2 _ (by omega)]
        · rw [q1 _ (by omega), q2 _ (by omega), q2 _ (by omega)]; exact f5 w (by omega) h2
  exact loop 4 sfa re0 (Nat.le_refl 4) (fun _ _ => rfl) (fun w h1 h2 => absurd h1 (by omega)) (fun i hi => by rw [hre0]; simp only []; rw [if_neg (by have := hi 4 (by omega); omega)]) (by rw [hre0]; simp) (fun w h1 h2 => absurd h1 (by omega))
/-- a row's sum at a point -/
def xr_d (rce x : Nat → Int) (r : Nat) : Int := rce (6 * r + 1) * x 0 + rce (6 * r + 2) * x 1 + rce (6 * r + 3) * x 2 + rce (6 * r + 4) * x 3
def xr_H (rce x : Nat → Int) (r : Nat) : Prop := (rce (6 * r) = 0 → xr_d rce x r = rce (6 * r + 5)) ∧ (¬ rce (6 * r) = 0 → xr_d rce x r ≤ rce (6 * r + 5))
def xr_ok (rsz : Nat) (rce : Nat → Int) : Prop := rsz ≤ 16 ∧ ∀ r, r < rsz → (rce (6 * r) = 0 ∨ rce (6 * r) = 1) ∧ (∀ w, w < 4 → -99 ≤ rce (6 * r + 1 + w) ∧ rce (6 * r + 1 + w) ≤ 99) ∧ -9999 ≤ rce (6 * r + 5) ∧ rce (6 * r + 5) ≤ 9999
theorem xs_S_sum {sg bd : Int} {c fa0 re0 le0 pe0 fa re le pe : Nat → Int} {n : Nat} (hS : xs_S sg c bd n fa0 re0 le0 pe0 fa re le pe) (x : Nat → Int) : xs_s fa x n 4 = sg * (c 0 * x 0 + c 1 * x 1 + c 2 * x 2 + c 3 * x 3) := by
  obtain ⟨-, s2, -⟩ := hS
  show 0 + fa (32 * 0 + n) * x 0 + fa (32 * 1 + n) * x 1 + fa (32 * 2 + n) * x 2 + fa (32 * 3 + n) * x 3 = _
  rw [s2 0 (by omega), s2 1 (by omega), s2 2 (by omega), s2 3 (by omega)]
  simp only [Int.mul_add, Int.mul_assoc]
  omega
theorem xs_S_old {sg bd : Int} {c fa0 re0 le0 pe0 fa re le pe : Nat → Int} {n s : Nat} (hn : n < 32) (hs : s < n) (hS : xs_S sg c bd n fa0 re0 le0 pe0 fa re le pe) : (∀ w, w < 4 → fa (32 * w + s) = fa0 (32 * w + s)) ∧ (∀ w, w < 5 → re (32 * w + s) = re0 (32 * w + s)) ∧ le s = le0 s ∧ pe s = pe0 s := by
  obtain ⟨s1, -, s3, -, -, s6, -, s8, -⟩ := hS
  exact ⟨fun w hw => s1 _ (fun z hz => by omega), fun w hw => s3 _ (fun z hz => by omega), s6 s (by omega), s8 s (by omega)⟩
theorem xs_S_C {sg bd : Int} {c fa0 re0 le0 pe0 fa re le pe : Nat → Int} {n : Nat} (hn : n < 32) (hsg : sg = 1 ∨ sg = -1) (hc : ∀ w, w < 4 → -99 ≤ c w ∧ c w ≤ 99) (hb : -9999 ≤ bd ∧ bd ≤ 9999) (hS : xs_S sg c bd n fa0 re0 le0 pe0 fa re le pe) (C : xs_C n fa0 re0 le0) : xs_C (n + 1) fa re le := by
  refine ⟨by omega, fun s hs => ?_⟩
  rcases Nat.lt_or_ge s n with q | q
  · obtain ⟨o1, o2, o3, o4⟩ := xs_S_old hn q hS
    obtain ⟨c1, c2, c3⟩ := C.2 s q
    refine ⟨by rw [o3]; exact c1, by have := o2 4 (by omega); rw [show 32 * 4 + s = 128 + s by omega] at this; rw [this]; exact c2, fun w hw => ?_⟩
    have e := o2 (w + 1) (by omega)
    rw [show 32 * (w + 1) + s = 32 * w + s + 32 by omega] at e
    rw [o1 w hw, o2 w (by omega), e]
    exact c3 w hw
  · have e : s = n := by omega
    subst e
    obtain ⟨s1, s2, s3, s4, s5, s6, s7, s8, s9⟩ := hS
    refine ⟨by rw [s7]; rcases hsg with e | e <;> rw [e] <;> omega, s4, fun w hw => ⟨?_, s5 w hw⟩⟩
    have := hc w hw
    rw [s2 w hw]
    rcases hsg with e | e <;> rw [e] <;> omega
theorem xs_S_Sol {sg bd : Int} {c fa0 re0 le0 pe0 fa re le pe x : Nat → Int} {n : Nat} (hn : n < 32) (hS : xs_S sg c bd n fa0 re0 le0 pe0 fa re le pe) : xs_Sol (n + 1) fa le x ↔ xs_Sol n fa0 le0 x ∧ sg * (c 0 * x 0 + c 1 * x 1 + c 2 * x 2 + c 3 * x 3) ≤ sg * bd := by
  have hold : ∀ s, s < n → (xs_s fa x s 4 = xs_s fa0 x s 4 ∧ le s = le0 s) := fun s hs => by
    obtain ⟨o1, -, o3, -⟩ := xs_S_old hn hs hS
    refine ⟨?_, o3⟩
    show 0 + fa (32 * 0 + s) * x 0 + fa (32 * 1 + s) * x 1 + fa (32 * 2 + s) * x 2 + fa (32 * 3 + s) * x 3 = 0 + fa0 (32 * 0 + s) * x 0 + fa0 (32 * 1 + s) * x 1 + fa0 (32 * 2 + s) * x 2 + fa0 (32 * 3 + s) * x 3
    rw [o1 0 (by omega), o1 1 (by omega), o1 2 (by omega), o1 3 (by omega)]
  have hnew := xs_S_sum hS x
  have hle := hS.2.2.2.2.2.2.1
  refine ⟨fun h => ⟨fun s hs => ?_, ?_⟩, fun h s hs => ?_⟩
  · have := h s (by omega)
    rw [(hold s hs).1, (hold s hs).2] at this
    exact this
  · have := h n (by omega)
    rw [hnew, hle] at this
    exact this
  · rcases Nat.lt_or_ge s n with q | q
    · rw [(hold s q).1, (hold s q).2]; exact h.1 s q
    · rw [show s = n by omega, hnew, hle]; exact h.2
theorem xm_G_0 (P : Nat → Bool) (oe : Int) (ff lf gf : Nat → Int) : xm_G P 0 oe 0 ff lf gf :=
  ⟨by omega, by omega, Or.inl ⟨rfl, fun M h => absurd h (by omega)⟩, fun _ => ⟨rfl, fun h => absurd h (by omega)⟩⟩
theorem sp_look {post : Int → Int → Int → (Nat → Int) → (Nat → Int) → (Nat → Int) → (Nat → Int) → (Nat → Int) → (Nat → Int) → (Nat → Int) → (Nat → Int) → (Nat → Int) → (Nat → Int) → (Nat → Int) → Prop} {n : Nat} {oe : Int} (hok : xr_ok n rce) (hoe : oe = 0 ∨ oe = 1) {P : Nat → Bool} (hP : ∀ N, P N = true ↔ ∀ r, r < n → xr_H rce (xm_p N) r)
    (k : ∀ sid fo fa re le pe pc fr to_ va ff lf gf, xm_G P 923521 oe fo ff lf gf → post sid fo oe fa re le pe pc fr to_ va ff lf gf) : wp_X2_look post sid sfo soe sfa sre sle spe spc sfr sto sva sff slf sgf (n : Int) rly rce rst oe := by
  unfold wp_X2_look wp_X1_size
  refine ⟨hoe, n + 1, ?_⟩
  have loop : ∀ (t r q : Nat) (fa re le pe : Nat → Int), r + t = n → q ≤ 2 * r → xs_C q fa re le → (∀ i, i < q → pe i = (i : Int)) → (∀ x, xs_Sol q fa le x ↔ ∀ r', r' < r → xr_H rce x r') →
      wp_X2_look_25 (n : Int) rly rce rst post (n : Int) (t + 1) (q : Int) 0 oe fa re le pe spc sfr sto sva sff slf sgf (r : Int) := by
    intro t
    induction t with
    | zero =>
      intro r q fa re le pe hr hq C hpe hS
      show wl_X2_look_25 _ _ _ _ _ _ _ _ _ _ _ _ _ _ _ _ _ _ _ _ _ _
      unfold wl_X2_look_25
      have hn := hok.1
      refine ⟨⟨by omega, by omega⟩, ⟨by omega, by omega⟩, fun _ => ⟨by omega, fun pc hpc => ?_⟩, fun h => absurd (show (n : Int) ≤ (r : Int) by omega) h⟩
      rw [xw_uI spc (k := 0) 0 (by omega)] at hpc
      have e0 : pc 0 = (q : Int) := by rw [hpc]; simp
      have hr2 : r = n := by omega
      subst hr2
      have hT := sp_try (sid := (q : Int)) (rsz := (r : Int)) (rly := rly) (rce := rce) (rst := rst) C (P := P) (fun N => (hP N).trans (hS (xm_p N)).symm) hoe 4 0 rfl (by omega) 0 le pe pc sfr sto sva sff slf sgf (fun fo le pe pc fr to_ va ff lf gf => post (q : Int) fo oe fa re le pe pc fr to_ va ff lf gf)
        ⟨by rw [e0]; have := C.1; omega, fun p hp => ⟨p, by omega, by rw [show 32 * 0 + p = p by omega]; exact hpe p (by omega), by rw [show 32 * 0 + p = p by omega]; show le p = le p - 0; omega⟩, fun s hs => Or.inl ⟨s, by omega, by rw [show 32 * 0 + s = s by omega]; exact hpe s hs⟩⟩
        (fun w hw => absurd hw (by omega)) (xm_G_0 P oe sff slf sgf) (fun _ => rfl) (fun fo le pe pc fr to_ va ff lf gf _ g => k _ _ _ _ _ _ _ _ _ _ _ _ _ (by
          have e : xm_b sva 0 + xm_q 0 = 923521 := by simp only [xm_b, xm_q]
          rw [e] at g; exact g))
      exact hT
    | succ t ih =>
      intro r q fa re le pe hr hq C hpe hS
      show wl_X2_look_25 _ _ _ _ _ _ _ _ _ _ _ _ _ _ _ _ _ _ _ _ _ _
      unfold wl_X2_look_25
      have hn := hok.1
      obtain ⟨k1, k2, k3⟩ := hok.2 r (by omega)
      refine ⟨⟨by omega, by omega⟩, ⟨by omega, by omega⟩, fun h => absurd h (by omega), fun _ => ?_⟩
      refine sp_takeSide (sg := 1) (by omega) (by omega) (Or.inl rfl) k2 (fun fa1 re1 le1 pe1 s1 => ?_)
      have C1 := xs_S_C (by omega) (Or.inl rfl) k2 k3 s1 C
      have hpe1 : ∀ i, i < q + 1 → pe1 i = (i : Int) := fun i hi => by
        by_cases e : i = q
        · rw [e]; exact s1.2.2.2.2.2.2.2.2
        · rw [s1.2.2.2.2.2.2.2.1 i e]; exact hpe i (by omega)
      have hd : ∀ x, xr_d rce x r = rce (6 * r + 1 + 0) * x 0 + rce (6 * r + 1 + 1) * x 1 + rce (6 * r + 1 + 2) * x 2 + rce (6 * r + 1 + 3) * x 3 := fun x => rfl
      have hstep : ∀ x, (∀ r', r' < r + 1 → xr_H rce x r') ↔ (∀ r', r' < r → xr_H rce x r') ∧ xr_H rce x r := fun x => by
        refine ⟨fun h => ⟨fun r' h1 => h r' (by omega), h r (by omega)⟩, fun h r' h1 => ?_⟩
        by_cases e : r' = r
        · rw [e]; exact h.2
        · exact h.1 r' (by omega)
      have hS1 : ∀ x, xs_Sol (q + 1) fa1 le1 x ↔ (∀ r', r' < r → xr_H rce x r') ∧ xr_d rce x r ≤ rce (6 * r + 5) := fun x => by
        rw [xs_S_Sol (by omega) s1, hS x, hd]
        simp only [Int.one_mul]
      refine sp_isEq (by omega) k1 (fun h0 => ⟨⟨by omega, by omega⟩, fun h => absurd h (by omega), fun _ => ?_⟩) (fun h0 => ⟨⟨by omega, by omega⟩, fun _ => ?_, fun h => absurd rfl h⟩)
      · refine sp_takeSide (sg := -1) (by omega) (by omega) (Or.inr rfl) k2 (fun fa2 re2 le2 pe2 s2 => ?_)
        unfold wp_X2_look_53
        intro x2 hx2
        rw [hx2, show (r : Int) + 1 = ((r + 1 : Nat) : Int) by omega]
        refine ih (r + 1) (q + 1 + 1) fa2 re2 le2 pe2 (by omega) (by omega) (xs_S_C (by omega) (Or.inr rfl) k2 k3 s2 C1) (fun i hi => ?_) (fun x => ?_)
        · by_cases e : i = q + 1
          · rw [e]; exact s2.2.2.2.2.2.2.2.2
          · rw [s2.2.2.2.2.2.2.2.1 i e]; exact hpe1 i (by omega)
        · rw [xs_S_Sol (by omega) s2, hS1 x, hstep x, ← hd]
          unfold xr_H
          constructor
          · intro h
            exact ⟨h.1.1, fun _ => by have := h.1.2; have := h.2; omega, fun q => absurd h0 q⟩
          · intro h
            have := h.2.1 h0
            exact ⟨⟨h.1, by omega⟩, by omega⟩
      · unfold wp_X2_look_53
        intro x2 hx2
        rw [hx2, show (r : Int) + 1 = ((r + 1 : Nat) : Int) by omega]
        refine ih (r + 1) (q + 1) fa1 re1 le1 pe1 (by omega) (by omega) C1 hpe1 (fun x => ?_)
        rw [hS1 x, hstep x]
        unfold xr_H
        constructor
        · intro h
          exact ⟨h.1, fun q => absurd q h0, fun _ => h.2⟩
        · intro h
          exact ⟨h.1, h.2.2 h0⟩
  exact loop n 0 0 sfa sre sle spe (by omega) (by omega) ⟨by omega, fun s hs => absurd hs (by omega)⟩ (fun i hi => absurd hi (by omega)) (fun x => ⟨fun _ r' h => absurd h (by omega), fun _ s hs => absurd hs (by omega)⟩)
end TS
