section SN
variable {sid sfo soe rsz rly : Int} {sfa sre sle spe spc sfr sto sva sff slf sgf rce rst : Nat → Int}
/-- the sides that word d hands on, its values being lo .. hi -/
def xs_Q (m : Nat) (fa re b v le pe pc : Nat → Int) (d : Nat) (lo hi : Int) : Prop :=
  (0 ≤ pc (d + 1) ∧ pc (d + 1) ≤ 32) ∧ (pc (d + 1) = 0 → lo = -15 ∧ hi = 15) ∧
    (∀ q : Nat, (q : Int) < pc (d + 1) → ∃ s, s < m ∧ pe (32 * (d + 1) + q) = (s : Int) ∧ le (32 * d + s) = b s - xs_s fa v s d ∧ ∀ u, lo ≤ u → u ≤ hi → fa (32 * d + s) * u ≤ le (32 * d + s) + re (32 * d + s + 32)) ∧
    ∀ s, s < m → (∃ q : Nat, (q : Int) < pc (d + 1) ∧ pe (32 * (d + 1) + q) = (s : Int)) ∨ re (32 * d + s) ≤ b s - xs_s fa v s d
/-- what narrow(d) leaves -/
def xs_R (m : Nat) (fa re b v le : Nat → Int) (pe0 pc0 fr0 to0 pe pc fr to_ : Nat → Int) (d : Nat) : Prop :=
  (∀ j, j < 32 * (d + 1) → pe j = pe0 j) ∧ (∀ j, j ≤ d → pc j = pc0 j) ∧ (∀ j, j ≠ d → fr j = fr0 j) ∧ (∀ j, j ≠ d → to_ j = to0 j) ∧ (-15 ≤ fr d ∧ fr d ≤ 20000 ∧ -20000 ≤ to_ d ∧ to_ d ≤ 15) ∧
  (∀ x, xs_Box x → (∀ w, w < d → x w = v w) → xs_Sol m fa b x → fr d ≤ x d ∧ x d ≤ to_ d) ∧
  (fr d ≤ to_ d → xs_Q m fa re b v le pe pc d (fr d) (to_ d))
theorem sp_narrow_loop {post : (Nat → Int) → (Nat → Int) → (Nat → Int) → (Nat → Int) → Prop} {m : Nat} {b v : Nat → Int} (C : xs_C m sfa sre b) {d : Nat} (hd : d < 4) (P : xs_P m sfa sre b v sle spe spc d) (hv : ∀ w, w < d → -15 ≤ v w ∧ v w ≤ 15)
    (k : ∀ pe pc fr to_, xs_R m sfa sre b v sle spe spc sfr sto pe pc fr to_ d → post pe pc fr to_) :
    ∀ (n p kept : Nat) (pe fr to_ : Nat → Int), p + n = (spc d).toNat → (∀ j, j ≠ d → fr j = sfr j) → (∀ j, j ≠ d → to_ j = sto j) → xs_NN m sfa sre b v sle pe spe d (fr d) (to_ d) p kept →
      wp_X2_narrow_28 (d : Int) sid sfo soe sfa sre sle sva sff slf sgf rsz rly rce rst post (spc d) (n + 1) pe spc fr to_ (p : Int) (kept : Int) := by
  intro n
  obtain ⟨P1, P2, P3⟩ := P
  have hout : ∀ (p kept : Nat) (pe fr to_ : Nat → Int), p ≤ 32 → (∀ j, j ≠ d → fr j = sfr j) → (∀ j, j ≠ d → to_ j = sto j) → xs_NN m sfa sre b v sle pe spe d (fr d) (to_ d) p kept → (p : Int) = spc d ∨ to_ d < fr d → ∀ pc, pc = xw_u spc ((d : Int) + 1) (kept : Int) → post pe pc fr to_ := by
    intro p kept pe fr to_ hp hf ht ⟨n1, n2, n3, n4, n5, n6, n7⟩ hor pc hpc
    rw [xw_uI spc (d + 1) (by omega)] at hpc
    have e1 : pc (d + 1) = (kept : Int) := by rw [hpc]; simp
    refine k pe pc fr to_ ⟨n3, fun j hj => by rw [hpc]; simp; omega, hf, ht, n1, n7, fun hle => ?_⟩
    unfold xs_Q
    rw [e1]
    refine ⟨by omega, fun q => n4 (by omega), fun q hq => n5 q (by omega), fun s hs => ?_⟩
    rcases P3 s hs with ⟨q, q1, q2⟩ | q
    · rcases n6 q (by omega) s hs q2 with ⟨z, z1, z2⟩ | z
      · exact Or.inl ⟨z, by omega, z2⟩
      · exact Or.inr z
    · exact Or.inr q
  induction n with
  | zero =>
    intro p kept pe fr to_ hp hf ht hN
    show wl_X2_narrow_28 _ _ _ _ _ _ _ _ _ _ _ _ _ _ _ _ _ _ _ _ _ _ _ _
    unfold wl_X2_narrow_28
    rw [Int.toNat_natCast]
    refine ⟨⟨by omega, by omega⟩, ⟨by omega, by omega⟩, fun h => ⟨by omega, fun pc hpc => ?_⟩, fun h => absurd (show spc d ≤ (p : Int) by omega) h⟩
    exact hout p kept pe fr to_ (by omega) hf ht hN (Or.inl (by omega)) pc hpc
  | succ n ih =>
    intro p kept pe fr to_ hp hf ht hN
    show wl_X2_narrow_28 _ _ _ _ _ _ _ _ _ _ _ _ _ _ _ _ _ _ _ _ _ _ _ _
    unfold wl_X2_narrow_28
    rw [Int.toNat_natCast]
    have hN' := hN
    obtain ⟨n1, n2, n3, n4, n5, n6, n7⟩ := hN
    refine ⟨⟨by omega, by omega⟩, ⟨by omega, by omega⟩, fun h => absurd h (by omega), fun h => ⟨by omega, by omega, ⟨by omega, by omega⟩, ⟨by omega, by omega⟩, fun h1 => ⟨by omega, fun pc hpc => ?_⟩, fun h1 => ?_⟩⟩
    · exact hout p kept pe fr to_ (by omega) hf ht hN' (Or.inr h1) pc hpc
    have hp32 : p < 32 := by omega
    obtain ⟨s, hs, es, el⟩ := P2 p (by omega)
    have e0 : ((d : Int) * 32 + (p : Int)).toNat = 32 * d + p := by omega
    refine ⟨by omega, fun x4 hx4 x5 hx5 => ?_⟩
    rw [e0, n3 _ (by omega), es] at hx4
    have hm := C.1
    have ex5 : x5.toNat = 32 * d + s := by omega
    have ex6 : (x5 + 32).toNat = 32 * d + s + 32 := by omega
    have hre := xs_re2 (d := d) C hs (by omega)
    have hre2 := xs_re2 (d := d + 1) C hs (by omega)
    rw [show 32 * (d + 1) + s = 32 * d + s + 32 by omega] at hre2
    have hsm := xs_small (x := v) C hs d (by omega) hv
    have hC := C.2 s hs
    obtain ⟨hfa, -⟩ := hC.2.2 d hd
    rw [ex5, ex6]
    refine ⟨by omega, by omega, ⟨by omega, by omega⟩, ⟨by omega, by omega⟩, fun h2 => ?_, fun h2 => ⟨by omega, by omega, by omega, ?_⟩⟩
    · unfold wp_X2_narrow_137
      intro x3 hx3
      rw [hx3, show (p : Int) + 1 = ((p + 1 : Nat) : Int) by omega]
      refine ih (p + 1) kept pe fr to_ (by omega) hf ht ⟨n1, by omega, n3, n4, n5, fun q hq s0 hs0 e => ?_, n7⟩
      rcases Nat.lt_or_ge q p with z | z
      · exact n6 q z s0 hs0 e
      · rw [show q = p by omega, es] at e
        have : s = s0 := by omega
        subst this
        exact Or.inr (by omega)
    · refine sp_keep hd hfa ⟨by omega, by omega⟩ ⟨by omega, by omega⟩ ⟨by omega, by omega⟩ (fun fr2 to2 k1 k2 k3 k4 => ⟨by omega, fun pe2 hpe2 x2 hx2 => ?_⟩)
      unfold wp_X2_narrow_137
      intro x3 hx3
      rw [xw_uI pe (32 * (d + 1) + kept) (by omega), hx4] at hpe2
      rw [hx3, hx2, show (p : Int) + 1 = ((p + 1 : Nat) : Int) by omega, show (kept : Int) + 1 = ((kept + 1 : Nat) : Int) by omega]
      have epe : ∀ j, j ≠ 32 * (d + 1) + kept → pe2 j = pe j := fun j hj => by rw [hpe2]; simp [hj]
      have epk : pe2 (32 * (d + 1) + kept) = (s : Int) := by rw [hpe2]; simp
      refine ih (p + 1) (kept + 1) pe2 fr2 to2 (by omega) (fun j hj => by rw [k1 j hj, hf j hj]) (fun j hj => by rw [k2 j hj, ht j hj]) ⟨k3, by omega, fun j hj => by rw [epe j (by omega), n3 j hj], fun q => absurd q (by omega), fun q hq => ?_, fun q hq s0 hs0 e => ?_, fun x hx hxv hxs => ?_⟩
      · rcases Nat.lt_or_ge q kept with z | z
        · obtain ⟨s1, b1, b2, b3, b4⟩ := n5 q z
          refine ⟨s1, b1, by rw [epe _ (by omega), b2], b3, fun u hu1 hu2 => ?_⟩
          have := (k4 u).mpr ⟨hu1, hu2⟩
          exact b4 u this.1 this.2.1
        · rw [show q = kept by omega]
          exact ⟨s, hs, epk, el, fun u hu1 hu2 => ((k4 u).mpr ⟨hu1, hu2⟩).2.2⟩
      · rcases Nat.lt_or_ge q p with z | z
        · rcases n6 q z s0 hs0 e with ⟨z1, z2, z3⟩ | z1
          · exact Or.inl ⟨z1, by omega, by rw [epe _ (by omega), z3]⟩
          · exact Or.inr z1
        · rw [show q = p by omega, es] at e
          have : s = s0 := by omega
          subst this
          exact Or.inl ⟨kept, by omega, epk⟩
      · have a1 := n7 x hx hxv hxs
        have a2 := xs_keep C hs hd hx hxv hxs
        exact (k4 (x d)).mp ⟨a1.1, a1.2, by rw [el]; exact a2⟩
theorem sp_narrow {post : (Nat → Int) → (Nat → Int) → (Nat → Int) → (Nat → Int) → Prop} {m : Nat} {b v : Nat → Int} (C : xs_C m sfa sre b) {d : Nat} (hd : d < 4) (P : xs_P m sfa sre b v sle spe spc d) (hv : ∀ w, w < d → -15 ≤ v w ∧ v w ≤ 15)
    (k : ∀ pe pc fr to_, xs_R m sfa sre b v sle spe spc sfr sto pe pc fr to_ d → post pe pc fr to_) : wp_X2_narrow post sid sfo soe sfa sre sle spe spc sfr sto sva sff slf sgf rsz rly rce rst (d : Int) := by
  unfold wp_X2_narrow
  refine ⟨by omega, fun fr hfr => ⟨by omega, fun to_ hto => ⟨by omega, fun x2 hx2 => ⟨(spc d).toNat + 1, ?_⟩⟩⟩⟩
  rw [Int.toNat_natCast] at hx2
  subst hx2
  rw [xw_uI sfr d rfl] at hfr
  rw [xw_uI sto d rfl] at hto
  have e1 : fr d = -15 := by rw [hfr]; simp
  have e2 : to_ d = 15 := by rw [hto]; simp
  refine sp_narrow_loop (sfr := sfr) (sto := sto) C hd P hv k (spc d).toNat 0 0 spe fr to_ (by omega) (fun j hj => by rw [hfr]; simp [hj]) (fun j hj => by rw [hto]; simp [hj]) ?_
  rw [e1, e2]
  exact ⟨by omega, by omega, fun _ _ => rfl, fun _ => ⟨rfl, rfl⟩, fun q hq => absurd hq (by omega), fun q hq => absurd hq (by omega), fun x hx _ _ => hx d hd⟩
end SN
