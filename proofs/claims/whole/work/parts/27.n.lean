/-! SPLITS, cases, finish: the reference. -/
def xl_ca (w a c : Int) (x : Nat → Int) : Prop := (c = 1 → x w.toNat ≤ a) ∧ (¬ c = 1 → a < x w.toNat)
/-- a point is in what is open -/
def xl_O (ns : Nat) (sw sa sc x : Nat → Int) : Prop := ∀ s, s < ns → (∀ z, z < s → xl_ca (sw z) (sa z) (sc z) x) → ¬ xl_ca (sw s) (sa s) (sc s) x → sc s = 1
def xl_okm (ns : Nat) (sw sa sc sl : Nat → Int) : Prop := ns ≤ 10 ∧ ∀ s, s < ns → (0 ≤ sw s ∧ sw s < 4) ∧ (-16 ≤ sa s ∧ sa s ≤ 15) ∧ (sc s = 1 ∨ sc s = 2) ∧ 0 ≤ sl s ∧ sl s < 200
section SR
variable {mrw mly mln msp mwh mcl mtr mfo : Int} {mki mro mlf mli msw msa msc msl mff mlt mgr mxx msu : Nat → Int}
theorem sp4_split {post : Int → Int → Int → (Nat → Int) → (Nat → Int) → (Nat → Int) → (Nat → Int) → (Nat → Int) → Prop} {nl ns : Nat} {p q : Int} (rp : xw_r p) (rq : xw_r q) (hn : nl ≤ 200) (hs : ns ≤ 10) (hw : mwh = 0 ∨ mwh = 1)
    (kn : ¬ ((0 ≤ p ∧ p < 4) ∧ (-16 ≤ q ∧ q ≤ 15) ∧ ns < 10 ∧ mwh = 0 ∧ nl < 200) → post (-1) (nl : Int) (ns : Int) mli msw msa msc msl)
    (ky : ∀ w : Nat, p = (w : Int) → w < 4 → (-16 ≤ q ∧ q ≤ 15) → ns < 10 → mwh = 0 → nl < 200 → ∀ li sw sa sc sl, xl_new nl mli li (xl_word w 1 q) → (∀ j, j ≠ ns → sw j = msw j ∧ sa j = msa j ∧ sc j = msc j ∧ sl j = msl j) → sw ns = (w : Int) → sa ns = q → sc ns = 1 → sl ns = (nl : Int) → post (nl : Int) ((nl + 1 : Nat) : Int) ((ns + 1 : Nat) : Int) li sw sa sc sl) :
    wp_X4_split post mrw mly (nl : Int) (ns : Int) mwh mcl mtr mfo mki mro mlf mli msw msa msc msl mff mlt mgr mxx msu p q := by
  unfold wp_X4_split
  refine ⟨rp, fun h => kn (by omega), fun h => ⟨fun h2 => kn (by omega), fun h2 => ⟨rq, fun h3 => kn (by omega), fun h3 => ⟨fun h4 => kn (by omega), fun h4 => ⟨⟨by omega, by omega⟩, fun h5 => kn (by omega), fun h5 => ?_⟩⟩⟩⟩⟩
  obtain ⟨w, ew⟩ : ∃ w : Nat, p = (w : Int) := ⟨p.toNat, by omega⟩
  subst ew
  refine sp_isFull hn hw (fun f1 f2 => ⟨⟨by omega, by omega⟩, fun _ => ⟨by omega, fun sw e1 => ⟨by omega, fun sa e2 => ⟨by omega, fun sc e3 => ⟨by omega, fun sl e4 y hy => ?_⟩⟩⟩⟩, fun q => absurd rfl q⟩) (fun f => ⟨⟨by omega, by omega⟩, fun q => absurd q (by omega), fun _ => kn (by omega)⟩)
  rw [xw_uI _ ns rfl] at e1 e2 e3 e4
  refine sp_putWord f2 (by omega) (fun li hli => ?_)
  rw [hy, show (ns : Int) + 1 = ((ns + 1 : Nat) : Int) by omega]
  exact ky w rfl (by omega) ⟨by omega, by omega⟩ (by omega) f1 f2 li sw sa sc sl hli (fun j hj => by rw [e1, e2, e3, e4]; simp [hj]) (by rw [e1]; simp) (by rw [e2]; simp) (by rw [e3]; simp) (by rw [e4]; simp)
theorem sp4_close {post : Int → Int → Int → Int → Int → (Nat → Int) → (Nat → Int) → Prop} {nl ns : Nat} {p : Int} (rp : xw_r p) (hn : nl ≤ 200) (hS : xl_okm ns msw msa msc msl) (hw : mwh = 0 ∨ mwh = 1) (hL : xl_big nl mli)
    (kn : ¬ (mwh = 0 ∧ (0 ≤ p ∧ p < nl) ∧ xl_con mli p.toNat) → post (-1) (nl : Int) (ns : Int) mwh mcl mli msc)
    (kw : mwh = 0 → ∀ i : Nat, p = (i : Int) → i < nl → xl_con mli i → (∀ s, s < ns → msc s = 2) → post 0 (if ns = 0 then (nl : Int) else msl 0) 0 1 (mcl + 1) mli msc)
    (kc : mwh = 0 → ∀ i : Nat, p = (i : Int) → i < nl → xl_con mli i → ∀ s bf w : Nat, s < ns → msc s = 1 → (∀ z, s < z → z < ns → msc z = 2) → msl s = (bf : Int) → msw s = (w : Int) → ∀ li sc, xl_new bf mli li (xl_word w (-1) (-msa s - 1)) → (∀ j, j ≠ s → sc j = msc j) → sc s = 2 → post ((s + 1 : Nat) : Int) ((bf + 1 : Nat) : Int) ((s + 1 : Nat) : Int) 0 (mcl + 1) li sc) :
    wp_X4_close post mrw mly (nl : Int) (ns : Int) mwh mcl mtr mfo mki mro mlf mli msw msa msc msl mff mlt mgr mxx msu p := by
  unfold wp_X4_close
  refine ⟨⟨by omega, by omega⟩, fun h0 => ?_, fun h0 => kn (fun z => h0 z.1)⟩
  subst h0
  refine sp_isLine rp hn (fun h => ⟨⟨by omega, by omega⟩, fun _ => kn (fun z => h z.2.1), fun q => absurd rfl q⟩) (fun i ei hi => ⟨⟨by omega, by omega⟩, fun q => absurd q (by omega), fun _ x2 hx2 => ?_⟩)
  subst ei
  rw [Int.toNat_natCast] at kn
  rw [show x2.toNat = 5 * i by omega, show (x2 + 1).toNat = 5 * i + 1 by omega, show (x2 + 2).toNat = 5 * i + 2 by omega, show (x2 + 3).toNat = 5 * i + 3 by omega, show (x2 + 4).toNat = 5 * i + 4 by omega]
  have l0 := hL i hi 0 (by omega)
  have l1 := hL i hi 1 (by omega)
  have l2 := hL i hi 2 (by omega)
  have l3 := hL i hi 3 (by omega)
  have l4 := hL i hi 4 (by omega)
  rw [show 5 * i + 0 = 5 * i from rfl] at l0
  have bad : ∀ c, c < 4 → ¬ mli (5 * i + c) = 0 → post (-1) (nl : Int) (ns : Int) 0 mcl mli msc := fun c hc h => kn (fun z => h (z.2.2.1 c hc))
  refine ⟨by omega, ⟨by omega, by omega⟩, fun a0 => ⟨by omega, ⟨by omega, by omega⟩, fun a1 => ⟨by omega, ⟨by omega, by omega⟩, fun a2 => ⟨by omega, ⟨by omega, by omega⟩, fun a3 => ⟨by omega, ⟨by omega, by omega⟩, fun a4 cf hcf => ⟨ns + 1, ?_⟩, fun a4 => kn (fun z => a4 z.2.2.2)⟩, fun a3 => bad 3 (by omega) a3⟩, fun a2 => bad 2 (by omega) a2⟩, fun a1 => bad 1 (by omega) a1⟩, fun a0 => bad 0 (by omega) a0⟩
  have hcon : xl_con mli i := ⟨fun c hc => by
    match c, hc with
    | 0, _ => exact a0
    | 1, _ => exact a1
    | 2, _ => exact a2
    | 3, _ => exact a3, a4⟩
  subst hcf
  obtain ⟨hs10, hsp⟩ := hS
  have loop : ∀ (t : Nat) (ln : Int), t ≤ ns → (∀ z, t ≤ z → z < ns → msc z = 2) → (if t = ns then ln = (nl : Int) else ln = msl t) → wp_X4_close_96 mrw mly mtr mfo mki mro mlf msw msa msl mff mlt mgr mxx msu post (t + 1) ln (t : Int) 0 (mcl + 1) mli msc := by
    intro t
    induction t with
    | zero =>
      intro ln _ hz hln
      rw [wp_X4_close_96]
      unfold wl_X4_close_96 wp_X4_close_144
      refine ⟨⟨by omega, by omega⟩, fun _ => ⟨⟨by omega, by omega⟩, fun _ => ?_, fun q => absurd (show ((0 : Nat) : Int) = 0 from rfl) q⟩, fun q => absurd (show ((0 : Nat) : Int) ≤ 0 by omega) q⟩
      have e : ln = (if ns = 0 then (nl : Int) else msl 0) := by
        by_cases q : ns = 0
        · rw [if_pos q.symm] at hln; rw [if_pos q, hln]
        · rw [if_neg (fun z => q z.symm)] at hln; rw [if_neg q, hln]
      rw [e]
      exact kw rfl i rfl hi hcon (fun s hs => hz s (by omega) hs)
    | succ t ih =>
      intro ln ht hz hln
      rw [wp_X4_close_96]
      unfold wl_X4_close_96
      obtain ⟨o1, o2, o3, o4⟩ := hsp t (by omega)
      rw [show ((t + 1 : Nat) : Int) - 1 = (t : Int) by omega, Int.toNat_natCast]
      refine ⟨⟨by omega, by omega⟩, fun q => absurd q (by omega), fun _ => ⟨by omega, ⟨by omega, by omega⟩, fun q sf hsf => ?_, fun q => ?_⟩⟩
      · subst hsf
        rw [Int.toNat_natCast]
        refine ⟨by omega, fun lf hlf => ?_⟩
        subst hlf
        refine ih (msl t) (by omega) (fun z z1 z2 => ?_) (by rw [if_neg (by omega)])
        by_cases e : z = t
        · rw [e]; exact q
        · exact hz z (by omega) z2
      · unfold wp_X4_close_144
        refine ⟨⟨by omega, by omega⟩, fun z => absurd z (by omega), fun _ x3 hx3 => ?_⟩
        have e3 : x3 = (t : Int) := by omega
        subst e3
        rw [Int.toNat_natCast]
        obtain ⟨bf, ebf⟩ : ∃ bf : Nat, msl t = (bf : Int) := ⟨(msl t).toNat, by omega⟩
        obtain ⟨w, ew⟩ : ∃ w : Nat, msw t = (w : Int) := ⟨(msw t).toNat, by omega⟩
        refine ⟨by omega, fun lf hlf => ⟨by omega, fun sc hsc => ⟨by omega, by omega, ⟨by omega, by omega⟩, ?_⟩⟩⟩
        rw [xw_uI _ t rfl] at hsc
        rw [hlf, ebf, ew]
        refine sp_putWord (by omega) (by omega) (fun li hli => ?_)
        exact kc rfl i rfl hi hcon t bf w (by omega) (by omega) (fun z z1 z3 => hz z (by omega) z3) ebf ew li sc hli (fun j hj => by rw [hsc]; simp [hj]) (by rw [hsc]; simp)
  exact loop ns (nl : Int) (Nat.le_refl ns) (fun z z1 z2 => by omega) (by rw [if_pos rfl])
theorem sp_isInCase {post : Int → Prop} {s : Nat} {c : Int} (hs : s < 10) (hw : 0 ≤ msw s ∧ msw s < 4) (ha : -16 ≤ msa s ∧ msa s ≤ 15) (hc : c = 1 ∨ c = 2) (hx : xs_Box mxx) (k1 : xl_ca (msw s) (msa s) c mxx → post 1) (k0 : ¬ xl_ca (msw s) (msa s) c mxx → post 0) :
    wp_X4_isInCase post mrw mly mln msp mwh mcl mtr mfo mki mro mlf mli msw msa msc msl mff mlt mgr mxx msu (s : Int) c := by
  unfold wp_X4_isInCase
  rw [Int.toNat_natCast]
  have hb := hx (msw s).toNat (by omega)
  refine ⟨by omega, hw, by omega, ⟨by omega, by omega⟩, ⟨by omega, by omega⟩, fun h => ⟨⟨by omega, by omega⟩, fun e => ⟨fun q => absurd q (by omega), fun _ => k0 (fun z => by have := z.1 e; omega)⟩, fun e => ⟨fun _ => k1 ⟨fun q => absurd q e, fun _ => h⟩, fun q => absurd rfl q⟩⟩, fun h => ⟨⟨by omega, by omega⟩, fun e => ⟨fun _ => k1 ⟨fun _ => by omega, fun q => absurd e q⟩, fun q => absurd rfl q⟩, fun e => ⟨fun q => absurd q (by omega), fun _ => k0 (fun z => by have := z.2 e; omega)⟩⟩⟩
theorem sp_isOpen {post : Int → Prop} {ns : Nat} (hS : xl_okm ns msw msa msc msl) (hx : xs_Box mxx) (k1 : xl_O ns msw msa msc mxx → post 1) (k0 : ¬ xl_O ns msw msa msc mxx → post 0) :
    wp_X4_isOpen post mrw mly mln (ns : Int) mwh mcl mtr mfo mki mro mlf mli msw msa msc msl mff mlt mgr mxx msu := by
  unfold wp_X4_isOpen
  obtain ⟨hs10, hsp⟩ := hS
  refine ⟨ns + 1, ?_⟩
  have loop : ∀ (t s : Nat), s + t = ns → (∀ z, z < s → xl_ca (msw z) (msa z) (msc z) mxx) → wp_X4_isOpen_2 mrw mly mln (ns : Int) mwh mcl mtr mfo mki mro mlf mli msw msa msc msl mff mlt mgr mxx msu post (t + 1) (s : Int) := by
    intro t
    induction t with
    | zero =>
      intro s hs h
      rw [wp_X4_isOpen_2]
      unfold wl_X4_isOpen_2
      refine ⟨⟨by omega, by omega⟩, ⟨by omega, by omega⟩, fun _ => k1 (fun z hz _ hno => absurd (h z (by omega)) hno), fun q => absurd (show (ns : Int) ≤ (s : Int) by omega) q⟩
    | succ t ih =>
      intro s hs h
      rw [wp_X4_isOpen_2]
      unfold wl_X4_isOpen_2
      dsimp only
      rw [Int.toNat_natCast]
      obtain ⟨o1, o2, o3, o4⟩ := hsp s (by omega)
      refine ⟨⟨by omega, by omega⟩, ⟨by omega, by omega⟩, fun q => absurd q (by omega), fun _ => ⟨by omega, sp_isInCase (by omega) o1 o2 o3 hx (fun hin => ⟨⟨by omega, by omega⟩, fun q => absurd q (by omega), fun _ y hy => ?_⟩) (fun hout => ⟨⟨by omega, by omega⟩, fun _ => ⟨by omega, ⟨by omega, by omega⟩, fun e => k1 (fun z hz hall hno => ?_), fun e => k0 (fun z => e (z s (by omega) h hout))⟩, fun q => absurd rfl q⟩)⟩⟩
      · rw [hy, show (s : Int) + 1 = ((s + 1 : Nat) : Int) by omega]
        refine ih (s + 1) (by omega) (fun z hz => ?_)
        by_cases e : z = s
        · rw [e]; exact hin
        · exact h z (by omega)
      · rcases Nat.lt_trichotomy z s with q | q | q
        · exact absurd (h z q) hno
        · rw [q]; exact e
        · exact absurd (hall s q) hout
  exact loop ns 0 (by omega) (fun z hz => absurd hz (by omega))
theorem xl_O_cg {ns : Nat} {sw sa sc x y : Nat → Int} (hw : ∀ s, s < ns → 0 ≤ sw s ∧ sw s < 4) (h : ∀ w, w < 4 → x w = y w) : xl_O ns sw sa sc x ↔ xl_O ns sw sa sc y := by
  have e : ∀ s, s < ns → (xl_ca (sw s) (sa s) (sc s) x ↔ xl_ca (sw s) (sa s) (sc s) y) := fun s hs => by
    have := hw s hs
    unfold xl_ca
    rw [h (sw s).toNat (by omega)]
  unfold xl_O
  constructor
  · intro q s hs h1 h2
    exact q s hs (fun z hz => (e z (by omega)).mpr (h1 z hz)) (fun z => h2 ((e s hs).mp z))
  · intro q s hs h1 h2
    exact q s hs (fun z hz => (e z (by omega)).mp (h1 z hz)) (fun z => h2 ((e s hs).mpr z))
/-- no open solution below N -/
def xl_no (n : Nat) (R : Nat → Int) (ns : Nat) (sw sa sc : Nat → Int) (N : Nat) : Prop := ∀ M, M < N → xr_P n R M = true → ¬ xl_O ns sw sa sc (xm_p M)
theorem sp_fin65 {post : Int → Int → Int → Int → (Nat → Int) → (Nat → Int) → Prop} {J : Int → Int → Int → (Nat → Int) → (Nat → Int) → Int → Prop} {n ns i j k : Nat} (hok : xr_ok n (xr_M mki mro)) (hS : xl_okm ns msw msa msc msl) (hi : i < 31) (hj : j < 31) (hk : k < 31) (hsum : ∀ r, r < n → msu r = mro (5 * r) * ((i : Int) - 15) + mro (5 * r + 1) * ((j : Int) - 15) + mro (5 * r + 2) * ((k : Int) - 15))
    (k0 : (∃ N, N < 923521 ∧ xr_P n (xr_M mki mro) N = true ∧ xl_O ns msw msa msc (xm_p N)) → ∀ xx su, post 0 mln (ns : Int) mwh xx su)
    (kk : ∀ xx, xl_no n (xr_M mki mro) ns msw msa msc (29791 * i + 961 * j + 31 * (k + 1)) → J mln (ns : Int) mwh xx msu (((k + 1 : Nat) : Int) - 15)) :
    ∀ (t l : Nat) (xx : Nat → Int), l + t = 31 → xx 0 = (i : Int) - 15 → xx 1 = (j : Int) - 15 → xx 2 = (k : Int) - 15 → xl_no n (xr_M mki mro) ns msw msa msc (29791 * i + 961 * j + 31 * k + l) →
      wp_X4_finish_65 J (n : Int) mly mcl mtr mfo mki mro mlf mli msw msa msc msl mff mlt mgr post ((k : Int) - 15) (t + 1) mln (ns : Int) mwh xx msu ((l : Int) - 15) := by
  intro t
  induction t with
  | zero =>
    intro l xx hl x0 x1 x2 g
    rw [wp_X4_finish_65]
    unfold wl_X4_finish_65
    refine ⟨⟨by omega, by omega⟩, fun _ y hy => ?_, fun q => absurd (show (15 : Int) < (l : Int) - 15 by omega) q⟩
    rw [hy, show (k : Int) - 15 + 1 = ((k + 1 : Nat) : Int) - 15 by omega]
    refine kk xx ?_
    rw [show 29791 * i + 961 * j + 31 * (k + 1) = 29791 * i + 961 * j + 31 * k + l by omega]
    exact g
  | succ t ih =>
    intro l xx hl x0 x1 x2 g
    rw [wp_X4_finish_65]
    unfold wl_X4_finish_65
    have hl31 : l < 31 := by omega
    obtain ⟨N, eN⟩ : ∃ N, N = 29791 * i + 961 * j + 31 * k + l := ⟨_, rfl⟩
    obtain ⟨d0, d1, d2, d3⟩ := xm_dig hi hj hk hl31
    rw [← eN] at g d0 d1 d2 d3
    refine ⟨⟨by omega, by omega⟩, fun q => absurd q (by omega), fun _ => ⟨by omega, fun xx2 hxx2 => ?_⟩⟩
    rw [xw_uI xx (k := 3) 3 (by omega)] at hxx2
    have hxx : ∀ w, w < 4 → xx2 w = xm_p N w := fun w hw => by
      match w, hw with
      | 0, _ => rw [hxx2, d0]; simp [x0]
      | 1, _ => rw [hxx2, d1]; simp [x1]
      | 2, _ => rw [hxx2, d2]; simp [x2]
      | 3, _ => rw [hxx2, d3]; simp
    have next : ¬ (xr_P n (xr_M mki mro) N = true ∧ xl_O ns msw msa msc (xm_p N)) → wp_X4_finish_98 (wp_X4_finish_65 J (n : Int) mly mcl mtr mfo mki mro mlf mli msw msa msc msl mff mlt mgr post ((k : Int) - 15) (t + 1)) mln (ns : Int) mwh xx2 msu ((l : Int) - 15) := by
      intro hno
      unfold wp_X4_finish_98
      intro y hy
      rw [hy, show (l : Int) - 15 + 1 = ((l + 1 : Nat) : Int) - 15 by omega]
      refine ih (l + 1) xx2 (by omega) (by rw [hxx 0 (by omega), d0]) (by rw [hxx 1 (by omega), d1]) (by rw [hxx 2 (by omega), d2]) (fun M hM hp ho => ?_)
      by_cases e : M = N
      · rw [e] at hp ho; exact hno ⟨hp, ho⟩
      · exact g M (by omega) hp ho
    have hsum2 : ∀ r, r < n → msu r = mro (5 * r) * xm_p N 0 + mro (5 * r + 1) * xm_p N 1 + mro (5 * r + 2) * xm_p N 2 := fun r hr => by rw [d0, d1, d2]; exact hsum r hr
    have hb2 : xs_Box xx2 := fun w hw => by rw [hxx w hw]; exact xm_p_in N w
    have hO := xl_O_cg (ns := ns) (sw := msw) (sa := msa) (sc := msc) (x := xx2) (y := xm_p N) (fun s hs => (hS.2 s hs).1) hxx
    rw [← d3] at next ⊢
    refine sp_holds hok (fun w _ => xm_p_in N w) hsum2 (fun hh => ⟨⟨by omega, by omega⟩, fun q => absurd q (by omega), fun _ => ?_⟩) (fun hh => ⟨⟨by omega, by omega⟩, fun _ => next (fun z => hh ((xr_P_iff _ _ _).mp z.1)), fun q => absurd rfl q⟩)
    have hPN : xr_P n (xr_M mki mro) N = true := (xr_P_iff _ _ _).mpr hh
    refine sp_isOpen hS hb2 (fun ho => ⟨⟨by omega, by omega⟩, fun q => absurd q (by omega), fun _ => ?_⟩) (fun ho => ⟨⟨by omega, by omega⟩, fun _ => next (fun z => ho (hO.mpr z.2)), fun q => absurd rfl q⟩)
    exact k0 ⟨N, by omega, hPN, hO.mp ho⟩ xx2 msu
theorem sp_fin30 {post : Int → Int → Int → Int → (Nat → Int) → (Nat → Int) → Prop} {J : Int → Int → Int → (Nat → Int) → (Nat → Int) → Int → Prop} {n ns i j : Nat} (hok : xr_ok n (xr_M mki mro)) (hS : xl_okm ns msw msa msc msl) (hi : i < 31) (hj : j < 31)
    (k0 : (∃ N, N < 923521 ∧ xr_P n (xr_M mki mro) N = true ∧ xl_O ns msw msa msc (xm_p N)) → ∀ xx su, post 0 mln (ns : Int) mwh xx su)
    (kk : ∀ xx su, xl_no n (xr_M mki mro) ns msw msa msc (29791 * i + 961 * (j + 1)) → J mln (ns : Int) mwh xx su (((j + 1 : Nat) : Int) - 15)) :
    ∀ (t k : Nat) (xx su : Nat → Int), k + t = 31 → xl_no n (xr_M mki mro) ns msw msa msc (29791 * i + 961 * j + 31 * k) →
      wp_X4_finish_30 J (n : Int) mly mcl mtr mfo mki mro mlf mli msw msa msc msl mff mlt mgr post ((i : Int) - 15) ((j : Int) - 15) (t + 1) mln (ns : Int) mwh xx su ((k : Int) - 15) := by
  intro t
  induction t with
  | zero =>
    intro k xx su hk g
    rw [wp_X4_finish_30]
    unfold wl_X4_finish_30
    refine ⟨⟨by omega, by omega⟩, fun _ y hy => ?_, fun q => absurd (show (15 : Int) < (k : Int) - 15 by omega) q⟩
    rw [hy, show (j : Int) - 15 + 1 = ((j + 1 : Nat) : Int) - 15 by omega]
    refine kk xx su ?_
    rw [show 29791 * i + 961 * (j + 1) = 29791 * i + 961 * j + 31 * k by omega]
    exact g
  | succ t ih =>
    intro k xx su hk g
    rw [wp_X4_finish_30]
    unfold wl_X4_finish_30
    refine ⟨⟨by omega, by omega⟩, fun q => absurd q (by omega), fun _ => ⟨by omega, fun a ha => ⟨by omega, fun b hb => ⟨by omega, fun c hc => ?_⟩⟩⟩⟩
    rw [xw_uI xx (k := 0) 0 (by omega)] at ha
    rw [xw_uI a (k := 1) 1 (by omega)] at hb
    rw [xw_uI b (k := 2) 2 (by omega)] at hc
    have c0 : c 0 = (i : Int) - 15 := by rw [hc, hb, ha]; simp
    have c1 : c 1 = (j : Int) - 15 := by rw [hc, hb, ha]; simp
    have c2 : c 2 = (k : Int) - 15 := by rw [hc, hb, ha]; simp
    refine sp_addUp hok.1 (fun su2 hsu2 => ⟨32, ?_⟩)
    rw [c0, c1, c2] at hsu2
    refine sp_fin65 hok hS hi hj (by omega) hsu2 k0 (fun xx2 g2 => ?_) 31 0 c rfl c0 c1 c2 (by rw [Nat.add_zero]; exact g)
    exact ih (k + 1) xx2 su2 (by omega) g2
theorem sp_fin21 {post : Int → Int → Int → Int → (Nat → Int) → (Nat → Int) → Prop} {J : Int → Int → Int → (Nat → Int) → (Nat → Int) → Int → Prop} {n ns i : Nat} (hok : xr_ok n (xr_M mki mro)) (hS : xl_okm ns msw msa msc msl) (hi : i < 31)
    (k0 : (∃ N, N < 923521 ∧ xr_P n (xr_M mki mro) N = true ∧ xl_O ns msw msa msc (xm_p N)) → ∀ xx su, post 0 mln (ns : Int) mwh xx su)
    (kk : ∀ xx su, xl_no n (xr_M mki mro) ns msw msa msc (29791 * (i + 1)) → J mln (ns : Int) mwh xx su (((i + 1 : Nat) : Int) - 15)) :
    ∀ (t j : Nat) (xx su : Nat → Int), j + t = 31 → xl_no n (xr_M mki mro) ns msw msa msc (29791 * i + 961 * j) →
      wp_X4_finish_21 J (n : Int) mly mcl mtr mfo mki mro mlf mli msw msa msc msl mff mlt mgr post ((i : Int) - 15) (t + 1) mln (ns : Int) mwh xx su ((j : Int) - 15) := by
  intro t
  induction t with
  | zero =>
    intro j xx su hj g
    rw [wp_X4_finish_21]
    unfold wl_X4_finish_21
    refine ⟨⟨by omega, by omega⟩, fun _ y hy => ?_, fun q => absurd (show (15 : Int) < (j : Int) - 15 by omega) q⟩
    rw [hy, show (i : Int) - 15 + 1 = ((i + 1 : Nat) : Int) - 15 by omega]
    refine kk xx su ?_
    rw [show 29791 * (i + 1) = 29791 * i + 961 * j by omega]
    exact g
  | succ t ih =>
    intro j xx su hj g
    rw [wp_X4_finish_21]
    unfold wl_X4_finish_21
    refine ⟨⟨by omega, by omega⟩, fun q => absurd q (by omega), fun _ => ⟨32, ?_⟩⟩
    exact sp_fin30 hok hS hi (by omega) k0 (fun xx2 su2 g2 => ih (j + 1) xx2 su2 (by omega) g2) 31 0 xx su rfl (by rw [Nat.mul_zero, Nat.add_zero]; exact g)
theorem sp4_finish {post : Int → Int → Int → Int → (Nat → Int) → (Nat → Int) → Prop} {n ns : Nat} (hok : xr_ok n (xr_M mki mro)) (hS : xl_okm ns msw msa msc msl) (hw : mwh = 0 ∨ mwh = 1)
    (kn : mwh = 1 → post (-1) mln (ns : Int) mwh mxx msu)
    (k0 : mwh = 0 → (∃ N, N < 923521 ∧ xr_P n (xr_M mki mro) N = true ∧ xl_O ns msw msa msc (xm_p N)) → ∀ xx su, post 0 mln (ns : Int) mwh xx su)
    (k1 : mwh = 0 → xl_no n (xr_M mki mro) ns msw msa msc 923521 → ∀ xx su, post 1 (if ns = 0 then mln else msl 0) 0 1 xx su) :
    wp_X4_finish post (n : Int) mly mln (ns : Int) mwh mcl mtr mfo mki mro mlf mli msw msa msc msl mff mlt mgr mxx msu := by
  unfold wp_X4_finish
  have hs10 := hS.1
  refine ⟨⟨by omega, by omega⟩, fun h => ⟨32, ?_⟩, fun h => kn (by omega)⟩
  have loop : ∀ (t i : Nat) (xx su : Nat → Int), i + t = 31 → xl_no n (xr_M mki mro) ns msw msa msc (29791 * i) →
      wp_X4_finish_12 (n : Int) mly mcl mtr mfo mki mro mlf mli msw msa msc msl mff mlt mgr post (t + 1) mln (ns : Int) mwh xx su ((i : Int) - 15) := by
    intro t
    induction t with
    | zero =>
      intro i xx su hi g
      rw [wp_X4_finish_12]
      unfold wl_X4_finish_12
      have g : xl_no n (xr_M mki mro) ns msw msa msc 923521 := by rw [show (923521 : Nat) = 29791 * i by omega]; exact g
      have := k1 h g xx su
      refine ⟨⟨by omega, by omega⟩, fun _ => ⟨⟨by omega, by omega⟩, fun q => ?_, fun q => ⟨by omega, fun lf hlf => ?_⟩⟩, fun q => absurd (show (15 : Int) < (i : Int) - 15 by omega) q⟩
      · rw [if_pos (by omega)] at this; exact this
      · rw [if_neg (by omega)] at this; rw [hlf]; exact this
    | succ t ih =>
      intro i xx su hi g
      rw [wp_X4_finish_12]
      unfold wl_X4_finish_12
      refine ⟨⟨by omega, by omega⟩, fun q => absurd q (by omega), fun _ => ⟨32, ?_⟩⟩
      exact sp_fin21 hok hS (by omega) (k0 h) (fun xx2 su2 g2 => ih (i + 1) xx2 su2 (by omega) g2) 31 0 xx su rfl (by rw [Nat.mul_zero, Nat.add_zero]; exact g)
  exact loop 31 0 mxx msu rfl (fun M hM => absurd hM (by omega))
theorem sp4_line {post : Int → Prop} {nl : Nat} {p1 p2 : Int} (r1 : xw_r p1) (r2 : xw_r p2) (hn : nl ≤ 200) (kn : ¬ (0 ≤ p1 ∧ p1 < nl ∧ 0 ≤ p2 ∧ p2 < 5) → post (-9223372036854775808)) (ky : ∀ i w : Nat, p1 = (i : Int) → p2 = (w : Int) → i < nl → w < 5 → post (mli (5 * i + w))) :
    wp_X4_line post mrw mly (nl : Int) msp mwh mcl mtr mfo mki mro mlf mli msw msa msc msl mff mlt mgr mxx msu p1 p2 := by
  unfold wp_X4_line
  refine sp_isLine r1 hn (fun h => ⟨⟨by omega, by omega⟩, fun _ => kn (by omega), fun q => absurd rfl q⟩) (fun i ei hi => ⟨⟨by omega, by omega⟩, fun q => absurd q (by omega), fun _ => ⟨r2, fun h => kn (by omega), fun h => ⟨fun h2 => kn (by omega), fun h2 => ⟨by omega, ?_⟩⟩⟩⟩)
  have := ky i p2.toNat ei (by omega) hi (by omega)
  rw [show (5 * p1 + p2).toNat = 5 * i + p2.toNat by omega]
  exact this
theorem sp4_ofSplit {post : Int → Prop} {ns : Nat} {p1 p2 : Int} (r1 : xw_r p1) (r2 : xw_r p2) (hn : ns ≤ 10) (kn : ¬ (0 ≤ p1 ∧ p1 < ns ∧ 0 ≤ p2 ∧ p2 < 4) → post (-2147483648)) (k0 : ∀ i : Nat, p1 = (i : Int) → i < ns → p2 = 0 → post (msw i)) (k1 : ∀ i : Nat, p1 = (i : Int) → i < ns → p2 = 1 → post (msa i)) (k2 : ∀ i : Nat, p1 = (i : Int) → i < ns → p2 = 2 → post (msc i)) (k3 : ∀ i : Nat, p1 = (i : Int) → i < ns → p2 = 3 → post (msl i)) :
    wp_X4_ofSplit post mrw mly mln (ns : Int) mwh mcl mtr mfo mki mro mlf mli msw msa msc msl mff mlt mgr mxx msu p1 p2 := by
  unfold wp_X4_ofSplit
  refine ⟨r1, fun h => kn (by omega), fun h => ⟨⟨by omega, by omega⟩, fun h2 => ⟨r2, fun e => ⟨by omega, k0 _ (by omega) (by omega) e⟩, fun e => ⟨fun e => ⟨by omega, k1 _ (by omega) (by omega) e⟩, fun e => ⟨fun e => ⟨by omega, k2 _ (by omega) (by omega) e⟩, fun e => ⟨fun e => ⟨by omega, k3 _ (by omega) (by omega) e⟩, fun e => kn (by omega)⟩⟩⟩⟩, fun h2 => kn (by omega)⟩⟩
theorem sp4_count {post : Int → Prop} {p : Int} (rp : xw_r p) (hw : mwh = 0 ∨ mwh = 1) (kn : p < 0 ∨ 4 < p → post (-1)) (k0 : p = 0 → post mrw) (k1 : p = 1 → post mly) (k2 : p = 2 → post mwh) (k3 : p = 3 → post msp) (k4 : p = 4 → post mcl) :
    wp_X4_count post mrw mly mln msp mwh mcl mtr mfo mki mro mlf mli msw msa msc msl mff mlt mgr mxx msu p := by
  unfold wp_X4_count
  exact ⟨rp, kn, k0, k1, fun h => ⟨⟨by omega, by omega⟩, fun q => by have := k2 h; rw [q] at this; exact this, fun q => by have := k2 h; rw [show mwh = 1 by omega] at this; exact this⟩, k3, k4, trivial⟩
end SR
