def wp_X1_isFactor (post : Int → Prop) (p1 : Int) : Prop := xw_r p1 ∧ ((p1 < (-99) → (post 0)) ∧ (¬ p1 < (-99) → ((99 < p1 → (post 0)) ∧ (¬ 99 < p1 → (post 1)))))
def wp_X1_size (post : Int → Prop) (rsz : Int) (rly : Int) (rce : Nat → Int) (rst : Nat → Int) : Prop := post rsz
def wp_X1_layerCount (post : Int → Prop) (rsz : Int) (rly : Int) (rce : Nat → Int) (rst : Nat → Int) : Prop := post rly
def wp_X1_has (post : Int → Prop) (rsz : Int) (rly : Int) (rce : Nat → Int) (rst : Nat → Int) (p1 : Int) : Prop := xw_r p1 ∧ ((p1 < 0 → (post 0)) ∧ (¬ p1 < 0 → (xw_r rsz ∧ ((rsz ≤ p1 → (post 0)) ∧ (¬ rsz ≤ p1 → (post 1))))))
def wp_X1_cell (post : Int → Prop) (rsz : Int) (rly : Int) (rce : Nat → Int) (rst : Nat → Int) (p1 : Int) (p2 : Int) : Prop := (0 ≤ (p1 * 6) + p2 ∧ (p1 * 6) + p2 < 96) ∧ (post (rce ((p1 * 6) + p2).toNat))
def wp_X1_isEquality (post : Int → Prop) (rsz : Int) (rly : Int) (rce : Nat → Int) (rst : Nat → Int) (p1 : Int) : Prop := (0 ≤ (p1 * 6) + 0 ∧ (p1 * 6) + 0 < 96) ∧ (xw_r (rce ((p1 * 6) + 0).toNat) ∧ ((rce ((p1 * 6) + 0).toNat = 0 → (post 1)) ∧ (¬ rce ((p1 * 6) + 0).toNat = 0 → (post 0))))
def wp_X1_factor (post : Int → Prop) (rsz : Int) (rly : Int) (rce : Nat → Int) (rst : Nat → Int) (p1 : Int) (p2 : Int) : Prop := (0 ≤ ((p1 * 6) + 1) + p2 ∧ ((p1 * 6) + 1) + p2 < 96) ∧ (post (rce (((p1 * 6) + 1) + p2).toNat))
def wp_X1_limit (post : Int → Prop) (rsz : Int) (rly : Int) (rce : Nat → Int) (rst : Nat → Int) (p1 : Int) : Prop := (0 ≤ (p1 * 6) + 5 ∧ (p1 * 6) + 5 < 96) ∧ (post (rce ((p1 * 6) + 5).toNat))
def wp_X1_append (post : Int → Int → (Nat → Int) → Prop) (rsz : Int) (rly : Int) (rce : Nat → Int) (rst : Nat → Int) (p1 : Int) (p2 : Int) (p3 : Int) (p4 : Int) (p5 : Int) (p6 : Int) : Prop := xw_r p1 ∧ ((p1 < 0 → (post (-1) rsz rce)) ∧ (¬ p1 < 0 → ((1 < p1 → (post (-1) rsz rce)) ∧ (¬ 1 < p1 → (xw_r p6 ∧ ((p6 < (-9999) → (post (-1) rsz rce)) ∧ (¬ p6 < (-9999) → ((9999 < p6 → (post (-1) rsz rce)) ∧ (¬ 9999 < p6 → (xw_r rsz ∧ ((rsz < 16 → (wp_X1_isFactor (fun r => (xw_r r ∧ ((r = 0 → (post (-1) rsz rce)) ∧ (¬ r = 0 → (wp_X1_isFactor (fun r_1 => (xw_r r_1 ∧ ((r_1 = 0 → (post (-1) rsz rce)) ∧ (¬ r_1 = 0 → (wp_X1_isFactor (fun r_2 => (xw_r r_2 ∧ ((r_2 = 0 → (post (-1) rsz rce)) ∧ (¬ r_2 = 0 → (wp_X1_isFactor (fun r_3 => (xw_r r_3 ∧ ((r_3 = 0 → (post (-1) rsz rce)) ∧ (¬ r_3 = 0 → (∀ x7 : Int, x7 = rsz * 6 → ((0 ≤ x7 + 0 ∧ x7 + 0 < 96) ∧ (∀ rce_1 : Nat → Int, rce_1 = xw_u rce (x7 + 0) p1 → ((0 ≤ x7 + 1 ∧ x7 + 1 < 96) ∧ (∀ rce_2 : Nat → Int, rce_2 = xw_u rce_1 (x7 + 1) p2 → ((0 ≤ (x7 + 1) + 1 ∧ (x7 + 1) + 1 < 96) ∧ (∀ rce_3 : Nat → Int, rce_3 = xw_u rce_2 ((x7 + 1) + 1) p3 → ((0 ≤ (x7 + 1) + 2 ∧ (x7 + 1) + 2 < 96) ∧ (∀ rce_4 : Nat → Int, rce_4 = xw_u rce_3 ((x7 + 1) + 2) p4 → ((0 ≤ (x7 + 1) + 3 ∧ (x7 + 1) + 3 < 96) ∧ (∀ rce_5 : Nat → Int, rce_5 = xw_u rce_4 ((x7 + 1) + 3) p5 → ((0 ≤ x7 + 5 ∧ x7 + 5 < 96) ∧ (∀ rce_6 : Nat → Int, rce_6 = xw_u rce_5 (x7 + 5) p6 → (∀ sf : Int, sf = rsz + 1 → (post (sf - 1) sf rce_6))))))))))))))))))) p5))))) p4))))) p3))))) p2)) ∧ (¬ rsz < 16 → (post (-1) rsz rce)))))))))))))
def wp_X1_beginLayer (post : Int → Int → (Nat → Int) → Prop) (rsz : Int) (rly : Int) (rce : Nat → Int) (rst : Nat → Int) : Prop := xw_r rly ∧ ((rly < 8 → ((0 ≤ rly ∧ rly < 8) ∧ (∀ rst_1 : Nat → Int, rst_1 = xw_u rst rly rsz → (∀ lf : Int, lf = rly + 1 → (post lf lf rst_1))))) ∧ (¬ rly < 8 → (post (-1) rly rst)))
def wp_X1_dropLayer (post : Int → Int → Int → Prop) (rsz : Int) (rly : Int) (rce : Nat → Int) (rst : Nat → Int) : Prop := xw_r rly ∧ ((0 < rly → (∀ lf : Int, lf = rly - 1 → ((0 ≤ lf ∧ lf < 8) ∧ (∀ x1 : Int, x1 = rsz - (rst lf.toNat) → ((0 ≤ lf ∧ lf < 8) ∧ (∀ sf : Int, sf = rst lf.toNat → (post x1 sf lf))))))) ∧ (¬ 0 < rly → (post (-1) rsz rly)))
set_option maxHeartbeats 4000000 in
set_option maxRecDepth 100000 in
theorem c_X1_init (l : Launch) (dC : Nat → ClassId) (dI : Nat → Nat → Nat) (sz : Nat) (qR : Nat) : Met l yX1_init wsX1_init ({ frames := 1, cells := 2, slots := 104, locals := 12 }) (va_Pc [.ref qR] (xw_Pre (dC, dI) vwCl [(qR, .inr (1, [.null, .null, .int (xw_i 0), .int (xw_i 0)]))] [] sz)) (va_Qv (fun (_ : Nat × ClassId × Nat × ClassId) => True) (xw_B (dC, dI) vwCl (fun (u : Nat × ClassId × Nat × ClassId) => [(u.2.1, .int), (u.2.2.2, .int)]) (va_A [(qR, .inr (1, [.null, .null, .int (xw_i 0), .int (xw_i 0)]))] sz) (fun (u : Nat × ClassId × Nat × ClassId) => [(qR, .inr (1, [.ref u.1, .ref u.2.2.1, .int (xw_i 0), .int (xw_i 0)])), (u.1, .inl (u.2.1, 96, .inl (xw_a (fun _ => 0)))), (u.2.2.1, .inl (u.2.2.2, 8, .inl (xw_a (fun _ => 0))))])) (va_A [(qR, .inr (1, [.null, .null, .int (xw_i 0), .int (xw_i 0)]))] sz)) 2 104 (va_A [(qR, .inr (1, [.null, .null, .int (xw_i 0), .int (xw_i 0)]))] sz) := by
  refine xw_ofV (cc := cX1_init) (maxL := 1) (by decide +kernel) rfl (Nat.le_of_ble_eq_true rfl) ?_
  intro p e s m args below meth c hx hb hml hown hts hin A hA hP hD hK Q hret ls hl hS
  have hl : lv_has ls 1 [(0, .ref qR)] := hl
  have hwsX10 : ∀ w ∈ wsX10, w ∈ wsX1_init := fun _ h => List.mem_cons_of_mem _ (List.mem_append_right _ h)
  refine lv_aload_n hx hb dX1_init_0 rfl (lv_at hl 0 rfl) ?_
  refine W.objInit hx hb hown (hts (.methodLink RX1 3 objectInit) (by decide +kernel)) (hts (.instanceMethod objectInit) (by decide +kernel)) (hts (.code objectInit ⟨#[0xb1]⟩ 1 none) (by decide +kernel)) rfl (by rw [hml]; exact hl.1) rfl dX1_init_1 (Nat.le_of_ble_eq_true rfl) (Nat.le_of_ble_eq_true rfl) ?_
  refine W.eq (g2 := F0 m 4 ls []) rfl ?_
  refine lv_aload_n hx hb dX1_init_4 rfl (lv_at hl 0 rfl) ?_
  refine lv_bipush (v := xw_i 96) hx hb dX1_init_5 (by decide) ?_
  refine xw_newi (N' := 96) hx hb (hts (.arrayClass .int) (by decide +kernel)) hK hP hD hS hA rfl (by decide) (Nat.le_of_ble_eq_true rfl) (Nat.le_of_ble_eq_true rfl) dX1_init_7 (fun qn kn H hK hP hD hS => ?_)
  have hP : va_P (dC, dI) vwCl [(qR, .inr (1, [.null, .null, .int (xw_i 0), .int (xw_i 0)])), (qn, .inl (kn, 96, .inl (xw_a (fun _ => 0))))] H := hP
  have hD : va_D A [(qR, .inr (1, [.null, .null, .int (xw_i 0), .int (xw_i 0)])), (qn, .inl (kn, 96, .inl (xw_a (fun _ => 0))))] := hD
  have hK : va_K (dC, dI) vwCl [(kn, .int)] s := hK
  refine W.widen (k := 1) (n := 96) (by decide) (by decide) ?_
  refine va_putF (D := (dC, dI)) (ci := 1) (v := .ref qn) (ty := (.array .int)) (C := RX1) (T := TX1) (N := 4) hx hb hts hwsX10 tyX1 tyX1_ok nmX1 hown hK hP hD hS 0 rfl rfl 0 (by decide) (hts (.fieldLink RX1 11 "BoxProver$Rows" "cells" "[I") (by decide +kernel)) (fun _ h9 => h9) rfl hin rfl (by decide +kernel) rfl rfl (Nat.le_of_ble_eq_true rfl) dX1_init_9 (fun H locs hP hD hS => ?_)
  have hP : va_P (dC, dI) vwCl [(qR, .inr (1, [.ref qn, .null, .int (xw_i 0), .int (xw_i 0)])), (qn, .inl (kn, 96, .inl (xw_a (fun _ => 0))))] H := hP
  have hD : va_D A [(qR, .inr (1, [.ref qn, .null, .int (xw_i 0), .int (xw_i 0)])), (qn, .inl (kn, 96, .inl (xw_a (fun _ => 0))))] := hD
  refine lv_aload_n hx hb dX1_init_12 rfl (lv_at hl 0 rfl) ?_
  refine lv_bipush (v := xw_i 8) hx hb dX1_init_13 (by decide) ?_
  refine xw_newi (N' := 8) hx hb (hts (.arrayClass .int) (by decide +kernel)) hK hP hD hS hA rfl (by decide) (Nat.le_of_ble_eq_true rfl) (Nat.le_of_ble_eq_true rfl) dX1_init_15 (fun qn_1 kn_1 H hK hP hD hS => ?_)
  have hP : va_P (dC, dI) vwCl [(qR, .inr (1, [.ref qn, .null, .int (xw_i 0), .int (xw_i 0)])), (qn, .inl (kn, 96, .inl (xw_a (fun _ => 0)))), (qn_1, .inl (kn_1, 8, .inl (xw_a (fun _ => 0))))] H := hP
  have hD : va_D A [(qR, .inr (1, [.ref qn, .null, .int (xw_i 0), .int (xw_i 0)])), (qn, .inl (kn, 96, .inl (xw_a (fun _ => 0)))), (qn_1, .inl (kn_1, 8, .inl (xw_a (fun _ => 0))))] := hD
  have hK : va_K (dC, dI) vwCl [(kn, .int), (kn_1, .int)] s := hK
  refine W.widen (k := 2) (n := 104) (by decide) (by decide) ?_
  refine va_putF (D := (dC, dI)) (ci := 1) (v := .ref qn_1) (ty := (.array .int)) (C := RX1) (T := TX1) (N := 4) hx hb hts hwsX10 tyX1 tyX1_ok nmX1 hown hK hP hD hS 0 rfl rfl 1 (by decide) (hts (.fieldLink RX1 15 "BoxProver$Rows" "layerStart" "[I") (by decide +kernel)) (fun _ h9 => h9) rfl hin rfl (by decide +kernel) rfl rfl (Nat.le_of_ble_eq_true rfl) dX1_init_17 (fun H locs hP hD hS => ?_)
  have hP : va_P (dC, dI) vwCl [(qR, .inr (1, [.ref qn, .ref qn_1, .int (xw_i 0), .int (xw_i 0)])), (qn, .inl (kn, 96, .inl (xw_a (fun _ => 0)))), (qn_1, .inl (kn_1, 8, .inl (xw_a (fun _ => 0))))] H := hP
  have hD : va_D A [(qR, .inr (1, [.ref qn, .ref qn_1, .int (xw_i 0), .int (xw_i 0)])), (qn, .inl (kn, 96, .inl (xw_a (fun _ => 0)))), (qn_1, .inl (kn_1, 8, .inl (xw_a (fun _ => 0))))] := hD
  refine lv_aload_n hx hb dX1_init_20 rfl (lv_at hl 0 rfl) ?_
  refine lv_iconst (v := xw_i 0) hx hb dX1_init_21 (by decide) ?_
  refine va_put (D := (dC, dI)) (ci := 1) (v := .int (xw_i 0)) (ty := .int) (C := RX1) (T := TX1) (N := 4) hx hb hts hwsX10 tyX1 tyX1_ok nmX1 hown hK hP hD hS 0 rfl rfl 2 (by decide) (hts (.fieldLink RX1 18 "BoxProver$Rows" "size" "I") (by decide +kernel)) (fun _ h9 => h9) rfl (by decide +kernel) rfl rfl (Nat.le_of_ble_eq_true rfl) dX1_init_22 (fun H locs hP hD hS => ?_)
  have hP : va_P (dC, dI) vwCl [(qR, .inr (1, [.ref qn, .ref qn_1, .int (xw_i 0), .int (xw_i 0)])), (qn, .inl (kn, 96, .inl (xw_a (fun _ => 0)))), (qn_1, .inl (kn_1, 8, .inl (xw_a (fun _ => 0))))] H := hP
  have hD : va_D A [(qR, .inr (1, [.ref qn, .ref qn_1, .int (xw_i 0), .int (xw_i 0)])), (qn, .inl (kn, 96, .inl (xw_a (fun _ => 0)))), (qn_1, .inl (kn_1, 8, .inl (xw_a (fun _ => 0))))] := hD
  refine lv_aload_n hx hb dX1_init_25 rfl (lv_at hl 0 rfl) ?_
  refine lv_iconst (v := xw_i 0) hx hb dX1_init_26 (by decide) ?_
  refine va_put (D := (dC, dI)) (ci := 1) (v := .int (xw_i 0)) (ty := .int) (C := RX1) (T := TX1) (N := 4) hx hb hts hwsX10 tyX1 tyX1_ok nmX1 hown hK hP hD hS 0 rfl rfl 3 (by decide) (hts (.fieldLink RX1 22 "BoxProver$Rows" "layers" "I") (by decide +kernel)) (fun _ h9 => h9) rfl (by decide +kernel) rfl rfl (Nat.le_of_ble_eq_true rfl) dX1_init_27 (fun H locs hP hD hS => ?_)
  have hP : va_P (dC, dI) vwCl [(qR, .inr (1, [.ref qn, .ref qn_1, .int (xw_i 0), .int (xw_i 0)])), (qn, .inl (kn, 96, .inl (xw_a (fun _ => 0)))), (qn_1, .inl (kn_1, 8, .inl (xw_a (fun _ => 0))))] H := hP
  have hD : va_D A [(qR, .inr (1, [.ref qn, .ref qn_1, .int (xw_i 0), .int (xw_i 0)])), (qn, .inl (kn, 96, .inl (xw_a (fun _ => 0)))), (qn_1, .inl (kn_1, 8, .inl (xw_a (fun _ => 0))))] := hD
  exact hret _ _ _ _ (qn, kn, qn_1, kn_1) dX1_init_30 trivial hP hD hK hS
set_option maxHeartbeats 4000000 in
set_option maxRecDepth 100000 in
theorem c_X1_isFactor (l : Launch) (dC : Nat → ClassId) (dI : Nat → Nat → Nat)  (sz : Nat) (p1 : Int) (post : Int → Prop) (h : wp_X1_isFactor post p1) : Met l yX1_isFactor wsX1_isFactor ({ frames := 0, cells := 0, slots := 0, locals := 0 }) (va_Pc [.int (xw_i p1)] (xw_Pre (dC, dI) vwCl [] [] sz)) (va_Qi (xw_pi (fun v (u : Unit) => post v)) (xw_B (dC, dI) vwCl (fun (_ : Unit) => []) (va_A [] sz) (fun (u : Unit) => [])) (va_A [] sz)) 0 0 (va_A [] sz) := by
  refine xw_ofZ (cc := cX1_isFactor) (maxL := 1) (by decide +kernel) rfl (Nat.le_of_ble_eq_true rfl) ?_
  intro p e s m args below meth c hx hb hml hown hts A hA hP hD hK Q hret ls hl hS
  have hl : lv_has ls 1 [(0, .int (xw_i p1))] := hl
  unfold wp_X1_isFactor at h
  refine lv_iload_n hx hb dX1_isFactor_0 rfl (lv_at hl 0 rfl) ?_
  refine lv_bipush (v := xw_i (-99)) hx hb dX1_isFactor_1 (by decide) ?_
  obtain ⟨hr1, h⟩ := h
  refine xw_icmp_lt (tgt := 16) hx hb ⟨hr1, ⟨by decide, by decide⟩⟩ dX1_isFactor_3 (by decide) (fun hcd => ?_) (fun hcd => ?_)
  · have h := h.1 hcd
    refine lv_iconst (v := xw_i 0) hx hb dX1_isFactor_16 (by decide) ?_
    exact hret _ _ _ _ 0 () dX1_isFactor_17 (by decide) h hP hD hK hS
  · have h := h.2 hcd
    refine lv_iload_n hx hb dX1_isFactor_6 rfl (lv_at hl 0 rfl) ?_
    refine lv_bipush (v := xw_i 99) hx hb dX1_isFactor_7 (by decide) ?_
    refine xw_icmp_gt (tgt := 16) hx hb ⟨hr1, ⟨by decide, by decide⟩⟩ dX1_isFactor_9 (by decide) (fun hcd => ?_) (fun hcd => ?_)
    · have h := h.1 hcd
      refine lv_iconst (v := xw_i 0) hx hb dX1_isFactor_16 (by decide) ?_
      exact hret _ _ _ _ 0 () dX1_isFactor_17 (by decide) h hP hD hK hS
    · have h := h.2 hcd
      refine lv_iconst (v := xw_i 1) hx hb dX1_isFactor_12 (by decide) ?_
      refine lv_goto (tgt := 17) hx hb dX1_isFactor_13 (by decide) ?_
      exact hret _ _ _ _ 1 () dX1_isFactor_17 (by decide) h hP hD hK hS
set_option maxHeartbeats 4000000 in
set_option maxRecDepth 100000 in
theorem c_X1_size (l : Launch) (dC : Nat → ClassId) (dI : Nat → Nat → Nat) (qR aR0 aR1 : Nat) (kR0 kR1 : ClassId) (sz : Nat) (rsz : Int) (rly : Int) (rce : Nat → Int) (rst : Nat → Int) (post : Int → Prop) (h : wp_X1_size post rsz rly rce rst) : Met l yX1_size wsX1_size ({ frames := 0, cells := 0, slots := 0, locals := 0 }) (va_Pc [.ref qR] (xw_Pre (dC, dI) vwCl (wd_X1 qR aR0 aR1 kR0 kR1 rsz rly rce rst) [(kR0, .int), (kR1, .int)] sz)) (va_Qi (xw_pi (fun v (u : Unit) => post v)) (xw_B (dC, dI) vwCl (fun (_ : Unit) => [(kR0, .int), (kR1, .int)]) (va_A (wd_X1 qR aR0 aR1 kR0 kR1 rsz rly rce rst) sz) (fun (u : Unit) => (wd_X1 qR aR0 aR1 kR0 kR1 rsz rly rce rst))) (va_A (wd_X1 qR aR0 aR1 kR0 kR1 rsz rly rce rst) sz)) 0 0 (va_A (wd_X1 qR aR0 aR1 kR0 kR1 rsz rly rce rst) sz) := by
  refine xw_ofI (cc := cX1_size) (maxL := 1) (by decide +kernel) rfl (Nat.le_of_ble_eq_true rfl) ?_
  intro p e s m args below meth c hx hb hml hown hts A hA hP hD hK Q hret ls hl hS
  have hl : lv_has ls 1 [(0, .ref qR)] := hl
  have hwsX10 : ∀ w ∈ wsX10, w ∈ wsX1_size := fun _ h => List.mem_cons_of_mem _ (List.mem_append_right _ h)
  unfold wp_X1_size at h
  refine lv_aload_n hx hb dX1_size_0 rfl (lv_at hl 0 rfl) ?_
  refine va_get (D := (dC, dI)) (ci := 1) (v := .int (xw_i rsz)) (C := RX1) (T := TX1) (N := 4) hx hb hts hwsX10 hown hK hP 0 rfl rfl 2 (by decide) (hts (.fieldLink RX1 18 "BoxProver$Rows" "size" "I") (by decide +kernel)) (fun _ h9 => h9) rfl dX1_size_1 ?_
  exact hret _ _ _ _ rsz () dX1_size_4 h hP hD hK hS
set_option maxHeartbeats 4000000 in
set_option maxRecDepth 100000 in
theorem c_X1_layerCount (l : Launch) (dC : Nat → ClassId) (dI : Nat → Nat → Nat) (qR aR0 aR1 : Nat) (kR0 kR1 : ClassId) (sz : Nat) (rsz : Int) (rly : Int) (rce : Nat → Int) (rst : Nat → Int) (post : Int → Prop) (h : wp_X1_layerCount post rsz rly rce rst) : Met l yX1_layerCount wsX1_layerCount ({ frames := 0, cells := 0, slots := 0, locals := 0 }) (va_Pc [.ref qR] (xw_Pre (dC, dI) vwCl (wd_X1 qR aR0 aR1 kR0 kR1 rsz rly rce rst) [(kR0, .int), (kR1, .int)] sz)) (va_Qi (xw_pi (fun v (u : Unit) => post v)) (xw_B (dC, dI) vwCl (fun (_ : Unit) => [(kR0, .int), (kR1, .int)]) (va_A (wd_X1 qR aR0 aR1 kR0 kR1 rsz rly rce rst) sz) (fun (u : Unit) => (wd_X1 qR aR0 aR1 kR0 kR1 rsz rly rce rst))) (va_A (wd_X1 qR aR0 aR1 kR0 kR1 rsz rly rce rst) sz)) 0 0 (va_A (wd_X1 qR aR0 aR1 kR0 kR1 rsz rly rce rst) sz) := by
  refine xw_ofI (cc := cX1_layerCount) (maxL := 1) (by decide +kernel) rfl (Nat.le_of_ble_eq_true rfl) ?_
  intro p e s m args below meth c hx hb hml hown hts A hA hP hD hK Q hret ls hl hS
  have hl : lv_has ls 1 [(0, .ref qR)] := hl
  have hwsX10 : ∀ w ∈ wsX10, w ∈ wsX1_layerCount := fun _ h => List.mem_cons_of_mem _ (List.mem_append_right _ h)
  unfold wp_X1_layerCount at h
  refine lv_aload_n hx hb dX1_layerCount_0 rfl (lv_at hl 0 rfl) ?_
  refine va_get (D := (dC, dI)) (ci := 1) (v := .int (xw_i rly)) (C := RX1) (T := TX1) (N := 4) hx hb hts hwsX10 hown hK hP 0 rfl rfl 3 (by decide) (hts (.fieldLink RX1 22 "BoxProver$Rows" "layers" "I") (by decide +kernel)) (fun _ h9 => h9) rfl dX1_layerCount_1 ?_
  exact hret _ _ _ _ rly () dX1_layerCount_4 h hP hD hK hS
set_option maxHeartbeats 4000000 in
set_option maxRecDepth 100000 in
theorem c_X1_has (l : Launch) (dC : Nat → ClassId) (dI : Nat → Nat → Nat) (qR aR0 aR1 : Nat) (kR0 kR1 : ClassId) (sz : Nat) (rsz : Int) (rly : Int) (rce : Nat → Int) (rst : Nat → Int) (p1 : Int) (post : Int → Prop) (h : wp_X1_has post rsz rly rce rst p1) : Met l yX1_has wsX1_has ({ frames := 0, cells := 0, slots := 0, locals := 0 }) (va_Pc [.ref qR, .int (xw_i p1)] (xw_Pre (dC, dI) vwCl (wd_X1 qR aR0 aR1 kR0 kR1 rsz rly rce rst) [(kR0, .int), (kR1, .int)] sz)) (va_Qi (xw_pi (fun v (u : Unit) => post v)) (xw_B (dC, dI) vwCl (fun (_ : Unit) => [(kR0, .int), (kR1, .int)]) (va_A (wd_X1 qR aR0 aR1 kR0 kR1 rsz rly rce rst) sz) (fun (u : Unit) => (wd_X1 qR aR0 aR1 kR0 kR1 rsz rly rce rst))) (va_A (wd_X1 qR aR0 aR1 kR0 kR1 rsz rly rce rst) sz)) 0 0 (va_A (wd_X1 qR aR0 aR1 kR0 kR1 rsz rly rce rst) sz) := by
  refine xw_ofZ (cc := cX1_has) (maxL := 2) (by decide +kernel) rfl (Nat.le_of_ble_eq_true rfl) ?_
  intro p e s m args below meth c hx hb hml hown hts A hA hP hD hK Q hret ls hl hS
  have hl : lv_has ls 2 [(0, .ref qR), (1, .int (xw_i p1))] := hl
  have hwsX10 : ∀ w ∈ wsX10, w ∈ wsX1_has := fun _ h => List.mem_cons_of_mem _ (List.mem_append_right _ h)
  unfold wp_X1_has at h
  refine lv_iload_n hx hb dX1_has_0 rfl (lv_at hl 1 rfl) ?_
  obtain ⟨hr1, h⟩ := h
  refine xw_if_lt (tgt := 16) hx hb hr1 dX1_has_1 (by decide) (fun hcd => ?_) (fun hcd => ?_)
  · have h := h.1 hcd
    refine lv_iconst (v := xw_i 0) hx hb dX1_has_16 (by decide) ?_
    exact hret _ _ _ _ 0 () dX1_has_17 (by decide) h hP hD hK hS
  · have h := h.2 hcd
    refine lv_iload_n hx hb dX1_has_4 rfl (lv_at hl 1 rfl) ?_
    refine lv_aload_n hx hb dX1_has_5 rfl (lv_at hl 0 rfl) ?_
    refine va_get (D := (dC, dI)) (ci := 1) (v := .int (xw_i rsz)) (C := RX1) (T := TX1) (N := 4) hx hb hts hwsX10 hown hK hP 0 rfl rfl 2 (by decide) (hts (.fieldLink RX1 18 "BoxProver$Rows" "size" "I") (by decide +kernel)) (fun _ h9 => h9) rfl dX1_has_6 ?_
    obtain ⟨hr2, h⟩ := h
    refine xw_icmp_ge (tgt := 16) hx hb ⟨hr1, hr2⟩ dX1_has_9 (by decide) (fun hcd => ?_) (fun hcd => ?_)
    · have h := h.1 hcd
      refine lv_iconst (v := xw_i 0) hx hb dX1_has_16 (by decide) ?_
      exact hret _ _ _ _ 0 () dX1_has_17 (by decide) h hP hD hK hS
    · have h := h.2 hcd
      refine lv_iconst (v := xw_i 1) hx hb dX1_has_12 (by decide) ?_
      refine lv_goto (tgt := 17) hx hb dX1_has_13 (by decide) ?_
      exact hret _ _ _ _ 1 () dX1_has_17 (by decide) h hP hD hK hS
set_option maxHeartbeats 4000000 in
set_option maxRecDepth 100000 in
theorem c_X1_cell (l : Launch) (dC : Nat → ClassId) (dI : Nat → Nat → Nat) (qR aR0 aR1 : Nat) (kR0 kR1 : ClassId) (sz : Nat) (rsz : Int) (rly : Int) (rce : Nat → Int) (rst : Nat → Int) (p1 : Int) (p2 : Int) (post : Int → Prop) (h : wp_X1_cell post rsz rly rce rst p1 p2) : Met l yX1_cell wsX1_cell ({ frames := 0, cells := 0, slots := 0, locals := 0 }) (va_Pc [.ref qR, .int (xw_i p1), .int (xw_i p2)] (xw_Pre (dC, dI) vwCl (wd_X1 qR aR0 aR1 kR0 kR1 rsz rly rce rst) [(kR0, .int), (kR1, .int)] sz)) (va_Qi (xw_pi (fun v (u : Unit) => post v)) (xw_B (dC, dI) vwCl (fun (_ : Unit) => [(kR0, .int), (kR1, .int)]) (va_A (wd_X1 qR aR0 aR1 kR0 kR1 rsz rly rce rst) sz) (fun (u : Unit) => (wd_X1 qR aR0 aR1 kR0 kR1 rsz rly rce rst))) (va_A (wd_X1 qR aR0 aR1 kR0 kR1 rsz rly rce rst) sz)) 0 0 (va_A (wd_X1 qR aR0 aR1 kR0 kR1 rsz rly rce rst) sz) := by
  refine xw_ofI (cc := cX1_cell) (maxL := 3) (by decide +kernel) rfl (Nat.le_of_ble_eq_true rfl) ?_
  intro p e s m args below meth c hx hb hml hown hts A hA hP hD hK Q hret ls hl hS
  have hl : lv_has ls 3 [(0, .ref qR), (1, .int (xw_i p1)), (2, .int (xw_i p2))] := hl
  have hwsX10 : ∀ w ∈ wsX10, w ∈ wsX1_cell := fun _ h => List.mem_cons_of_mem _ (List.mem_append_right _ h)
  unfold wp_X1_cell at h
  refine lv_aload_n hx hb dX1_cell_0 rfl (lv_at hl 0 rfl) ?_
  refine va_get (D := (dC, dI)) (ci := 1) (v := .ref aR0) (C := RX1) (T := TX1) (N := 4) hx hb hts hwsX10 hown hK hP 0 rfl rfl 0 (by decide) (hts (.fieldLink RX1 11 "BoxProver$Rows" "cells" "[I") (by decide +kernel)) (fun _ h9 => h9) rfl dX1_cell_1 ?_
  refine lv_iload_n hx hb dX1_cell_4 rfl (lv_at hl 1 rfl) ?_
  refine lv_bipush (v := xw_i 6) hx hb dX1_cell_5 (by decide) ?_
  refine xw_imul hx hb dX1_cell_7 ?_
  refine lv_iload_n hx hb dX1_cell_8 rfl (lv_at hl 2 rfl) ?_
  refine xw_iadd hx hb dX1_cell_9 ?_
  obtain ⟨hin, h⟩ := h
  refine xw_iald (n := 96) hx hb hK hP 1 0 rfl rfl (by decide) hin dX1_cell_10 ?_
  exact hret _ _ _ _ (rce ((p1 * 6) + p2).toNat) () dX1_cell_11 h hP hD hK hS
set_option maxHeartbeats 4000000 in
set_option maxRecDepth 100000 in
theorem c_X1_isEquality (l : Launch) (dC : Nat → ClassId) (dI : Nat → Nat → Nat) (qR aR0 aR1 : Nat) (kR0 kR1 : ClassId) (sz : Nat) (rsz : Int) (rly : Int) (rce : Nat → Int) (rst : Nat → Int) (p1 : Int) (post : Int → Prop) (h : wp_X1_isEquality post rsz rly rce rst p1) : Met l yX1_isEquality wsX1_isEquality ({ frames := 0, cells := 0, slots := 0, locals := 0 }) (va_Pc [.ref qR, .int (xw_i p1)] (xw_Pre (dC, dI) vwCl (wd_X1 qR aR0 aR1 kR0 kR1 rsz rly rce rst) [(kR0, .int), (kR1, .int)] sz)) (va_Qi (xw_pi (fun v (u : Unit) => post v)) (xw_B (dC, dI) vwCl (fun (_ : Unit) => [(kR0, .int), (kR1, .int)]) (va_A (wd_X1 qR aR0 aR1 kR0 kR1 rsz rly rce rst) sz) (fun (u : Unit) => (wd_X1 qR aR0 aR1 kR0 kR1 rsz rly rce rst))) (va_A (wd_X1 qR aR0 aR1 kR0 kR1 rsz rly rce rst) sz)) 0 0 (va_A (wd_X1 qR aR0 aR1 kR0 kR1 rsz rly rce rst) sz) := by
  refine xw_ofZ (cc := cX1_isEquality) (maxL := 2) (by decide +kernel) rfl (Nat.le_of_ble_eq_true rfl) ?_
  intro p e s m args below meth c hx hb hml hown hts A hA hP hD hK Q hret ls hl hS
  have hl : lv_has ls 2 [(0, .ref qR), (1, .int (xw_i p1))] := hl
  have hwsX10 : ∀ w ∈ wsX10, w ∈ wsX1_isEquality := fun _ h => List.mem_cons_of_mem _ (List.mem_append_right _ h)
  unfold wp_X1_isEquality at h
  refine lv_aload_n hx hb dX1_isEquality_0 rfl (lv_at hl 0 rfl) ?_
  refine va_get (D := (dC, dI)) (ci := 1) (v := .ref aR0) (C := RX1) (T := TX1) (N := 4) hx hb hts hwsX10 hown hK hP 0 rfl rfl 0 (by decide) (hts (.fieldLink RX1 11 "BoxProver$Rows" "cells" "[I") (by decide +kernel)) (fun _ h9 => h9) rfl dX1_isEquality_1 ?_
  refine lv_iload_n hx hb dX1_isEquality_4 rfl (lv_at hl 1 rfl) ?_
  refine lv_bipush (v := xw_i 6) hx hb dX1_isEquality_5 (by decide) ?_
  refine xw_imul hx hb dX1_isEquality_7 ?_
  refine lv_iconst (v := xw_i 0) hx hb dX1_isEquality_8 (by decide) ?_
  refine xw_iadd hx hb dX1_isEquality_9 ?_
  obtain ⟨hin, h⟩ := h
  refine xw_iald (n := 96) hx hb hK hP 1 0 rfl rfl (by decide) hin dX1_isEquality_10 ?_
  obtain ⟨hr1, h⟩ := h
  refine xw_if_ne (tgt := 18) hx hb hr1 dX1_isEquality_11 (by decide) (fun hcd => ?_) (fun hcd => ?_)
  · have h := h.2 hcd
    refine lv_iconst (v := xw_i 0) hx hb dX1_isEquality_18 (by decide) ?_
    exact hret _ _ _ _ 0 () dX1_isEquality_19 (by decide) h hP hD hK hS
  · have h := h.1 hcd
    refine lv_iconst (v := xw_i 1) hx hb dX1_isEquality_14 (by decide) ?_
    refine lv_goto (tgt := 19) hx hb dX1_isEquality_15 (by decide) ?_
    exact hret _ _ _ _ 1 () dX1_isEquality_19 (by decide) h hP hD hK hS
set_option maxHeartbeats 4000000 in
set_option maxRecDepth 100000 in
theorem c_X1_factor (l : Launch) (dC : Nat → ClassId) (dI : Nat → Nat → Nat) (qR aR0 aR1 : Nat) (kR0 kR1 : ClassId) (sz : Nat) (rsz : Int) (rly : Int) (rce : Nat → Int) (rst : Nat → Int) (p1 : Int) (p2 : Int) (post : Int → Prop) (h : wp_X1_factor post rsz rly rce rst p1 p2) : Met l yX1_factor wsX1_factor ({ frames := 0, cells := 0, slots := 0, locals := 0 }) (va_Pc [.ref qR, .int (xw_i p1), .int (xw_i p2)] (xw_Pre (dC, dI) vwCl (wd_X1 qR aR0 aR1 kR0 kR1 rsz rly rce rst) [(kR0, .int), (kR1, .int)] sz)) (va_Qi (xw_pi (fun v (u : Unit) => post v)) (xw_B (dC, dI) vwCl (fun (_ : Unit) => [(kR0, .int), (kR1, .int)]) (va_A (wd_X1 qR aR0 aR1 kR0 kR1 rsz rly rce rst) sz) (fun (u : Unit) => (wd_X1 qR aR0 aR1 kR0 kR1 rsz rly rce rst))) (va_A (wd_X1 qR aR0 aR1 kR0 kR1 rsz rly rce rst) sz)) 0 0 (va_A (wd_X1 qR aR0 aR1 kR0 kR1 rsz rly rce rst) sz) := by
  refine xw_ofI (cc := cX1_factor) (maxL := 3) (by decide +kernel) rfl (Nat.le_of_ble_eq_true rfl) ?_
  intro p e s m args below meth c hx hb hml hown hts A hA hP hD hK Q hret ls hl hS
  have hl : lv_has ls 3 [(0, .ref qR), (1, .int (xw_i p1)), (2, .int (xw_i p2))] := hl
  have hwsX10 : ∀ w ∈ wsX10, w ∈ wsX1_factor := fun _ h => List.mem_cons_of_mem _ (List.mem_append_right _ h)
  unfold wp_X1_factor at h
  refine lv_aload_n hx hb dX1_factor_0 rfl (lv_at hl 0 rfl) ?_
  refine va_get (D := (dC, dI)) (ci := 1) (v := .ref aR0) (C := RX1) (T := TX1) (N := 4) hx hb hts hwsX10 hown hK hP 0 rfl rfl 0 (by decide) (hts (.fieldLink RX1 11 "BoxProver$Rows" "cells" "[I") (by decide +kernel)) (fun _ h9 => h9) rfl dX1_factor_1 ?_
  refine lv_iload_n hx hb dX1_factor_4 rfl (lv_at hl 1 rfl) ?_
  refine lv_bipush (v := xw_i 6) hx hb dX1_factor_5 (by decide) ?_
  refine xw_imul hx hb dX1_factor_7 ?_
  refine lv_iconst (v := xw_i 1) hx hb dX1_factor_8 (by decide) ?_
  refine xw_iadd hx hb dX1_factor_9 ?_
  refine lv_iload_n hx hb dX1_factor_10 rfl (lv_at hl 2 rfl) ?_
  refine xw_iadd hx hb dX1_factor_11 ?_
  obtain ⟨hin, h⟩ := h
  refine xw_iald (n := 96) hx hb hK hP 1 0 rfl rfl (by decide) hin dX1_factor_12 ?_
  exact hret _ _ _ _ (rce (((p1 * 6) + 1) + p2).toNat) () dX1_factor_13 h hP hD hK hS
set_option maxHeartbeats 4000000 in
set_option maxRecDepth 100000 in
theorem c_X1_limit (l : Launch) (dC : Nat → ClassId) (dI : Nat → Nat → Nat) (qR aR0 aR1 : Nat) (kR0 kR1 : ClassId) (sz : Nat) (rsz : Int) (rly : Int) (rce : Nat → Int) (rst : Nat → Int) (p1 : Int) (post : Int → Prop) (h : wp_X1_limit post rsz rly rce rst p1) : Met l yX1_limit wsX1_limit ({ frames := 0, cells := 0, slots := 0, locals := 0 }) (va_Pc [.ref qR, .int (xw_i p1)] (xw_Pre (dC, dI) vwCl (wd_X1 qR aR0 aR1 kR0 kR1 rsz rly rce rst) [(kR0, .int), (kR1, .int)] sz)) (va_Qi (xw_pi (fun v (u : Unit) => post v)) (xw_B (dC, dI) vwCl (fun (_ : Unit) => [(kR0, .int), (kR1, .int)]) (va_A (wd_X1 qR aR0 aR1 kR0 kR1 rsz rly rce rst) sz) (fun (u : Unit) => (wd_X1 qR aR0 aR1 kR0 kR1 rsz rly rce rst))) (va_A (wd_X1 qR aR0 aR1 kR0 kR1 rsz rly rce rst) sz)) 0 0 (va_A (wd_X1 qR aR0 aR1 kR0 kR1 rsz rly rce rst) sz) := by
  refine xw_ofI (cc := cX1_limit) (maxL := 2) (by decide +kernel) rfl (Nat.le_of_ble_eq_true rfl) ?_
  intro p e s m args below meth c hx hb hml hown hts A hA hP hD hK Q hret ls hl hS
  have hl : lv_has ls 2 [(0, .ref qR), (1, .int (xw_i p1))] := hl
  have hwsX10 : ∀ w ∈ wsX10, w ∈ wsX1_limit := fun _ h => List.mem_cons_of_mem _ (List.mem_append_right _ h)
  unfold wp_X1_limit at h
  refine lv_aload_n hx hb dX1_limit_0 rfl (lv_at hl 0 rfl) ?_
  refine va_get (D := (dC, dI)) (ci := 1) (v := .ref aR0) (C := RX1) (T := TX1) (N := 4) hx hb hts hwsX10 hown hK hP 0 rfl rfl 0 (by decide) (hts (.fieldLink RX1 11 "BoxProver$Rows" "cells" "[I") (by decide +kernel)) (fun _ h9 => h9) rfl dX1_limit_1 ?_
  refine lv_iload_n hx hb dX1_limit_4 rfl (lv_at hl 1 rfl) ?_
  refine lv_bipush (v := xw_i 6) hx hb dX1_limit_5 (by decide) ?_
  refine xw_imul hx hb dX1_limit_7 ?_
  refine lv_iconst (v := xw_i 5) hx hb dX1_limit_8 (by decide) ?_
  refine xw_iadd hx hb dX1_limit_9 ?_
  obtain ⟨hin, h⟩ := h
  refine xw_iald (n := 96) hx hb hK hP 1 0 rfl rfl (by decide) hin dX1_limit_10 ?_
  exact hret _ _ _ _ (rce ((p1 * 6) + 5).toNat) () dX1_limit_11 h hP hD hK hS
set_option maxHeartbeats 4000000 in
set_option maxRecDepth 100000 in
theorem c_X1_append (l : Launch) (dC : Nat → ClassId) (dI : Nat → Nat → Nat) (qR aR0 aR1 : Nat) (kR0 kR1 : ClassId) (sz : Nat) (rsz : Int) (rly : Int) (rce : Nat → Int) (rst : Nat → Int) (p1 : Int) (p2 : Int) (p3 : Int) (p4 : Int) (p5 : Int) (p6 : Int) (post : Int → Int → (Nat → Int) → Prop) (h : wp_X1_append post rsz rly rce rst p1 p2 p3 p4 p5 p6) : Met l yX1_append wsX1_append ({ frames := 1, cells := 0, slots := 0, locals := 20 }) (va_Pc [.ref qR, .int (xw_i p1), .int (xw_i p2), .int (xw_i p3), .int (xw_i p4), .int (xw_i p5), .int (xw_i p6)] (xw_Pre (dC, dI) vwCl (wd_X1 qR aR0 aR1 kR0 kR1 rsz rly rce rst) [(kR0, .int), (kR1, .int)] sz)) (va_Qi (xw_pi (fun v (u : Int × (Nat → Int)) => post v u.1 u.2)) (xw_B (dC, dI) vwCl (fun (_ : Int × (Nat → Int)) => [(kR0, .int), (kR1, .int)]) (va_A (wd_X1 qR aR0 aR1 kR0 kR1 rsz rly rce rst) sz) (fun (u : Int × (Nat → Int)) => (wd_X1 qR aR0 aR1 kR0 kR1 u.1 rly u.2 rst))) (va_A (wd_X1 qR aR0 aR1 kR0 kR1 rsz rly rce rst) sz)) 0 0 (va_A (wd_X1 qR aR0 aR1 kR0 kR1 rsz rly rce rst) sz) := by
  refine xw_ofI (cc := cX1_append) (maxL := 8) (by decide +kernel) rfl (Nat.le_of_ble_eq_true rfl) ?_
  intro p e s m args below meth c hx hb hml hown hts A hA hP hD hK Q hret ls hl hS
  have hl : lv_has ls 8 [(0, .ref qR), (1, .int (xw_i p1)), (2, .int (xw_i p2)), (3, .int (xw_i p3)), (4, .int (xw_i p4)), (5, .int (xw_i p5)), (6, .int (xw_i p6))] := hl
  have hwsX10 : ∀ w ∈ wsX10, w ∈ wsX1_append := fun _ h => List.mem_cons_of_mem _ (List.mem_append_right _ h)
  unfold wp_X1_append at h
  refine lv_iload_n hx hb dX1_append_0 rfl (lv_at hl 1 rfl) ?_
  obtain ⟨hr1, h⟩ := h
  refine xw_if_lt (tgt := 34) hx hb hr1 dX1_append_1 (by decide) (fun hcd => ?_) (fun hcd => ?_)
  · have h := h.1 hcd
    refine lv_iconst (v := xw_i (-1)) hx hb dX1_append_34 (by decide) ?_
    exact hret _ _ _ _ (-1) (rsz, rce) dX1_append_35 h hP hD hK hS
  · have h := h.2 hcd
    refine lv_iload_n hx hb dX1_append_4 rfl (lv_at hl 1 rfl) ?_
    refine lv_iconst (v := xw_i 1) hx hb dX1_append_5 (by decide) ?_
    refine xw_icmp_gt (tgt := 34) hx hb ⟨hr1, ⟨by decide, by decide⟩⟩ dX1_append_6 (by decide) (fun hcd => ?_) (fun hcd => ?_)
    · have h := h.1 hcd
      refine lv_iconst (v := xw_i (-1)) hx hb dX1_append_34 (by decide) ?_
      exact hret _ _ _ _ (-1) (rsz, rce) dX1_append_35 h hP hD hK hS
    · have h := h.2 hcd
      refine lv_iload hx hb dX1_append_9 (lv_at hl 6 rfl) ?_
      refine lv_sipush (v := xw_i (-9999)) hx hb dX1_append_11 (by decide) ?_
      obtain ⟨hr2, h⟩ := h
      refine xw_icmp_lt (tgt := 34) hx hb ⟨hr2, ⟨by decide, by decide⟩⟩ dX1_append_14 (by decide) (fun hcd => ?_) (fun hcd => ?_)
      · have h := h.1 hcd
        refine lv_iconst (v := xw_i (-1)) hx hb dX1_append_34 (by decide) ?_
        exact hret _ _ _ _ (-1) (rsz, rce) dX1_append_35 h hP hD hK hS
      · have h := h.2 hcd
        refine lv_iload hx hb dX1_append_17 (lv_at hl 6 rfl) ?_
        refine lv_sipush (v := xw_i 9999) hx hb dX1_append_19 (by decide) ?_
        refine xw_icmp_gt (tgt := 34) hx hb ⟨hr2, ⟨by decide, by decide⟩⟩ dX1_append_22 (by decide) (fun hcd => ?_) (fun hcd => ?_)
        · have h := h.1 hcd
          refine lv_iconst (v := xw_i (-1)) hx hb dX1_append_34 (by decide) ?_
          exact hret _ _ _ _ (-1) (rsz, rce) dX1_append_35 h hP hD hK hS
        · have h := h.2 hcd
          refine lv_aload_n hx hb dX1_append_25 rfl (lv_at hl 0 rfl) ?_
          refine va_get (D := (dC, dI)) (ci := 1) (v := .int (xw_i rsz)) (C := RX1) (T := TX1) (N := 4) hx hb hts hwsX10 hown hK hP 0 rfl rfl 2 (by decide) (hts (.fieldLink RX1 18 "BoxProver$Rows" "size" "I") (by decide +kernel)) (fun _ h9 => h9) rfl dX1_append_26 ?_
          refine lv_bipush (v := xw_i 16) hx hb dX1_append_29 (by decide) ?_
          obtain ⟨hr3, h⟩ := h
          refine xw_icmp_lt (tgt := 36) hx hb ⟨hr3, ⟨by decide, by decide⟩⟩ dX1_append_31 (by decide) (fun hcd => ?_) (fun hcd => ?_)
          · have h := h.1 hcd
            refine lv_iload_n hx hb dX1_append_36 rfl (lv_at hl 2 rfl) ?_
            refine xw_backi (wc := []) (wr := [(qR, .inr (1, [.ref aR0, .ref aR1, .int (xw_i rsz), .int (xw_i rly)])), (aR0, .inl (kR0, 96, .inl (xw_a rce))), (aR1, .inl (kR1, 8, .inl (xw_a rst)))]) (va_runS (As := [.int (xw_i p2)]) (rest := []) ⟨hx, hb, hml, hown, hts⟩ (c_X1_isFactor l dC dI s.heap.size p2 _ h) (va_cwS 1 hts gX1_append_X1_isFactor rfl rfl rfl (by decide +kernel) ⟨Nat.le_of_ble_eq_true rfl, Nat.le_of_ble_eq_true rfl⟩) (xw_preS hK hP hD [] rfl rfl (by decide) [] rfl) rfl rfl hl.1 rfl (lv_room (Nat.le_of_ble_eq_true rfl)) dX1_append_37 ⟨Nat.le_of_ble_eq_true rfl, Nat.le_of_ble_eq_true rfl⟩) hK hP hD hS hA [] [0, 1, 2] rfl rfl (by decide) (by decide) (fun r u H locs h hP hD hK2 hS => ?_)
            try dsimp only at h
            have hP : va_P (dC, dI) vwCl (wd_X1 qR aR0 aR1 kR0 kR1 rsz rly rce rst) H := hP
            have hD : va_D A (wd_X1 qR aR0 aR1 kR0 kR1 rsz rly rce rst) := hD
            obtain ⟨hr4, h⟩ := h
            refine xw_if_eq (tgt := 66) hx hb hr4 dX1_append_40 (by decide) (fun hcd => ?_) (fun hcd => ?_)
            · have h := h.1 hcd
              refine lv_iconst (v := xw_i (-1)) hx hb dX1_append_66 (by decide) ?_
              exact hret _ _ _ _ (-1) (rsz, rce) dX1_append_67 h hP hD hK hS
            · have h := h.2 hcd
              refine lv_iload_n hx hb dX1_append_43 rfl (lv_at hl 3 rfl) ?_
              refine xw_backi (wc := []) (wr := [(qR, .inr (1, [.ref aR0, .ref aR1, .int (xw_i rsz), .int (xw_i rly)])), (aR0, .inl (kR0, 96, .inl (xw_a rce))), (aR1, .inl (kR1, 8, .inl (xw_a rst)))]) (va_runS (As := [.int (xw_i p3)]) (rest := []) ⟨hx, hb, hml, hown, hts⟩ (c_X1_isFactor l dC dI H.size p3 _ h) (va_cwS 1 hts gX1_append_X1_isFactor rfl rfl rfl (by decide +kernel) ⟨Nat.le_of_ble_eq_true rfl, Nat.le_of_ble_eq_true rfl⟩) (xw_preS hK hP hD [] rfl rfl (by decide) [] rfl) rfl rfl hl.1 rfl (lv_room (Nat.le_of_ble_eq_true rfl)) dX1_append_44 ⟨Nat.le_of_ble_eq_true rfl, Nat.le_of_ble_eq_true rfl⟩) hK hP hD hS hA [] [0, 1, 2] rfl rfl (by decide) (by decide) (fun r_1 u H locs h hP hD hK2 hS => ?_)
              try dsimp only at h
              have hP : va_P (dC, dI) vwCl (wd_X1 qR aR0 aR1 kR0 kR1 rsz rly rce rst) H := hP
              have hD : va_D A (wd_X1 qR aR0 aR1 kR0 kR1 rsz rly rce rst) := hD
              obtain ⟨hr5, h⟩ := h
              refine xw_if_eq (tgt := 66) hx hb hr5 dX1_append_47 (by decide) (fun hcd => ?_) (fun hcd => ?_)
              · have h := h.1 hcd
                refine lv_iconst (v := xw_i (-1)) hx hb dX1_append_66 (by decide) ?_
                exact hret _ _ _ _ (-1) (rsz, rce) dX1_append_67 h hP hD hK hS
              · have h := h.2 hcd
                refine lv_iload hx hb dX1_append_50 (lv_at hl 4 rfl) ?_
                refine xw_backi (wc := []) (wr := [(qR, .inr (1, [.ref aR0, .ref aR1, .int (xw_i rsz), .int (xw_i rly)])), (aR0, .inl (kR0, 96, .inl (xw_a rce))), (aR1, .inl (kR1, 8, .inl (xw_a rst)))]) (va_runS (As := [.int (xw_i p4)]) (rest := []) ⟨hx, hb, hml, hown, hts⟩ (c_X1_isFactor l dC dI H.size p4 _ h) (va_cwS 1 hts gX1_append_X1_isFactor rfl rfl rfl (by decide +kernel) ⟨Nat.le_of_ble_eq_true rfl, Nat.le_of_ble_eq_true rfl⟩) (xw_preS hK hP hD [] rfl rfl (by decide) [] rfl) rfl rfl hl.1 rfl (lv_room (Nat.le_of_ble_eq_true rfl)) dX1_append_52 ⟨Nat.le_of_ble_eq_true rfl, Nat.le_of_ble_eq_true rfl⟩) hK hP hD hS hA [] [0, 1, 2] rfl rfl (by decide) (by decide) (fun r_2 u H locs h hP hD hK2 hS => ?_)
                try dsimp only at h
                have hP : va_P (dC, dI) vwCl (wd_X1 qR aR0 aR1 kR0 kR1 rsz rly rce rst) H := hP
                have hD : va_D A (wd_X1 qR aR0 aR1 kR0 kR1 rsz rly rce rst) := hD
                obtain ⟨hr6, h⟩ := h
                refine xw_if_eq (tgt := 66) hx hb hr6 dX1_append_55 (by decide) (fun hcd => ?_) (fun hcd => ?_)
                · have h := h.1 hcd
                  refine lv_iconst (v := xw_i (-1)) hx hb dX1_append_66 (by decide) ?_
                  exact hret _ _ _ _ (-1) (rsz, rce) dX1_append_67 h hP hD hK hS
                · have h := h.2 hcd
                  refine lv_iload hx hb dX1_append_58 (lv_at hl 5 rfl) ?_
                  refine xw_backi (wc := []) (wr := [(qR, .inr (1, [.ref aR0, .ref aR1, .int (xw_i rsz), .int (xw_i rly)])), (aR0, .inl (kR0, 96, .inl (xw_a rce))), (aR1, .inl (kR1, 8, .inl (xw_a rst)))]) (va_runS (As := [.int (xw_i p5)]) (rest := []) ⟨hx, hb, hml, hown, hts⟩ (c_X1_isFactor l dC dI H.size p5 _ h) (va_cwS 1 hts gX1_append_X1_isFactor rfl rfl rfl (by decide +kernel) ⟨Nat.le_of_ble_eq_true rfl, Nat.le_of_ble_eq_true rfl⟩) (xw_preS hK hP hD [] rfl rfl (by decide) [] rfl) rfl rfl hl.1 rfl (lv_room (Nat.le_of_ble_eq_true rfl)) dX1_append_60 ⟨Nat.le_of_ble_eq_true rfl, Nat.le_of_ble_eq_true rfl⟩) hK hP hD hS hA [] [0, 1, 2] rfl rfl (by decide) (by decide) (fun r_3 u H locs h hP hD hK2 hS => ?_)
                  try dsimp only at h
                  have hP : va_P (dC, dI) vwCl (wd_X1 qR aR0 aR1 kR0 kR1 rsz rly rce rst) H := hP
                  have hD : va_D A (wd_X1 qR aR0 aR1 kR0 kR1 rsz rly rce rst) := hD
                  obtain ⟨hr7, h⟩ := h
                  refine xw_if_ne (tgt := 68) hx hb hr7 dX1_append_63 (by decide) (fun hcd => ?_) (fun hcd => ?_)
                  · have h := h.2 hcd
                    refine lv_aload_n hx hb dX1_append_68 rfl (lv_at hl 0 rfl) ?_
                    refine va_get (D := (dC, dI)) (ci := 1) (v := .int (xw_i rsz)) (C := RX1) (T := TX1) (N := 4) hx hb hts hwsX10 hown hK hP 0 rfl rfl 2 (by decide) (hts (.fieldLink RX1 18 "BoxProver$Rows" "size" "I") (by decide +kernel)) (fun _ h9 => h9) rfl dX1_append_69 ?_
                    refine lv_bipush (v := xw_i 6) hx hb dX1_append_72 (by decide) ?_
                    refine xw_imul hx hb dX1_append_74 ?_
                    refine xw_topi (fun x7 ex7 => ?_)
                    have h := h x7 ex7
                    refine lv_istore (lv' := [(7, .int (xw_i x7)), (0, .ref qR), (1, .int (xw_i p1)), (2, .int (xw_i p2)), (3, .int (xw_i p3)), (4, .int (xw_i p4)), (5, .int (xw_i p5)), (6, .int (xw_i p6))]) hx hb dX1_append_75 hl (by decide) rfl (fun ls hl => ?_)
                    refine lv_aload_n hx hb dX1_append_77 rfl (lv_at hl 1 rfl) ?_
                    refine va_get (D := (dC, dI)) (ci := 1) (v := .ref aR0) (C := RX1) (T := TX1) (N := 4) hx hb hts hwsX10 hown hK hP 0 rfl rfl 0 (by decide) (hts (.fieldLink RX1 11 "BoxProver$Rows" "cells" "[I") (by decide +kernel)) (fun _ h9 => h9) rfl dX1_append_78 ?_
                    refine lv_iload hx hb dX1_append_81 (lv_at hl 0 rfl) ?_
                    refine lv_iconst (v := xw_i 0) hx hb dX1_append_83 (by decide) ?_
                    refine xw_iadd hx hb dX1_append_84 ?_
                    refine lv_iload_n hx hb dX1_append_85 rfl (lv_at hl 2 rfl) ?_
                    obtain ⟨hin, h⟩ := h
                    obtain ⟨rce_1, erce_1⟩ : ∃ z : Nat → Int, z = xw_u rce (x7 + 0) p1 := ⟨_, rfl⟩
                    have h := h rce_1 erce_1
                    refine xw_iast (n := 96) hx hb hK hP hD hS 1 0 rfl rfl (by decide) hin erce_1 dX1_append_86 (fun H locs hP hD hS => ?_)
                    have hP : va_P (dC, dI) vwCl (wd_X1 qR aR0 aR1 kR0 kR1 rsz rly rce_1 rst) H := hP
                    have hD : va_D A (wd_X1 qR aR0 aR1 kR0 kR1 rsz rly rce_1 rst) := hD
                    refine lv_aload_n hx hb dX1_append_87 rfl (lv_at hl 1 rfl) ?_
                    refine va_get (D := (dC, dI)) (ci := 1) (v := .ref aR0) (C := RX1) (T := TX1) (N := 4) hx hb hts hwsX10 hown hK hP 0 rfl rfl 0 (by decide) (hts (.fieldLink RX1 11 "BoxProver$Rows" "cells" "[I") (by decide +kernel)) (fun _ h9 => h9) rfl dX1_append_88 ?_
                    refine lv_iload hx hb dX1_append_91 (lv_at hl 0 rfl) ?_
                    refine lv_iconst (v := xw_i 1) hx hb dX1_append_93 (by decide) ?_
                    refine xw_iadd hx hb dX1_append_94 ?_
                    refine lv_iload_n hx hb dX1_append_95 rfl (lv_at hl 3 rfl) ?_
                    obtain ⟨hin, h⟩ := h
                    obtain ⟨rce_2, erce_2⟩ : ∃ z : Nat → Int, z = xw_u rce_1 (x7 + 1) p2 := ⟨_, rfl⟩
                    have h := h rce_2 erce_2
                    refine xw_iast (n := 96) hx hb hK hP hD hS 1 0 rfl rfl (by decide) hin erce_2 dX1_append_96 (fun H locs hP hD hS => ?_)
                    have hP : va_P (dC, dI) vwCl (wd_X1 qR aR0 aR1 kR0 kR1 rsz rly rce_2 rst) H := hP
                    have hD : va_D A (wd_X1 qR aR0 aR1 kR0 kR1 rsz rly rce_2 rst) := hD
                    refine lv_aload_n hx hb dX1_append_97 rfl (lv_at hl 1 rfl) ?_
                    refine va_get (D := (dC, dI)) (ci := 1) (v := .ref aR0) (C := RX1) (T := TX1) (N := 4) hx hb hts hwsX10 hown hK hP 0 rfl rfl 0 (by decide) (hts (.fieldLink RX1 11 "BoxProver$Rows" "cells" "[I") (by decide +kernel)) (fun _ h9 => h9) rfl dX1_append_98 ?_
                    refine lv_iload hx hb dX1_append_101 (lv_at hl 0 rfl) ?_
                    refine lv_iconst (v := xw_i 1) hx hb dX1_append_103 (by decide) ?_
                    refine xw_iadd hx hb dX1_append_104 ?_
                    refine lv_iconst (v := xw_i 1) hx hb dX1_append_105 (by decide) ?_
                    refine xw_iadd hx hb dX1_append_106 ?_
                    refine lv_iload_n hx hb dX1_append_107 rfl (lv_at hl 4 rfl) ?_
                    obtain ⟨hin, h⟩ := h
                    obtain ⟨rce_3, erce_3⟩ : ∃ z : Nat → Int, z = xw_u rce_2 ((x7 + 1) + 1) p3 := ⟨_, rfl⟩
                    have h := h rce_3 erce_3
                    refine xw_iast (n := 96) hx hb hK hP hD hS 1 0 rfl rfl (by decide) hin erce_3 dX1_append_108 (fun H locs hP hD hS => ?_)
                    have hP : va_P (dC, dI) vwCl (wd_X1 qR aR0 aR1 kR0 kR1 rsz rly rce_3 rst) H := hP
                    have hD : va_D A (wd_X1 qR aR0 aR1 kR0 kR1 rsz rly rce_3 rst) := hD
                    refine lv_aload_n hx hb dX1_append_109 rfl (lv_at hl 1 rfl) ?_
                    refine va_get (D := (dC, dI)) (ci := 1) (v := .ref aR0) (C := RX1) (T := TX1) (N := 4) hx hb hts hwsX10 hown hK hP 0 rfl rfl 0 (by decide) (hts (.fieldLink RX1 11 "BoxProver$Rows" "cells" "[I") (by decide +kernel)) (fun _ h9 => h9) rfl dX1_append_110 ?_
                    refine lv_iload hx hb dX1_append_113 (lv_at hl 0 rfl) ?_
                    refine lv_iconst (v := xw_i 1) hx hb dX1_append_115 (by decide) ?_
                    refine xw_iadd hx hb dX1_append_116 ?_
                    refine lv_iconst (v := xw_i 2) hx hb dX1_append_117 (by decide) ?_
                    refine xw_iadd hx hb dX1_append_118 ?_
                    refine lv_iload hx hb dX1_append_119 (lv_at hl 5 rfl) ?_
                    obtain ⟨hin, h⟩ := h
                    obtain ⟨rce_4, erce_4⟩ : ∃ z : Nat → Int, z = xw_u rce_3 ((x7 + 1) + 2) p4 := ⟨_, rfl⟩
                    have h := h rce_4 erce_4
                    refine xw_iast (n := 96) hx hb hK hP hD hS 1 0 rfl rfl (by decide) hin erce_4 dX1_append_121 (fun H locs hP hD hS => ?_)
                    have hP : va_P (dC, dI) vwCl (wd_X1 qR aR0 aR1 kR0 kR1 rsz rly rce_4 rst) H := hP
                    have hD : va_D A (wd_X1 qR aR0 aR1 kR0 kR1 rsz rly rce_4 rst) := hD
                    refine lv_aload_n hx hb dX1_append_122 rfl (lv_at hl 1 rfl) ?_
                    refine va_get (D := (dC, dI)) (ci := 1) (v := .ref aR0) (C := RX1) (T := TX1) (N := 4) hx hb hts hwsX10 hown hK hP 0 rfl rfl 0 (by decide) (hts (.fieldLink RX1 11 "BoxProver$Rows" "cells" "[I") (by decide +kernel)) (fun _ h9 => h9) rfl dX1_append_123 ?_
                    refine lv_iload hx hb dX1_append_126 (lv_at hl 0 rfl) ?_
                    refine lv_iconst (v := xw_i 1) hx hb dX1_append_128 (by decide) ?_
                    refine xw_iadd hx hb dX1_append_129 ?_
                    refine lv_iconst (v := xw_i 3) hx hb dX1_append_130 (by decide) ?_
                    refine xw_iadd hx hb dX1_append_131 ?_
                    refine lv_iload hx hb dX1_append_132 (lv_at hl 6 rfl) ?_
                    obtain ⟨hin, h⟩ := h
                    obtain ⟨rce_5, erce_5⟩ : ∃ z : Nat → Int, z = xw_u rce_4 ((x7 + 1) + 3) p5 := ⟨_, rfl⟩
                    have h := h rce_5 erce_5
                    refine xw_iast (n := 96) hx hb hK hP hD hS 1 0 rfl rfl (by decide) hin erce_5 dX1_append_134 (fun H locs hP hD hS => ?_)
                    have hP : va_P (dC, dI) vwCl (wd_X1 qR aR0 aR1 kR0 kR1 rsz rly rce_5 rst) H := hP
                    have hD : va_D A (wd_X1 qR aR0 aR1 kR0 kR1 rsz rly rce_5 rst) := hD
                    refine lv_aload_n hx hb dX1_append_135 rfl (lv_at hl 1 rfl) ?_
                    refine va_get (D := (dC, dI)) (ci := 1) (v := .ref aR0) (C := RX1) (T := TX1) (N := 4) hx hb hts hwsX10 hown hK hP 0 rfl rfl 0 (by decide) (hts (.fieldLink RX1 11 "BoxProver$Rows" "cells" "[I") (by decide +kernel)) (fun _ h9 => h9) rfl dX1_append_136 ?_
                    refine lv_iload hx hb dX1_append_139 (lv_at hl 0 rfl) ?_
                    refine lv_iconst (v := xw_i 5) hx hb dX1_append_141 (by decide) ?_
                    refine xw_iadd hx hb dX1_append_142 ?_
                    refine lv_iload hx hb dX1_append_143 (lv_at hl 7 rfl) ?_
                    obtain ⟨hin, h⟩ := h
                    obtain ⟨rce_6, erce_6⟩ : ∃ z : Nat → Int, z = xw_u rce_5 (x7 + 5) p6 := ⟨_, rfl⟩
                    have h := h rce_6 erce_6
                    refine xw_iast (n := 96) hx hb hK hP hD hS 1 0 rfl rfl (by decide) hin erce_6 dX1_append_145 (fun H locs hP hD hS => ?_)
                    have hP : va_P (dC, dI) vwCl (wd_X1 qR aR0 aR1 kR0 kR1 rsz rly rce_6 rst) H := hP
                    have hD : va_D A (wd_X1 qR aR0 aR1 kR0 kR1 rsz rly rce_6 rst) := hD
                    refine lv_aload_n hx hb dX1_append_146 rfl (lv_at hl 1 rfl) ?_
                    refine lv_dup hx hb dX1_append_147 rfl ?_
                    refine va_get (D := (dC, dI)) (ci := 1) (v := .int (xw_i rsz)) (C := RX1) (T := TX1) (N := 4) hx hb hts hwsX10 hown hK hP 0 rfl rfl 2 (by decide) (hts (.fieldLink RX1 18 "BoxProver$Rows" "size" "I") (by decide +kernel)) (fun _ h9 => h9) rfl dX1_append_148 ?_
                    refine lv_iconst (v := xw_i 1) hx hb dX1_append_151 (by decide) ?_
                    refine xw_iadd hx hb dX1_append_152 ?_
                    refine xw_topi (fun sf esf => ?_)
                    have h := h sf esf
                    refine va_put (D := (dC, dI)) (ci := 1) (v := .int (xw_i sf)) (ty := .int) (C := RX1) (T := TX1) (N := 4) hx hb hts hwsX10 tyX1 tyX1_ok nmX1 hown hK hP hD hS 0 rfl rfl 2 (by decide) (hts (.fieldLink RX1 18 "BoxProver$Rows" "size" "I") (by decide +kernel)) (fun _ h9 => h9) rfl (by decide +kernel) rfl rfl (Nat.le_of_ble_eq_true rfl) dX1_append_153 (fun H locs hP hD hS => ?_)
                    have hP : va_P (dC, dI) vwCl (wd_X1 qR aR0 aR1 kR0 kR1 sf rly rce_6 rst) H := hP
                    have hD : va_D A (wd_X1 qR aR0 aR1 kR0 kR1 sf rly rce_6 rst) := hD
                    refine lv_aload_n hx hb dX1_append_156 rfl (lv_at hl 1 rfl) ?_
                    refine va_get (D := (dC, dI)) (ci := 1) (v := .int (xw_i sf)) (C := RX1) (T := TX1) (N := 4) hx hb hts hwsX10 hown hK hP 0 rfl rfl 2 (by decide) (hts (.fieldLink RX1 18 "BoxProver$Rows" "size" "I") (by decide +kernel)) (fun _ h9 => h9) rfl dX1_append_157 ?_
                    refine lv_iconst (v := xw_i 1) hx hb dX1_append_160 (by decide) ?_
                    refine xw_isub hx hb dX1_append_161 ?_
                    exact hret _ _ _ _ (sf - 1) (sf, rce_6) dX1_append_162 h hP hD hK hS
                  · have h := h.1 hcd
                    refine lv_iconst (v := xw_i (-1)) hx hb dX1_append_66 (by decide) ?_
                    exact hret _ _ _ _ (-1) (rsz, rce) dX1_append_67 h hP hD hK hS
          · have h := h.2 hcd
            refine lv_iconst (v := xw_i (-1)) hx hb dX1_append_34 (by decide) ?_
            exact hret _ _ _ _ (-1) (rsz, rce) dX1_append_35 h hP hD hK hS
set_option maxHeartbeats 4000000 in
set_option maxRecDepth 100000 in
theorem c_X1_beginLayer (l : Launch) (dC : Nat → ClassId) (dI : Nat → Nat → Nat) (qR aR0 aR1 : Nat) (kR0 kR1 : ClassId) (sz : Nat) (rsz : Int) (rly : Int) (rce : Nat → Int) (rst : Nat → Int) (post : Int → Int → (Nat → Int) → Prop) (h : wp_X1_beginLayer post rsz rly rce rst) : Met l yX1_beginLayer wsX1_beginLayer ({ frames := 0, cells := 0, slots := 0, locals := 0 }) (va_Pc [.ref qR] (xw_Pre (dC, dI) vwCl (wd_X1 qR aR0 aR1 kR0 kR1 rsz rly rce rst) [(kR0, .int), (kR1, .int)] sz)) (va_Qi (xw_pi (fun v (u : Int × (Nat → Int)) => post v u.1 u.2)) (xw_B (dC, dI) vwCl (fun (_ : Int × (Nat → Int)) => [(kR0, .int), (kR1, .int)]) (va_A (wd_X1 qR aR0 aR1 kR0 kR1 rsz rly rce rst) sz) (fun (u : Int × (Nat → Int)) => (wd_X1 qR aR0 aR1 kR0 kR1 rsz u.1 rce u.2))) (va_A (wd_X1 qR aR0 aR1 kR0 kR1 rsz rly rce rst) sz)) 0 0 (va_A (wd_X1 qR aR0 aR1 kR0 kR1 rsz rly rce rst) sz) := by
  refine xw_ofI (cc := cX1_beginLayer) (maxL := 1) (by decide +kernel) rfl (Nat.le_of_ble_eq_true rfl) ?_
  intro p e s m args below meth c hx hb hml hown hts A hA hP hD hK Q hret ls hl hS
  have hl : lv_has ls 1 [(0, .ref qR)] := hl
  have hwsX10 : ∀ w ∈ wsX10, w ∈ wsX1_beginLayer := fun _ h => List.mem_cons_of_mem _ (List.mem_append_right _ h)
  unfold wp_X1_beginLayer at h
  refine lv_aload_n hx hb dX1_beginLayer_0 rfl (lv_at hl 0 rfl) ?_
  refine va_get (D := (dC, dI)) (ci := 1) (v := .int (xw_i rly)) (C := RX1) (T := TX1) (N := 4) hx hb hts hwsX10 hown hK hP 0 rfl rfl 3 (by decide) (hts (.fieldLink RX1 22 "BoxProver$Rows" "layers" "I") (by decide +kernel)) (fun _ h9 => h9) rfl dX1_beginLayer_1 ?_
  refine lv_bipush (v := xw_i 8) hx hb dX1_beginLayer_4 (by decide) ?_
  obtain ⟨hr1, h⟩ := h
  refine xw_icmp_lt (tgt := 11) hx hb ⟨hr1, ⟨by decide, by decide⟩⟩ dX1_beginLayer_6 (by decide) (fun hcd => ?_) (fun hcd => ?_)
  · have h := h.1 hcd
    refine lv_aload_n hx hb dX1_beginLayer_11 rfl (lv_at hl 0 rfl) ?_
    refine va_get (D := (dC, dI)) (ci := 1) (v := .ref aR1) (C := RX1) (T := TX1) (N := 4) hx hb hts hwsX10 hown hK hP 0 rfl rfl 1 (by decide) (hts (.fieldLink RX1 15 "BoxProver$Rows" "layerStart" "[I") (by decide +kernel)) (fun _ h9 => h9) rfl dX1_beginLayer_12 ?_
    refine lv_aload_n hx hb dX1_beginLayer_15 rfl (lv_at hl 0 rfl) ?_
    refine va_get (D := (dC, dI)) (ci := 1) (v := .int (xw_i rly)) (C := RX1) (T := TX1) (N := 4) hx hb hts hwsX10 hown hK hP 0 rfl rfl 3 (by decide) (hts (.fieldLink RX1 22 "BoxProver$Rows" "layers" "I") (by decide +kernel)) (fun _ h9 => h9) rfl dX1_beginLayer_16 ?_
    refine lv_aload_n hx hb dX1_beginLayer_19 rfl (lv_at hl 0 rfl) ?_
    refine va_get (D := (dC, dI)) (ci := 1) (v := .int (xw_i rsz)) (C := RX1) (T := TX1) (N := 4) hx hb hts hwsX10 hown hK hP 0 rfl rfl 2 (by decide) (hts (.fieldLink RX1 18 "BoxProver$Rows" "size" "I") (by decide +kernel)) (fun _ h9 => h9) rfl dX1_beginLayer_20 ?_
    obtain ⟨hin, h⟩ := h
    obtain ⟨rst_1, erst_1⟩ : ∃ z : Nat → Int, z = xw_u rst rly rsz := ⟨_, rfl⟩
    have h := h rst_1 erst_1
    refine xw_iast (n := 8) hx hb hK hP hD hS 2 1 rfl rfl (by decide) hin erst_1 dX1_beginLayer_23 (fun H locs hP hD hS => ?_)
    have hP : va_P (dC, dI) vwCl (wd_X1 qR aR0 aR1 kR0 kR1 rsz rly rce rst_1) H := hP
    have hD : va_D A (wd_X1 qR aR0 aR1 kR0 kR1 rsz rly rce rst_1) := hD
    refine lv_aload_n hx hb dX1_beginLayer_24 rfl (lv_at hl 0 rfl) ?_
    refine lv_dup hx hb dX1_beginLayer_25 rfl ?_
    refine va_get (D := (dC, dI)) (ci := 1) (v := .int (xw_i rly)) (C := RX1) (T := TX1) (N := 4) hx hb hts hwsX10 hown hK hP 0 rfl rfl 3 (by decide) (hts (.fieldLink RX1 22 "BoxProver$Rows" "layers" "I") (by decide +kernel)) (fun _ h9 => h9) rfl dX1_beginLayer_26 ?_
    refine lv_iconst (v := xw_i 1) hx hb dX1_beginLayer_29 (by decide) ?_
    refine xw_iadd hx hb dX1_beginLayer_30 ?_
    refine xw_topi (fun lf elf => ?_)
    have h := h lf elf
    refine va_put (D := (dC, dI)) (ci := 1) (v := .int (xw_i lf)) (ty := .int) (C := RX1) (T := TX1) (N := 4) hx hb hts hwsX10 tyX1 tyX1_ok nmX1 hown hK hP hD hS 0 rfl rfl 3 (by decide) (hts (.fieldLink RX1 22 "BoxProver$Rows" "layers" "I") (by decide +kernel)) (fun _ h9 => h9) rfl (by decide +kernel) rfl rfl (Nat.le_of_ble_eq_true rfl) dX1_beginLayer_31 (fun H locs hP hD hS => ?_)
    have hP : va_P (dC, dI) vwCl (wd_X1 qR aR0 aR1 kR0 kR1 rsz lf rce rst_1) H := hP
    have hD : va_D A (wd_X1 qR aR0 aR1 kR0 kR1 rsz lf rce rst_1) := hD
    refine lv_aload_n hx hb dX1_beginLayer_34 rfl (lv_at hl 0 rfl) ?_
    refine va_get (D := (dC, dI)) (ci := 1) (v := .int (xw_i lf)) (C := RX1) (T := TX1) (N := 4) hx hb hts hwsX10 hown hK hP 0 rfl rfl 3 (by decide) (hts (.fieldLink RX1 22 "BoxProver$Rows" "layers" "I") (by decide +kernel)) (fun _ h9 => h9) rfl dX1_beginLayer_35 ?_
    exact hret _ _ _ _ lf (lf, rst_1) dX1_beginLayer_38 h hP hD hK hS
  · have h := h.2 hcd
    refine lv_iconst (v := xw_i (-1)) hx hb dX1_beginLayer_9 (by decide) ?_
    exact hret _ _ _ _ (-1) (rly, rst) dX1_beginLayer_10 h hP hD hK hS
set_option maxHeartbeats 4000000 in
set_option maxRecDepth 100000 in
theorem c_X1_dropLayer (l : Launch) (dC : Nat → ClassId) (dI : Nat → Nat → Nat) (qR aR0 aR1 : Nat) (kR0 kR1 : ClassId) (sz : Nat) (rsz : Int) (rly : Int) (rce : Nat → Int) (rst : Nat → Int) (post : Int → Int → Int → Prop) (h : wp_X1_dropLayer post rsz rly rce rst) : Met l yX1_dropLayer wsX1_dropLayer ({ frames := 0, cells := 0, slots := 0, locals := 0 }) (va_Pc [.ref qR] (xw_Pre (dC, dI) vwCl (wd_X1 qR aR0 aR1 kR0 kR1 rsz rly rce rst) [(kR0, .int), (kR1, .int)] sz)) (va_Qi (xw_pi (fun v (u : Int × Int) => post v u.1 u.2)) (xw_B (dC, dI) vwCl (fun (_ : Int × Int) => [(kR0, .int), (kR1, .int)]) (va_A (wd_X1 qR aR0 aR1 kR0 kR1 rsz rly rce rst) sz) (fun (u : Int × Int) => (wd_X1 qR aR0 aR1 kR0 kR1 u.1 u.2 rce rst))) (va_A (wd_X1 qR aR0 aR1 kR0 kR1 rsz rly rce rst) sz)) 0 0 (va_A (wd_X1 qR aR0 aR1 kR0 kR1 rsz rly rce rst) sz) := by
  refine xw_ofI (cc := cX1_dropLayer) (maxL := 2) (by decide +kernel) rfl (Nat.le_of_ble_eq_true rfl) ?_
  intro p e s m args below meth c hx hb hml hown hts A hA hP hD hK Q hret ls hl hS
  have hl : lv_has ls 2 [(0, .ref qR)] := hl
  have hwsX10 : ∀ w ∈ wsX10, w ∈ wsX1_dropLayer := fun _ h => List.mem_cons_of_mem _ (List.mem_append_right _ h)
  unfold wp_X1_dropLayer at h
  refine lv_aload_n hx hb dX1_dropLayer_0 rfl (lv_at hl 0 rfl) ?_
  refine va_get (D := (dC, dI)) (ci := 1) (v := .int (xw_i rly)) (C := RX1) (T := TX1) (N := 4) hx hb hts hwsX10 hown hK hP 0 rfl rfl 3 (by decide) (hts (.fieldLink RX1 22 "BoxProver$Rows" "layers" "I") (by decide +kernel)) (fun _ h9 => h9) rfl dX1_dropLayer_1 ?_
  obtain ⟨hr1, h⟩ := h
  refine xw_if_gt (tgt := 9) hx hb hr1 dX1_dropLayer_4 (by decide) (fun hcd => ?_) (fun hcd => ?_)
  · have h := h.1 hcd
    refine lv_aload_n hx hb dX1_dropLayer_9 rfl (lv_at hl 0 rfl) ?_
    refine lv_dup hx hb dX1_dropLayer_10 rfl ?_
    refine va_get (D := (dC, dI)) (ci := 1) (v := .int (xw_i rly)) (C := RX1) (T := TX1) (N := 4) hx hb hts hwsX10 hown hK hP 0 rfl rfl 3 (by decide) (hts (.fieldLink RX1 22 "BoxProver$Rows" "layers" "I") (by decide +kernel)) (fun _ h9 => h9) rfl dX1_dropLayer_11 ?_
    refine lv_iconst (v := xw_i 1) hx hb dX1_dropLayer_14 (by decide) ?_
    refine xw_isub hx hb dX1_dropLayer_15 ?_
    refine xw_topi (fun lf elf => ?_)
    have h := h lf elf
    refine va_put (D := (dC, dI)) (ci := 1) (v := .int (xw_i lf)) (ty := .int) (C := RX1) (T := TX1) (N := 4) hx hb hts hwsX10 tyX1 tyX1_ok nmX1 hown hK hP hD hS 0 rfl rfl 3 (by decide) (hts (.fieldLink RX1 22 "BoxProver$Rows" "layers" "I") (by decide +kernel)) (fun _ h9 => h9) rfl (by decide +kernel) rfl rfl (Nat.le_of_ble_eq_true rfl) dX1_dropLayer_16 (fun H locs hP hD hS => ?_)
    have hP : va_P (dC, dI) vwCl (wd_X1 qR aR0 aR1 kR0 kR1 rsz lf rce rst) H := hP
    have hD : va_D A (wd_X1 qR aR0 aR1 kR0 kR1 rsz lf rce rst) := hD
    refine lv_aload_n hx hb dX1_dropLayer_19 rfl (lv_at hl 0 rfl) ?_
    refine va_get (D := (dC, dI)) (ci := 1) (v := .int (xw_i rsz)) (C := RX1) (T := TX1) (N := 4) hx hb hts hwsX10 hown hK hP 0 rfl rfl 2 (by decide) (hts (.fieldLink RX1 18 "BoxProver$Rows" "size" "I") (by decide +kernel)) (fun _ h9 => h9) rfl dX1_dropLayer_20 ?_
    refine lv_aload_n hx hb dX1_dropLayer_23 rfl (lv_at hl 0 rfl) ?_
    refine va_get (D := (dC, dI)) (ci := 1) (v := .ref aR1) (C := RX1) (T := TX1) (N := 4) hx hb hts hwsX10 hown hK hP 0 rfl rfl 1 (by decide) (hts (.fieldLink RX1 15 "BoxProver$Rows" "layerStart" "[I") (by decide +kernel)) (fun _ h9 => h9) rfl dX1_dropLayer_24 ?_
    refine lv_aload_n hx hb dX1_dropLayer_27 rfl (lv_at hl 0 rfl) ?_
    refine va_get (D := (dC, dI)) (ci := 1) (v := .int (xw_i lf)) (C := RX1) (T := TX1) (N := 4) hx hb hts hwsX10 hown hK hP 0 rfl rfl 3 (by decide) (hts (.fieldLink RX1 22 "BoxProver$Rows" "layers" "I") (by decide +kernel)) (fun _ h9 => h9) rfl dX1_dropLayer_28 ?_
    obtain ⟨hin, h⟩ := h
    refine xw_iald (n := 8) hx hb hK hP 2 1 rfl rfl (by decide) hin dX1_dropLayer_31 ?_
    refine xw_isub hx hb dX1_dropLayer_32 ?_
    refine xw_topi (fun x1 ex1 => ?_)
    have h := h x1 ex1
    refine lv_istore_n (lv' := [(1, .int (xw_i x1)), (0, .ref qR)]) hx hb dX1_dropLayer_33 rfl hl (by decide) rfl (fun ls hl => ?_)
    refine lv_aload_n hx hb dX1_dropLayer_34 rfl (lv_at hl 1 rfl) ?_
    refine lv_aload_n hx hb dX1_dropLayer_35 rfl (lv_at hl 1 rfl) ?_
    refine va_get (D := (dC, dI)) (ci := 1) (v := .ref aR1) (C := RX1) (T := TX1) (N := 4) hx hb hts hwsX10 hown hK hP 0 rfl rfl 1 (by decide) (hts (.fieldLink RX1 15 "BoxProver$Rows" "layerStart" "[I") (by decide +kernel)) (fun _ h9 => h9) rfl dX1_dropLayer_36 ?_
    refine lv_aload_n hx hb dX1_dropLayer_39 rfl (lv_at hl 1 rfl) ?_
    refine va_get (D := (dC, dI)) (ci := 1) (v := .int (xw_i lf)) (C := RX1) (T := TX1) (N := 4) hx hb hts hwsX10 hown hK hP 0 rfl rfl 3 (by decide) (hts (.fieldLink RX1 22 "BoxProver$Rows" "layers" "I") (by decide +kernel)) (fun _ h9 => h9) rfl dX1_dropLayer_40 ?_
    obtain ⟨hin, h⟩ := h
    refine xw_iald (n := 8) hx hb hK hP 2 1 rfl rfl (by decide) hin dX1_dropLayer_43 ?_
    refine xw_topi (fun sf esf => ?_)
    have h := h sf esf
    refine va_put (D := (dC, dI)) (ci := 1) (v := .int (xw_i sf)) (ty := .int) (C := RX1) (T := TX1) (N := 4) hx hb hts hwsX10 tyX1 tyX1_ok nmX1 hown hK hP hD hS 0 rfl rfl 2 (by decide) (hts (.fieldLink RX1 18 "BoxProver$Rows" "size" "I") (by decide +kernel)) (fun _ h9 => h9) rfl (by decide +kernel) rfl rfl (Nat.le_of_ble_eq_true rfl) dX1_dropLayer_44 (fun H locs hP hD hS => ?_)
    have hP : va_P (dC, dI) vwCl (wd_X1 qR aR0 aR1 kR0 kR1 sf lf rce rst) H := hP
    have hD : va_D A (wd_X1 qR aR0 aR1 kR0 kR1 sf lf rce rst) := hD
    refine lv_iload_n hx hb dX1_dropLayer_47 rfl (lv_at hl 0 rfl) ?_
    exact hret _ _ _ _ x1 (sf, lf) dX1_dropLayer_48 h hP hD hK hS
  · have h := h.2 hcd
    refine lv_iconst (v := xw_i (-1)) hx hb dX1_dropLayer_7 (by decide) ?_
    exact hret _ _ _ _ (-1) (rsz, rly) dX1_dropLayer_8 h hP hD hK hS
