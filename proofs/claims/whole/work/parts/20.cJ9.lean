def wp_J9_floorDiv_7cf53 (post : Int → Prop) (p1 : Int) (p2 : Int) : Prop := xw_r p1 ∧ (xw_r p2 ∧ ((¬ p2 = 0) ∧ (∀ x2 : Int, x2 = Int.tdiv p1 p2 → (∀ zx : Int, xw_r zx → (zx < 0 ↔ ¬ (p1 < 0 ↔ p2 < 0)) → ((0 ≤ zx → (post x2)) ∧ (¬ 0 ≤ zx → (xw_r (x2 * p2) ∧ ((x2 * p2 = p1 → (post x2)) ∧ (¬ x2 * p2 = p1 → (post (x2 - 1)))))))))))
def wp_J9_floorDiv_f86c9 (post : Int → Prop) (p1 : Int) (p2 : Int) : Prop := xw_l p1 ∧ (xw_l p2 ∧ ((¬ p2 = 0) ∧ (∀ x4 : Int, x4 = Int.tdiv p1 p2 → (∀ zx : Int, xw_l zx → (zx < 0 ↔ ¬ (p1 < 0 ↔ p2 < 0)) → ((0 ≤ zx → (post x4)) ∧ (¬ 0 ≤ zx → (xw_l (x4 * p2) ∧ ((x4 * p2 = p1 → (post x4)) ∧ (¬ x4 * p2 = p1 → (post (x4 - 1)))))))))))
set_option maxHeartbeats 4000000 in
set_option maxRecDepth 100000 in
theorem c_J9_floorDiv_7cf53 (l : Launch) (dC : Nat → ClassId) (dI : Nat → Nat → Nat)  (sz : Nat) (p1 : Int) (p2 : Int) (post : Int → Prop) (h : wp_J9_floorDiv_7cf53 post p1 p2) : Met l yJ9_floorDiv_7cf53 wsJ9_floorDiv_7cf53 ({ frames := 0, cells := 0, slots := 0, locals := 0 }) (va_Pc [.int (xw_i p1), .int (xw_i p2)] (xw_Pre (dC, dI) vwCl [] [] sz)) (va_Qi (xw_pi (fun v (u : Unit) => post v)) (xw_B (dC, dI) vwCl (fun (_ : Unit) => []) (va_A [] sz) (fun (u : Unit) => [])) (va_A [] sz)) 0 0 (va_A [] sz) := by
  refine xw_ofI (cc := cJ9_floorDiv_7cf53) (maxL := 3) (by decide +kernel) rfl (Nat.le_of_ble_eq_true rfl) ?_
  intro p e s m args below meth c hx hb hml hown hts A hA hP hD hK Q hret ls hl hS
  have hl : lv_has ls 3 [(0, .int (xw_i p1)), (1, .int (xw_i p2))] := hl
  unfold wp_J9_floorDiv_7cf53 at h
  refine lv_iload_n hx hb dJ9_floorDiv_7cf53_0 rfl (lv_at hl 0 rfl) ?_
  refine lv_iload_n hx hb dJ9_floorDiv_7cf53_1 rfl (lv_at hl 1 rfl) ?_
  obtain ⟨hr1, h⟩ := h
  obtain ⟨hr2, h⟩ := h
  obtain ⟨hne, h⟩ := h
  refine xw_idiv hx hb ⟨hr1, hr2⟩ hne dJ9_floorDiv_7cf53_2 ?_
  refine xw_topi (fun x2 ex2 => ?_)
  have h := h x2 ex2
  refine lv_istore_n (lv' := [(2, .int (xw_i x2)), (0, .int (xw_i p1)), (1, .int (xw_i p2))]) hx hb dJ9_floorDiv_7cf53_3 rfl hl (by decide) rfl (fun ls hl => ?_)
  refine lv_iload_n hx hb dJ9_floorDiv_7cf53_4 rfl (lv_at hl 1 rfl) ?_
  refine lv_iload_n hx hb dJ9_floorDiv_7cf53_5 rfl (lv_at hl 2 rfl) ?_
  refine xw_ixor hx hb ⟨hr1, hr2⟩ dJ9_floorDiv_7cf53_6 (fun zx rzx szx => ?_)
  have h := h zx rzx szx
  refine xw_if_ge (tgt := 21) hx hb rzx dJ9_floorDiv_7cf53_7 (by decide) (fun hcd => ?_) (fun hcd => ?_)
  · have h := h.1 hcd
    refine lv_iload_n hx hb dJ9_floorDiv_7cf53_21 rfl (lv_at hl 0 rfl) ?_
    exact hret _ _ _ _ x2 () dJ9_floorDiv_7cf53_22 h hP hD hK hS
  · have h := h.2 hcd
    refine lv_iload_n hx hb dJ9_floorDiv_7cf53_10 rfl (lv_at hl 0 rfl) ?_
    refine lv_iload_n hx hb dJ9_floorDiv_7cf53_11 rfl (lv_at hl 2 rfl) ?_
    refine xw_imul hx hb dJ9_floorDiv_7cf53_12 ?_
    refine lv_iload_n hx hb dJ9_floorDiv_7cf53_13 rfl (lv_at hl 1 rfl) ?_
    obtain ⟨hr3, h⟩ := h
    refine xw_icmp_eq (tgt := 21) hx hb ⟨hr3, hr1⟩ dJ9_floorDiv_7cf53_14 (by decide) (fun hcd => ?_) (fun hcd => ?_)
    · have h := h.1 hcd
      refine lv_iload_n hx hb dJ9_floorDiv_7cf53_21 rfl (lv_at hl 0 rfl) ?_
      exact hret _ _ _ _ x2 () dJ9_floorDiv_7cf53_22 h hP hD hK hS
    · have h := h.2 hcd
      refine lv_iload_n hx hb dJ9_floorDiv_7cf53_17 rfl (lv_at hl 0 rfl) ?_
      refine lv_iconst (v := xw_i 1) hx hb dJ9_floorDiv_7cf53_18 (by decide) ?_
      refine xw_isub hx hb dJ9_floorDiv_7cf53_19 ?_
      exact hret _ _ _ _ (x2 - 1) () dJ9_floorDiv_7cf53_20 h hP hD hK hS
set_option maxHeartbeats 4000000 in
set_option maxRecDepth 100000 in
theorem c_J9_floorDiv_f86c9 (l : Launch) (dC : Nat → ClassId) (dI : Nat → Nat → Nat)  (sz : Nat) (p1 : Int) (p2 : Int) (post : Int → Prop) (h : wp_J9_floorDiv_f86c9 post p1 p2) : Met l yJ9_floorDiv_f86c9 wsJ9_floorDiv_f86c9 ({ frames := 0, cells := 0, slots := 0, locals := 0 }) (va_Pc [.long (xw_j p1), .long (xw_j p2)] (xw_Pre (dC, dI) vwCl [] [] sz)) (va_Ql (xw_pl (fun v (u : Unit) => post v)) (xw_B (dC, dI) vwCl (fun (_ : Unit) => []) (va_A [] sz) (fun (u : Unit) => [])) (va_A [] sz)) 0 0 (va_A [] sz) := by
  refine xw_ofL (cc := cJ9_floorDiv_f86c9) (maxL := 6) (by decide +kernel) rfl (Nat.le_of_ble_eq_true rfl) ?_
  intro p e s m args below meth c hx hb hml hown hts A hA hP hD hK Q hret ls hl hS
  have hl : lv_has ls 6 [(0, .long (xw_j p1)), (2, .long (xw_j p2))] := hl
  unfold wp_J9_floorDiv_f86c9 at h
  refine lv_lload_n hx hb dJ9_floorDiv_f86c9_0 rfl (lv_at hl 0 rfl) ?_
  refine lv_lload_n hx hb dJ9_floorDiv_f86c9_1 rfl (lv_at hl 1 rfl) ?_
  obtain ⟨hr1, h⟩ := h
  obtain ⟨hr2, h⟩ := h
  obtain ⟨hne, h⟩ := h
  refine xw_ldiv hx hb ⟨hr1, hr2⟩ hne dJ9_floorDiv_f86c9_2 ?_
  refine xw_topl (fun x4 ex4 => ?_)
  have h := h x4 ex4
  refine lv_lstore (lv' := [(4, .long (xw_j x4)), (0, .long (xw_j p1)), (2, .long (xw_j p2))]) hx hb dJ9_floorDiv_f86c9_3 hl (by decide) rfl (fun ls hl => ?_)
  refine lv_lload_n hx hb dJ9_floorDiv_f86c9_5 rfl (lv_at hl 1 rfl) ?_
  refine lv_lload_n hx hb dJ9_floorDiv_f86c9_6 rfl (lv_at hl 2 rfl) ?_
  refine xw_lxor hx hb ⟨hr1, hr2⟩ dJ9_floorDiv_f86c9_7 (fun zx rzx szx => ?_)
  have h := h zx rzx szx
  refine lv_lconst (v := xw_j 0) hx hb dJ9_floorDiv_f86c9_8 (by decide) ?_
  refine W.lcmp hx hb dJ9_floorDiv_f86c9_9 ?_
  refine xw_lif_ge (tgt := 27) hx hb ⟨rzx, ⟨by decide, by decide⟩⟩ dJ9_floorDiv_f86c9_10 (by decide) (fun hcd => ?_) (fun hcd => ?_)
  · have h := h.1 hcd
    refine lv_lload hx hb dJ9_floorDiv_f86c9_27 (lv_at hl 0 rfl) ?_
    exact hret _ _ _ _ x4 () dJ9_floorDiv_f86c9_29 h hP hD hK hS
  · have h := h.2 hcd
    refine lv_lload hx hb dJ9_floorDiv_f86c9_13 (lv_at hl 0 rfl) ?_
    refine lv_lload_n hx hb dJ9_floorDiv_f86c9_15 rfl (lv_at hl 2 rfl) ?_
    refine xw_lmul hx hb dJ9_floorDiv_f86c9_16 ?_
    refine lv_lload_n hx hb dJ9_floorDiv_f86c9_17 rfl (lv_at hl 1 rfl) ?_
    refine W.lcmp hx hb dJ9_floorDiv_f86c9_18 ?_
    obtain ⟨hr3, h⟩ := h
    refine xw_lif_eq (tgt := 27) hx hb ⟨hr3, hr1⟩ dJ9_floorDiv_f86c9_19 (by decide) (fun hcd => ?_) (fun hcd => ?_)
    · have h := h.1 hcd
      refine lv_lload hx hb dJ9_floorDiv_f86c9_27 (lv_at hl 0 rfl) ?_
      exact hret _ _ _ _ x4 () dJ9_floorDiv_f86c9_29 h hP hD hK hS
    · have h := h.2 hcd
      refine lv_lload hx hb dJ9_floorDiv_f86c9_22 (lv_at hl 0 rfl) ?_
      refine lv_lconst (v := xw_j 1) hx hb dJ9_floorDiv_f86c9_24 (by decide) ?_
      refine xw_lsub hx hb dJ9_floorDiv_f86c9_25 ?_
      exact hret _ _ _ _ (x4 - 1) () dJ9_floorDiv_f86c9_26 h hP hD hK hS
