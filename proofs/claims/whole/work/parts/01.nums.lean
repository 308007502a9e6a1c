/-! NUMBERS: each int and long of the machine is the image of a whole number; the rows of the machine over these. -/
def xw_i (z : Int) : Int32 := Int32.ofInt z
def xw_j (z : Int) : Int64 := Int64.ofInt z
abbrev xw_r (z : Int) : Prop := -2147483648 ≤ z ∧ z ≤ 2147483647
abbrev xw_l (z : Int) : Prop := -9223372036854775808 ≤ z ∧ z ≤ 9223372036854775807
def xw_a (f : Nat → Int) : Nat → Int32 := fun j => xw_i (f j)
def xw_b (f : Nat → Int) : Nat → Int64 := fun j => xw_j (f j)
def xw_u (f : Nat → Int) (k v : Int) : Nat → Int := fun j => if j = k.toNat then v else f j
theorem xw_iT {z : Int} (h : xw_r z) : (xw_i z).toInt = z := Int32.toInt_ofInt_of_le (by omega) (by omega)
theorem xw_jT {z : Int} (h : xw_l z) : (xw_j z).toInt = z := Int64.toInt_ofInt_of_le (by omega) (by omega)
theorem xw_iC {z : Int} (h : xw_r z) : (xw_i z).toNatClampNeg = z.toNat := Int32.toNatClampNeg_ofInt_of_le (by omega) (by omega)
theorem xw_iI (x : Int32) : xw_i x.toInt = x := Int32.ofInt_toInt x
theorem xw_iR (x : Int32) : xw_r x.toInt := ⟨by have := x.le_toInt; omega, by have := x.toInt_lt; omega⟩
theorem xw_ile {a b : Int} (h : xw_r a ∧ xw_r b) : xw_i a ≤ xw_i b ↔ a ≤ b := by rw [Int32.le_iff_toInt_le, xw_iT h.1, xw_iT h.2]
theorem xw_ilt {a b : Int} (h : xw_r a ∧ xw_r b) : xw_i a < xw_i b ↔ a < b := by rw [Int32.lt_iff_toInt_lt, xw_iT h.1, xw_iT h.2]
theorem xw_ieq {a b : Int} (h : xw_r a ∧ xw_r b) : xw_i a = xw_i b ↔ a = b := by rw [← Int32.toInt_inj, xw_iT h.1, xw_iT h.2]
theorem xw_jlt {a b : Int} (h : xw_l a ∧ xw_l b) : xw_j a < xw_j b ↔ a < b := by rw [Int64.lt_iff_toInt_lt, xw_jT h.1, xw_jT h.2]
theorem xw_jeq {a b : Int} (h : xw_l a ∧ xw_l b) : xw_j a = xw_j b ↔ a = b := by rw [← Int64.toInt_inj, xw_jT h.1, xw_jT h.2]
theorem xw_i0 : (0 : Int32) = xw_i 0 := rfl
theorem xw_j0 : (0 : Int64) = xw_j 0 := rfl
theorem xw_z0 : xw_r 0 := ⟨by decide, by decide⟩
theorem xw_iadd_ (a b : Int) : xw_i (a + b) = xw_i a + xw_i b := Int32.ofInt_add a b
theorem xw_isub_ (a b : Int) : xw_i (a - b) = xw_i a - xw_i b := Int32.ofInt_sub a b
theorem xw_imul_ (a b : Int) : xw_i (a * b) = xw_i a * xw_i b := Int32.ofInt_mul a b
theorem xw_ineg_ (a : Int) : xw_i (-a) = -xw_i a := Int32.ofInt_neg a
theorem xw_jadd_ (a b : Int) : xw_j (a + b) = xw_j a + xw_j b := Int64.ofInt_add a b
theorem xw_jsub_ (a b : Int) : xw_j (a - b) = xw_j a - xw_j b := Int64.ofInt_sub a b
theorem xw_jmul_ (a b : Int) : xw_j (a * b) = xw_j a * xw_j b := Int64.ofInt_mul a b
theorem xw_jneg_ (a : Int) : xw_j (-a) = -xw_j a := Int64.ofInt_neg a
theorem xw_jdiv_ {a b : Int} (h : xw_l a ∧ xw_l b) : xw_j (a.tdiv b) = xw_j a / xw_j b := by
  rw [← Int64.toInt_inj, Int64.toInt_div, xw_jT h.1, xw_jT h.2]
  exact Int64.toInt_ofInt
theorem xw_idiv_ {a b : Int} (h : xw_r a ∧ xw_r b) : xw_i (a.tdiv b) = xw_i a / xw_i b := by
  rw [← Int32.toInt_inj, Int32.toInt_div, xw_iT h.1, xw_iT h.2]
  exact Int32.toInt_ofInt
theorem xw_i2l_ {a : Int} (h : xw_r a) : (xw_i a).toInt64 = xw_j a := by
  rw [← Int64.toInt_inj, Int32.toInt_toInt64, xw_iT h, xw_jT ⟨by omega, by omega⟩]
theorem xw_inc {x y n : Int} (e : y = x + n) : xw_i x + Int32.ofInt n = xw_i y := by rw [e, xw_iadd_]; rfl
theorem xw_upd (f : Nat → Int) {k v : Int} (h : xw_r k) : upd (xw_a f) (xw_i k).toNatClampNeg (xw_i v) = xw_a (xw_u f k v) := by
  funext j
  rw [xw_iC h]
  show (if j = k.toNat then xw_i v else xw_i (f j)) = xw_i (if j = k.toNat then v else f j)
  split <;> rfl
theorem xw_updL (f : Nat → Int) {k v : Int} (h : xw_r k) : vp_updL (xw_b f) (xw_i k).toNatClampNeg (xw_j v) = xw_b (xw_u f k v) := by
  funext j
  rw [xw_iC h]
  show (if j = k.toNat then xw_j v else xw_j (f j)) = xw_j (if j = k.toNat then v else f j)
  split <;> rfl
theorem xw_in {i : Int} {n : Nat} (h : 0 ≤ i ∧ i < (n : Int)) (hn : n ≤ 2147483647) : vp_in (xw_i i) n := by
  rw [vp_in_iff, xw_iT ⟨by omega, by omega⟩]
  exact h
theorem xw_inr {i : Int} {n : Nat} (h : 0 ≤ i ∧ i < (n : Int)) (hn : n ≤ 2147483647) : xw_r i := ⟨by omega, by omega⟩
theorem xw_lgl {a b : Int} (h : xw_l a ∧ xw_l b) : lg_cmp (xw_j a) (xw_j b) = if b < a then 1 else if a = b then 0 else -1 := by
  unfold lg_cmp
  simp only [gt_iff_lt, xw_jlt ⟨h.2, h.1⟩, xw_jeq h]
theorem xw_lg_eq {a b : Int} (h : xw_l a ∧ xw_l b) : lg_cmp (xw_j a) (xw_j b) = 0 ↔ a = b := by
  rw [xw_lgl h]; split
  · exact ⟨fun q => absurd q (by decide), fun q => by omega⟩
  · split
    · exact ⟨fun _ => by assumption, fun _ => rfl⟩
    · exact ⟨fun q => absurd q (by decide), fun q => by contradiction⟩
theorem xw_lg_lt {a b : Int} (h : xw_l a ∧ xw_l b) : lg_cmp (xw_j a) (xw_j b) < 0 ↔ a < b := by
  rw [xw_lgl h]; split
  · exact ⟨fun q => absurd q (by decide), fun q => by omega⟩
  · split
    · exact ⟨fun q => absurd q (by decide), fun q => by omega⟩
    · exact ⟨fun _ => by omega, fun _ => by decide⟩
theorem xw_lg_gt {a b : Int} (h : xw_l a ∧ xw_l b) : 0 < lg_cmp (xw_j a) (xw_j b) ↔ b < a := by
  rw [xw_lgl h]; split
  · exact ⟨fun _ => by assumption, fun _ => by decide⟩
  · split
    · exact ⟨fun q => absurd q (by decide), fun q => by omega⟩
    · exact ⟨fun q => absurd q (by decide), fun q => by omega⟩
theorem xw_lg_ge {a b : Int} (h : xw_l a ∧ xw_l b) : 0 ≤ lg_cmp (xw_j a) (xw_j b) ↔ b ≤ a := by
  rw [xw_lgl h]; split
  · exact ⟨fun _ => by omega, fun _ => by decide⟩
  · split
    · exact ⟨fun _ => by omega, fun _ => by decide⟩
    · exact ⟨fun q => absurd q (by decide), fun q => by omega⟩
theorem xw_lg_le {a b : Int} (h : xw_l a ∧ xw_l b) : lg_cmp (xw_j a) (xw_j b) ≤ 0 ↔ a ≤ b := by
  rw [xw_lgl h]; split
  · exact ⟨fun q => absurd q (by decide), fun q => by omega⟩
  · split
    · exact ⟨fun _ => by omega, fun _ => by decide⟩
    · exact ⟨fun _ => by omega, fun _ => by decide⟩
section NX
variable {p : Program} {l : Launch} {e : Env} {R : Room} {s : State} {m : MethodId} {args : Array Value} {below : List Frame} {meth : Method} {c : Code} {H : Heap} {locs : List Loc} {cells slots : Nat} {Q : State → Prop}
variable {cc : ByteArray} {pc : Nat} {ls : Array Slot} {rest : List Value}
theorem xw_topi {a : Int} (k : ∀ y : Int, y = a → W p l e R s m args below meth c H locs cells slots Q (F0 m pc ls (.int (xw_i y) :: rest))) : W p l e R s m args below meth c H locs cells slots Q (F0 m pc ls (.int (xw_i a) :: rest)) := k a rfl
theorem xw_topl {a : Int} (k : ∀ y : Int, y = a → W p l e R s m args below meth c H locs cells slots Q (F0 m pc ls (.long (xw_j y) :: rest))) : W p l e R s m args below meth c H locs cells slots Q (F0 m pc ls (.long (xw_j a) :: rest)) := k a rfl
theorem xw_iadd (hx : p.tables.exec = Jvm.exec) (hb : c.code = cc) {a b : Int} (hdg : decode cc pc = .ok (.iadd, 1)) (k : W p l e R s m args below meth c H locs cells slots Q (F0 m (pc + 1) ls (.int (xw_i (a + b)) :: rest))) : W p l e R s m args below meth c H locs cells slots Q (F0 m pc ls (.int (xw_i b) :: .int (xw_i a) :: rest)) := lv_iadd hx hb hdg (by rw [xw_iadd_] at k; exact k)
theorem xw_isub (hx : p.tables.exec = Jvm.exec) (hb : c.code = cc) {a b : Int} (hdg : decode cc pc = .ok (.isub, 1)) (k : W p l e R s m args below meth c H locs cells slots Q (F0 m (pc + 1) ls (.int (xw_i (a - b)) :: rest))) : W p l e R s m args below meth c H locs cells slots Q (F0 m pc ls (.int (xw_i b) :: .int (xw_i a) :: rest)) := lv_isub hx hb hdg (by rw [xw_isub_] at k; exact k)
theorem xw_imul (hx : p.tables.exec = Jvm.exec) (hb : c.code = cc) {a b : Int} (hdg : decode cc pc = .ok (.imul, 1)) (k : W p l e R s m args below meth c H locs cells slots Q (F0 m (pc + 1) ls (.int (xw_i (a * b)) :: rest))) : W p l e R s m args below meth c H locs cells slots Q (F0 m pc ls (.int (xw_i b) :: .int (xw_i a) :: rest)) := lv_imul hx hb hdg (by rw [xw_imul_] at k; exact k)
theorem xw_ineg (hx : p.tables.exec = Jvm.exec) (hb : c.code = cc) {a : Int} (hdg : decode cc pc = .ok (.ineg, 1)) (k : W p l e R s m args below meth c H locs cells slots Q (F0 m (pc + 1) ls (.int (xw_i (-a)) :: rest))) : W p l e R s m args below meth c H locs cells slots Q (F0 m pc ls (.int (xw_i a) :: rest)) := lv_ineg hx hb hdg (by rw [xw_ineg_] at k; exact k)
theorem xw_idiv (hx : p.tables.exec = Jvm.exec) (hb : c.code = cc) {a b : Int} (h : xw_r a ∧ xw_r b) (hne : ¬ b = 0) (hdg : decode cc pc = .ok (.idiv, 1)) (k : W p l e R s m args below meth c H locs cells slots Q (F0 m (pc + 1) ls (.int (xw_i (a.tdiv b)) :: rest))) : W p l e R s m args below meth c H locs cells slots Q (F0 m pc ls (.int (xw_i b) :: .int (xw_i a) :: rest)) := lv_idiv hx hb hdg (fun q => hne ((xw_ieq ⟨h.2, ⟨by decide, by decide⟩⟩).mp q)) (by rw [xw_idiv_ h] at k; exact k)
theorem xw_irem (hx : p.tables.exec = Jvm.exec) (hb : c.code = cc) {a b : Int} (h : xw_r a ∧ xw_r b) (hne : ¬ b = 0) (hdg : decode cc pc = .ok (.irem, 1)) (k : W p l e R s m args below meth c H locs cells slots Q (F0 m (pc + 1) ls (.int (xw_i (a - a.tdiv b * b)) :: rest))) : W p l e R s m args below meth c H locs cells slots Q (F0 m pc ls (.int (xw_i b) :: .int (xw_i a) :: rest)) := lv_irem hx hb hdg (fun q => hne ((xw_ieq ⟨h.2, ⟨by decide, by decide⟩⟩).mp q)) (by rw [xw_isub_, xw_imul_, xw_idiv_ h] at k; exact k)
theorem xw_ladd (hx : p.tables.exec = Jvm.exec) (hb : c.code = cc) {a b : Int} (hdg : decode cc pc = .ok (.ladd, 1)) (k : W p l e R s m args below meth c H locs cells slots Q (F0 m (pc + 1) ls (.long (xw_j (a + b)) :: rest))) : W p l e R s m args below meth c H locs cells slots Q (F0 m pc ls (.long (xw_j b) :: .long (xw_j a) :: rest)) := lv_ladd hx hb hdg (by rw [xw_jadd_] at k; exact k)
theorem xw_lsub (hx : p.tables.exec = Jvm.exec) (hb : c.code = cc) {a b : Int} (hdg : decode cc pc = .ok (.lsub, 1)) (k : W p l e R s m args below meth c H locs cells slots Q (F0 m (pc + 1) ls (.long (xw_j (a - b)) :: rest))) : W p l e R s m args below meth c H locs cells slots Q (F0 m pc ls (.long (xw_j b) :: .long (xw_j a) :: rest)) := lv_lsub hx hb hdg (by rw [xw_jsub_] at k; exact k)
theorem xw_lmul (hx : p.tables.exec = Jvm.exec) (hb : c.code = cc) {a b : Int} (hdg : decode cc pc = .ok (.lmul, 1)) (k : W p l e R s m args below meth c H locs cells slots Q (F0 m (pc + 1) ls (.long (xw_j (a * b)) :: rest))) : W p l e R s m args below meth c H locs cells slots Q (F0 m pc ls (.long (xw_j b) :: .long (xw_j a) :: rest)) := lv_lmul hx hb hdg (by rw [xw_jmul_] at k; exact k)
theorem xw_lneg (hx : p.tables.exec = Jvm.exec) (hb : c.code = cc) {a : Int} (hdg : decode cc pc = .ok (.lneg, 1)) (k : W p l e R s m args below meth c H locs cells slots Q (F0 m (pc + 1) ls (.long (xw_j (-a)) :: rest))) : W p l e R s m args below meth c H locs cells slots Q (F0 m pc ls (.long (xw_j a) :: rest)) := lv_lneg hx hb hdg (by rw [xw_jneg_] at k; exact k)
theorem xw_ldiv (hx : p.tables.exec = Jvm.exec) (hb : c.code = cc) {a b : Int} (h : xw_l a ∧ xw_l b) (hne : ¬ b = 0) (hdg : decode cc pc = .ok (.ldiv, 1)) (k : W p l e R s m args below meth c H locs cells slots Q (F0 m (pc + 1) ls (.long (xw_j (a.tdiv b)) :: rest))) : W p l e R s m args below meth c H locs cells slots Q (F0 m pc ls (.long (xw_j b) :: .long (xw_j a) :: rest)) := lv_ldiv hx hb hdg (fun q => hne ((xw_jeq ⟨h.2, ⟨by decide, by decide⟩⟩).mp q)) (by rw [xw_jdiv_ h] at k; exact k)
theorem xw_lrem (hx : p.tables.exec = Jvm.exec) (hb : c.code = cc) {a b : Int} (h : xw_l a ∧ xw_l b) (hne : ¬ b = 0) (hdg : decode cc pc = .ok (.lrem, 1)) (k : W p l e R s m args below meth c H locs cells slots Q (F0 m (pc + 1) ls (.long (xw_j (a - a.tdiv b * b)) :: rest))) : W p l e R s m args below meth c H locs cells slots Q (F0 m pc ls (.long (xw_j b) :: .long (xw_j a) :: rest)) := lv_lrem hx hb hdg (fun q => hne ((xw_jeq ⟨h.2, ⟨by decide, by decide⟩⟩).mp q)) (by rw [xw_jsub_, xw_jmul_, xw_jdiv_ h] at k; exact k)
theorem xw_i2l (hx : p.tables.exec = Jvm.exec) (hb : c.code = cc) {a : Int} (h : xw_r a) (hdg : decode cc pc = .ok (.i2l, 1)) (k : W p l e R s m args below meth c H locs cells slots Q (F0 m (pc + 1) ls (.long (xw_j a) :: rest))) : W p l e R s m args below meth c H locs cells slots Q (F0 m pc ls (.int (xw_i a) :: rest)) := lv_i2l hx hb hdg (xw_i2l_ h) k
theorem xw_icmp_eq (hx : p.tables.exec = Jvm.exec) (hb : c.code = cc) {a b : Int} {off : Int} {tgt : Nat} (h : xw_r a ∧ xw_r b) (hdg : decode cc pc = .ok (.if_icmp .eq off, 3)) (ht : (pc : Int) + off = (tgt : Int)) (kt : a = b → W p l e R s m args below meth c H locs cells slots Q (F0 m tgt ls (rest))) (kf : ¬ a = b → W p l e R s m args below meth c H locs cells slots Q (F0 m (pc + 3) ls (rest))) : W p l e R s m args below meth c H locs cells slots Q (F0 m pc ls (.int (xw_i b) :: .int (xw_i a) :: rest)) := lv_icmp_eq hx hb hdg ht (fun q => kt ((xw_ieq h).mp q)) (fun q => kf (fun z => q ((xw_ieq h).mpr z)))
theorem xw_if_eq (hx : p.tables.exec = Jvm.exec) (hb : c.code = cc) {a : Int} {off : Int} {tgt : Nat} (h : xw_r a) (hdg : decode cc pc = .ok (.ifCond .eq off, 3)) (ht : (pc : Int) + off = (tgt : Int)) (kt : a = 0 → W p l e R s m args below meth c H locs cells slots Q (F0 m tgt ls (rest))) (kf : ¬ a = 0 → W p l e R s m args below meth c H locs cells slots Q (F0 m (pc + 3) ls (rest))) : W p l e R s m args below meth c H locs cells slots Q (F0 m pc ls (.int (xw_i a) :: rest)) := lv_if_eq hx hb hdg ht (fun q => kt ((xw_ieq ⟨h, xw_z0⟩).mp q)) (fun q => kf (fun z => q ((xw_ieq ⟨h, xw_z0⟩).mpr z)))
theorem xw_lif_eq (hx : p.tables.exec = Jvm.exec) (hb : c.code = cc) {a b : Int} {off : Int} {tgt : Nat} (h : xw_l a ∧ xw_l b) (hdg : decode cc pc = .ok (.ifCond .eq off, 3)) (ht : (pc : Int) + off = (tgt : Int)) (kt : a = b → W p l e R s m args below meth c H locs cells slots Q (F0 m tgt ls (rest))) (kf : ¬ a = b → W p l e R s m args below meth c H locs cells slots Q (F0 m (pc + 3) ls (rest))) : W p l e R s m args below meth c H locs cells slots Q (F0 m pc ls (.int (lg_cmp (xw_j a) (xw_j b)) :: rest)) := lv_if_eq hx hb hdg ht (fun q => kt ((xw_lg_eq h).mp q)) (fun q => kf (fun z => q ((xw_lg_eq h).mpr z)))
theorem xw_icmp_ne (hx : p.tables.exec = Jvm.exec) (hb : c.code = cc) {a b : Int} {off : Int} {tgt : Nat} (h : xw_r a ∧ xw_r b) (hdg : decode cc pc = .ok (.if_icmp .ne off, 3)) (ht : (pc : Int) + off = (tgt : Int)) (kt : ¬ a = b → W p l e R s m args below meth c H locs cells slots Q (F0 m tgt ls (rest))) (kf : a = b → W p l e R s m args below meth c H locs cells slots Q (F0 m (pc + 3) ls (rest))) : W p l e R s m args below meth c H locs cells slots Q (F0 m pc ls (.int (xw_i b) :: .int (xw_i a) :: rest)) := lv_icmp_ne hx hb hdg ht (fun q => kt (fun z => q ((xw_ieq h).mpr z))) (fun q => kf ((xw_ieq h).mp q))
theorem xw_if_ne (hx : p.tables.exec = Jvm.exec) (hb : c.code = cc) {a : Int} {off : Int} {tgt : Nat} (h : xw_r a) (hdg : decode cc pc = .ok (.ifCond .ne off, 3)) (ht : (pc : Int) + off = (tgt : Int)) (kt : ¬ a = 0 → W p l e R s m args below meth c H locs cells slots Q (F0 m tgt ls (rest))) (kf : a = 0 → W p l e R s m args below meth c H locs cells slots Q (F0 m (pc + 3) ls (rest))) : W p l e R s m args below meth c H locs cells slots Q (F0 m pc ls (.int (xw_i a) :: rest)) := lv_if_ne hx hb hdg ht (fun q => kt (fun z => q ((xw_ieq ⟨h, xw_z0⟩).mpr z))) (fun q => kf ((xw_ieq ⟨h, xw_z0⟩).mp q))
theorem xw_lif_ne (hx : p.tables.exec = Jvm.exec) (hb : c.code = cc) {a b : Int} {off : Int} {tgt : Nat} (h : xw_l a ∧ xw_l b) (hdg : decode cc pc = .ok (.ifCond .ne off, 3)) (ht : (pc : Int) + off = (tgt : Int)) (kt : ¬ a = b → W p l e R s m args below meth c H locs cells slots Q (F0 m tgt ls (rest))) (kf : a = b → W p l e R s m args below meth c H locs cells slots Q (F0 m (pc + 3) ls (rest))) : W p l e R s m args below meth c H locs cells slots Q (F0 m pc ls (.int (lg_cmp (xw_j a) (xw_j b)) :: rest)) := lv_if_ne hx hb hdg ht (fun q => kt (fun z => q ((xw_lg_eq h).mpr z))) (fun q => kf ((xw_lg_eq h).mp q))
theorem xw_icmp_lt (hx : p.tables.exec = Jvm.exec) (hb : c.code = cc) {a b : Int} {off : Int} {tgt : Nat} (h : xw_r a ∧ xw_r b) (hdg : decode cc pc = .ok (.if_icmp .lt off, 3)) (ht : (pc : Int) + off = (tgt : Int)) (kt : a < b → W p l e R s m args below meth c H locs cells slots Q (F0 m tgt ls (rest))) (kf : ¬ a < b → W p l e R s m args below meth c H locs cells slots Q (F0 m (pc + 3) ls (rest))) : W p l e R s m args below meth c H locs cells slots Q (F0 m pc ls (.int (xw_i b) :: .int (xw_i a) :: rest)) := lv_icmp_lt hx hb hdg ht (fun q => kt ((xw_ilt h).mp q)) (fun q => kf (fun z => q ((xw_ilt h).mpr z)))
theorem xw_if_lt (hx : p.tables.exec = Jvm.exec) (hb : c.code = cc) {a : Int} {off : Int} {tgt : Nat} (h : xw_r a) (hdg : decode cc pc = .ok (.ifCond .lt off, 3)) (ht : (pc : Int) + off = (tgt : Int)) (kt : a < 0 → W p l e R s m args below meth c H locs cells slots Q (F0 m tgt ls (rest))) (kf : ¬ a < 0 → W p l e R s m args below meth c H locs cells slots Q (F0 m (pc + 3) ls (rest))) : W p l e R s m args below meth c H locs cells slots Q (F0 m pc ls (.int (xw_i a) :: rest)) := lv_if_lt hx hb hdg ht (fun q => kt ((xw_ilt ⟨h, xw_z0⟩).mp q)) (fun q => kf (fun z => q ((xw_ilt ⟨h, xw_z0⟩).mpr z)))
theorem xw_lif_lt (hx : p.tables.exec = Jvm.exec) (hb : c.code = cc) {a b : Int} {off : Int} {tgt : Nat} (h : xw_l a ∧ xw_l b) (hdg : decode cc pc = .ok (.ifCond .lt off, 3)) (ht : (pc : Int) + off = (tgt : Int)) (kt : a < b → W p l e R s m args below meth c H locs cells slots Q (F0 m tgt ls (rest))) (kf : ¬ a < b → W p l e R s m args below meth c H locs cells slots Q (F0 m (pc + 3) ls (rest))) : W p l e R s m args below meth c H locs cells slots Q (F0 m pc ls (.int (lg_cmp (xw_j a) (xw_j b)) :: rest)) := lv_if_lt hx hb hdg ht (fun q => kt ((xw_lg_lt h).mp q)) (fun q => kf (fun z => q ((xw_lg_lt h).mpr z)))
theorem xw_icmp_ge (hx : p.tables.exec = Jvm.exec) (hb : c.code = cc) {a b : Int} {off : Int} {tgt : Nat} (h : xw_r a ∧ xw_r b) (hdg : decode cc pc = .ok (.if_icmp .ge off, 3)) (ht : (pc : Int) + off = (tgt : Int)) (kt : b ≤ a → W p l e R s m args below meth c H locs cells slots Q (F0 m tgt ls (rest))) (kf : ¬ b ≤ a → W p l e R s m args below meth c H locs cells slots Q (F0 m (pc + 3) ls (rest))) : W p l e R s m args below meth c H locs cells slots Q (F0 m pc ls (.int (xw_i b) :: .int (xw_i a) :: rest)) := lv_icmp_ge hx hb hdg ht (fun q => kt ((xw_ile ⟨h.2, h.1⟩).mp q)) (fun q => kf (fun z => q ((xw_ile ⟨h.2, h.1⟩).mpr z)))
theorem xw_if_ge (hx : p.tables.exec = Jvm.exec) (hb : c.code = cc) {a : Int} {off : Int} {tgt : Nat} (h : xw_r a) (hdg : decode cc pc = .ok (.ifCond .ge off, 3)) (ht : (pc : Int) + off = (tgt : Int)) (kt : 0 ≤ a → W p l e R s m args below meth c H locs cells slots Q (F0 m tgt ls (rest))) (kf : ¬ 0 ≤ a → W p l e R s m args below meth c H locs cells slots Q (F0 m (pc + 3) ls (rest))) : W p l e R s m args below meth c H locs cells slots Q (F0 m pc ls (.int (xw_i a) :: rest)) := lv_if_ge hx hb hdg ht (fun q => kt ((xw_ile ⟨xw_z0, h⟩).mp q)) (fun q => kf (fun z => q ((xw_ile ⟨xw_z0, h⟩).mpr z)))
theorem xw_lif_ge (hx : p.tables.exec = Jvm.exec) (hb : c.code = cc) {a b : Int} {off : Int} {tgt : Nat} (h : xw_l a ∧ xw_l b) (hdg : decode cc pc = .ok (.ifCond .ge off, 3)) (ht : (pc : Int) + off = (tgt : Int)) (kt : b ≤ a → W p l e R s m args below meth c H locs cells slots Q (F0 m tgt ls (rest))) (kf : ¬ b ≤ a → W p l e R s m args below meth c H locs cells slots Q (F0 m (pc + 3) ls (rest))) : W p l e R s m args below meth c H locs cells slots Q (F0 m pc ls (.int (lg_cmp (xw_j a) (xw_j b)) :: rest)) := lv_if_ge hx hb hdg ht (fun q => kt ((xw_lg_ge h).mp q)) (fun q => kf (fun z => q ((xw_lg_ge h).mpr z)))
theorem xw_icmp_gt (hx : p.tables.exec = Jvm.exec) (hb : c.code = cc) {a b : Int} {off : Int} {tgt : Nat} (h : xw_r a ∧ xw_r b) (hdg : decode cc pc = .ok (.if_icmp .gt off, 3)) (ht : (pc : Int) + off = (tgt : Int)) (kt : b < a → W p l e R s m args below meth c H locs cells slots Q (F0 m tgt ls (rest))) (kf : ¬ b < a → W p l e R s m args below meth c H locs cells slots Q (F0 m (pc + 3) ls (rest))) : W p l e R s m args below meth c H locs cells slots Q (F0 m pc ls (.int (xw_i b) :: .int (xw_i a) :: rest)) := lv_icmp_gt hx hb hdg ht (fun q => kt ((xw_ilt ⟨h.2, h.1⟩).mp q)) (fun q => kf (fun z => q ((xw_ilt ⟨h.2, h.1⟩).mpr z)))
theorem xw_if_gt (hx : p.tables.exec = Jvm.exec) (hb : c.code = cc) {a : Int} {off : Int} {tgt : Nat} (h : xw_r a) (hdg : decode cc pc = .ok (.ifCond .gt off, 3)) (ht : (pc : Int) + off = (tgt : Int)) (kt : 0 < a → W p l e R s m args below meth c H locs cells slots Q (F0 m tgt ls (rest))) (kf : ¬ 0 < a → W p l e R s m args below meth c H locs cells slots Q (F0 m (pc + 3) ls (rest))) : W p l e R s m args below meth c H locs cells slots Q (F0 m pc ls (.int (xw_i a) :: rest)) := lv_if_gt hx hb hdg ht (fun q => kt ((xw_ilt ⟨xw_z0, h⟩).mp q)) (fun q => kf (fun z => q ((xw_ilt ⟨xw_z0, h⟩).mpr z)))
theorem xw_lif_gt (hx : p.tables.exec = Jvm.exec) (hb : c.code = cc) {a b : Int} {off : Int} {tgt : Nat} (h : xw_l a ∧ xw_l b) (hdg : decode cc pc = .ok (.ifCond .gt off, 3)) (ht : (pc : Int) + off = (tgt : Int)) (kt : b < a → W p l e R s m args below meth c H locs cells slots Q (F0 m tgt ls (rest))) (kf : ¬ b < a → W p l e R s m args below meth c H locs cells slots Q (F0 m (pc + 3) ls (rest))) : W p l e R s m args below meth c H locs cells slots Q (F0 m pc ls (.int (lg_cmp (xw_j a) (xw_j b)) :: rest)) := lv_if_gt hx hb hdg ht (fun q => kt ((xw_lg_gt h).mp q)) (fun q => kf (fun z => q ((xw_lg_gt h).mpr z)))
theorem xw_icmp_le (hx : p.tables.exec = Jvm.exec) (hb : c.code = cc) {a b : Int} {off : Int} {tgt : Nat} (h : xw_r a ∧ xw_r b) (hdg : decode cc pc = .ok (.if_icmp .le off, 3)) (ht : (pc : Int) + off = (tgt : Int)) (kt : a ≤ b → W p l e R s m args below meth c H locs cells slots Q (F0 m tgt ls (rest))) (kf : ¬ a ≤ b → W p l e R s m args below meth c H locs cells slots Q (F0 m (pc + 3) ls (rest))) : W p l e R s m args below meth c H locs cells slots Q (F0 m pc ls (.int (xw_i b) :: .int (xw_i a) :: rest)) := lv_icmp_le hx hb hdg ht (fun q => kt ((xw_ile h).mp q)) (fun q => kf (fun z => q ((xw_ile h).mpr z)))
theorem xw_if_le (hx : p.tables.exec = Jvm.exec) (hb : c.code = cc) {a : Int} {off : Int} {tgt : Nat} (h : xw_r a) (hdg : decode cc pc = .ok (.ifCond .le off, 3)) (ht : (pc : Int) + off = (tgt : Int)) (kt : a ≤ 0 → W p l e R s m args below meth c H locs cells slots Q (F0 m tgt ls (rest))) (kf : ¬ a ≤ 0 → W p l e R s m args below meth c H locs cells slots Q (F0 m (pc + 3) ls (rest))) : W p l e R s m args below meth c H locs cells slots Q (F0 m pc ls (.int (xw_i a) :: rest)) := lv_if_le hx hb hdg ht (fun q => kt ((xw_ile ⟨h, xw_z0⟩).mp q)) (fun q => kf (fun z => q ((xw_ile ⟨h, xw_z0⟩).mpr z)))
theorem xw_lif_le (hx : p.tables.exec = Jvm.exec) (hb : c.code = cc) {a b : Int} {off : Int} {tgt : Nat} (h : xw_l a ∧ xw_l b) (hdg : decode cc pc = .ok (.ifCond .le off, 3)) (ht : (pc : Int) + off = (tgt : Int)) (kt : a ≤ b → W p l e R s m args below meth c H locs cells slots Q (F0 m tgt ls (rest))) (kf : ¬ a ≤ b → W p l e R s m args below meth c H locs cells slots Q (F0 m (pc + 3) ls (rest))) : W p l e R s m args below meth c H locs cells slots Q (F0 m pc ls (.int (lg_cmp (xw_j a) (xw_j b)) :: rest)) := lv_if_le hx hb hdg ht (fun q => kt ((xw_lg_le h).mp q)) (fun q => kf (fun z => q ((xw_lg_le h).mpr z)))
theorem xw_tabOut (hx : p.tables.exec = Jvm.exec) (hb : c.code = cc) {dflt lo hi : Int} {offs : Array Int} {len : Nat} {a : Int} {tgt : Nat} (hr : xw_r a) (hdg : decode cc pc = .ok (.tableswitch dflt lo hi offs, len)) (h : a < lo ∨ hi < a) (ht : (pc : Int) + dflt = (tgt : Int)) (k : W p l e R s m args below meth c H locs cells slots Q (F0 m tgt ls (rest))) : W p l e R s m args below meth c H locs cells slots Q (F0 m pc ls (.int (xw_i a) :: rest)) := lv_tableOut hx hb hdg (by rw [xw_iT hr]; exact h) ht k
theorem xw_tabIn (hx : p.tables.exec = Jvm.exec) (hb : c.code = cc) {dflt lo hi : Int} {offs : Array Int} {len : Nat} {a v off : Int} {tgt : Nat} (hr : xw_r a) (hv : a = v) (hdg : decode cc pc = .ok (.tableswitch dflt lo hi offs, len)) (h1 : ¬ v < lo) (h2 : ¬ hi < v) (ho : offs[(v - lo).toNat]? = some off) (ht : (pc : Int) + off = (tgt : Int)) (k : W p l e R s m args below meth c H locs cells slots Q (F0 m tgt ls (rest))) : W p l e R s m args below meth c H locs cells slots Q (F0 m pc ls (.int (xw_i a) :: rest)) := lv_tableIn hx hb hdg (by rw [xw_iT hr, hv]; exact h1) (by rw [xw_iT hr, hv]; exact h2) (by rw [xw_iT hr, hv]; exact ho) ht k
theorem xw_mabs (hx : p.tables.exec = Jvm.exec) (hb : c.code = cc) (hml : c.maxLocals = ls.size) {own : String} {index : Nat} (hown : s.vm.findClass own = some m.cls) (hlink : (Cond.methodLink own index Lib.Math.abs.name).before args s = true) (hstat : (Cond.static Lib.Math.abs.name).before args s = true) (hini : (Cond.initialized "java/lang/Math").before args s = true) (hcode : (Cond.code Lib.Math.abs.name Lib.Math.abs.code 1 (some .int)).before args s = true) (hframes : 1 ≤ R.frames) (hlocals : (rest.map fun v => v.category).sum + 13 ≤ R.locals) (hc : cells ≤ R.cells) (hs : slots ≤ R.slots) {a : Int} (h : xw_r a) (hdg : decode cc pc = .ok (.invokestatic index, 3)) (k : W p l e R s m args below meth c H locs cells slots Q (F0 m (pc + 3) ls (.int (xw_i (if 0 ≤ a then a else 0 - a)) :: rest))) : W p l e R s m args below meth c H locs cells slots Q (F0 m pc ls (.int (xw_i a) :: rest)) := va_mabs hx hb hml hown hlink hstat hini hcode hframes hlocals hc hs hdg (by
  have e : (if 0 ≤ xw_i a then xw_i a else 0 - xw_i a) = xw_i (if 0 ≤ a then a else 0 - a) := by
    rw [xw_i0]
    by_cases q : 0 ≤ a
    · rw [if_pos q, if_pos ((xw_ile ⟨xw_z0, h⟩).mpr q)]
    · rw [if_neg q, if_neg (fun z => q ((xw_ile ⟨xw_z0, h⟩).mp z)), xw_isub_]
  rw [e]; exact k)
theorem xw_mmin (hx : p.tables.exec = Jvm.exec) (hb : c.code = cc) (hml : c.maxLocals = ls.size) {own : String} {index : Nat} (hown : s.vm.findClass own = some m.cls) (hlink : (Cond.methodLink own index Lib.Math.min.name).before args s = true) (hstat : (Cond.static Lib.Math.min.name).before args s = true) (hini : (Cond.initialized "java/lang/Math").before args s = true) (hcode : (Cond.code Lib.Math.min.name Lib.Math.min.code 2 (some .int)).before args s = true) (hframes : 1 ≤ R.frames) (hlocals : (rest.map fun v => v.category).sum + 13 ≤ R.locals) (hc : cells ≤ R.cells) (hs : slots ≤ R.slots) {a b : Int} (h : xw_r a ∧ xw_r b) (hdg : decode cc pc = .ok (.invokestatic index, 3)) (k : W p l e R s m args below meth c H locs cells slots Q (F0 m (pc + 3) ls (.int (xw_i (if b < a then b else a)) :: rest))) : W p l e R s m args below meth c H locs cells slots Q (F0 m pc ls (.int (xw_i b) :: .int (xw_i a) :: rest)) := va_mmin hx hb hml hown hlink hstat hini hcode hframes hlocals hc hs hdg (by
  have e : (if xw_i b < xw_i a then xw_i b else xw_i a) = xw_i (if b < a then b else a) := by
    by_cases q : b < a
    · rw [if_pos q, if_pos ((xw_ilt ⟨h.2, h.1⟩).mpr q)]
    · rw [if_neg q, if_neg (fun z => q ((xw_ilt ⟨h.2, h.1⟩).mp z))]
  rw [e]; exact k)
theorem xw_mmax (hx : p.tables.exec = Jvm.exec) (hb : c.code = cc) (hml : c.maxLocals = ls.size) {own : String} {index : Nat} (hown : s.vm.findClass own = some m.cls) (hlink : (Cond.methodLink own index Lib.Math.max.name).before args s = true) (hstat : (Cond.static Lib.Math.max.name).before args s = true) (hini : (Cond.initialized "java/lang/Math").before args s = true) (hcode : (Cond.code Lib.Math.max.name Lib.Math.max.code 2 (some .int)).before args s = true) (hframes : 1 ≤ R.frames) (hlocals : (rest.map fun v => v.category).sum + 13 ≤ R.locals) (hc : cells ≤ R.cells) (hs : slots ≤ R.slots) {a b : Int} (h : xw_r a ∧ xw_r b) (hdg : decode cc pc = .ok (.invokestatic index, 3)) (k : W p l e R s m args below meth c H locs cells slots Q (F0 m (pc + 3) ls (.int (xw_i (if a < b then b else a)) :: rest))) : W p l e R s m args below meth c H locs cells slots Q (F0 m pc ls (.int (xw_i b) :: .int (xw_i a) :: rest)) := va_mmax hx hb hml hown hlink hstat hini hcode hframes hlocals hc hs hdg (by
  have e : (if xw_i a < xw_i b then xw_i b else xw_i a) = xw_i (if a < b then b else a) := by
    by_cases q : a < b
    · rw [if_pos q, if_pos ((xw_ilt h).mpr q)]
    · rw [if_neg q, if_neg (fun z => q ((xw_ilt h).mp z))]
  rw [e]; exact k)
theorem xw_iand (hx : p.tables.exec = Jvm.exec) (hb : c.code = cc) {a b : Int} (h : (a = 0 ∨ a = 1) ∧ (b = 0 ∨ b = 1)) (hdg : decode cc pc = .ok (.iand, 1)) (k : W p l e R s m args below meth c H locs cells slots Q (F0 m (pc + 1) ls (.int (xw_i (a * b)) :: rest))) : W p l e R s m args below meth c H locs cells slots Q (F0 m pc ls (.int (xw_i b) :: .int (xw_i a) :: rest)) := lv_iand hx hb hdg (by
  have e : xw_i a &&& xw_i b = xw_i (a * b) := by rcases h.1 with e | e <;> rcases h.2 with f | f <;> rw [e, f] <;> decide
  rw [e]; exact k)
theorem xw_and31 (hx : p.tables.exec = Jvm.exec) (hb : c.code = cc) {a : Int} (hdg : decode cc pc = .ok (.iand, 1)) (k : ∀ z : Int, 0 ≤ z ∧ z ≤ 31 → W p l e R s m args below meth c H locs cells slots Q (F0 m (pc + 1) ls (.int (xw_i z) :: rest))) : W p l e R s m args below meth c H locs cells slots Q (F0 m pc ls (.int (xw_i 31) :: .int (xw_i a) :: rest)) := lv_iand hx hb hdg (by
  obtain ⟨j, h1, h2⟩ := pk_andE (xw_i a) (m := xw_i 31) 5 (by decide)
  rw [h2]
  have e := k (j : Int) ⟨by omega, by omega⟩
  rw [show xw_i (j : Int) = nI j from Int32.ofInt_eq_ofNat] at e
  exact e)
theorem xw_ixor (hx : p.tables.exec = Jvm.exec) (hb : c.code = cc) {a b : Int} (h : xw_r a ∧ xw_r b) (hdg : decode cc pc = .ok (.ixor, 1)) (k : ∀ z : Int, xw_r z → (z < 0 ↔ ¬ (a < 0 ↔ b < 0)) → W p l e R s m args below meth c H locs cells slots Q (F0 m (pc + 1) ls (.int (xw_i z) :: rest))) : W p l e R s m args below meth c H locs cells slots Q (F0 m pc ls (.int (xw_i b) :: .int (xw_i a) :: rest)) := lv_ixor hx hb hdg (by
  have e := k (xw_i a ^^^ xw_i b).toInt (xw_iR _) (by
    have e1 := BitVec.msb_eq_toInt (x := (xw_i a ^^^ xw_i b).toBitVec)
    have e2 := BitVec.msb_eq_toInt (x := (xw_i a).toBitVec)
    have e3 := BitVec.msb_eq_toInt (x := (xw_i b).toBitVec)
    rw [Int32.toBitVec_xor, BitVec.msb_xor, e2, e3, ← Int32.toBitVec_xor] at e1
    simp only [Int32.toInt_toBitVec, xw_iT h.1, xw_iT h.2] at e1
    have e4 : decide ((xw_i a ^^^ xw_i b).toInt < 0) = true ↔ ¬ (a < 0 ↔ b < 0) := by
      rw [← e1]
      by_cases qa : a < 0 <;> by_cases qb : b < 0 <;> simp [qa, qb]
    simpa using e4)
  rw [xw_iI] at e
  exact e)
theorem xw_lxor (hx : p.tables.exec = Jvm.exec) (hb : c.code = cc) {a b : Int} (h : xw_l a ∧ xw_l b) (hdg : decode cc pc = .ok (.lxor, 1)) (k : ∀ z : Int, xw_l z → (z < 0 ↔ ¬ (a < 0 ↔ b < 0)) → W p l e R s m args below meth c H locs cells slots Q (F0 m (pc + 1) ls (.long (xw_j z) :: rest))) : W p l e R s m args below meth c H locs cells slots Q (F0 m pc ls (.long (xw_j b) :: .long (xw_j a) :: rest)) := lv_lxor hx hb hdg (by
  have e := k (xw_j a ^^^ xw_j b).toInt ⟨by have := (xw_j a ^^^ xw_j b).le_toInt; omega, by have := (xw_j a ^^^ xw_j b).toInt_lt; omega⟩ (by
    have e1 := BitVec.msb_eq_toInt (x := (xw_j a ^^^ xw_j b).toBitVec)
    have e2 := BitVec.msb_eq_toInt (x := (xw_j a).toBitVec)
    have e3 := BitVec.msb_eq_toInt (x := (xw_j b).toBitVec)
    rw [Int64.toBitVec_xor, BitVec.msb_xor, e2, e3, ← Int64.toBitVec_xor] at e1
    simp only [Int64.toInt_toBitVec, xw_jT h.1, xw_jT h.2] at e1
    have e4 : decide ((xw_j a ^^^ xw_j b).toInt < 0) = true ↔ ¬ (a < 0 ↔ b < 0) := by
      rw [← e1]
      by_cases qa : a < 0 <;> by_cases qb : b < 0 <;> simp [qa, qb]
    simpa using e4)
  rw [show xw_j (xw_j a ^^^ xw_j b).toInt = xw_j a ^^^ xw_j b from Int64.ofInt_toInt _] at e
  exact e)
variable {D : va_G} {cl : List vw_C} {A : Nat → Prop} {H0 : Heap} {ws : va_W} {tys : List (ClassId × FieldType)} {a : Nat}
theorem xw_iald (hx : p.tables.exec = Jvm.exec) (hb : c.code = cc) (hK : va_K D cl tys s) (hP : va_P D cl ws H) (q0 t0 : Nat) {cA : ClassId} {n : Nat} {f : Nat → Int} (ha : ws[q0]? = some (a, .inl (cA, n, .inl (xw_a f)))) (ht : tys[t0]? = some (cA, .int)) (hn : n ≤ 2147483647) {i : Int} (hin : 0 ≤ i ∧ i < (n : Int)) (hdg : decode cc pc = .ok (.iaload, 1)) (k : W p l e R s m args below meth c H locs cells slots Q (F0 m (pc + 1) ls (.int (xw_i (f i.toNat)) :: rest))) : W p l e R s m args below meth c H locs cells slots Q (F0 m pc ls (.int (xw_i i) :: .ref a :: rest)) := va_iald hx hb hK hP q0 t0 ha ht (xw_in hin hn) hdg (by rw [xw_iC (xw_inr hin hn)]; exact k)
theorem xw_iast (hx : p.tables.exec = Jvm.exec) (hb : c.code = cc) (hK : va_K D cl tys s) (hP : va_P D cl ws H) (hD : va_D A ws) (hS : va_S A H0 H locs) (q0 t0 : Nat) {cA : ClassId} {n : Nat} {f f2 : Nat → Int} (ha : ws[q0]? = some (a, .inl (cA, n, .inl (xw_a f)))) (ht : tys[t0]? = some (cA, .int)) (hn : n ≤ 2147483647) {i v : Int} (hin : 0 ≤ i ∧ i < (n : Int)) (hf : f2 = xw_u f i v) (hdg : decode cc pc = .ok (.iastore, 1)) (kk : ∀ (H1 : Heap) (locs1 : List Loc), va_P D cl (ws.set q0 (a, .inl (cA, n, .inl (xw_a f2)))) H1 → va_D A (ws.set q0 (a, .inl (cA, n, .inl (xw_a f2)))) → va_S A H0 H1 locs1 → W p l e R s m args below meth c H1 locs1 cells slots Q (F0 m (pc + 1) ls rest)) : W p l e R s m args below meth c H locs cells slots Q (F0 m pc ls (.int (xw_i v) :: .int (xw_i i) :: .ref a :: rest)) := va_iast hx hb hK hP hD hS q0 t0 ha ht (xw_in hin hn) hdg (fun H1 locs1 h1 h2 h3 => kk H1 locs1 (by rw [hf, ← xw_upd f (xw_inr hin hn)]; exact h1) (by rw [hf, ← xw_upd f (xw_inr hin hn)]; exact h2) h3)
theorem xw_lald (hx : p.tables.exec = Jvm.exec) (hb : c.code = cc) (hK : va_K D cl tys s) (hP : va_P D cl ws H) (q0 t0 : Nat) {cA : ClassId} {n : Nat} {f : Nat → Int} (ha : ws[q0]? = some (a, .inl (cA, n, .inr (.inl (xw_b f))))) (ht : tys[t0]? = some (cA, .long)) (hn : n ≤ 2147483647) {i : Int} (hin : 0 ≤ i ∧ i < (n : Int)) (hdg : decode cc pc = .ok (.laload, 1)) (k : W p l e R s m args below meth c H locs cells slots Q (F0 m (pc + 1) ls (.long (xw_j (f i.toNat)) :: rest))) : W p l e R s m args below meth c H locs cells slots Q (F0 m pc ls (.int (xw_i i) :: .ref a :: rest)) := va_lald hx hb hK hP q0 t0 ha ht (xw_in hin hn) hdg (by rw [xw_iC (xw_inr hin hn)]; exact k)
theorem xw_last (hx : p.tables.exec = Jvm.exec) (hb : c.code = cc) (hK : va_K D cl tys s) (hP : va_P D cl ws H) (hD : va_D A ws) (hS : va_S A H0 H locs) (q0 t0 : Nat) {cA : ClassId} {n : Nat} {f f2 : Nat → Int} (ha : ws[q0]? = some (a, .inl (cA, n, .inr (.inl (xw_b f))))) (ht : tys[t0]? = some (cA, .long)) (hn : n ≤ 2147483647) {i v : Int} (hin : 0 ≤ i ∧ i < (n : Int)) (hf : f2 = xw_u f i v) (hdg : decode cc pc = .ok (.lastore, 1)) (kk : ∀ (H1 : Heap) (locs1 : List Loc), va_P D cl (ws.set q0 (a, .inl (cA, n, .inr (.inl (xw_b f2))))) H1 → va_D A (ws.set q0 (a, .inl (cA, n, .inr (.inl (xw_b f2))))) → va_S A H0 H1 locs1 → W p l e R s m args below meth c H1 locs1 cells slots Q (F0 m (pc + 1) ls rest)) : W p l e R s m args below meth c H locs cells slots Q (F0 m pc ls (.long (xw_j v) :: .int (xw_i i) :: .ref a :: rest)) := va_last hx hb hK hP hD hS q0 t0 ha ht (xw_in hin hn) hdg (fun H1 locs1 h1 h2 h3 => kk H1 locs1 (by rw [hf, ← xw_updL f (xw_inr hin hn)]; exact h1) (by rw [hf, ← xw_updL f (xw_inr hin hn)]; exact h2) h3)
theorem xw_zald (hx : p.tables.exec = Jvm.exec) (hb : c.code = cc) (hK : va_K D cl tys s) (hP : va_P D cl ws H) (q0 t0 : Nat) {cA : ClassId} {n : Nat} {f : Nat → Int} (ha : ws[q0]? = some (a, .inl (cA, n, .inl (xw_a f)))) (ht : tys[t0]? = some (cA, .boolean)) (hn : n ≤ 2147483647) {i : Int} (hin : 0 ≤ i ∧ i < (n : Int)) (hdg : decode cc pc = .ok (.baload, 1)) (k : W p l e R s m args below meth c H locs cells slots Q (F0 m (pc + 1) ls (.int (xw_i (f i.toNat)) :: rest))) : W p l e R s m args below meth c H locs cells slots Q (F0 m pc ls (.int (xw_i i) :: .ref a :: rest)) := va_zald hx hb hK hP q0 t0 ha ht (xw_in hin hn) hdg (by rw [xw_iC (xw_inr hin hn)]; exact k)
theorem xw_newi (hx : p.tables.exec = Jvm.exec) (hb : c.code = cc) (harr : (Cond.arrayClass .int).before args s = true) (hK : va_K D cl tys s) (hP : va_P D cl ws H) (hD : va_D A ws) (hS : va_S A H0 H locs) (hA : ∀ q, H0.size ≤ q → A q) {z : Int} {N' : Nat} (hz : z = (N' : Int)) (hN : N' ≤ 60000000) (hcells : cells + 1 ≤ R.cells) (hslots : slots + N' ≤ R.slots) (hdg : decode cc pc = .ok (.newarray .int, 2))
    (kk : ∀ (q : Nat) (cA : ClassId) (H1 : Heap), va_K D cl (tys ++ [(cA, .int)]) s → va_P D cl (ws ++ [(q, .inl (cA, N', .inl (xw_a (fun _ => 0))))]) H1 → va_D A (ws ++ [(q, .inl (cA, N', .inl (xw_a (fun _ => 0))))]) → va_S A H0 H1 locs → W p l e R s m args below meth c H1 locs (cells + 1) (slots + N') Q (F0 m (pc + 2) ls (.ref q :: rest))) : W p l e R s m args below meth c H locs cells slots Q (F0 m pc ls (.int (xw_i z) :: rest)) := by
  subst hz
  have e0 : xw_a (fun _ => 0) = fun _ => 0 := rfl
  refine va_newa (atype := .int) (ty := .int) (N' := N') (a0 := (N', .inl (fun _ => 0))) hx hb harr rfl hK hP hD hS hA (fun _ => rfl) ?_ ?_ ?_ hcells hslots hdg ?_
  · intro h
    have := (xw_ilt ⟨⟨by omega, by omega⟩, xw_z0⟩).mp h
    omega
  · rw [xw_iC ⟨by omega, by omega⟩]; omega
  · show N' * _ ≤ _
    have e : componentBytes .int ≤ 8 := by decide
    have := Nat.mul_le_mul_left N' e
    omega
  · intro q cA H1 h1 h2 h3 h4
    exact kk q cA H1 h1 (by rw [e0]; exact h2) (by rw [e0]; exact h3) h4
theorem xw_newl (hx : p.tables.exec = Jvm.exec) (hb : c.code = cc) (harr : (Cond.arrayClass .long).before args s = true) (hK : va_K D cl tys s) (hP : va_P D cl ws H) (hD : va_D A ws) (hS : va_S A H0 H locs) (hA : ∀ q, H0.size ≤ q → A q) {z : Int} {N' : Nat} (hz : z = (N' : Int)) (hN : N' ≤ 60000000) (hcells : cells + 1 ≤ R.cells) (hslots : slots + N' ≤ R.slots) (hdg : decode cc pc = .ok (.newarray .long, 2))
    (kk : ∀ (q : Nat) (cA : ClassId) (H1 : Heap), va_K D cl (tys ++ [(cA, .long)]) s → va_P D cl (ws ++ [(q, .inl (cA, N', .inr (.inl (xw_b (fun _ => 0)))))]) H1 → va_D A (ws ++ [(q, .inl (cA, N', .inr (.inl (xw_b (fun _ => 0)))))]) → va_S A H0 H1 locs → W p l e R s m args below meth c H1 locs (cells + 1) (slots + N') Q (F0 m (pc + 2) ls (.ref q :: rest))) : W p l e R s m args below meth c H locs cells slots Q (F0 m pc ls (.int (xw_i z) :: rest)) := by
  subst hz
  have e0 : xw_b (fun _ => 0) = fun _ => 0 := rfl
  refine va_newa (atype := .long) (ty := .long) (N' := N') (a0 := (N', .inr (.inl (fun _ => 0)))) hx hb harr rfl hK hP hD hS hA (fun _ => rfl) ?_ ?_ ?_ hcells hslots hdg ?_
  · intro h
    have := (xw_ilt ⟨⟨by omega, by omega⟩, xw_z0⟩).mp h
    omega
  · rw [xw_iC ⟨by omega, by omega⟩]; omega
  · show N' * _ ≤ _
    have e : componentBytes .long ≤ 8 := by decide
    have := Nat.mul_le_mul_left N' e
    omega
  · intro q cA H1 h1 h2 h3 h4
    exact kk q cA H1 h1 (by rw [e0]; exact h2) (by rw [e0]; exact h3) h4
theorem xw_sld (hx : p.tables.exec = Jvm.exec) (hb : c.code = cc) {b L : Nat} {xs : Nat → Int32} {zs : Nat → Int} (hz : ∀ j, xs j = xw_i (zs j)) (hX : va_X b L xs s H0) (hbl : b < H0.size) (hbA : ¬ A b) (hS : va_S A H0 H locs) (hn : L ≤ 2147483647) {i : Int} (hin : 0 ≤ i ∧ i < (L : Int)) (hdg : decode cc pc = .ok (.iaload, 1)) (k : W p l e R s m args below meth c H locs cells slots Q (F0 m (pc + 1) ls (.int (xw_i (zs i.toNat)) :: rest))) : W p l e R s m args below meth c H locs cells slots Q (F0 m pc ls (.int (xw_i i) :: .ref b :: rest)) := va_sld hx hb hX hbl hbA hS (xw_in hin hn) hdg (by rw [xw_iC (xw_inr hin hn), hz]; exact k)
theorem xw_slen (hx : p.tables.exec = Jvm.exec) (hb : c.code = cc) {b L : Nat} {xs : Nat → Int32} (hX : va_X b L xs s H0) (hbl : b < H0.size) (hbA : ¬ A b) (hS : va_S A H0 H locs) (hdg : decode cc pc = .ok (.arraylength, 1)) (k : W p l e R s m args below meth c H locs cells slots Q (F0 m (pc + 1) ls (.int (xw_i (L : Int)) :: rest))) : W p l e R s m args below meth c H locs cells slots Q (F0 m pc ls (.ref b :: rest)) := va_slen hx hb hX hbl hbA hS hdg (by rw [← Int32.ofInt_eq_ofNat]; exact k)
end NX
