/-! BASE: one row for a method's start, one for each kind of end, one for each kind of call; the worlds' shape is a function of what the method leaves behind. -/
/-- an answer is the image of a whole number -/
def xw_pi {S : Type} (post : Int → S → Prop) : Int32 → S → Prop := fun r u => ∃ v : Int, r = xw_i v ∧ post v u
def xw_pl {S : Type} (post : Int → S → Prop) : Int64 → S → Prop := fun r u => ∃ v : Int, r = xw_j v ∧ post v u
/-- the start of a contract: the heap's size, the cells, the tables, the cells apart -/
def xw_Pre (D : va_G) (cl : List vw_C) (ws : va_W) (tys : List (ClassId × FieldType)) (sz : Nat) : State → Prop := fun U => U.heap.size = sz ∧ va_P D cl ws U.heap ∧ va_K D cl tys U ∧ va_D (fun _ => True) ws
/-- the world behind a contract -/
def xw_B {S : Type} (D : va_G) (cl : List vw_C) (tf : S → List (ClassId × FieldType)) (A : Nat → Prop) (g : S → va_W) : S → State → Prop := fun u t => va_P D cl (g u) t.heap ∧ va_K D cl (tf u) t ∧ va_D A (g u)
theorem xw_blind {D : va_G} {cl : List vw_C} {ws : va_W} {tys : List (ClassId × FieldType)} {sz : Nat} {av : List Value} : FrameBlind (va_Pc av (xw_Pre D cl ws tys sz)) := fun a U g mk q => by
  obtain ⟨q0, q1, qP, qK, qD⟩ := q
  exact ⟨q0, q1, qP, va_K.moved (u := U) (U := U.calling g mk a) (Vm.Alike.refl U.vm) qK, qD⟩
section BX
variable {p : Program} {l : Launch} {e : Env} {R : Room} {s : State} {m : MethodId} {args : Array Value} {below : List Frame} {meth : Method} {c : Code} {H : Heap} {locs : List Loc} {cells slots : Nat} {Q : State → Prop}
variable {D : va_G} {cl : List vw_C} {A : Nat → Prop} {H0 : Heap}
/-- the callee's start out of the caller's world, for a call with a receiver -/
theorem xw_preV {ws wc : va_W} {tys tc : List (ClassId × FieldType)} {ci : Nat} {q : vw_C} {b : Nat} {fs : List Value} {As : List Value} (hK : va_K D cl tys s) (hP : va_P D cl ws H) (hD : va_D A ws) (is : List Nat) (hf : is.filterMap (fun i => ws[i]?) = wc) (hs : is.map (fun i => ws[i]?) = wc.map some) (hn : va_nd is = true) (it : List Nat) (ht : it.filterMap (fun i => tys[i]?) = tc) (hc : cl[ci]? = some q) (he : wc[0]? = some (b, .inr (ci, fs))) : PreV s H q.1 b (va_Pc (.ref b :: As) (xw_Pre D cl wc tc H.size)) As :=
  have hPc := hP.sub is hf
  have hDc := hD.sub is hn hs
  have hKc := hK.sub it ht
  ⟨xw_blind, va_recv hKc hPc hc he, fun U hU hW => ⟨rfl, by rw [hU], by rw [hU]; exact hPc, va_K.moved hW.alike hKc, hDc.weaken (fun _ _ _ _ => trivial)⟩⟩
theorem xw_preS {ws wc : va_W} {tys tc : List (ClassId × FieldType)} {As : List Value} (hK : va_K D cl tys s) (hP : va_P D cl ws H) (hD : va_D A ws) (is : List Nat) (hf : is.filterMap (fun i => ws[i]?) = wc) (hs : is.map (fun i => ws[i]?) = wc.map some) (hn : va_nd is = true) (it : List Nat) (ht : it.filterMap (fun i => tys[i]?) = tc) : PreS s H (va_Pc As (xw_Pre D cl wc tc H.size)) As :=
  have hPc := hP.sub is hf
  have hDc := hD.sub is hn hs
  have hKc := hK.sub it ht
  ⟨xw_blind, fun U hU hW => ⟨rfl, by rw [hU], by rw [hU]; exact hPc, va_K.moved hW.alike hKc, hDc.weaken (fun _ _ _ _ => trivial)⟩⟩
variable {pc : Nat} {ls : Array Slot} {rest st0 : List Value} {a : Array Value} {mc ms : Nat}
/-- behind a call: what came back stands behind the rest, which is unchanged -/
theorem xw_backi {S : Type} {post : Int → S → Prop} {g : S → va_W} {tf : S → List (ClassId × FieldType)} {ws wc wr : va_W} {tys : List (ClassId × FieldType)} (hr : va_Run p l e R s m args below meth c H locs cells slots mc ms (F0 m pc ls st0) rest (va_Qi (xw_pi post) (xw_B D cl tf (va_A wc H.size) g) (va_A wc H.size) a) (va_A wc H.size)) (hK : va_K D cl tys s) (hP : va_P D cl ws H) (hD : va_D A ws) (hS : va_S A H0 H locs) (hA : ∀ q, H0.size ≤ q → A q) (isC isR : List Nat) (hC : isC.map (fun i => ws[i]?) = wc.map some) (hR : isR.map (fun i => ws[i]?) = wr.map some) (hn : va_nd isR = true) (hdis : ∀ i ∈ isR, i ∉ isC)
    (kk : ∀ (r : Int) (u : S) (H1 : Heap) (locs1 : List Loc), post r u → va_P D cl (wr ++ g u) H1 → va_D A (wr ++ g u) → va_K D cl (tys ++ tf u) s → va_S A H0 H1 locs1 → W p l e R s m args below meth c H1 locs1 (cells + mc) (slots + ms) Q (F0 m (pc + 3) ls (.int (xw_i r) :: rest))) : W p l e R s m args below meth c H locs cells slots Q (F0 m pc ls st0) := by
  have hFc := va_free (wc := wc) hD hS hA isC hC
  refine va_calli hr hS (fun q _ h => hFc q h) hFc (fun r u t H1 locs1 ht hvm hw hB hz1 hk1 hS1 => ?_)
  obtain ⟨hP1, hK1, hD1⟩ := hB
  rw [ht] at hP1
  obtain ⟨hP2, hD2⟩ := va_join (wr := wr) (w1 := g u) hP hD isC isR hC hR hn hdis hk1 hFc hP1 hD1
  obtain ⟨v, rfl, hw⟩ := hw
  exact kk v u H1 locs1 hw hP2 hD2 (hK.app (va_K.moved hvm.symm hK1)) hS1
theorem xw_backl {S : Type} {post : Int → S → Prop} {g : S → va_W} {tf : S → List (ClassId × FieldType)} {ws wc wr : va_W} {tys : List (ClassId × FieldType)} (hr : va_Run p l e R s m args below meth c H locs cells slots mc ms (F0 m pc ls st0) rest (va_Ql (xw_pl post) (xw_B D cl tf (va_A wc H.size) g) (va_A wc H.size) a) (va_A wc H.size)) (hK : va_K D cl tys s) (hP : va_P D cl ws H) (hD : va_D A ws) (hS : va_S A H0 H locs) (hA : ∀ q, H0.size ≤ q → A q) (isC isR : List Nat) (hC : isC.map (fun i => ws[i]?) = wc.map some) (hR : isR.map (fun i => ws[i]?) = wr.map some) (hn : va_nd isR = true) (hdis : ∀ i ∈ isR, i ∉ isC)
    (kk : ∀ (r : Int) (u : S) (H1 : Heap) (locs1 : List Loc), post r u → va_P D cl (wr ++ g u) H1 → va_D A (wr ++ g u) → va_K D cl (tys ++ tf u) s → va_S A H0 H1 locs1 → W p l e R s m args below meth c H1 locs1 (cells + mc) (slots + ms) Q (F0 m (pc + 3) ls (.long (xw_j r) :: rest))) : W p l e R s m args below meth c H locs cells slots Q (F0 m pc ls st0) := by
  have hFc := va_free (wc := wc) hD hS hA isC hC
  refine va_calll hr hS (fun q _ h => hFc q h) hFc (fun r u t H1 locs1 ht hvm hw hB hz1 hk1 hS1 => ?_)
  obtain ⟨hP1, hK1, hD1⟩ := hB
  rw [ht] at hP1
  obtain ⟨hP2, hD2⟩ := va_join (wr := wr) (w1 := g u) hP hD isC isR hC hR hn hdis hk1 hFc hP1 hD1
  obtain ⟨v, rfl, hw⟩ := hw
  exact kk v u H1 locs1 hw hP2 hD2 (hK.app (va_K.moved hvm.symm hK1)) hS1
theorem xw_backv {S : Type} {post : S → Prop} {g : S → va_W} {tf : S → List (ClassId × FieldType)} {ws wc wr : va_W} {tys : List (ClassId × FieldType)} (hr : va_Run p l e R s m args below meth c H locs cells slots mc ms (F0 m pc ls st0) rest (va_Qv post (xw_B D cl tf (va_A wc H.size) g) (va_A wc H.size) a) (va_A wc H.size)) (hK : va_K D cl tys s) (hP : va_P D cl ws H) (hD : va_D A ws) (hS : va_S A H0 H locs) (hA : ∀ q, H0.size ≤ q → A q) (isC isR : List Nat) (hC : isC.map (fun i => ws[i]?) = wc.map some) (hR : isR.map (fun i => ws[i]?) = wr.map some) (hn : va_nd isR = true) (hdis : ∀ i ∈ isR, i ∉ isC)
    (kk : ∀ (u : S) (H1 : Heap) (locs1 : List Loc), post u → va_P D cl (wr ++ g u) H1 → va_D A (wr ++ g u) → va_K D cl (tys ++ tf u) s → va_S A H0 H1 locs1 → W p l e R s m args below meth c H1 locs1 (cells + mc) (slots + ms) Q (F0 m (pc + 3) ls rest)) : W p l e R s m args below meth c H locs cells slots Q (F0 m pc ls st0) := by
  have hFc := va_free (wc := wc) hD hS hA isC hC
  refine va_callv hr hS (fun q _ h => hFc q h) hFc (fun u t H1 locs1 ht hvm hw hB hz1 hk1 hS1 => ?_)
  obtain ⟨hP1, hK1, hD1⟩ := hB
  rw [ht] at hP1
  obtain ⟨hP2, hD2⟩ := va_join (wr := wr) (w1 := g u) hP hD isC isR hC hR hn hdis hk1 hFc hP1 hD1
  exact kk u H1 locs1 hw hP2 hD2 (hK.app (va_K.moved hvm.symm hK1)) hS1
end BX
/-- a contract out of a walk, for a method of any class that no native row takes the place of -/
theorem xw_metW {l : Launch} {y : MethodName} {ws ws' : List Cond} {rm : Room} {Pc : Array Value → State → Prop} {Qc : Array Value → State → Outcome → State → Prop} {mc ms : Nat} {free : Addr → Prop} {cc : ByteArray} {maxL : Nat} {ret : Option FieldType}
    (hy : plainFor y = true) (hw : ws = Cond.code y cc maxL ret :: ws')
    (body : ∀ p e s m args below meth c s₁, BodyLoose p l y (headSpec ws rm) cc maxL ret e s m args below meth c s₁ → c.maxLocals = maxL → Pc args s →
      W p l e (headSpec ws rm).room s m args below meth c s.heap [] 0 0 (MQ below Qc args s mc ms free) (entryFrame m args maxL)) : Met l y ws rm Pc Qc mc ms free := by
  refine MetFree.of_bodySF (code := cc) (maxLocals := maxL) (ret := ret) hy ?_ ?_
  · intro args s m h hn
    obtain ⟨meth, c, h1, h2, h3, h4, h5, h6, -, -⟩ := Cond.code_spec hn (atoms_spec (ws := ws) h _ (by rw [hw]; exact List.mem_cons_self))
    exact ⟨meth, c, h1, h2, h3, h4, h5, h6⟩
  · intro p e s m args below meth c s₁ B hml hP _
    have hh0 : s₁.heap = s.heap := by rw [B.state]; rfl
    obtain ⟨t, a1, o, b1, b2, b3⟩ := body p e s m args below meth c s₁ B hml hP s₁ hh0 (Stand.of_body B)
    exact ⟨t, o, a1, b1, b2, ⟨b3.1, b3.2⟩⟩
/-- a contract out of a walk whose end is a variable: int -/
theorem xw_ofI {S : Type} {l : Launch} {y : MethodName} {ws ws' : List Cond} {rm : Room} {cc : ByteArray} {maxL : Nat} {D : va_G} {cl : List vw_C} {wc : va_W} {tys : List (ClassId × FieldType)} {sz : Nat} {av : List Value} {post : Int → S → Prop} {g : S → va_W} {tf : S → List (ClassId × FieldType)} {mc ms : Nat} (hy : plainFor y = true) (hw : ws = Cond.code y cc maxL (some .int) :: ws') (hlen : (lg_sl av).length ≤ maxL)
    (body : ∀ (p : Program) (e : Env) (s : State) (m : MethodId) (args : Array Value) (below : List Frame) (meth : Method) (c : Code), p.tables.exec = Jvm.exec → c.code = cc → c.maxLocals = maxL → s.vm.findClass y.cls = some m.cls → (∀ w ∈ ws, w.before args s = true) → ∀ (A : Nat → Prop), (∀ q, s.heap.size ≤ q → A q) → va_P D cl wc s.heap → va_D A wc → va_K D cl tys s → ∀ (Q : State → Prop), (∀ (H : Heap) (locs : List Loc) (ls : Array Slot) (pc : Nat) (v : Int) (u : S), decode cc pc = .ok (.ireturn, 1) → post v u → va_P D cl (g u) H → va_D A (g u) → va_K D cl (tf u) s → va_S A s.heap H locs → W p l e rm s m args below meth c H locs mc ms Q (F0 m pc ls [.int (xw_i v)])) → ∀ ls : Array Slot, lv_has ls maxL (lv_args 0 av) → va_S A s.heap s.heap [] → W p l e rm s m args below meth c s.heap [] 0 0 Q (F0 m 0 ls [])) :
    Met l y ws rm (va_Pc av (xw_Pre D cl wc tys sz)) (va_Qi (xw_pi post) (xw_B D cl tf (va_A wc sz) g) (va_A wc sz)) mc ms (va_A wc sz) := by
  refine xw_metW (cc := cc) (maxL := maxL) (ret := some .int) hy hw ?_
  intro p e s m args below meth c s₁ B hml hv
  obtain ⟨rfl, hsz, hP, hK, hD0⟩ := hv
  subst hsz
  rw [lg_entry_eq]
  exact body p e s m _ below meth c B.exec B.bytes hml (findClass_of_methodNamed B.named) (atoms_spec (ws := ws) B.pre) (va_A wc s.heap.size) (fun q h => Or.inr h) hP (hD0.self (sz := s.heap.size)) hK _ (fun H locs ls pc v u hdg h hP hD hK hS => W.iret (v := xw_i v) B.exec B.bytes B.returns (fun t ht hW => ⟨⟨xw_i v, u, rfl, ⟨v, rfl, h⟩, by rw [ht]; exact hP, va_K.moved hW.alike hK, hD⟩, hS.F ht⟩) hS.2.2 hdg B.notSynchronized) _ (lv_entry av hlen) va_S.rf
/-- boolean -/
theorem xw_ofZ {S : Type} {l : Launch} {y : MethodName} {ws ws' : List Cond} {rm : Room} {cc : ByteArray} {maxL : Nat} {D : va_G} {cl : List vw_C} {wc : va_W} {tys : List (ClassId × FieldType)} {sz : Nat} {av : List Value} {post : Int → S → Prop} {g : S → va_W} {tf : S → List (ClassId × FieldType)} {mc ms : Nat} (hy : plainFor y = true) (hw : ws = Cond.code y cc maxL (some .boolean) :: ws') (hlen : (lg_sl av).length ≤ maxL)
    (body : ∀ (p : Program) (e : Env) (s : State) (m : MethodId) (args : Array Value) (below : List Frame) (meth : Method) (c : Code), p.tables.exec = Jvm.exec → c.code = cc → c.maxLocals = maxL → s.vm.findClass y.cls = some m.cls → (∀ w ∈ ws, w.before args s = true) → ∀ (A : Nat → Prop), (∀ q, s.heap.size ≤ q → A q) → va_P D cl wc s.heap → va_D A wc → va_K D cl tys s → ∀ (Q : State → Prop), (∀ (H : Heap) (locs : List Loc) (ls : Array Slot) (pc : Nat) (v : Int) (u : S), decode cc pc = .ok (.ireturn, 1) → v = 0 ∨ v = 1 → post v u → va_P D cl (g u) H → va_D A (g u) → va_K D cl (tf u) s → va_S A s.heap H locs → W p l e rm s m args below meth c H locs mc ms Q (F0 m pc ls [.int (xw_i v)])) → ∀ ls : Array Slot, lv_has ls maxL (lv_args 0 av) → va_S A s.heap s.heap [] → W p l e rm s m args below meth c s.heap [] 0 0 Q (F0 m 0 ls [])) :
    Met l y ws rm (va_Pc av (xw_Pre D cl wc tys sz)) (va_Qi (xw_pi post) (xw_B D cl tf (va_A wc sz) g) (va_A wc sz)) mc ms (va_A wc sz) := by
  refine xw_metW (cc := cc) (maxL := maxL) (ret := some .boolean) hy hw ?_
  intro p e s m args below meth c s₁ B hml hv
  obtain ⟨rfl, hsz, hP, hK, hD0⟩ := hv
  subst hsz
  rw [lg_entry_eq]
  exact body p e s m _ below meth c B.exec B.bytes hml (findClass_of_methodNamed B.named) (atoms_spec (ws := ws) B.pre) (va_A wc s.heap.size) (fun q h => Or.inr h) hP (hD0.self (sz := s.heap.size)) hK _ (fun H locs ls pc v u hdg hv h hP hD hK hS => W.zret (v := xw_i v) B.exec B.bytes B.returns (by rcases hv with rfl | rfl <;> rfl) (fun t ht hW => ⟨⟨xw_i v, u, rfl, ⟨v, rfl, h⟩, by rw [ht]; exact hP, va_K.moved hW.alike hK, hD⟩, hS.F ht⟩) hS.2.2 hdg B.notSynchronized) _ (lv_entry av hlen) va_S.rf
/-- long -/
theorem xw_ofL {S : Type} {l : Launch} {y : MethodName} {ws ws' : List Cond} {rm : Room} {cc : ByteArray} {maxL : Nat} {D : va_G} {cl : List vw_C} {wc : va_W} {tys : List (ClassId × FieldType)} {sz : Nat} {av : List Value} {post : Int → S → Prop} {g : S → va_W} {tf : S → List (ClassId × FieldType)} {mc ms : Nat} (hy : plainFor y = true) (hw : ws = Cond.code y cc maxL (some .long) :: ws') (hlen : (lg_sl av).length ≤ maxL)
    (body : ∀ (p : Program) (e : Env) (s : State) (m : MethodId) (args : Array Value) (below : List Frame) (meth : Method) (c : Code), p.tables.exec = Jvm.exec → c.code = cc → c.maxLocals = maxL → s.vm.findClass y.cls = some m.cls → (∀ w ∈ ws, w.before args s = true) → ∀ (A : Nat → Prop), (∀ q, s.heap.size ≤ q → A q) → va_P D cl wc s.heap → va_D A wc → va_K D cl tys s → ∀ (Q : State → Prop), (∀ (H : Heap) (locs : List Loc) (ls : Array Slot) (pc : Nat) (v : Int) (u : S), decode cc pc = .ok (.lreturn, 1) → post v u → va_P D cl (g u) H → va_D A (g u) → va_K D cl (tf u) s → va_S A s.heap H locs → W p l e rm s m args below meth c H locs mc ms Q (F0 m pc ls [.long (xw_j v)])) → ∀ ls : Array Slot, lv_has ls maxL (lv_args 0 av) → va_S A s.heap s.heap [] → W p l e rm s m args below meth c s.heap [] 0 0 Q (F0 m 0 ls [])) :
    Met l y ws rm (va_Pc av (xw_Pre D cl wc tys sz)) (va_Ql (xw_pl post) (xw_B D cl tf (va_A wc sz) g) (va_A wc sz)) mc ms (va_A wc sz) := by
  refine xw_metW (cc := cc) (maxL := maxL) (ret := some .long) hy hw ?_
  intro p e s m args below meth c s₁ B hml hv
  obtain ⟨rfl, hsz, hP, hK, hD0⟩ := hv
  subst hsz
  rw [lg_entry_eq]
  exact body p e s m _ below meth c B.exec B.bytes hml (findClass_of_methodNamed B.named) (atoms_spec (ws := ws) B.pre) (va_A wc s.heap.size) (fun q h => Or.inr h) hP (hD0.self (sz := s.heap.size)) hK _ (fun H locs ls pc v u hdg h hP hD hK hS => W.lret (v := xw_j v) B.exec B.bytes B.returns (fun t ht hW => ⟨⟨xw_j v, u, rfl, ⟨v, rfl, h⟩, by rw [ht]; exact hP, va_K.moved hW.alike hK, hD⟩, hS.F ht⟩) hS.2.2 hdg B.notSynchronized) _ (lv_entry av hlen) va_S.rf
/-- void; the method's own name comes with it (a constructor writes final fields) -/
theorem xw_ofV {S : Type} {l : Launch} {y : MethodName} {ws ws' : List Cond} {rm : Room} {cc : ByteArray} {maxL : Nat} {D : va_G} {cl : List vw_C} {wc : va_W} {tys : List (ClassId × FieldType)} {sz : Nat} {av : List Value} {post : S → Prop} {g : S → va_W} {tf : S → List (ClassId × FieldType)} {mc ms : Nat} (hy : plainFor y = true) (hw : ws = Cond.code y cc maxL none :: ws') (hlen : (lg_sl av).length ≤ maxL)
    (body : ∀ (p : Program) (e : Env) (s : State) (m : MethodId) (args : Array Value) (below : List Frame) (meth : Method) (c : Code), p.tables.exec = Jvm.exec → c.code = cc → c.maxLocals = maxL → s.vm.findClass y.cls = some m.cls → (∀ w ∈ ws, w.before args s = true) → meth.name = y.name → ∀ (A : Nat → Prop), (∀ q, s.heap.size ≤ q → A q) → va_P D cl wc s.heap → va_D A wc → va_K D cl tys s → ∀ (Q : State → Prop), (∀ (H : Heap) (locs : List Loc) (ls : Array Slot) (pc : Nat) (u : S), decode cc pc = .ok (.return_, 1) → post u → va_P D cl (g u) H → va_D A (g u) → va_K D cl (tf u) s → va_S A s.heap H locs → W p l e rm s m args below meth c H locs mc ms Q (F0 m pc ls [])) → ∀ ls : Array Slot, lv_has ls maxL (lv_args 0 av) → va_S A s.heap s.heap [] → W p l e rm s m args below meth c s.heap [] 0 0 Q (F0 m 0 ls [])) :
    Met l y ws rm (va_Pc av (xw_Pre D cl wc tys sz)) (va_Qv post (xw_B D cl tf (va_A wc sz) g) (va_A wc sz)) mc ms (va_A wc sz) := by
  refine xw_metW (cc := cc) (maxL := maxL) (ret := none) hy hw ?_
  intro p e s m args below meth c s₁ B hml hv
  obtain ⟨rfl, hsz, hP, hK, hD0⟩ := hv
  subst hsz
  rw [lg_entry_eq]
  exact body p e s m _ below meth c B.exec B.bytes hml (findClass_of_methodNamed B.named) (atoms_spec (ws := ws) B.pre) (name_of_methodNamed B.named B.method).1 (va_A wc s.heap.size) (fun q h => Or.inr h) hP (hD0.self (sz := s.heap.size)) hK _ (fun H locs ls pc u hdg h hP hD hK hS => W.vret B.exec B.bytes B.returns (fun t ht hW => ⟨⟨u, rfl, h, by rw [ht]; exact hP, va_K.moved hW.alike hK, hD⟩, hS.F ht⟩) hS.2.2 hdg B.notSynchronized) _ (lv_entry av hlen) va_S.rf
