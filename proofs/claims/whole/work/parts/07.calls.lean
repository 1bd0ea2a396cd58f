def mh_b2 {α β : Type} (o : Option (α × mh_H)) (f : α → mh_H → Option β) : Option β := match o with
  | some x => f x.1 x.2
  | none => none
theorem mh_ob2 {α β : Type} {o : Option (α × mh_H)} {f : α → mh_H → Option β} {r : β} (h : mh_b2 o f = some r) : ∃ v g, o = some (v, g) ∧ f v g = some r := by
  cases o with
  | none => cases h
  | some x => exact ⟨x.1, x.2, rfl, h⟩
/-- a loop's turns: more than any call needs -/
def mh_fu : Nat := 8589934592
/-! contracts: from the heap h to the heap h', with the answer r -/
def mh_Pw (D : va_G) (ks : Nat → ClassId) (L : List Nat) (h : mh_H) (sz : Nat) (U : State) : Prop := U.heap.size = sz ∧ va_P D vwCl (va_pl L (mh_hw ks h)) U.heap ∧ va_K D vwCl (mh_ty ks) U ∧ va_D (fun _ => True) (va_pl L (mh_hw ks h)) ∧ (∀ a e, h a = some e → a ∈ L) ∧ mh_Z U
def mh_Bw (D : va_G) (ks : Nat → ClassId) (L : List Nat) (A : Nat → Prop) (h : mh_H) (t : State) : Prop := va_P D vwCl (va_pl L (mh_hw ks h)) t.heap ∧ va_K D vwCl (mh_ty ks) t ∧ va_D A (va_pl L (mh_hw ks h)) ∧ ∀ a e, h a = some e → a ∈ L
def mh_A (L : List Nat) (sz : Nat) : Nat → Prop := fun q => q ∈ L ∨ sz ≤ q
def mh_Qi (D : va_G) (ks : Nat → ClassId) (L : List Nat) (sz : Nat) (r : Int32) (h' : mh_H) : Array Value → State → Outcome → State → Prop := va_Qi (fun r2 (_ : Unit) => r2 = r) (fun _ t => mh_Bw D ks L (mh_A L sz) h' t) (mh_A L sz)
def mh_Ql (D : va_G) (ks : Nat → ClassId) (L : List Nat) (sz : Nat) (r : Int64) (h' : mh_H) : Array Value → State → Outcome → State → Prop := va_Ql (fun r2 (_ : Unit) => r2 = r) (fun _ t => mh_Bw D ks L (mh_A L sz) h' t) (mh_A L sz)
def mh_Qv (D : va_G) (ks : Nat → ClassId) (L : List Nat) (sz : Nat) (h' : mh_H) : Array Value → State → Outcome → State → Prop := va_Qv (fun (_ : Unit) => True) (fun _ t => mh_Bw D ks L (mh_A L sz) h' t) (mh_A L sz)
def mh_Qr (D : va_G) (ks : Nat → ClassId) (L : List Nat) (sz : Nat) (r : Nat) (h' : mh_H) : Array Value → State → Outcome → State → Prop := va_Qr (fun (_ : Unit) => True) (fun _ a t => a = r ∧ mh_Bw D ks L (mh_A L sz) h' t) (mh_A L sz)
def mh_MI (l : Launch) (y : MethodName) (ws : List Cond) (rm : Room) (av : List Value) (L : List Nat) (h : mh_H) (r : Int32) (h' : mh_H) : Prop := ∀ D ks sz, Met l y ws rm (va_Pc av (mh_Pw D ks L h sz)) (mh_Qi D ks L sz r h') 0 0 (mh_A L sz)
def mh_MJ (l : Launch) (y : MethodName) (ws : List Cond) (rm : Room) (av : List Value) (L : List Nat) (h : mh_H) (r : Int64) (h' : mh_H) : Prop := ∀ D ks sz, Met l y ws rm (va_Pc av (mh_Pw D ks L h sz)) (mh_Ql D ks L sz r h') 0 0 (mh_A L sz)
def mh_MV (l : Launch) (y : MethodName) (ws : List Cond) (rm : Room) (av : List Value) (L : List Nat) (h : mh_H) (h' : mh_H) : Prop := ∀ D ks sz, Met l y ws rm (va_Pc av (mh_Pw D ks L h sz)) (mh_Qv D ks L sz h') 0 0 (mh_A L sz)
def mh_MR (l : Launch) (y : MethodName) (ws : List Cond) (rm : Room) (av : List Value) (L : List Nat) (h : mh_H) (r : Nat) (h' : mh_H) : Prop := ∀ D ks sz, Met l y ws rm (va_Pc av (mh_Pw D ks L h sz)) (mh_Qr D ks L sz r h') 0 0 (mh_A L sz)
/-- the room of a method that makes no cell: by the depth of its calls -/
abbrev mh_rm (d : Nat) : Room := { frames := d, cells := 0, slots := 0, locals := 40 * d }
/-- a call's words -/
def mh_Yw (y : MethodName) (bytes : ByteArray) (maxL : Nat) (ret : Option FieldType) (n : Nat) : Prop := Cond.initialized y.cls ∈ mh_TB ∧ Cond.code y bytes maxL ret ∈ mh_TB ∧ y.cls ≠ "java/lang/invoke/MethodHandle" ∧ y.cls ≠ "java/lang/invoke/VarHandle" ∧ (parseMethodDescriptor y.desc).map (fun d => d.parameters.length) = some n
def mh_Vw (own : String) (index : Nat) (C : String) (y : MethodName) : Prop := Cond.methodLink own index y ∈ mh_TB ∧ Cond.instanceMethod y ∈ mh_TB ∧ Cond.selects C y y ∈ mh_TB
def mh_Sw (own : String) (index : Nat) (y : MethodName) : Prop := Cond.methodLink own index y ∈ mh_TB ∧ Cond.static y ∈ mh_TB
theorem mh_blind {D : va_G} {ks : Nat → ClassId} {L : List Nat} {h : mh_H} {sz : Nat} {av : List Value} : FrameBlind (va_Pc av (mh_Pw D ks L h sz)) := fun a U g mk q => by
  obtain ⟨q0, q1, qP, qK, qD, qd, qz⟩ := q
  exact ⟨q0, q1, qP, va_K.moved (u := U) (U := U.calling g mk a) (Vm.Alike.refl U.vm) qK, qD, qd, mh_Z.same (s := U) (U := U.calling g mk a) rfl qz⟩
section MhCalls
variable {p : Program} {l : Launch} {e : Env} {R : Room} {s : State} {m : MethodId} {args : Array Value} {below : List Frame} {meth : Method} {c : Code} {H : Heap} {locs : List Loc} {cells slots : Nat} {Q : State → Prop}
variable {cc : ByteArray} {pc nL : Nat} {ls : Array Slot} {rest : List Value} {D : va_G} {ks : Nat → ClassId} {L : List Nat} {A : Nat → Prop} {own : String} {h : mh_H} {α : Type} {Rz : α}
theorem mh_free (cx : mh_C p m c cc nL s args own meth D ks A) (wd : mh_W D ks L A s.heap h H locs) : ∀ q, mh_A L H.size q → A q := by
  intro q hq
  rcases hq with hq | hq
  · obtain ⟨i, hi⟩ := List.getElem?_of_mem hq
    have : (va_pl L (mh_hw ks h))[i]? = some (q, mh_hw ks h q) := by
      unfold va_pl
      rw [List.getElem?_map, hi]
      rfl
    exact wd.2.1.2 i _ this
  · exact cx.2.2.2.1 q (Nat.le_trans wd.2.2.1.1 hq)
theorem mh_pre (cx : mh_C p m c cc nL s args own meth D ks A) (wd : mh_W D ks L A s.heap h H locs) (av : List Value) : PreS s H (va_Pc av (mh_Pw D ks L h H.size)) av :=
  ⟨mh_blind, fun U hU hW => ⟨rfl, by rw [hU], by rw [hU]; exact wd.1, va_K.moved hW.alike cx.2.1, wd.2.1.weaken (fun _ _ _ _ => trivial), wd.2.2.2, cx.2.2.2.2.warm hW⟩⟩
theorem mh_preV (cx : mh_C p m c cc nL s args own meth D ks A) (wd : mh_W D ks L A s.heap h H locs) {b ci : Nat} {fs : List Value} {C : String} {T : u_T} {N : Nat} (hc : vwCl[ci]? = some (C, T, N)) (hb : h b = some (.inr (ci, fs))) (As : List Value) : PreV s H C b (va_Pc (.ref b :: As) (mh_Pw D ks L h H.size)) As := by
  obtain ⟨-, k0, -, hk0⟩ := mh_k wd hb
  exact ⟨mh_blind, va_recv cx.2.1 wd.1 hc hk0, (mh_pre cx wd (.ref b :: As)).2⟩
theorem mh_cb (cx : mh_C p m c cc nL s args own meth D ks A) {y : MethodName} {bytes : ByteArray} {maxL n index : Nat} {ret : Option FieldType} {rm : Room} (Y : mh_Yw y bytes maxL ret n) (hl : Cond.methodLink own index y ∈ mh_TB) (hR : rm.frames + 1 ≤ R.frames ∧ 8 + (maxL + 11) + rm.locals ≤ R.locals) :
    CallB R s args own index y bytes maxL ret (Cond.code y bytes maxL ret :: mh_TB) rm rm.cells rm.slots n :=
  callB_of n cx.1.2.2.2.2 (mh_gc Y.2.1) rfl rfl rfl (cx.1.2.2.2.2 _ Y.1) (cx.1.2.2.2.2 _ hl) Y.2.2 hR
theorem mh_back {u : Unit} {t : State} {H1 : Heap} {locs1 : List Loc} {h' : mh_H} (cx : mh_C p m c cc nL s args own meth D ks A) (wd : mh_W D ks L A s.heap h H locs) (ht : t.heap = H1) (hB : mh_Bw D ks L (mh_A L H.size) h' t) (hS1 : va_S A s.heap H1 locs1) : mh_W D ks L A s.heap h' H1 locs1 := by
  obtain ⟨hP1, -, hD1, hd1⟩ := hB
  rw [ht] at hP1
  exact ⟨hP1, hD1.weaken (fun _ q _ hq => mh_free cx wd q.1 hq), hS1, hd1⟩
theorem mh_callVI (cx : mh_C p m c cc nL s args own meth D ks A) (wd : mh_W D ks L A s.heap h H locs) {y : MethodName} {bytes : ByteArray} {maxL n index b ci d : Nat} {ret : Option FieldType} {C : String} {T : u_T} {N : Nat} (As : List Value) {st0 : List Value} {o : Option (Int32 × mh_H)} {f : Int32 → mh_H → Option α}
    (hc : vwCl[ci]? = some (C, T, N)) (Y : mh_Yw y bytes maxL ret n) (V : mh_Vw own index C y) (hn : As.length = n) (hsize : ls.size = nL) (hst : st0 = As.reverse ++ .ref b :: rest) (hW : (rest.map fun v => v.category).sum ≤ 8) (hdg : decode cc pc = .ok (.invokevirtual index, 3)) (hR : d + 1 ≤ R.frames ∧ 8 + (maxL + 11) + 40 * d ≤ R.locals) (hf : cells ≤ R.cells ∧ slots ≤ R.slots)
    (hM : ∀ r h', o = some (r, h') → mh_MI l y (Cond.code y bytes maxL ret :: mh_TB) (mh_rm d) (.ref b :: As) L h r h') (hX : mh_b2 (mh_cal h b ci o) f = some Rz)
    (kk : ∀ r h' H locs, mh_W D ks L A s.heap h' H locs → f r h' = some Rz → W p l e R s m args below meth c H locs cells slots Q (F0 m (pc + 3) ls (.int r :: rest))) : W p l e R s m args below meth c H locs cells slots Q (F0 m pc ls st0) := by
  obtain ⟨r, h', e1, hX⟩ := mh_ob2 hX
  obtain ⟨⟨fs, hb0⟩, e2⟩ := mh_cal_ok e1
  refine va_calli (va_runV cx.1 (hM r h' e2 D ks H.size) ⟨mh_cb cx Y V.1 hR, cx.1.2.2.2.2 _ V.2.1, cx.1.2.2.2.2 _ V.2.2⟩ (mh_preV cx wd hc hb0 As) rfl hn hsize hst (lv_room hW) hdg hf) wd.2.2.1 (fun q _ h => mh_free cx wd q h) (mh_free cx wd) (fun r2 u t H1 locs1 ht hvm hp hB hz hk hS1 => ?_)
  subst hp
  exact kk r2 h' H1 locs1 (mh_back (u := ()) cx wd ht hB hS1) hX
theorem mh_callVJ (cx : mh_C p m c cc nL s args own meth D ks A) (wd : mh_W D ks L A s.heap h H locs) {y : MethodName} {bytes : ByteArray} {maxL n index b ci d : Nat} {ret : Option FieldType} {C : String} {T : u_T} {N : Nat} (As : List Value) {st0 : List Value} {o : Option (Int64 × mh_H)} {f : Int64 → mh_H → Option α}
    (hc : vwCl[ci]? = some (C, T, N)) (Y : mh_Yw y bytes maxL ret n) (V : mh_Vw own index C y) (hn : As.length = n) (hsize : ls.size = nL) (hst : st0 = As.reverse ++ .ref b :: rest) (hW : (rest.map fun v => v.category).sum ≤ 8) (hdg : decode cc pc = .ok (.invokevirtual index, 3)) (hR : d + 1 ≤ R.frames ∧ 8 + (maxL + 11) + 40 * d ≤ R.locals) (hf : cells ≤ R.cells ∧ slots ≤ R.slots)
    (hM : ∀ r h', o = some (r, h') → mh_MJ l y (Cond.code y bytes maxL ret :: mh_TB) (mh_rm d) (.ref b :: As) L h r h') (hX : mh_b2 (mh_cal h b ci o) f = some Rz)
    (kk : ∀ r h' H locs, mh_W D ks L A s.heap h' H locs → f r h' = some Rz → W p l e R s m args below meth c H locs cells slots Q (F0 m (pc + 3) ls (.long r :: rest))) : W p l e R s m args below meth c H locs cells slots Q (F0 m pc ls st0) := by
  obtain ⟨r, h', e1, hX⟩ := mh_ob2 hX
  obtain ⟨⟨fs, hb0⟩, e2⟩ := mh_cal_ok e1
  refine va_calll (va_runV cx.1 (hM r h' e2 D ks H.size) ⟨mh_cb cx Y V.1 hR, cx.1.2.2.2.2 _ V.2.1, cx.1.2.2.2.2 _ V.2.2⟩ (mh_preV cx wd hc hb0 As) rfl hn hsize hst (lv_room hW) hdg hf) wd.2.2.1 (fun q _ h => mh_free cx wd q h) (mh_free cx wd) (fun r2 u t H1 locs1 ht hvm hp hB hz hk hS1 => ?_)
  subst hp
  exact kk r2 h' H1 locs1 (mh_back (u := ()) cx wd ht hB hS1) hX
theorem mh_callVV (cx : mh_C p m c cc nL s args own meth D ks A) (wd : mh_W D ks L A s.heap h H locs) {y : MethodName} {bytes : ByteArray} {maxL n index b ci d : Nat} {ret : Option FieldType} {C : String} {T : u_T} {N : Nat} (As : List Value) {st0 : List Value} {o : Option mh_H} {f : mh_H → Option α}
    (hc : vwCl[ci]? = some (C, T, N)) (Y : mh_Yw y bytes maxL ret n) (V : mh_Vw own index C y) (hn : As.length = n) (hsize : ls.size = nL) (hst : st0 = As.reverse ++ .ref b :: rest) (hW : (rest.map fun v => v.category).sum ≤ 8) (hdg : decode cc pc = .ok (.invokevirtual index, 3)) (hR : d + 1 ≤ R.frames ∧ 8 + (maxL + 11) + 40 * d ≤ R.locals) (hf : cells ≤ R.cells ∧ slots ≤ R.slots)
    (hM : ∀ h', o = some h' → mh_MV l y (Cond.code y bytes maxL ret :: mh_TB) (mh_rm d) (.ref b :: As) L h h') (hX : (mh_cal h b ci o).bind f = some Rz)
    (kk : ∀ h' H locs, mh_W D ks L A s.heap h' H locs → f h' = some Rz → W p l e R s m args below meth c H locs cells slots Q (F0 m (pc + 3) ls rest)) : W p l e R s m args below meth c H locs cells slots Q (F0 m pc ls st0) := by
  obtain ⟨h', e1, hX⟩ := mh_ob hX
  obtain ⟨⟨fs, hb0⟩, e2⟩ := mh_cal_ok e1
  refine va_callv (va_runV cx.1 (hM h' e2 D ks H.size) ⟨mh_cb cx Y V.1 hR, cx.1.2.2.2.2 _ V.2.1, cx.1.2.2.2.2 _ V.2.2⟩ (mh_preV cx wd hc hb0 As) rfl hn hsize hst (lv_room hW) hdg hf) wd.2.2.1 (fun q _ h => mh_free cx wd q h) (mh_free cx wd) (fun u t H1 locs1 ht hvm hp hB hz hk hS1 => ?_)
  exact kk h' H1 locs1 (mh_back (u := ()) cx wd ht hB hS1) hX
theorem mh_callVR (cx : mh_C p m c cc nL s args own meth D ks A) (wd : mh_W D ks L A s.heap h H locs) {y : MethodName} {bytes : ByteArray} {maxL n index b ci d : Nat} {ret : Option FieldType} {C : String} {T : u_T} {N : Nat} (As : List Value) {st0 : List Value} {o : Option (Nat × mh_H)} {f : Nat → mh_H → Option α}
    (hc : vwCl[ci]? = some (C, T, N)) (Y : mh_Yw y bytes maxL ret n) (V : mh_Vw own index C y) (hn : As.length = n) (hsize : ls.size = nL) (hst : st0 = As.reverse ++ .ref b :: rest) (hW : (rest.map fun v => v.category).sum ≤ 8) (hdg : decode cc pc = .ok (.invokevirtual index, 3)) (hR : d + 1 ≤ R.frames ∧ 8 + (maxL + 11) + 40 * d ≤ R.locals) (hf : cells ≤ R.cells ∧ slots ≤ R.slots)
    (hM : ∀ r h', o = some (r, h') → mh_MR l y (Cond.code y bytes maxL ret :: mh_TB) (mh_rm d) (.ref b :: As) L h r h') (hX : mh_b2 (mh_cal h b ci o) f = some Rz)
    (kk : ∀ r h' H locs, mh_W D ks L A s.heap h' H locs → f r h' = some Rz → W p l e R s m args below meth c H locs cells slots Q (F0 m (pc + 3) ls (.ref r :: rest))) : W p l e R s m args below meth c H locs cells slots Q (F0 m pc ls st0) := by
  obtain ⟨r, h', e1, hX⟩ := mh_ob2 hX
  obtain ⟨⟨fs, hb0⟩, e2⟩ := mh_cal_ok e1
  refine va_callr (va_runV cx.1 (hM r h' e2 D ks H.size) ⟨mh_cb cx Y V.1 hR, cx.1.2.2.2.2 _ V.2.1, cx.1.2.2.2.2 _ V.2.2⟩ (mh_preV cx wd hc hb0 As) rfl hn hsize hst (lv_room hW) hdg hf) wd.2.2.1 (fun q _ h => mh_free cx wd q h) (mh_free cx wd) (fun u ra t H1 locs1 ht hvm hp hB hz hk hS1 => ?_)
  obtain ⟨rfl, hB⟩ := hB
  exact kk ra h' H1 locs1 (mh_back (u := ()) cx wd ht hB hS1) hX
theorem mh_callSI (cx : mh_C p m c cc nL s args own meth D ks A) (wd : mh_W D ks L A s.heap h H locs) {y : MethodName} {bytes : ByteArray} {maxL n index d : Nat} {ret : Option FieldType} (As : List Value) {st0 : List Value} {o : Option (Int32 × mh_H)} {f : Int32 → mh_H → Option α}
    (Y : mh_Yw y bytes maxL ret n) (V : mh_Sw own index y) (hn : As.length = n) (hsize : ls.size = nL) (hst : st0 = As.reverse ++ rest) (hW : (rest.map fun v => v.category).sum ≤ 8) (hdg : decode cc pc = .ok (.invokestatic index, 3)) (hR : d + 1 ≤ R.frames ∧ 8 + (maxL + 11) + 40 * d ≤ R.locals) (hf : cells ≤ R.cells ∧ slots ≤ R.slots)
    (hM : ∀ r h', o = some (r, h') → mh_MI l y (Cond.code y bytes maxL ret :: mh_TB) (mh_rm d) As L h r h') (hX : mh_b2 o f = some Rz)
    (kk : ∀ r h' H locs, mh_W D ks L A s.heap h' H locs → f r h' = some Rz → W p l e R s m args below meth c H locs cells slots Q (F0 m (pc + 3) ls (.int r :: rest))) : W p l e R s m args below meth c H locs cells slots Q (F0 m pc ls st0) := by
  obtain ⟨r, h', e2, hX⟩ := mh_ob2 hX
  refine va_calli (va_runS cx.1 (hM r h' e2 D ks H.size) ⟨mh_cb cx Y V.1 hR, cx.1.2.2.2.2 _ V.2⟩ (mh_pre cx wd As) rfl hn hsize hst (lv_room hW) hdg hf) wd.2.2.1 (fun q _ h => mh_free cx wd q h) (mh_free cx wd) (fun r2 u t H1 locs1 ht hvm hp hB hz hk hS1 => ?_)
  subst hp
  exact kk r2 h' H1 locs1 (mh_back (u := ()) cx wd ht hB hS1) hX
theorem mh_callSV (cx : mh_C p m c cc nL s args own meth D ks A) (wd : mh_W D ks L A s.heap h H locs) {y : MethodName} {bytes : ByteArray} {maxL n index d : Nat} {ret : Option FieldType} (As : List Value) {st0 : List Value} {o : Option mh_H} {f : mh_H → Option α}
    (Y : mh_Yw y bytes maxL ret n) (V : mh_Sw own index y) (hn : As.length = n) (hsize : ls.size = nL) (hst : st0 = As.reverse ++ rest) (hW : (rest.map fun v => v.category).sum ≤ 8) (hdg : decode cc pc = .ok (.invokestatic index, 3)) (hR : d + 1 ≤ R.frames ∧ 8 + (maxL + 11) + 40 * d ≤ R.locals) (hf : cells ≤ R.cells ∧ slots ≤ R.slots)
    (hM : ∀ h', o = some h' → mh_MV l y (Cond.code y bytes maxL ret :: mh_TB) (mh_rm d) As L h h') (hX : o.bind f = some Rz)
    (kk : ∀ h' H locs, mh_W D ks L A s.heap h' H locs → f h' = some Rz → W p l e R s m args below meth c H locs cells slots Q (F0 m (pc + 3) ls rest)) : W p l e R s m args below meth c H locs cells slots Q (F0 m pc ls st0) := by
  obtain ⟨h', e2, hX⟩ := mh_ob hX
  refine va_callv (va_runS cx.1 (hM h' e2 D ks H.size) ⟨mh_cb cx Y V.1 hR, cx.1.2.2.2.2 _ V.2⟩ (mh_pre cx wd As) rfl hn hsize hst (lv_room hW) hdg hf) wd.2.2.1 (fun q _ h => mh_free cx wd q h) (mh_free cx wd) (fun u t H1 locs1 ht hvm hp hB hz hk hS1 => ?_)
  exact kk h' H1 locs1 (mh_back (u := ()) cx wd ht hB hS1) hX
/-! returns -/
theorem mh_end (cx : mh_C p m c cc nL s args own meth D ks (mh_A L s.heap.size)) (wd : mh_W D ks L (mh_A L s.heap.size) s.heap h H locs) {t : State} (ht : t.heap = H) (hW : s.WarmedH t.vm) : mh_Bw D ks L (mh_A L s.heap.size) h t ∧ va_F (mh_A L s.heap.size) s t :=
  ⟨⟨by rw [ht]; exact wd.1, va_K.moved hW.alike cx.2.1, wd.2.1, wd.2.2.2⟩, wd.2.2.1.F ht⟩
theorem mh_iret (cx : mh_C p m c cc nL s args own meth D ks (mh_A L s.heap.size)) (wd : mh_W D ks L (mh_A L s.heap.size) s.heap h H locs) (hr : meth.sig.returnType = some .int) {x r : Int32} {h' : mh_H} (hX : some (x, h) = some (r, h')) (hdg : decode cc pc = .ok (.ireturn, 1)) :
    W p l e R s m args below meth c H locs 0 0 (MQ below (mh_Qi D ks L s.heap.size r h') args s 0 0 (mh_A L s.heap.size)) (F0 m pc ls [.int x]) := by
  cases hX
  exact W.iret (hlocks := cx.2.2.1) cx.1.1 cx.1.2.1 hr (fun t ht hW => ⟨⟨x, (), rfl, rfl, (mh_end cx wd ht hW).1⟩, (mh_end cx wd ht hW).2⟩) wd.2.2.1.2.2 hdg
theorem mh_zret (cx : mh_C p m c cc nL s args own meth D ks (mh_A L s.heap.size)) (wd : mh_W D ks L (mh_A L s.heap.size) s.heap h H locs) (hr : meth.sig.returnType = some .boolean) {x r : Int32} {h' : mh_H} (hX : mh_rz x h = some (r, h')) (hdg : decode cc pc = .ok (.ireturn, 1)) :
    W p l e R s m args below meth c H locs 0 0 (MQ below (mh_Qi D ks L s.heap.size r h') args s 0 0 (mh_A L s.heap.size)) (F0 m pc ls [.int x]) := by
  obtain ⟨hz, hX⟩ := mh_rz_ok hX
  cases hX
  exact W.zret (hlocks := cx.2.2.1) cx.1.1 cx.1.2.1 hr (by rcases hz with rfl | rfl <;> decide) (fun t ht hW => ⟨⟨x, (), rfl, rfl, (mh_end cx wd ht hW).1⟩, (mh_end cx wd ht hW).2⟩) wd.2.2.1.2.2 hdg
theorem mh_lret (cx : mh_C p m c cc nL s args own meth D ks (mh_A L s.heap.size)) (wd : mh_W D ks L (mh_A L s.heap.size) s.heap h H locs) (hr : meth.sig.returnType = some .long) {x r : Int64} {h' : mh_H} (hX : some (x, h) = some (r, h')) (hdg : decode cc pc = .ok (.lreturn, 1)) :
    W p l e R s m args below meth c H locs 0 0 (MQ below (mh_Ql D ks L s.heap.size r h') args s 0 0 (mh_A L s.heap.size)) (F0 m pc ls [.long x]) := by
  cases hX
  exact W.lret (hlocks := cx.2.2.1) cx.1.1 cx.1.2.1 hr (fun t ht hW => ⟨⟨x, (), rfl, rfl, (mh_end cx wd ht hW).1⟩, (mh_end cx wd ht hW).2⟩) wd.2.2.1.2.2 hdg
theorem mh_vret (cx : mh_C p m c cc nL s args own meth D ks (mh_A L s.heap.size)) (wd : mh_W D ks L (mh_A L s.heap.size) s.heap h H locs) (hr : meth.sig.returnType = none) {h' : mh_H} (hX : some h = some h') (hdg : decode cc pc = .ok (.return_, 1)) :
    W p l e R s m args below meth c H locs 0 0 (MQ below (mh_Qv D ks L s.heap.size h') args s 0 0 (mh_A L s.heap.size)) (F0 m pc ls []) := by
  cases hX
  exact W.vret (hlocks := cx.2.2.1) cx.1.1 cx.1.2.1 hr (fun t ht hW => ⟨⟨(), rfl, trivial, (mh_end cx wd ht hW).1⟩, (mh_end cx wd ht hW).2⟩) wd.2.2.1.2.2 hdg
theorem mh_aret (cx : mh_C p m c cc nL s args own meth D ks (mh_A L s.heap.size)) (wd : mh_W D ks L (mh_A L s.heap.size) s.heap h H locs) {rt : FieldType} (hr : meth.sig.returnType = some rt) (hrt : (∃ n, rt = .object n) ∨ ∃ t, rt = .array t) {x r : Nat} {h' : mh_H} (hX : some (x, h) = some (r, h')) (hdg : decode cc pc = .ok (.areturn, 1)) :
    W p l e R s m args below meth c H locs 0 0 (MQ below (mh_Qr D ks L s.heap.size r h') args s 0 0 (mh_A L s.heap.size)) (F0 m pc ls [.ref x]) := by
  cases hX
  exact W.aret (hlocks := cx.2.2.1) cx.1.1 cx.1.2.1 hr hrt (Or.inr ⟨x, rfl⟩) (fun t ht hW => ⟨⟨(), x, rfl, trivial, rfl, (mh_end cx wd ht hW).1⟩, (mh_end cx wd ht hW).2⟩) wd.2.2.1.2.2 hdg
end MhCalls
/-! a method out of its body -/
theorem mh_ofF {l : Launch} {y : MethodName} {ws ws' : List Cond} {rm : Room} {Pc : Array Value → State → Prop} {Qc : Array Value → State → Outcome → State → Prop} {mc ms : Nat} {free : Addr → Prop} {cc : ByteArray} {maxL : Nat} {ret : Option FieldType}
    (hy : plainFor y = true) (hw : ws = Cond.code y cc maxL ret :: ws')
    (body : ∀ p e s m args below meth c s₁, BodyLoose p l y (headSpec ws rm) cc maxL ret e s m args below meth c s₁ → c.maxLocals = maxL → Pc args s →
      W p l e (headSpec ws rm).room s m args below meth c s.heap [] 0 0 (MQ below Qc args s mc ms free) (entryFrame m args maxL)) : Met l y ws rm Pc Qc mc ms free := by
  refine MetFree.of_bodySF (code := cc) (maxLocals := maxL) (ret := ret) hy ?_ ?_
  · intro args s m h hn
    obtain ⟨meth, c, h1, h2, h3, h4, h5, h6, -, -⟩ := Cond.code_spec hn (atoms_spec (ws := ws) h _ (by rw [hw]; exact List.mem_cons_self))
    exact ⟨meth, c, h1, h2, h3, h4, h5, h6⟩
  · intro p e s m args below meth c s₁ B hml hP _
    have hh0 : s₁.heap = s.heap := by rw [B.state]; rfl
    obtain ⟨t, a1, o, b1, b2, b3⟩ := body p e s m args below meth c s₁ B hml hP s₁ hh0 (Stand.of_body B)
    exact ⟨t, o, a1, b1, b2, ⟨b3.1, b3.2⟩⟩
theorem mh_of {l : Launch} {y : MethodName} {cc : ByteArray} {maxL : Nat} {ret : Option FieldType} {rm : Room} {av : List Value} {L : List Nat} {h : mh_H} {Qc : va_G → (Nat → ClassId) → Nat → Array Value → State → Outcome → State → Prop} {mc ms : Nat} (hy : plainFor y = true) (hav : (lg_sl av).length ≤ maxL)
    (body : ∀ (p : Program) (e : Env) (s : State) (m : MethodId) (below : List Frame) (meth : Method) (c : Code) (D : va_G) (ks : Nat → ClassId) (ls : Array Slot), meth.sig.returnType = ret → mh_C p m c cc maxL s av.toArray y.cls meth D ks (mh_A L s.heap.size) → mh_W D ks L (mh_A L s.heap.size) s.heap h s.heap [] → lv_has ls maxL (lv_args 0 av) →
      W p l e rm s m av.toArray below meth c s.heap [] 0 0 (MQ below (Qc D ks s.heap.size) av.toArray s mc ms (mh_A L s.heap.size)) (F0 m 0 ls [])) : ∀ D ks sz, Met l y (Cond.code y cc maxL ret :: mh_TB) rm (va_Pc av (mh_Pw D ks L h sz)) (Qc D ks sz) mc ms (mh_A L sz) := by
  intro D ks sz
  refine mh_ofF (cc := cc) (maxL := maxL) (ret := ret) hy rfl ?_
  intro p e s m args below meth c s₁ B hml hv
  obtain ⟨rfl, hsz, hP, hK, hD0, hd, hZ⟩ := hv
  subst hsz
  have hts := atoms_spec (ws := Cond.code y cc maxL ret :: mh_TB) B.pre
  have hown : s.vm.findClass y.cls = some m.cls := findClass_of_methodNamed B.named
  have hl := lv_entry av (n := maxL) hav
  rw [lg_entry_eq]
  refine body p e s m below meth c D ks _ B.returns ⟨⟨B.exec, B.bytes, hml, hown, fun w hw => hts w (List.mem_cons_of_mem _ hw)⟩, hK, B.notSynchronized, fun q hq => Or.inr hq, hZ⟩ ⟨hP, ⟨hD0.1, fun k q hk => Or.inl ?_⟩, va_S.rf, hd⟩ hl
  have hk2 := List.mem_of_getElem? hk
  unfold va_pl at hk2
  obtain ⟨a, ha, rfl⟩ := List.mem_map.mp hk2
  exact ha
def mh_Nw (own : String) (index : Nat) (y : MethodName) (host : String) : Prop := Cond.methodLinkNest own index y host ∈ mh_NB ∧ Cond.static y ∈ mh_TB
section MhMore
variable {p : Program} {l : Launch} {e : Env} {R : Room} {s : State} {m : MethodId} {args : Array Value} {below : List Frame} {meth : Method} {c : Code} {H : Heap} {locs : List Loc} {cells slots : Nat} {Q : State → Prop}
variable {cc : ByteArray} {pc nL : Nat} {ls : Array Slot} {rest : List Value} {D : va_G} {ks : Nat → ClassId} {L : List Nat} {A : Nat → Prop} {own : String} {h : mh_H} {α : Type} {Rz : α}
theorem mh_callNI (cx : mh_C p m c cc nL s args own meth D ks A) (wd : mh_W D ks L A s.heap h H locs) {y : MethodName} {bytes : ByteArray} {maxL n index d : Nat} {ret : Option FieldType} {host : String} (As : List Value) {st0 : List Value} {o : Option (Int32 × mh_H)} {f : Int32 → mh_H → Option α}
    (Y : mh_Yw y bytes maxL ret n) (V : mh_Nw own index y host) (hn : As.length = n) (hsize : ls.size = nL) (hst : st0 = As.reverse ++ rest) (hW : (rest.map fun v => v.category).sum ≤ 8) (hdg : decode cc pc = .ok (.invokestatic index, 3)) (hR : d + 1 ≤ R.frames ∧ 8 + (maxL + 11) + 40 * d ≤ R.locals) (hf : cells ≤ R.cells ∧ slots ≤ R.slots)
    (hM : ∀ r h', o = some (r, h') → mh_MI l y (Cond.code y bytes maxL ret :: mh_TB) (mh_rm d) As L h r h') (hX : mh_b2 o f = some Rz)
    (kk : ∀ r h' H locs, mh_W D ks L A s.heap h' H locs → f r h' = some Rz → W p l e R s m args below meth c H locs cells slots Q (F0 m (pc + 3) ls (.int r :: rest))) : W p l e R s m args below meth c H locs cells slots Q (F0 m pc ls st0) := by
  obtain ⟨r, h', e2, hX⟩ := mh_ob2 hX
  refine va_calli (va_runSN (host := host) cx.1 (hM r h' e2 D ks H.size) ⟨va_cnB (ws' := mh_TB) n cx.1.2.2.2.2 (mh_gc Y.2.1) rfl rfl rfl (cx.2.2.2.2 _ V.1) (cx.1.2.2.2.2 _ Y.1) Y.2.2 hR, cx.1.2.2.2.2 _ V.2, trivial⟩ (mh_pre cx wd As) rfl hn hsize hst (lv_room hW) hdg hf) wd.2.2.1 (fun q _ h => mh_free cx wd q h) (mh_free cx wd) (fun r2 u t H1 locs1 ht hvm hp hB hz hk hS1 => ?_)
  subst hp
  exact kk r2 h' H1 locs1 (mh_back (u := ()) cx wd ht hB hS1) hX
def mh_Mw : Prop := Cond.initialized "java/lang/Math" ∈ mh_TB ∧ Cond.static Lib.Math.max.name ∈ mh_TB ∧ Cond.code Lib.Math.max.name Lib.Math.max.code 2 (some .int) ∈ mh_TB ∧ Cond.static Lib.Math.min.name ∈ mh_TB ∧ Cond.code Lib.Math.min.name Lib.Math.min.code 2 (some .int) ∈ mh_TB ∧ Cond.static Lib.MathLoose.min_long.x ∈ mh_TB ∧ Cond.code Lib.MathLoose.min_long.x Lib.MathLoose.min_long.code 4 (some .long) ∈ mh_TB
theorem mh_mmax (M : mh_Mw) (cx : mh_C p m c cc nL s args own meth D ks A) (hsize : ls.size = nL) {index : Nat} (V : Cond.methodLink own index Lib.Math.max.name ∈ mh_TB) (hd : 1 ≤ R.frames) (hlo : (rest.map fun v => v.category).sum + 13 ≤ R.locals) (hf : cells ≤ R.cells ∧ slots ≤ R.slots) {x y : Int32} (hdg : decode cc pc = .ok (.invokestatic index, 3))
    (kk : W p l e R s m args below meth c H locs cells slots Q (F0 m (pc + 3) ls (.int (if x < y then y else x) :: rest))) : W p l e R s m args below meth c H locs cells slots Q (F0 m pc ls (.int y :: .int x :: rest)) :=
  va_mmax cx.1.1 cx.1.2.1 (cx.1.2.2.1.trans hsize.symm) cx.1.2.2.2.1 (cx.1.2.2.2.2 _ V) (cx.1.2.2.2.2 _ M.2.1) (cx.1.2.2.2.2 _ M.1) (cx.1.2.2.2.2 _ M.2.2.1) hd hlo hf.1 hf.2 hdg kk
theorem mh_mmin (M : mh_Mw) (cx : mh_C p m c cc nL s args own meth D ks A) (hsize : ls.size = nL) {index : Nat} (V : Cond.methodLink own index Lib.Math.min.name ∈ mh_TB) (hd : 1 ≤ R.frames) (hlo : (rest.map fun v => v.category).sum + 13 ≤ R.locals) (hf : cells ≤ R.cells ∧ slots ≤ R.slots) {x y : Int32} (hdg : decode cc pc = .ok (.invokestatic index, 3))
    (kk : W p l e R s m args below meth c H locs cells slots Q (F0 m (pc + 3) ls (.int (if y < x then y else x) :: rest))) : W p l e R s m args below meth c H locs cells slots Q (F0 m pc ls (.int y :: .int x :: rest)) :=
  va_mmin cx.1.1 cx.1.2.1 (cx.1.2.2.1.trans hsize.symm) cx.1.2.2.2.1 (cx.1.2.2.2.2 _ V) (cx.1.2.2.2.2 _ M.2.2.2.1) (cx.1.2.2.2.2 _ M.1) (cx.1.2.2.2.2 _ M.2.2.2.2.1) hd hlo hf.1 hf.2 hdg kk
theorem mh_mminl (M : mh_Mw) (cx : mh_C p m c cc nL s args own meth D ks A) (hsize : ls.size = nL) {index : Nat} (V : Cond.methodLink own index Lib.MathLoose.min_long.x ∈ mh_TB) (hd : 1 ≤ R.frames) (hlo : (rest.map fun v => v.category).sum + 15 ≤ R.locals) (hf : cells ≤ R.cells ∧ slots ≤ R.slots) {x y : Int64} (hdg : decode cc pc = .ok (.invokestatic index, 3))
    (kk : W p l e R s m args below meth c H locs cells slots Q (F0 m (pc + 3) ls (.long (if y < x then y else x) :: rest))) : W p l e R s m args below meth c H locs cells slots Q (F0 m pc ls (.long y :: .long x :: rest)) :=
  va_mmin_long cx.1.1 cx.1.2.1 (cx.1.2.2.1.trans hsize.symm) cx.1.2.2.2.1 (cx.1.2.2.2.2 _ V) (cx.1.2.2.2.2 _ M.2.2.2.2.2.1) (cx.1.2.2.2.2 _ M.1) (cx.1.2.2.2.2 _ M.2.2.2.2.2.2) hd hlo hf.1 hf.2 hdg kk
theorem mh_ldc (cx : mh_C p m c cc nL s args own meth D ks A) {index : Nat} {v : Int32} (K : Cond.constant own index v ∈ mh_TB) (hdg : decode cc pc = .ok (.ldc index, 2)) (kk : W p l e R s m args below meth c H locs cells slots Q (F0 m (pc + 2) ls (.int v :: rest))) : W p l e R s m args below meth c H locs cells slots Q (F0 m pc ls rest) :=
  lv_ldc cx.1.1 cx.1.2.1 cx.1.2.2.2.1 (cx.1.2.2.2.2 _ K) hdg kk
theorem mh_ldcw (cx : mh_C p m c cc nL s args own meth D ks A) {index : Nat} {v : Int32} (K : Cond.constant own index v ∈ mh_TB) (hdg : decode cc pc = .ok (.ldc_w index, 3)) (kk : W p l e R s m args below meth c H locs cells slots Q (F0 m (pc + 3) ls (.int v :: rest))) : W p l e R s m args below meth c H locs cells slots Q (F0 m pc ls rest) :=
  lv_ldcw cx.1.1 cx.1.2.1 cx.1.2.2.2.1 (cx.1.2.2.2.2 _ K) hdg kk
theorem mh_ldc2 (cx : mh_C p m c cc nL s args own meth D ks A) {index : Nat} {v : Int64} (K : Cond.constantLong own index v ∈ mh_TB) (hdg : decode cc pc = .ok (.ldc2_w index, 3)) (kk : W p l e R s m args below meth c H locs cells slots Q (F0 m (pc + 3) ls (.long v :: rest))) : W p l e R s m args below meth c H locs cells slots Q (F0 m pc ls rest) :=
  lv_ldc2 cx.1.1 cx.1.2.1 cx.1.2.2.2.1 (cx.1.2.2.2.2 _ K) hdg kk
end MhMore
