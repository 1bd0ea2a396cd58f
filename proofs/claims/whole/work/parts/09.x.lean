/-! methods that may throw: the answer is .inl 1 (NoSuchElementException), .inl 2 (IllegalArgumentException), or .inr of what is returned -/
def mh_EN (k : Nat) : String := match k with
  | 1 => "java/util/NoSuchElementException"
  | _ => "java/lang/IllegalArgumentException"
def mh_SR : List (Nat × String) := [(190, "i is not 0 to 1,000,000"), (202, "r is no rest of the least coin"), (238, "d is not 1 to 300"), (265, "many is not 0 to 3000"), (273, "nothing lies in hand"), (297, "h is not 1 to 50"), (303, "not 0 <= a <= b <= 100,000"), (309, "k is not 1 to 6, or h not 1 to 12"), (355, "no such mint"), (357, "no such purse"), (359, "no such coin"), (361, "nothing such lies in hand"), (365, "s is not 0 to 1,000,000,000,000,000"), (367, "s is not 0 to 3000"), (386, "s is below 0, or both are one purse")]
def mh_Th (l : Launch) (A : Nat → Prop) (U : State) : Prop := l.stackTraces = false ∧ vx_Zq Bundle.tN "UNASSIGNED_STACK" Bundle.steD A U U.heap ∧ vx_Zq Bundle.tN "SUPPRESSED_SENTINEL" Bundle.listD A U U.heap ∧ ∀ q ∈ mh_SR, ∃ sa, vk_R RX11 q.1 q.2 sa U
def mh_Px (l : Launch) (D : va_G) (ks : Nat → ClassId) (L : List Nat) (h : mh_H) (sz : Nat) (U : State) : Prop := mh_Pw D ks L h sz U ∧ mh_Th l (mh_A L sz) U
def mh_Qx (D : va_G) (ks : Nat → ClassId) (L : List Nat) (sz : Nat) (r : Nat ⊕ Option Value) (h' : mh_H) : Array Value → State → Outcome → State → Prop := fun _ st oc t => (∃ v, oc = .returned v ∧ r = .inr v ∧ mh_Bw D ks L (mh_A L sz) h' t) ∧ va_F (mh_A L sz) st t
def mh_XC (D : va_G) (ks : Nat → ClassId) (L : List Nat) (sz : Nat) (r : Nat ⊕ Option Value) (h' : mh_H) : String → State → State → Prop := fun E st t => (∃ k, r = .inl k ∧ E = mh_EN k) ∧ mh_Bw D ks L (mh_A L sz) h' t ∧ va_F (mh_A L sz) st t
def mh_Mx (l : Launch) (y : MethodName) (ws : List Cond) (rm : Room) (av : List Value) (L : List Nat) (h : mh_H) (r : Nat ⊕ Option Value) (h' : mh_H) (mc ms : Nat) : Prop := ∀ D ks sz, vx_Met l y ws rm (va_Pc av (mh_Px l D ks L h sz)) (mh_Qx D ks L sz r h') (mh_XC D ks L sz r h') mc ms (mh_A L sz)
abbrev mh_rx (d K : Nat) : Room := { frames := d, cells := K, slots := 6 * K, locals := 40 * d }
def mh_em {α : Type} (em : α → Option Value) (r : Nat ⊕ α) : Nat ⊕ Option Value := match r with
  | .inl k => .inl k
  | .inr x => .inr (em x)
def mh_eI (x : Int32) : Option Value := some (.int x)
def mh_eJ (x : Int64) : Option Value := some (.long x)
def mh_eR (x : Nat) : Option Value := some (.ref x)
def mh_eV (_ : Unit) : Option Value := none
def mh_bx {α β : Type} (o : Option ((Nat ⊕ α) × mh_H)) (f : α → mh_H → Option ((Nat ⊕ β) × mh_H)) : Option ((Nat ⊕ β) × mh_H) := match o with
  | some (.inl k, h) => some (.inl k, h)
  | some (.inr x, h) => f x h
  | none => none
theorem mh_obx {α β : Type} {o : Option ((Nat ⊕ α) × mh_H)} {f : α → mh_H → Option ((Nat ⊕ β) × mh_H)} {r : (Nat ⊕ β) × mh_H} (h : mh_bx o f = some r) : (∃ k g, o = some (.inl k, g) ∧ r = (.inl k, g)) ∨ ∃ x g, o = some (.inr x, g) ∧ f x g = some r := by
  cases o with
  | none => cases h
  | some q =>
    obtain ⟨q, g⟩ := q
    cases q with
    | inl k => exact Or.inl ⟨k, g, rfl, (Option.some.inj h).symm⟩
    | inr x => exact Or.inr ⟨x, g, rfl, h⟩
def mh_rzx (x : Int32) (h : mh_H) : Option ((Nat ⊕ Int32) × mh_H) := if x = 0 ∨ x = 1 then some (.inr x, h) else none
theorem mh_rzx_ok {x : Int32} {r : (Nat ⊕ Int32) × mh_H} {h : mh_H} (e : mh_rzx x h = some r) : (x = 0 ∨ x = 1) ∧ some (Sum.inr x, h) = some r := by
  unfold mh_rzx at e
  split at e
  · rename_i hc
    exact ⟨hc, e⟩
  · cases e
theorem mh_Zuse {s : State} {args : Array Value} (hZ : mh_Z s) {w : Cond} (hw : w ∈ mh_NB) : w.before args s = true := by
  have h1 := hZ w hw
  have h2 := (List.mem_filter.mp hw).2
  cases w <;> first | exact va_Nw.use rfl h1 | cases h2
theorem mh_xblind {l : Launch} {D : va_G} {ks : Nat → ClassId} {L : List Nat} {h : mh_H} {sz : Nat} {av : List Value} : FrameBlind (va_Pc av (mh_Px l D ks L h sz)) := fun a U g mk q => by
  obtain ⟨q0, q1, t1, t2, t3, t4⟩ := q
  have e1 : vx_Zq Bundle.tN "UNASSIGNED_STACK" Bundle.steD (mh_A L sz) (U.calling g mk a) U.heap := vx_Zq.moved (u := U) (U := U.calling g mk a) (Vm.Alike.refl U.vm) t2
  have e2 : vx_Zq Bundle.tN "SUPPRESSED_SENTINEL" Bundle.listD (mh_A L sz) (U.calling g mk a) U.heap := vx_Zq.moved (u := U) (U := U.calling g mk a) (Vm.Alike.refl U.vm) t3
  exact ⟨q0, (mh_blind (av := av) a U g mk ⟨q0, q1⟩).2, t1, e1, e2, fun q hq => by
    obtain ⟨sa, hs⟩ := t4 q hq
    exact ⟨sa, vk_R.same (u := U) (U := U.calling g mk a) rfl hs⟩⟩
section MhX
variable {p : Program} {l : Launch} {e : Env} {R : Room} {s : State} {m : MethodId} {args : Array Value} {below : List Frame} {meth : Method} {c : Code} {H : Heap} {locs : List Loc} {cells slots : Nat} {Q : State → Prop}
variable {cc : ByteArray} {pc nL : Nat} {ls : Array Slot} {rest : List Value} {D : va_G} {ks : Nat → ClassId} {L : List Nat} {A : Nat → Prop} {own : String} {h : mh_H}
theorem mh_Th.go (th : mh_Th l A s) (cx : mh_C p m c cc nL s args own meth D ks A) (wd : mh_W D ks L A s.heap h H locs) {U : State} (hU : U.heap = H) (hW : s.WarmedH U.vm) : mh_Th l (mh_A L H.size) U := by
  obtain ⟨t1, t2, t3, t4⟩ := th
  have f := mh_free cx wd
  refine ⟨t1, ?_, ?_, fun q hq => ?_⟩
  · rw [hU]
    exact (vx_Zq.moved hW.alike (t2.kept wd.2.2.1.2.1)).narrow f
  · rw [hU]
    exact (vx_Zq.moved hW.alike (t3.kept wd.2.2.1.2.1)).narrow f
  · obtain ⟨sa, hs⟩ := t4 q hq
    exact ⟨sa, vk_R.warm hW hs⟩
theorem mh_xpre (th : mh_Th l A s) (cx : mh_C p m c cc nL s args own meth D ks A) (wd : mh_W D ks L A s.heap h H locs) (av : List Value) : PreS s H (va_Pc av (mh_Px l D ks L h H.size)) av :=
  ⟨mh_xblind, fun U hU hW => ⟨rfl, ((mh_pre cx wd av).2 U hU hW).2, th.go cx wd hU hW⟩⟩
theorem mh_xpreV (th : mh_Th l A s) (cx : mh_C p m c cc nL s args own meth D ks A) (wd : mh_W D ks L A s.heap h H locs) {b ci : Nat} {fs : List Value} {C : String} {T : u_T} {N : Nat} (hc : vwCl[ci]? = some (C, T, N)) (hb : h b = some (.inr (ci, fs))) (As : List Value) : PreV s H C b (va_Pc (.ref b :: As) (mh_Px l D ks L h H.size)) As :=
  ⟨mh_xblind, (mh_preV cx wd hc hb As).2.1, (mh_xpre th cx wd (.ref b :: As)).2⟩
/-- behind a call that may throw -/
theorem mh_xgo {K S : Nat} {st0 : List Value} {o : Nat ⊕ Option Value} {h1 : mh_H} {a : Array Value} (cx : mh_C p m c cc nL s args own meth D ks A) (wd : mh_W D ks L A s.heap h H locs)
    (hr : vx_Run p l e R s m args below meth c H locs cells slots K S (F0 m pc ls st0) rest (mh_Qx D ks L H.size o h1 a) (mh_XC D ks L H.size o h1) (mh_A L H.size))
    (kx : ∀ k H1 locs1 q ce, o = .inl k → mh_W D ks L A s.heap h1 H1 locs1 → H1[q]? = some ce → ce.vm = .none → s.vm.findClass (mh_EN k) = some ce.cls → vx_W p l e R s m args below meth c H1 locs1 (cells + K) (slots + S) Q (F0 m pc ls rest) q)
    (kk : ∀ v H1 locs1, o = .inr v → mh_W D ks L A s.heap h1 H1 locs1 → W p l e R s m args below meth c H1 locs1 (cells + K) (slots + S) Q (F0 m (pc + 3) ls (v.toList ++ rest))) : W p l e R s m args below meth c H locs cells slots Q (F0 m pc ls st0) := by
  intro T hT X
  have hf := mh_free cx wd
  rcases hr T hT X with ⟨v, st₀, t, T', L', h0, X', hL, e1, e2, ⟨⟨v', hv, ho, hB⟩, hF⟩, st⟩ | ⟨q, st₀, t, T', L', E, ce, h0, X', hL, e1, e2, ⟨⟨k, ho, hE⟩, hB, hF⟩, hce, hcv, hcl, st⟩
  · cases hv
    obtain ⟨k1, k2, k3⟩ := vx_keep h0 e1 wd.2.2.1 (fun q _ h => hf q h) hf hL hF
    obtain ⟨t2, a1, b1⟩ := kk v T'.heap (locs ++ L') ho (mh_back (u := ()) cx wd e1.symm hB k3) T' rfl X'
    exact ⟨t2, st t2 a1, b1⟩
  · obtain ⟨k1, k2, k3⟩ := vx_keep h0 e1 wd.2.2.1 (fun q _ h => hf q h) hf hL hF
    subst hE
    obtain ⟨t2, a1, b1⟩ := kx k T'.heap (locs ++ L') q ce ho (mh_back (u := ()) cx wd e1.symm hB k3) (by rw [e1]; exact hce) hcv hcl T' rfl X'
    exact ⟨t2, st.trans a1, b1⟩
theorem mh_xout {mc ms k : Nat} {r : Nat ⊕ Option Value} {Qc : Array Value → State → Outcome → State → Prop} {q : Addr} {ce : Cell} (cx : mh_C p m c cc nL s args own meth D ks (mh_A L s.heap.size)) (ht : ∀ x ∈ c.exceptionTable.toList, False) (wd : mh_W D ks L (mh_A L s.heap.size) s.heap h H locs) (hr : r = .inl k) (hq : H[q]? = some ce) (hv : ce.vm = .none) (hcl : s.vm.findClass (mh_EN k) = some ce.cls) (hc : cells ≤ mc) (hs : slots ≤ ms) :
    vx_W p l e R s m args below meth c H locs cells slots (vx_MQ below Qc (mh_XC D ks L s.heap.size r h) args s mc ms (mh_A L s.heap.size)) (F0 m pc ls rest) q :=
  vx_out (fun x hx => (ht x hx).elim) cx.2.2.1 hq hv hcl (fun t ht2 hvm => ⟨⟨k, hr, rfl⟩, ⟨by rw [ht2]; exact wd.1, va_K.moved hvm cx.2.1, wd.2.1, wd.2.2.2⟩, wd.2.2.1.F ht2⟩) wd.2.2.1.2.2 hc hs
/-- a call of an own method that may throw, in a method that lets it pass -/
theorem mh_xV {α β : Type} (ea : α → Option Value) (eb : β → Option Value) {y : MethodName} {bytes : ByteArray} {maxL n index b ci d K mc : Nat} {ret : Option FieldType} {C : String} {T : u_T} {N : Nat} (As : List Value) {st0 : List Value} {o : Option ((Nat ⊕ α) × mh_H)} {f : α → mh_H → Option ((Nat ⊕ β) × mh_H)} {r : Nat ⊕ β} {h' : mh_H} {Qc : Array Value → State → Outcome → State → Prop}
    (cx : mh_C p m c cc nL s args own meth D ks (mh_A L s.heap.size)) (th : mh_Th l (mh_A L s.heap.size) s) (ht : ∀ x ∈ c.exceptionTable.toList, False) (wd : mh_W D ks L (mh_A L s.heap.size) s.heap h H locs)
    (hc : vwCl[ci]? = some (C, T, N)) (Y : mh_Yw y bytes maxL ret n) (V : mh_Vw own index C y) (hn : As.length = n) (hsize : ls.size = nL) (hst : st0 = As.reverse ++ .ref b :: rest) (hW : (rest.map fun v => v.category).sum ≤ 8) (hdg : decode cc pc = .ok (.invokevirtual index, 3)) (hR : d + 1 ≤ R.frames ∧ 8 + (maxL + 11) + 40 * d ≤ R.locals) (hf : cells + K ≤ R.cells ∧ slots + 6 * K ≤ R.slots) (hm : cells + K ≤ mc ∧ slots + 6 * K ≤ 6 * mc)
    (hM : ∀ r h', o = some (r, h') → mh_Mx l y (Cond.code y bytes maxL ret :: mh_TB) (mh_rx d K) (.ref b :: As) L h (mh_em ea r) h' K (6 * K)) (hX : mh_bx (mh_cal h b ci o) f = some (r, h'))
    (kk : ∀ x h1 H locs, mh_W D ks L (mh_A L s.heap.size) s.heap h1 H locs → f x h1 = some (r, h') → W p l e R s m args below meth c H locs (cells + K) (slots + 6 * K) (vx_MQ below Qc (mh_XC D ks L s.heap.size (mh_em eb r) h') args s mc (6 * mc) (mh_A L s.heap.size)) (F0 m (pc + 3) ls ((ea x).toList ++ rest))) : W p l e R s m args below meth c H locs cells slots (vx_MQ below Qc (mh_XC D ks L s.heap.size (mh_em eb r) h') args s mc (6 * mc) (mh_A L s.heap.size)) (F0 m pc ls st0) := by
  have key : ∀ (r0 : Nat ⊕ α) (h1 : mh_H), mh_cal h b ci o = some (r0, h1) → vx_Run p l e R s m args below meth c H locs cells slots K (6 * K) (F0 m pc ls st0) rest (mh_Qx D ks L H.size (mh_em ea r0) h1 (Value.ref b :: As).toArray) (mh_XC D ks L H.size (mh_em ea r0) h1) (mh_A L H.size) := by
    intro r0 h1 e1
    obtain ⟨⟨fs, hb0⟩, e2⟩ := mh_cal_ok e1
    exact vx_runV cx.1 (hM r0 h1 e2 D ks H.size) ⟨mh_cb cx (rm := mh_rx d K) Y V.1 hR, cx.1.2.2.2.2 _ V.2.1, cx.1.2.2.2.2 _ V.2.2⟩ (mh_xpreV th cx wd hc hb0 As) rfl hn hsize hst (lv_room hW) hdg hf
  rcases mh_obx hX with ⟨k, g, e1, e2⟩ | ⟨x, g, e1, e2⟩
  · cases e2
    exact mh_xgo cx wd (key _ _ e1) (fun k2 H1 locs1 q ce hk wd1 hq hv hcl => mh_xout cx ht wd1 hk hq hv hcl hm.1 hm.2) (fun v H1 locs1 hv => by cases hv)
  · exact mh_xgo cx wd (key _ _ e1) (fun k2 H1 locs1 q ce hk => by cases hk) (fun v H1 locs1 hv wd1 => by cases hv; exact kk x g H1 locs1 wd1 e2)
theorem mh_xS {α β : Type} (ea : α → Option Value) (eb : β → Option Value) {y : MethodName} {bytes : ByteArray} {maxL n index d K mc : Nat} {ret : Option FieldType} (As : List Value) {st0 : List Value} {o : Option ((Nat ⊕ α) × mh_H)} {f : α → mh_H → Option ((Nat ⊕ β) × mh_H)} {r : Nat ⊕ β} {h' : mh_H} {Qc : Array Value → State → Outcome → State → Prop}
    (cx : mh_C p m c cc nL s args own meth D ks (mh_A L s.heap.size)) (th : mh_Th l (mh_A L s.heap.size) s) (ht : ∀ x ∈ c.exceptionTable.toList, False) (wd : mh_W D ks L (mh_A L s.heap.size) s.heap h H locs)
    (Y : mh_Yw y bytes maxL ret n) (V : mh_Sw own index y) (hn : As.length = n) (hsize : ls.size = nL) (hst : st0 = As.reverse ++ rest) (hW : (rest.map fun v => v.category).sum ≤ 8) (hdg : decode cc pc = .ok (.invokestatic index, 3)) (hR : d + 1 ≤ R.frames ∧ 8 + (maxL + 11) + 40 * d ≤ R.locals) (hf : cells + K ≤ R.cells ∧ slots + 6 * K ≤ R.slots) (hm : cells + K ≤ mc ∧ slots + 6 * K ≤ 6 * mc)
    (hM : ∀ r h', o = some (r, h') → mh_Mx l y (Cond.code y bytes maxL ret :: mh_TB) (mh_rx d K) As L h (mh_em ea r) h' K (6 * K)) (hX : mh_bx o f = some (r, h'))
    (kk : ∀ x h1 H locs, mh_W D ks L (mh_A L s.heap.size) s.heap h1 H locs → f x h1 = some (r, h') → W p l e R s m args below meth c H locs (cells + K) (slots + 6 * K) (vx_MQ below Qc (mh_XC D ks L s.heap.size (mh_em eb r) h') args s mc (6 * mc) (mh_A L s.heap.size)) (F0 m (pc + 3) ls ((ea x).toList ++ rest))) : W p l e R s m args below meth c H locs cells slots (vx_MQ below Qc (mh_XC D ks L s.heap.size (mh_em eb r) h') args s mc (6 * mc) (mh_A L s.heap.size)) (F0 m pc ls st0) := by
  have key : ∀ (r0 : Nat ⊕ α) (h1 : mh_H), o = some (r0, h1) → vx_Run p l e R s m args below meth c H locs cells slots K (6 * K) (F0 m pc ls st0) rest (mh_Qx D ks L H.size (mh_em ea r0) h1 As.toArray) (mh_XC D ks L H.size (mh_em ea r0) h1) (mh_A L H.size) := by
    intro r0 h1 e2
    exact vx_runS cx.1 (hM r0 h1 e2 D ks H.size) ⟨mh_cb cx (rm := mh_rx d K) Y V.1 hR, cx.1.2.2.2.2 _ V.2⟩ (mh_xpre th cx wd As) rfl hn hsize hst (lv_room hW) hdg hf
  rcases mh_obx hX with ⟨k, g, e1, e2⟩ | ⟨x, g, e1, e2⟩
  · cases e2
    exact mh_xgo cx wd (key _ _ e1) (fun k2 H1 locs1 q ce hk wd1 hq hv hcl => mh_xout cx ht wd1 hk hq hv hcl hm.1 hm.2) (fun v H1 locs1 hv => by cases hv)
  · exact mh_xgo cx wd (key _ _ e1) (fun k2 H1 locs1 q ce hk => by cases hk) (fun v H1 locs1 hv wd1 => by cases hv; exact kk x g H1 locs1 wd1 e2)
/-! returns of such methods -/
theorem mh_xend (cx : mh_C p m c cc nL s args own meth D ks (mh_A L s.heap.size)) (wd : mh_W D ks L (mh_A L s.heap.size) s.heap h H locs) {a : Array Value} {t : State} (ht : t.heap = H) (hW : s.WarmedH t.vm) (v : Option Value) : mh_Qx D ks L s.heap.size (.inr v) h a s (.returned v) t :=
  ⟨⟨v, rfl, rfl, (mh_end cx wd ht hW).1⟩, (mh_end cx wd ht hW).2⟩
theorem mh_xiret {mc ms : Nat} {XC : String → State → State → Prop} (cx : mh_C p m c cc nL s args own meth D ks (mh_A L s.heap.size)) (wd : mh_W D ks L (mh_A L s.heap.size) s.heap h H locs) (hr : meth.sig.returnType = some .int) {x : Int32} {r : Nat ⊕ Int32} {h' : mh_H} (hX : some (Sum.inr x, h) = some (r, h')) (hdg : decode cc pc = .ok (.ireturn, 1)) (hm : cells ≤ mc ∧ slots ≤ ms) :
    W p l e R s m args below meth c H locs cells slots (vx_MQ below (mh_Qx D ks L s.heap.size (mh_em mh_eI r) h') XC args s mc ms (mh_A L s.heap.size)) (F0 m pc ls [.int x]) := by
  cases hX
  refine vx_ret (W.widen (k := mc) (n := ms) hm.1 hm.2 ?_)
  exact W.iret (hlocks := cx.2.2.1) cx.1.1 cx.1.2.1 hr (fun t ht hW => mh_xend cx wd ht hW _) wd.2.2.1.2.2 hdg
theorem mh_xzret {mc ms : Nat} {XC : String → State → State → Prop} (cx : mh_C p m c cc nL s args own meth D ks (mh_A L s.heap.size)) (wd : mh_W D ks L (mh_A L s.heap.size) s.heap h H locs) (hr : meth.sig.returnType = some .boolean) {x : Int32} {r : Nat ⊕ Int32} {h' : mh_H} (hX : mh_rzx x h = some (r, h')) (hdg : decode cc pc = .ok (.ireturn, 1)) (hm : cells ≤ mc ∧ slots ≤ ms) :
    W p l e R s m args below meth c H locs cells slots (vx_MQ below (mh_Qx D ks L s.heap.size (mh_em mh_eI r) h') XC args s mc ms (mh_A L s.heap.size)) (F0 m pc ls [.int x]) := by
  obtain ⟨hz, hX⟩ := mh_rzx_ok hX
  cases hX
  refine vx_ret (W.widen (k := mc) (n := ms) hm.1 hm.2 ?_)
  exact W.zret (hlocks := cx.2.2.1) cx.1.1 cx.1.2.1 hr (by rcases hz with rfl | rfl <;> decide) (fun t ht hW => mh_xend cx wd ht hW _) wd.2.2.1.2.2 hdg
theorem mh_xlret {mc ms : Nat} {XC : String → State → State → Prop} (cx : mh_C p m c cc nL s args own meth D ks (mh_A L s.heap.size)) (wd : mh_W D ks L (mh_A L s.heap.size) s.heap h H locs) (hr : meth.sig.returnType = some .long) {x : Int64} {r : Nat ⊕ Int64} {h' : mh_H} (hX : some (Sum.inr x, h) = some (r, h')) (hdg : decode cc pc = .ok (.lreturn, 1)) (hm : cells ≤ mc ∧ slots ≤ ms) :
    W p l e R s m args below meth c H locs cells slots (vx_MQ below (mh_Qx D ks L s.heap.size (mh_em mh_eJ r) h') XC args s mc ms (mh_A L s.heap.size)) (F0 m pc ls [.long x]) := by
  cases hX
  refine vx_ret (W.widen (k := mc) (n := ms) hm.1 hm.2 ?_)
  exact W.lret (hlocks := cx.2.2.1) cx.1.1 cx.1.2.1 hr (fun t ht hW => mh_xend cx wd ht hW _) wd.2.2.1.2.2 hdg
theorem mh_xvret {mc ms : Nat} {XC : String → State → State → Prop} (cx : mh_C p m c cc nL s args own meth D ks (mh_A L s.heap.size)) (wd : mh_W D ks L (mh_A L s.heap.size) s.heap h H locs) (hr : meth.sig.returnType = none) {r : Nat ⊕ Unit} {h' : mh_H} (hX : some (Sum.inr (), h) = some (r, h')) (hdg : decode cc pc = .ok (.return_, 1)) (hm : cells ≤ mc ∧ slots ≤ ms) :
    W p l e R s m args below meth c H locs cells slots (vx_MQ below (mh_Qx D ks L s.heap.size (mh_em mh_eV r) h') XC args s mc ms (mh_A L s.heap.size)) (F0 m pc ls []) := by
  cases hX
  refine vx_ret (W.widen (k := mc) (n := ms) hm.1 hm.2 ?_)
  exact W.vret (hlocks := cx.2.2.1) cx.1.1 cx.1.2.1 hr (fun t ht hW => mh_xend cx wd ht hW _) wd.2.2.1.2.2 hdg
theorem mh_xaret {mc ms : Nat} {XC : String → State → State → Prop} (cx : mh_C p m c cc nL s args own meth D ks (mh_A L s.heap.size)) (wd : mh_W D ks L (mh_A L s.heap.size) s.heap h H locs) {rt : FieldType} (hr : meth.sig.returnType = some rt) (hrt : (∃ n, rt = .object n) ∨ ∃ t, rt = .array t) {x : Nat} {r : Nat ⊕ Nat} {h' : mh_H} (hX : some (Sum.inr x, h) = some (r, h')) (hdg : decode cc pc = .ok (.areturn, 1)) (hm : cells ≤ mc ∧ slots ≤ ms) :
    W p l e R s m args below meth c H locs cells slots (vx_MQ below (mh_Qx D ks L s.heap.size (mh_em mh_eR r) h') XC args s mc ms (mh_A L s.heap.size)) (F0 m pc ls [.ref x]) := by
  cases hX
  refine vx_ret (W.widen (k := mc) (n := ms) hm.1 hm.2 ?_)
  exact W.aret (hlocks := cx.2.2.1) cx.1.1 cx.1.2.1 hr hrt (Or.inr ⟨x, rfl⟩) (fun t ht hW => mh_xend cx wd ht hW _) wd.2.2.1.2.2 hdg
end MhX
