/-! the law's wrappers: a call that may throw, caught by the wrapper's own table -/
def mh_Nc (U : State) : Prop := va_Nc (mh_EN 2) (mh_EN 1) U
def mh_Pt (l : Launch) (D : va_G) (ks : Nat → ClassId) (L : List Nat) (h : mh_H) (sz : Nat) (U : State) : Prop := mh_Px l D ks L h sz U ∧ mh_Nc U
def mh_Mt (l : Launch) (y : MethodName) (ws : List Cond) (rm : Room) (av : List Value) (L : List Nat) (h : mh_H) (r : Int32) (h' : mh_H) (mc ms : Nat) : Prop := ∀ D ks sz, Met l y ws rm (va_Pc av (mh_Pt l D ks L h sz)) (mh_Qi D ks L sz r h') mc ms (mh_A L sz)
def mh_bc {α β : Type} (o : Option ((Nat ⊕ α) × mh_H)) (fx : Nat → mh_H → Option β) (f : α → mh_H → Option β) : Option β := match o with
  | some (.inl k, h) => fx k h
  | some (.inr x, h) => f x h
  | none => none
theorem mh_obc {α β : Type} {o : Option ((Nat ⊕ α) × mh_H)} {fx : Nat → mh_H → Option β} {f : α → mh_H → Option β} {r : β} (h : mh_bc o fx f = some r) : (∃ k g, o = some (.inl k, g) ∧ fx k g = some r) ∨ ∃ x g, o = some (.inr x, g) ∧ f x g = some r := by
  cases o with
  | none => cases h
  | some q =>
    obtain ⟨q, g⟩ := q
    cases q with
    | inl k => exact Or.inl ⟨k, g, rfl, h⟩
    | inr x => exact Or.inr ⟨x, g, rfl, h⟩
section MhWrap
variable {p : Program} {l : Launch} {e : Env} {R : Room} {s : State} {m : MethodId} {args : Array Value} {below : List Frame} {meth : Method} {c : Code} {H : Heap} {locs : List Loc} {cells slots : Nat} {Q : State → Prop}
variable {cc : ByteArray} {pc nL : Nat} {ls : Array Slot} {rest : List Value} {D : va_G} {ks : Nat → ClassId} {L : List Nat} {A : Nat → Prop} {own : String} {h : mh_H} {β : Type} {Rz : β}
theorem mh_xc {α : Type} (ea : α → Option Value) {y : MethodName} {bytes : ByteArray} {maxL n index b ci d K : Nat} {ret : Option FieldType} {C : String} {T : u_T} {N : Nat} (As : List Value) {st0 : List Value} {o : Option ((Nat ⊕ α) × mh_H)} {fx : Nat → mh_H → Option β} {f : α → mh_H → Option β}
    (cx : mh_C p m c cc nL s args own meth D ks A) (th : mh_Th l A s) (wd : mh_W D ks L A s.heap h H locs)
    (hc : vwCl[ci]? = some (C, T, N)) (Y : mh_Yw y bytes maxL ret n) (V : mh_Vw own index C y) (hn : As.length = n) (hsize : ls.size = nL) (hst : st0 = As.reverse ++ .ref b :: rest) (hW : (rest.map fun v => v.category).sum ≤ 8) (hdg : decode cc pc = .ok (.invokevirtual index, 3)) (hR : d + 1 ≤ R.frames ∧ 8 + (maxL + 11) + 40 * d ≤ R.locals) (hf : cells + K ≤ R.cells ∧ slots + 6 * K ≤ R.slots)
    (hM : ∀ r h', o = some (r, h') → mh_Mx l y (Cond.code y bytes maxL ret :: mh_TB) (mh_rx d K) (.ref b :: As) L h (mh_em ea r) h' K (6 * K)) (hX : mh_bc (mh_cal h b ci o) fx f = some Rz)
    (kx : ∀ k h1 H locs q ce, mh_W D ks L A s.heap h1 H locs → fx k h1 = some Rz → H[q]? = some ce → ce.vm = .none → s.vm.findClass (mh_EN k) = some ce.cls → vx_W p l e R s m args below meth c H locs (cells + K) (slots + 6 * K) Q (F0 m pc ls rest) q)
    (kk : ∀ x h1 H locs, mh_W D ks L A s.heap h1 H locs → f x h1 = some Rz → W p l e R s m args below meth c H locs (cells + K) (slots + 6 * K) Q (F0 m (pc + 3) ls ((ea x).toList ++ rest))) : W p l e R s m args below meth c H locs cells slots Q (F0 m pc ls st0) := by
  have key : ∀ (r0 : Nat ⊕ α) (h1 : mh_H), mh_cal h b ci o = some (r0, h1) → vx_Run p l e R s m args below meth c H locs cells slots K (6 * K) (F0 m pc ls st0) rest (mh_Qx D ks L H.size (mh_em ea r0) h1 (Value.ref b :: As).toArray) (mh_XC D ks L H.size (mh_em ea r0) h1) (mh_A L H.size) := by
    intro r0 h1 e1
    obtain ⟨⟨fs, hb0⟩, e2⟩ := mh_cal_ok e1
    exact vx_runV cx.1 (hM r0 h1 e2 D ks H.size) ⟨mh_cb cx (rm := mh_rx d K) Y V.1 hR, cx.1.2.2.2.2 _ V.2.1, cx.1.2.2.2.2 _ V.2.2⟩ (mh_xpreV th cx wd hc hb0 As) rfl hn hsize hst (lv_room hW) hdg hf
  rcases mh_obc hX with ⟨k, g, e1, e2⟩ | ⟨x, g, e1, e2⟩
  · exact mh_xgo cx wd (key _ _ e1) (fun k2 H1 locs1 q ce hk wd1 hq hv hcl => by cases hk; exact kx k g H1 locs1 q ce wd1 e2 hq hv hcl) (fun v H1 locs1 hv => by cases hv)
  · exact mh_xgo cx wd (key _ _ e1) (fun k2 H1 locs1 q ce hk => by cases hk) (fun v H1 locs1 hv wd1 => by cases hv; exact kk x g H1 locs1 wd1 e2)
theorem mh_wiret {mc ms : Nat} (cx : mh_C p m c cc nL s args own meth D ks (mh_A L s.heap.size)) (wd : mh_W D ks L (mh_A L s.heap.size) s.heap h H locs) (hr : meth.sig.returnType = some .int) {x r : Int32} {h' : mh_H} (hX : some (x, h) = some (r, h')) (hdg : decode cc pc = .ok (.ireturn, 1)) (hm : cells ≤ mc ∧ slots ≤ ms) :
    W p l e R s m args below meth c H locs cells slots (MQ below (mh_Qi D ks L s.heap.size r h') args s mc ms (mh_A L s.heap.size)) (F0 m pc ls [.int x]) := by
  cases hX
  refine W.widen (k := mc) (n := ms) hm.1 hm.2 ?_
  exact W.iret (hlocks := cx.2.2.1) cx.1.1 cx.1.2.1 hr (fun t ht hW => ⟨⟨x, (), rfl, rfl, (mh_end cx wd ht hW).1⟩, (mh_end cx wd ht hW).2⟩) wd.2.2.1.2.2 hdg
/-- the first row of the table catches NoSuchElementException -/
theorem mh_wc1 {k en hp : Nat} {suf : List ExceptionTableEntry} {q : Addr} {ce : Cell} (cx : mh_C p m c cc nL s args RL meth D ks A) (hw : Cond.classLink RL 13 (mh_EN 1) ∈ mh_TB) (hz : Cond.castable (mh_EN 1) (mh_EN 1) ∈ mh_NB) (ht : c.exceptionTable.toList = ⟨0, en, hp, 13⟩ :: suf) (hpc : pc < en) (hk : k = 1) (hq : H[q]? = some ce) (hv : ce.vm = .none) (hcl : s.vm.findClass (mh_EN k) = some ce.cls)
    (kk : W p l e R s m args below meth c H locs cells slots Q (F0 m hp ls [.ref q])) : vx_W p l e R s m args below meth c H locs cells slots Q (F0 m pc ls rest) q := by
  subst hk
  exact mh_catch1 (own := RL) (name := mh_EN 1) (E := mh_EN 1) ⟨0, en, hp, 13⟩ suf cx.1.2.2.2.1 ht (by simp [covers, hpc]) (by simp) (cx.1.2.2.2.2 _ hw) (mh_Zuse cx.2.2.2.2 hz) hq hv hcl kk
/-- the second row of the table catches IllegalArgumentException -/
theorem mh_wc2 {k en hp0 hp : Nat} {suf : List ExceptionTableEntry} {q : Addr} {ce : Cell} (cx : mh_C p m c cc nL s args RL meth D ks A) (nc : mh_Nc s) (hw1 : Cond.classLink RL 13 (mh_EN 1) ∈ mh_TB) (hw : Cond.classLink RL 19 (mh_EN 2) ∈ mh_TB) (hz : Cond.castable (mh_EN 2) (mh_EN 2) ∈ mh_NB) (ht : c.exceptionTable.toList = ⟨0, en, hp0, 13⟩ :: ⟨0, en, hp, 19⟩ :: suf) (hpc : pc < en) (hk : k = 2) (hq : H[q]? = some ce) (hv : ce.vm = .none) (hcl : s.vm.findClass (mh_EN k) = some ce.cls)
    (kk : W p l e R s m args below meth c H locs cells slots Q (F0 m hp ls [.ref q])) : vx_W p l e R s m args below meth c H locs cells slots Q (F0 m pc ls rest) q := by
  subst hk
  exact mh_catch2 (own := RL) (name := mh_EN 2) (nm := mh_EN 1) (E := mh_EN 2) ⟨0, en, hp0, 13⟩ ⟨0, en, hp, 19⟩ suf cx.1.2.2.2.1 ht (by simp [covers, hpc]) (by simp) (by simp [covers, hpc]) (by simp) (cx.1.2.2.2.2 _ hw1) nc (cx.1.2.2.2.2 _ hw) (mh_Zuse cx.2.2.2.2 hz) hq hv hcl kk
end MhWrap
theorem mh_wl1 : Cond.classLink RL 13 (mh_EN 1) ∈ mh_TB := mh_in 459 (by decide +kernel) (by decide +kernel)
theorem mh_wl2 : Cond.classLink RL 19 (mh_EN 2) ∈ mh_TB := mh_in 543 (by decide +kernel) (by decide +kernel)
theorem mh_wz1 : Cond.castable (mh_EN 1) (mh_EN 1) ∈ mh_NB := mh_nin 470 (by decide +kernel) (by decide +kernel)
theorem mh_wz2 : Cond.castable (mh_EN 2) (mh_EN 2) ∈ mh_NB := mh_nin 554 (by decide +kernel) (by decide +kernel)
theorem mh_wof {l : Launch} {y : MethodName} {cc : ByteArray} {maxL : Nat} {ret : Option FieldType} {hh : List (Nat × Nat × Nat × Nat)} {rm : Room} {av : List Value} {L : List Nat} {h h' : mh_H} {r : Int32} {mc ms : Nat} (hy : plainName y.cls = true) (hav : (lg_sl av).length ≤ maxL)
    (body : ∀ (p : Program) (e : Env) (s : State) (m : MethodId) (below : List Frame) (meth : Method) (c : Code) (D : va_G) (ks : Nat → ClassId) (ls : Array Slot), meth.sig.returnType = ret → mh_C p m c cc maxL s av.toArray y.cls meth D ks (mh_A L s.heap.size) → mh_Th l (mh_A L s.heap.size) s → mh_Nc s → c.exceptionTable.toList = tableOf hh → mh_W D ks L (mh_A L s.heap.size) s.heap h s.heap [] → lv_has ls maxL (lv_args 0 av) →
      W p l e rm s m av.toArray below meth c s.heap [] 0 0 (MQ below (mh_Qi D ks L s.heap.size r h') av.toArray s mc ms (mh_A L s.heap.size)) (F0 m 0 ls [])) : mh_Mt l y (Cond.codeWith y cc maxL ret hh :: mh_TB) rm av L h r h' mc ms := by
  intro D ks sz
  refine MetFree.of_bodyS (code := cc) (maxLocals := maxL) (ret := ret) hy ?_ ?_
  · intro args s m h hn
    obtain ⟨m9, meth, c, hn9, h1, h2, h3, h4, -, h5, h6, -⟩ := Cond.codeWith_spec (atoms_spec (ws := Cond.codeWith y cc maxL ret hh :: mh_TB) h _ List.mem_cons_self)
    cases Option.some.inj (hn9.symm.trans hn)
    exact ⟨meth, c, h1, h2, h3, h4, h5, h6⟩
  · intro p e s m args below meth c s₁ B hml hv _
    have hh0 : s₁.heap = s.heap := by rw [B.state]; rfl
    obtain ⟨rfl, ⟨⟨hsz, hP, hK, hD0, hd, hZ⟩, hT⟩, hN⟩ := hv
    subst hsz
    have hts := atoms_spec (ws := Cond.codeWith y cc maxL ret hh :: mh_TB) B.pre
    have hown : s.vm.findClass y.cls = some m.cls := findClass_of_methodNamed B.named
    have htab : c.exceptionTable.toList = tableOf hh := vx_table (x := y) B (hts _ List.mem_cons_self)
    have hl := lv_entry av (n := maxL) hav
    have K := body p e s m below meth c D ks _ B.returns ⟨⟨B.exec, B.bytes, hml, hown, fun w hw => hts w (List.mem_cons_of_mem _ hw)⟩, hK, B.notSynchronized, fun q hq => Or.inr hq, hZ⟩ hT hN htab ⟨hP, ⟨hD0.1, fun k q hk => Or.inl (by
      have hk2 := List.mem_of_getElem? hk
      unfold va_pl at hk2
      obtain ⟨a, ha, rfl⟩ := List.mem_map.mp hk2
      exact ha)⟩, va_S.rf, hd⟩ hl
    obtain ⟨t, a1, o, b1, b2, b3⟩ := K s₁ hh0 (Stand.of_body B)
    rw [← lg_entry_eq] at a1
    exact ⟨t, o, a1, b1, b2, ⟨b3.1, b3.2⟩⟩
