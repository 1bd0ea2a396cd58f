/-! constructors: calls and bodies -/
theorem mh_hru {U : State} {ty : FieldType} {c1 c2 : ClassId} (h1 : va_RA U c1 ty) (h2 : va_RA U c2 ty) : c1 = c2 := by
  cases ty with
  | object C =>
    obtain ⟨_, _, _, _, _, a⟩ := h1
    obtain ⟨_, _, _, _, _, b⟩ := h2
    rw [a] at b
    exact Option.some.inj b
  | _ =>
    exact Option.some.inj (Eq.trans (Eq.symm h1) h2)
def mh_AOA (t : FieldType) (U : State) : Prop := (Cond.arrayOver (.array t)).before #[] U = true
theorem mh_AOA.moved {t : FieldType} {u U : State} (hvm : u.vm.Alike U.vm) (h : mh_AOA t u) : mh_AOA t U := Jvm.Stand.arrayOver_alikeB hvm h
/-- what the tables say of arrays of references -/
def mh_AO (U : State) : Prop := va_AO RX1 U ∧ va_AO RX7 U ∧ mh_AOA .int U ∧ mh_AOA .long U
theorem mh_AO.moved {u U : State} (hvm : u.vm.Alike U.vm) (h : mh_AO u) : mh_AO U := ⟨h.1.moved hvm, h.2.1.moved hvm, h.2.2.1.moved hvm, h.2.2.2.moved hvm⟩
def mh_Pnw (D : va_G) (ks : Nat → ClassId) (L : List Nat) (h : mh_H) (sz : Nat) (U : State) : Prop := mh_Pw D ks L h sz U ∧ mh_AO U
def mh_Qn (D : va_G) (ks : Nat → ClassId) (L : List Nat) (sz : Nat) (Post : mh_H → Prop) : Array Value → State → Outcome → State → Prop := va_Qv (fun (u : List Nat × mh_H) => Post u.2) (fun u t => mh_Bw D ks u.1 (mh_A L sz) u.2 t) (mh_A L sz)
def mh_Mc (l : Launch) (y : MethodName) (ws : List Cond) (rm : Room) (o : Nat) (L : List Nat) (h : mh_H) (Post : mh_H → Prop) (mc ms : Nat) : Prop := ∀ D ks sz, Met l y ws rm (va_Pc [.ref o] (mh_Pnw D ks L h sz)) (mh_Qn D ks L sz Post) mc ms (mh_A L sz)
abbrev mh_rn (d K S : Nat) : Room := { frames := d, cells := K, slots := S, locals := 40 * d }
theorem mh_nblind {D : va_G} {ks : Nat → ClassId} {L : List Nat} {h : mh_H} {sz : Nat} {av : List Value} : FrameBlind (va_Pc av (mh_Pnw D ks L h sz)) := fun a U g mk q => by
  obtain ⟨q0, q1, q2⟩ := q
  exact ⟨q0, (mh_blind (av := av) a U g mk ⟨q0, q1⟩).2, mh_AO.moved (u := U) (U := U.calling g mk a) (Vm.Alike.refl U.vm) q2⟩
section MhCt
variable {p : Program} {l : Launch} {e : Env} {R : Room} {s : State} {m : MethodId} {args : Array Value} {below : List Frame} {meth : Method} {c : Code} {H : Heap} {locs : List Loc} {cells slots : Nat} {Q : State → Prop}
variable {cc : ByteArray} {pc nL : Nat} {ls : Array Slot} {rest : List Value} {D : va_G} {ks : Nat → ClassId} {L : List Nat} {A : Nat → Prop} {own : String} {h : mh_H}
theorem mh_npre (ao : mh_AO s) (cx : mh_C p m c cc nL s args own meth D ks A) (wd : mh_W D ks L A s.heap h H locs) (av : List Value) : PreS s H (va_Pc av (mh_Pnw D ks L h H.size)) av :=
  ⟨mh_nblind, fun U hU hW => ⟨rfl, ((mh_pre cx wd av).2 U hU hW).2, ao.moved hW.alike⟩⟩
theorem mh_backn {u : List Nat × mh_H} {t : State} {H1 : Heap} {locs1 : List Loc} (cx : mh_C p m c cc nL s args own meth D ks A) (wd : mh_W D ks L A s.heap h H locs) (ht : t.heap = H1) (hB : mh_Bw D ks u.1 (mh_A L H.size) u.2 t) (hS1 : va_S A s.heap H1 locs1) : mh_W D ks u.1 A s.heap u.2 H1 locs1 := by
  obtain ⟨hP1, -, hD1, hd1⟩ := hB
  rw [ht] at hP1
  exact ⟨hP1, hD1.weaken (fun _ q _ hq => mh_free cx wd q.1 hq), hS1, hd1⟩
/-- a nest mate's constructor is called -/
theorem mh_callC (cx : mh_C p m c cc nL s args own meth D ks A) (ao : mh_AO s) (wd : mh_W D ks L A s.heap h H locs) {y : MethodName} {bytes : ByteArray} {maxL index d K S b : Nat} {host : String} {Post : mh_H → Prop}
    (Y : mh_Yw y bytes maxL none 0) (hy1 : y.name = "<init>") (V1 : Cond.methodLinkNest own index y host ∈ mh_NB) (V2 : Cond.instanceMethod y ∈ mh_TB) (hsize : ls.size = nL) (hW : (rest.map fun v => v.category).sum ≤ 8) (hdg : decode cc pc = .ok (.invokespecial index, 3)) (hR : d + 1 ≤ R.frames ∧ 8 + (maxL + 11) + 40 * d ≤ R.locals) (hf : cells + K ≤ R.cells ∧ slots + S ≤ R.slots)
    (hM : mh_Mc l y (Cond.code y bytes maxL none :: mh_TB) (mh_rn d K S) b L h Post K S)
    (kk : ∀ L' h' H locs, Post h' → mh_W D ks L' A s.heap h' H locs → W p l e R s m args below meth c H locs (cells + K) (slots + S) Q (F0 m (pc + 3) ls rest)) : W p l e R s m args below meth c H locs cells slots Q (F0 m pc ls (.ref b :: rest)) := by
  refine va_callv (va_runIN (As := []) (b := b) (host := host) cx.1 (hM D ks H.size) ⟨va_cnB (ws' := mh_TB) 0 cx.1.2.2.2.2 (mh_gc Y.2.1) rfl rfl rfl (cx.2.2.2.2 _ V1) (cx.1.2.2.2.2 _ Y.1) Y.2.2 hR, hy1, cx.1.2.2.2.2 _ V2⟩ (mh_npre ao cx wd [.ref b]) rfl rfl hsize rfl (lv_room hW) hdg hf) wd.2.2.1 (fun q _ h => mh_free cx wd q h) (mh_free cx wd) (fun u t H1 locs1 ht hvm hp hB hz hk hS1 => ?_)
  exact kk u.1 u.2 H1 locs1 hp (mh_backn cx wd ht hB hS1)
/-- a constructor is called -/
theorem mh_callD (cx : mh_C p m c cc nL s args own meth D ks A) (ao : mh_AO s) (wd : mh_W D ks L A s.heap h H locs) {y : MethodName} {bytes : ByteArray} {maxL index d K S b : Nat} {Post : mh_H → Prop}
    (Y : mh_Yw y bytes maxL none 0) (hy1 : y.name = "<init>") (V1 : Cond.methodLink own index y ∈ mh_TB) (V2 : Cond.instanceMethod y ∈ mh_TB) (hsize : ls.size = nL) (hW : (rest.map fun v => v.category).sum ≤ 8) (hdg : decode cc pc = .ok (.invokespecial index, 3)) (hR : d + 1 ≤ R.frames ∧ 8 + (maxL + 11) + 40 * d ≤ R.locals) (hf : cells + K ≤ R.cells ∧ slots + S ≤ R.slots)
    (hM : mh_Mc l y (Cond.code y bytes maxL none :: mh_TB) (mh_rn d K S) b L h Post K S)
    (kk : ∀ L' h' H locs, Post h' → mh_W D ks L' A s.heap h' H locs → W p l e R s m args below meth c H locs (cells + K) (slots + S) Q (F0 m (pc + 3) ls rest)) : W p l e R s m args below meth c H locs cells slots Q (F0 m pc ls (.ref b :: rest)) := by
  refine va_callv (va_runI (As := []) (b := b) cx.1 (hM D ks H.size) ⟨mh_cb cx (rm := mh_rn d K S) Y V1 hR, hy1, cx.1.2.2.2.2 _ V2⟩ (mh_npre ao cx wd [.ref b]) rfl rfl hsize rfl (lv_room hW) hdg hf) wd.2.2.1 (fun q _ h => mh_free cx wd q h) (mh_free cx wd) (fun u t H1 locs1 ht hvm hp hB hz hk hS1 => ?_)
  exact kk u.1 u.2 H1 locs1 hp (mh_backn cx wd ht hB hS1)
/-- a constructor's end -/
theorem mh_cret {K S : Nat} {L0 L' : List Nat} {h' : mh_H} {Post : mh_H → Prop} (cx : mh_C p m c cc nL s args own meth D ks (mh_A L0 s.heap.size)) (wd : mh_W D ks L' (mh_A L0 s.heap.size) s.heap h' H locs) (hr : meth.sig.returnType = none) (hP : Post h') (hdg : decode cc pc = .ok (.return_, 1)) (hm : cells ≤ K ∧ slots ≤ S) :
    W p l e R s m args below meth c H locs cells slots (MQ below (mh_Qn D ks L0 s.heap.size Post) args s K S (mh_A L0 s.heap.size)) (F0 m pc ls []) := by
  refine W.widen (k := K) (n := S) hm.1 hm.2 ?_
  exact W.vret (hlocks := cx.2.2.1) cx.1.1 cx.1.2.1 hr (fun t ht hW => ⟨⟨(L', h'), rfl, hP, ⟨by rw [ht]; exact wd.1, va_K.moved hW.alike cx.2.1, wd.2.1, wd.2.2.2⟩⟩, wd.2.2.1.F ht⟩) wd.2.2.1.2.2 hdg
/-- java.lang.Object's constructor -/
theorem mh_obj (cx : mh_C p m c cc nL s args own meth D ks A) {index a : Nat} (w1 : Cond.methodLink own index Lib.objectInit ∈ mh_TB) (w2 : Cond.instanceMethod Lib.objectInit ∈ mh_TB) (w3 : Cond.code Lib.objectInit ⟨#[0xb1]⟩ 1 none ∈ mh_TB) (hsize : ls.size = nL) (hdg : decode cc pc = .ok (.invokespecial index, 3)) (hR : 1 ≤ R.frames ∧ 12 ≤ R.locals)
    (kk : W p l e R s m args below meth c H locs cells slots Q (F0 m (pc + 3) ls [])) : W p l e R s m args below meth c H locs cells slots Q (F0 m pc ls [.ref a]) := by
  obtain ⟨⟨hx, hb, hml, ho, hts⟩, -⟩ := cx
  exact W.objInit hx hb ho (hts _ w1) (hts _ w2) (hts _ w3) rfl (hsize.trans hml.symm) rfl hdg hR.1 hR.2 kk
end MhCt
/-- a constructor out of its body -/
theorem mh_ofC {l : Launch} {y : MethodName} {cc : ByteArray} {maxL : Nat} {rm : Room} {o : Nat} {L : List Nat} {h : mh_H} {Post : mh_H → Prop} {mc ms : Nat} (hy : plainFor y = true) (hi : y.name = "<init>") (hav : (lg_sl [Value.ref o]).length ≤ maxL)
    (body : ∀ (p : Program) (e : Env) (s : State) (m : MethodId) (below : List Frame) (meth : Method) (c : Code) (D : va_G) (ks : Nat → ClassId) (ls : Array Slot), meth.sig.returnType = none → meth.name = "<init>" → mh_AO s → mh_C p m c cc maxL s [Value.ref o].toArray y.cls meth D ks (mh_A L s.heap.size) → mh_W D ks L (mh_A L s.heap.size) s.heap h s.heap [] → lv_has ls maxL [(0, .ref o)] →
      W p l e rm s m [Value.ref o].toArray below meth c s.heap [] 0 0 (MQ below (mh_Qn D ks L s.heap.size Post) [Value.ref o].toArray s mc ms (mh_A L s.heap.size)) (F0 m 0 ls [])) : mh_Mc l y (Cond.code y cc maxL none :: mh_TB) rm o L h Post mc ms := by
  intro D ks sz
  refine mh_ofF (cc := cc) (maxL := maxL) (ret := none) hy rfl ?_
  intro p e s m args below meth c s₁ B hml hv
  obtain ⟨rfl, ⟨hsz, hP, hK, hD0, hd, hZ⟩, hao⟩ := hv
  subst hsz
  have hts := atoms_spec (ws := Cond.code y cc maxL none :: mh_TB) B.pre
  have hown : s.vm.findClass y.cls = some m.cls := findClass_of_methodNamed B.named
  have hin : meth.name = "<init>" := (name_of_methodNamed B.named B.method).1.trans hi
  have hl := lv_entry [Value.ref o] (n := maxL) hav
  rw [lg_entry_eq]
  refine body p e s m below meth c D ks _ B.returns hin hao ⟨⟨B.exec, B.bytes, hml, hown, fun w hw => hts w (List.mem_cons_of_mem _ hw)⟩, hK, B.notSynchronized, fun q hq => Or.inr hq, hZ⟩ ⟨hP, ⟨hD0.1, fun k q hk => Or.inl ?_⟩, va_S.rf, hd⟩ hl
  have hk2 := List.mem_of_getElem? hk
  unfold va_pl at hk2
  obtain ⟨a, ha, rfl⟩ := List.mem_map.mp hk2
  exact ha
