theorem mh_keep {D : va_G} {ks : Nat → ClassId} {L : List Nat} {A : Nat → Prop} {H0 : Heap} {h : mh_H} {H H1 : Heap} {locs : List Loc} (wd : mh_W D ks L A H0 h H locs) (hz : H.size ≤ H1.size) (hk : ∀ q : Nat, q < H.size → H1[q]? = H[q]?) : va_P D vwCl (va_pl L (mh_hw ks h)) H1 ∧ H0.size ≤ H1.size ∧ ∀ q : Nat, q < H0.size → ¬ A q → H1[q]? = H0[q]? :=
  ⟨fun k q hq => (wd.1 k q hq).kept (hk q.1 (wd.1 k q hq).lt), Nat.le_trans wd.2.2.1.1 hz, fun q h1 h2 => (hk q (Nat.lt_of_lt_of_le h1 wd.2.2.1.1)).trans (wd.2.2.1.2.1 q h1 h2)⟩
/-- the words of 'throw new X(text)' in MintHouse -/
def mh_Kx (k ik ic idx : Nat) (bytes : ByteArray) : Prop :=
  (∀ w ∈ Cond.classLink RX11 ik (mh_EN k) :: Cond.initialized (mh_EN k) :: (mh_atoms RX11 ic (mh_EN k) "java/lang/RuntimeException" idx bytes ["java/lang/Exception"]).filter vx_no, w ∈ lw_tbl) ∧
  (∀ w ∈ Cond.classLink RX11 ik (mh_EN k) :: Cond.initialized (mh_EN k) :: (mh_atoms RX11 ic (mh_EN k) "java/lang/RuntimeException" idx bytes ["java/lang/Exception"]).filter vx_no, (goodWord w || mh_nest w) = true) ∧
  (∀ w ∈ Cond.classLink RX11 ik (mh_EN k) :: Cond.initialized (mh_EN k) :: (mh_atoms RX11 ic (mh_EN k) "java/lang/RuntimeException" idx bytes ["java/lang/Exception"]).filter vx_no, vx_ot w = true) ∧
  Bundle.fit (mh_EN k) = true ∧ decode bytes 0 = .ok (.aload_n 0, 1) ∧ decode bytes 1 = .ok (.aload_n 1, 1) ∧ decode bytes 2 = .ok (.invokespecial idx, 3) ∧ decode bytes 5 = .ok (.return_, 1)
theorem mh_kx1 : mh_Kx 1 271 275 13 prog_22_method_4_code := ⟨by decide +kernel, by decide +kernel, by decide +kernel, by decide +kernel, by decide +kernel, by decide +kernel, by decide +kernel, by decide +kernel⟩
theorem mh_kx2 : mh_Kx 2 188 192 7 prog_16_method_2_code := ⟨by decide +kernel, by decide +kernel, by decide +kernel, by decide +kernel, by decide +kernel, by decide +kernel, by decide +kernel, by decide +kernel⟩
section MhY
variable {p : Program} {l : Launch} {e : Env} {R : Room} {s : State} {m : MethodId} {args : Array Value} {below : List Frame} {meth : Method} {c : Code} {H : Heap} {locs : List Loc} {cells slots : Nat} {Q : State → Prop}
variable {cc : ByteArray} {pc nL : Nat} {ls : Array Slot} {rest : List Value} {D : va_G} {ks : Nat → ClassId} {L : List Nat} {h : mh_H}
theorem mh_kxw {k ik ic idx : Nat} {bytes : ByteArray} {A : Nat → Prop} (K : mh_Kx k ik ic idx bytes) (cx : mh_C p m c cc nL s args RX11 meth D ks A) : ∀ w ∈ Cond.classLink RX11 ik (mh_EN k) :: Cond.initialized (mh_EN k) :: (mh_atoms RX11 ic (mh_EN k) "java/lang/RuntimeException" idx bytes ["java/lang/Exception"]).filter vx_no, w.before args s = true := by
  intro w hw
  have h1 := K.1 w hw
  have h2 := K.2.1 w hw
  rcases Bool.or_eq_true_iff.mp h2 with h3 | h3
  · exact cx.1.2.2.2.2 _ (List.mem_filter.mpr ⟨h1, h3⟩)
  · exact mh_Zuse cx.2.2.2.2 (List.mem_filter.mpr ⟨h1, h3⟩)
theorem mh_xhx {β : Type} {eb : β → Option Value} {k : Nat} {A : Nat → Prop} (hA : A = mh_A L s.heap.size) (cx : mh_C p m c cc nL s args RX11 meth D ks A) (wd : mh_W D ks L A s.heap h H locs) (t : State) (hvm : s.vm.Alike t.vm) (hz : H.size ≤ t.heap.size) (hk : ∀ q : Nat, q < H.size → t.heap[q]? = H[q]?) : mh_XC D ks L s.heap.size (mh_em eb (.inl k)) h (mh_EN k) s t := by
  subst hA
  obtain ⟨k1, k2, k3⟩ := mh_keep wd hz hk
  exact ⟨⟨k, rfl, rfl⟩, ⟨k1, va_K.moved hvm cx.2.1, wd.2.1, wd.2.2.2⟩, k2, k3⟩
theorem mh_xthS {β : Type} (eb : β → Option Value) {k ik ic idx is mc : Nat} {bytes : ByteArray} {text : String} {r : Nat ⊕ β} {h' : mh_H} {Qc : Array Value → State → Outcome → State → Prop} (K : mh_Kx k ik ic idx bytes) (cx : mh_C p m c cc nL s args RX11 meth D ks (mh_A L s.heap.size)) (th : mh_Th l (mh_A L s.heap.size) s) (ht : ∀ x ∈ c.exceptionTable.toList, False) (wd : mh_W D ks L (mh_A L s.heap.size) s.heap h H locs) (hin : (is, text) ∈ mh_SR) (hsize : ls.size = nL)
    (d0 : decode cc pc = .ok (.new ik, 3)) (d3 : decode cc (pc + 3) = .ok (.dup, 1)) (d4 : decode cc (pc + 4) = .ok (.ldc is, 2)) (d6 : decode cc (pc + 6) = .ok (.invokespecial ic, 3)) (d9 : decode cc (pc + 9) = .ok (.athrow, 1))
    (hR : 5 < R.frames ∧ (rest.map fun v => v.category).sum + 82 ≤ R.locals) (hf : cells + 1 ≤ R.cells ∧ slots + 6 ≤ R.slots) (hm : cells + 1 ≤ mc ∧ slots + 6 ≤ 6 * mc) (hX : some (Sum.inl k, h) = some (r, h')) :
    W p l e R s m args below meth c H locs cells slots (vx_MQ below Qc (mh_XC D ks L s.heap.size (mh_em eb r) h') args s mc (6 * mc) (mh_A L s.heap.size)) (F0 m pc ls rest) := by
  cases hX
  obtain ⟨sa, hs⟩ := th.2.2.2 _ hin
  have hw := mh_kxw K cx
  exact mh_thS (A := mh_A L s.heap.size) cx.1.1 cx.1.2.1 th.1 cx.1.2.2.2.1 K.2.2.2.1 (by decide +kernel) (by decide +kernel) K.2.2.2.2.1 K.2.2.2.2.2.1 K.2.2.2.2.2.2.1 K.2.2.2.2.2.2.2 (hw _ List.mem_cons_self) (hw _ (List.mem_cons_of_mem _ List.mem_cons_self)) hs (fun w hw2 => hw w (List.mem_cons_of_mem _ (List.mem_cons_of_mem _ hw2))) K.2.2.1 th.2.1 th.2.2.1 wd.2.2.1 (hsize.trans cx.1.2.2.1.symm) d0 d3 d4 d6 d9 (fun x hx => (ht x hx).elim) hR.1 hR.2 hf.1 hf.2 cx.2.2.1 (mh_xhx rfl cx wd) wd.2.2.1.2.2 hm.1 hm.2
theorem mh_xthW {β : Type} (eb : β → Option Value) {k ik ic idx is mc : Nat} {bytes : ByteArray} {text : String} {r : Nat ⊕ β} {h' : mh_H} {Qc : Array Value → State → Outcome → State → Prop} (K : mh_Kx k ik ic idx bytes) (cx : mh_C p m c cc nL s args RX11 meth D ks (mh_A L s.heap.size)) (th : mh_Th l (mh_A L s.heap.size) s) (ht : ∀ x ∈ c.exceptionTable.toList, False) (wd : mh_W D ks L (mh_A L s.heap.size) s.heap h H locs) (hin : (is, text) ∈ mh_SR) (hsize : ls.size = nL)
    (d0 : decode cc pc = .ok (.new ik, 3)) (d3 : decode cc (pc + 3) = .ok (.dup, 1)) (d4 : decode cc (pc + 4) = .ok (.ldc_w is, 3)) (d7 : decode cc (pc + 7) = .ok (.invokespecial ic, 3)) (d10 : decode cc (pc + 10) = .ok (.athrow, 1))
    (hR : 5 < R.frames ∧ (rest.map fun v => v.category).sum + 82 ≤ R.locals) (hf : cells + 1 ≤ R.cells ∧ slots + 6 ≤ R.slots) (hm : cells + 1 ≤ mc ∧ slots + 6 ≤ 6 * mc) (hX : some (Sum.inl k, h) = some (r, h')) :
    W p l e R s m args below meth c H locs cells slots (vx_MQ below Qc (mh_XC D ks L s.heap.size (mh_em eb r) h') args s mc (6 * mc) (mh_A L s.heap.size)) (F0 m pc ls rest) := by
  cases hX
  obtain ⟨sa, hs⟩ := th.2.2.2 _ hin
  have hw := mh_kxw K cx
  exact mh_thW (A := mh_A L s.heap.size) cx.1.1 cx.1.2.1 th.1 cx.1.2.2.2.1 K.2.2.2.1 (by decide +kernel) (by decide +kernel) K.2.2.2.2.1 K.2.2.2.2.2.1 K.2.2.2.2.2.2.1 K.2.2.2.2.2.2.2 (hw _ List.mem_cons_self) (hw _ (List.mem_cons_of_mem _ List.mem_cons_self)) hs (fun w hw2 => hw w (List.mem_cons_of_mem _ (List.mem_cons_of_mem _ hw2))) K.2.2.1 th.2.1 th.2.2.1 wd.2.2.1 (hsize.trans cx.1.2.2.1.symm) d0 d3 d4 d7 d10 (fun x hx => (ht x hx).elim) hR.1 hR.2 hf.1 hf.2 cx.2.2.1 (mh_xhx rfl cx wd) wd.2.2.1.2.2 hm.1 hm.2
end MhY
theorem mh_xof {l : Launch} {y : MethodName} {cc : ByteArray} {maxL : Nat} {ret : Option FieldType} {rm : Room} {av : List Value} {L : List Nat} {h h' : mh_H} {r : Nat ⊕ Option Value} {mc ms : Nat} (hy : plainName y.cls = true) (hav : (lg_sl av).length ≤ maxL)
    (body : ∀ (p : Program) (e : Env) (s : State) (m : MethodId) (below : List Frame) (meth : Method) (c : Code) (D : va_G) (ks : Nat → ClassId) (ls : Array Slot), meth.sig.returnType = ret → mh_C p m c cc maxL s av.toArray y.cls meth D ks (mh_A L s.heap.size) → mh_Th l (mh_A L s.heap.size) s → (∀ x ∈ c.exceptionTable.toList, False) → mh_W D ks L (mh_A L s.heap.size) s.heap h s.heap [] → lv_has ls maxL (lv_args 0 av) →
      W p l e rm s m av.toArray below meth c s.heap [] 0 0 (vx_MQ below (mh_Qx D ks L s.heap.size r h') (mh_XC D ks L s.heap.size r h') av.toArray s mc ms (mh_A L s.heap.size)) (F0 m 0 ls [])) : mh_Mx l y (Cond.code y cc maxL ret :: mh_TB) rm av L h r h' mc ms := by
  intro D ks sz
  refine vx_ofW (cc := cc) (maxL := maxL) (ret := ret) hy rfl ?_
  intro p e s m args below meth c s₁ B hml hnt hv
  obtain ⟨rfl, ⟨hsz, hP, hK, hD0, hd, hZ⟩, hT⟩ := hv
  subst hsz
  have hts := atoms_spec (ws := Cond.code y cc maxL ret :: mh_TB) B.pre
  have hown : s.vm.findClass y.cls = some m.cls := findClass_of_methodNamed B.named
  have hl := lv_entry av (n := maxL) hav
  rw [lg_entry_eq]
  refine body p e s m below meth c D ks _ B.returns ⟨⟨B.exec, B.bytes, hml, hown, fun w hw => hts w (List.mem_cons_of_mem _ hw)⟩, hK, B.notSynchronized, fun q hq => Or.inr hq, hZ⟩ hT hnt ⟨hP, ⟨hD0.1, fun k q hk => Or.inl ?_⟩, va_S.rf, hd⟩ hl
  have hk2 := List.mem_of_getElem? hk
  unfold va_pl at hk2
  obtain ⟨a, ha, rfl⟩ := List.mem_map.mp hk2
  exact ha
