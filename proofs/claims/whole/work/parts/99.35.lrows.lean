/-! rows of the law's own body -/
theorem mh_tblind {l : Launch} {D : va_G} {ks : Nat → ClassId} {L : List Nat} {h : mh_H} {sz : Nat} {av : List Value} : FrameBlind (va_Pc av (mh_Pt l D ks L h sz)) := fun a U g mk q => by
  obtain ⟨q0, q1, q2⟩ := q
  exact ⟨q0, (mh_xblind (av := av) a U g mk ⟨q0, q1⟩).2, va_Nc.moved (u := U) (U := U.calling g mk a) (Vm.Alike.refl U.vm) q2⟩
section MhLaw
variable {p : Program} {l : Launch} {e : Env} {R : Room} {s : State} {m : MethodId} {args : Array Value} {below : List Frame} {meth : Method} {c : Code} {H : Heap} {locs : List Loc} {cells slots : Nat} {Q : State → Prop}
variable {cc : ByteArray} {pc nL : Nat} {ls : Array Slot} {rest : List Value} {D : va_G} {ks : Nat → ClassId} {L : List Nat} {A : Nat → Prop} {own : String} {h : mh_H} {α : Type} {Rz : α}
theorem mh_tpre (th : mh_Th l A s) (nc : mh_Nc s) (cx : mh_C p m c cc nL s args own meth D ks A) (wd : mh_W D ks L A s.heap h H locs) (av : List Value) : PreS s H (va_Pc av (mh_Pt l D ks L h H.size)) av :=
  ⟨mh_tblind, fun U hU hW => ⟨rfl, ((mh_xpre th cx wd av).2 U hU hW).2, va_Nc.moved hW.alike nc⟩⟩
def mh_Yx (y : MethodName) (bytes : ByteArray) (maxL : Nat) (hh : List (Nat × Nat × Nat × Nat)) (n : Nat) : Prop := Cond.initialized y.cls ∈ mh_TB ∧ Cond.codeWith y bytes maxL (some .int) hh ∈ mh_TB ∧ y.cls ≠ "java/lang/invoke/MethodHandle" ∧ y.cls ≠ "java/lang/invoke/VarHandle" ∧ (parseMethodDescriptor y.desc).map (fun d => d.parameters.length) = some n
/-- a wrapper is called -/
theorem mh_wS (cx : mh_C p m c cc nL s args own meth D ks A) (th : mh_Th l A s) (nc : mh_Nc s) (wd : mh_W D ks L A s.heap h H locs) {y : MethodName} {bytes : ByteArray} {maxL n index d K : Nat} {hh : List (Nat × Nat × Nat × Nat)} (As : List Value) {st0 : List Value} {o : Option (Int32 × mh_H)} {f : Int32 → mh_H → Option α}
    (Y : mh_Yx y bytes maxL hh n) (V : mh_Sw own index y) (hn : As.length = n) (hsize : ls.size = nL) (hst : st0 = As.reverse ++ rest) (hW : (rest.map fun v => v.category).sum ≤ 8) (hdg : decode cc pc = .ok (.invokestatic index, 3)) (hR : d + 1 ≤ R.frames ∧ 8 + (maxL + 11) + 40 * d ≤ R.locals) (hf : cells + K ≤ R.cells ∧ slots + 6 * K ≤ R.slots)
    (hM : ∀ r h', o = some (r, h') → mh_Mt l y (Cond.codeWith y bytes maxL (some .int) hh :: mh_TB) (mh_rx d K) As L h r h' K (6 * K)) (hX : mh_b2 o f = some Rz)
    (kk : ∀ r h' H locs, mh_W D ks L A s.heap h' H locs → f r h' = some Rz → W p l e R s m args below meth c H locs (cells + K) (slots + 6 * K) Q (F0 m (pc + 3) ls (.int r :: rest))) : W p l e R s m args below meth c H locs cells slots Q (F0 m pc ls st0) := by
  obtain ⟨r, h', e2, hX⟩ := mh_ob2 hX
  have cw : vx_CSW R s args own index y bytes maxL (some .int) hh (Cond.codeWith y bytes maxL (some .int) hh :: mh_TB) (mh_rx d K) K (6 * K) n := vx_cwSW n cx.1.2.2.2.2 (fun w hw => by
    have : w ∈ mh_TB := by
      unfold va_wsS at hw
      simp only [List.mem_append, List.mem_cons, List.not_mem_nil, or_false] at hw
      rcases hw with hw | hw
      · rcases hw with rfl | rfl | rfl
        all_goals first | exact V.1 | exact V.2 | exact Y.1
      · rcases hw with rfl | hw
        · exact Y.2.1
        · exact hw
    exact ⟨this, good_of_word (List.mem_filter.mp this).2⟩) rfl rfl rfl Y.2.2 hR
  refine va_calli (vx_runSW cx.1 (hM r h' e2 D ks H.size) cw (mh_tpre th nc cx wd As) rfl hn hsize hst (lv_room hW) hdg hf) wd.2.2.1 (fun q _ h => mh_free cx wd q h) (mh_free cx wd) (fun r2 u t H1 locs1 ht hvm hp hB hz hk hS1 => ?_)
  subst hp
  exact kk r2 h' H1 locs1 (mh_back (u := ()) cx wd ht hB hS1) hX
/-- an int of the script -/
def mh_sc (xs : Nat → Int32) (N : Nat) (i : Int32) : Option Int32 := if 0 ≤ i.toInt ∧ i.toInt < N then some (xs i.toNatClampNeg) else none
theorem mh_scl (cx : mh_C p m c cc nL s args own meth D ks A) (wd : mh_W D ks L A s.heap h H locs) {b N : Nat} {xs : Nat → Int32} (hS : va_X b N xs s s.heap ∧ b < s.heap.size ∧ ¬ A b) {i : Int32} {f : Int32 → Option α} (hdg : decode cc pc = .ok (.iaload, 1)) (hX : (mh_sc xs N i).bind f = some Rz)
    (kk : ∀ v, f v = some Rz → W p l e R s m args below meth c H locs cells slots Q (F0 m (pc + 1) ls (.int v :: rest))) : W p l e R s m args below meth c H locs cells slots Q (F0 m pc ls (.int i :: .ref b :: rest)) := by
  unfold mh_sc at hX
  by_cases q : 0 ≤ i.toInt ∧ i.toInt < N
  · rw [if_pos q, Option.bind_some] at hX
    refine va_sld cx.1.1 cx.1.2.1 hS.1 hS.2.1 hS.2.2 wd.2.2.1 (fun z => ?_) hdg (kk _ hX)
    rcases z with z | z
    · have := Int32.lt_iff_toInt_lt.mp z
      have e : (0 : Int32).toInt = 0 := rfl
      omega
    · have : (i.toNatClampNeg : Int) = i.toInt := by
        unfold Int32.toNatClampNeg
        omega
      omega
  · rw [if_neg q] at hX
    cases hX
end MhLaw
theorem mh_gcw : goodWord (Cond.codeWith yL_at cL_at 5 (some .int) [(0, 10, 13, 13)]) = true := by decide +kernel
