/-! constructors: cells come new, at addresses that the heap did not have -/
theorem mh_ext {D : va_G} {ks : Nat → ClassId} {L : List Nat} {A : Nat → Prop} {H0 : Heap} {h : mh_H} {H1 : Heap} {locs : List Loc} {q : Nat} {e : mh_E} (hd : ∀ a e, h a = some e → a ∈ L) (hP : va_P D vwCl (va_pl L (mh_hw ks h) ++ [(q, mh_we ks e)]) H1) (hD : va_D A (va_pl L (mh_hw ks h) ++ [(q, mh_we ks e)])) (hS : va_S A H0 H1 locs) : h q = none ∧ mh_W D ks (L ++ [q]) A H0 (mh_up h q e) H1 locs := by
  have hq : q ∉ L := va_pl_fresh2 (X := []) (f := mh_hw ks h) hD
  have hn : h q = none := by
    cases hh : h q with
    | none => rfl
    | some x => exact absurd (hd q x hh) hq
  have e1 : va_pl L (mh_hw ks h) ++ [(q, mh_we ks e)] = va_pl (L ++ [q]) (mh_hw ks (mh_up h q e)) := by
    rw [mh_hw_up]
    exact va_pl_push hq
  rw [e1] at hP hD
  refine ⟨hn, hP, hD, hS, fun a x ha => ?_⟩
  unfold mh_up at ha
  by_cases hba : a = q
  · rw [hba]
    exact List.mem_append_right _ List.mem_cons_self
  · rw [if_neg hba] at ha
    exact List.mem_append_left _ (hd a x ha)
section MhCtor
variable {p : Program} {l : Launch} {e : Env} {R : Room} {s : State} {m : MethodId} {args : Array Value} {below : List Frame} {meth : Method} {c : Code} {H : Heap} {locs : List Loc} {cells slots : Nat} {Q : State → Prop}
variable {cc : ByteArray} {pc nL : Nat} {ls : Array Slot} {rest : List Value} {D : va_G} {ks : Nat → ClassId} {L : List Nat} {A : Nat → Prop} {own : String} {h : mh_H}
theorem mh_new (cx : mh_C p m c cc nL s args own meth D ks A) (wd : mh_W D ks L A s.heap h H locs) {C : String} {T : u_T} {N ci index : Nat} (ty : Nat → FieldType) (fs : List Value) (hc : vwCl[ci]? = some (C, T, N)) (hu : ∀ w ∈ u_ws C T N, w ∈ mh_TB) (hty : ∀ k, k < N → parseFieldDescriptor (T k).2.2.1 = some (ty k)) (w1 : Cond.classLink own index C ∈ mh_TB) (w2 : Cond.instantiable C N ∈ mh_TB) (w3 : Cond.initialized C ∈ mh_TB) (hfs : ∀ j, j < N → defaultValue (ty j) = vp_V fs j) (hcells : cells + 1 ≤ R.cells) (hslots : slots + N ≤ R.slots) (hdg : decode cc pc = .ok (.new index, 3))
    (kk : ∀ q L' H', h q = none → mh_W D ks L' A s.heap (mh_up h q (.inr (ci, fs))) H' locs → W p l e R s m args below meth c H' locs (cells + 1) (slots + N) Q (F0 m (pc + 3) ls (.ref q :: rest))) : W p l e R s m args below meth c H locs cells slots Q (F0 m pc ls rest) := by
  obtain ⟨⟨hx, hb, -, ho, hts⟩, hK, -, hA, -⟩ := cx
  refine va_new hx hb hts hu ty hty ho (hts _ w1) (hts _ w2) (hts _ w3) hK wd.1 wd.2.1 wd.2.2.1 hA hc hfs hcells hslots hdg (fun q H1 hP hD hS => ?_)
  obtain ⟨hn, w⟩ := mh_ext (e := .inr (ci, fs)) wd.2.2.2 hP hD hS
  exact kk q _ H1 hn w
theorem mh_newa (cx : mh_C p m c cc nL s args own meth D ks A) (wd : mh_W D ks L A s.heap h H locs) (kd : Nat) {atype : ArrayType} {ty : FieldType} (hty : newarray.typeOf atype = ty) (ht : (mh_ty ks)[kd]? = some (ks kd, ty)) (hr : ∀ c1 c2 : ClassId, va_RA s c1 ty → va_RA s c2 ty → c1 = c2) (w1 : Cond.arrayClass (newarray.typeOf atype) ∈ mh_TB) {n : Int32} {N' : Nat} (a0 : vp_A) (ha : ∀ cA : ClassId, vp_cell cA a0 = arrV cA N' (fun _ => defaultValue ty)) (hn : ¬ n < 0) (hN : n.toNatClampNeg = N') (hbytes : N' * componentBytes ty ≤ 536870912) (hcells : cells + 1 ≤ R.cells) (hslots : slots + N' ≤ R.slots) (hdg : decode cc pc = .ok (.newarray atype, 2))
    (kk : ∀ q L' H', h q = none → mh_W D ks L' A s.heap (mh_up h q (.inl (kd, a0))) H' locs → W p l e R s m args below meth c H' locs (cells + 1) (slots + N') Q (F0 m (pc + 2) ls (.ref q :: rest))) : W p l e R s m args below meth c H locs cells slots Q (F0 m pc ls (.int n :: rest)) := by
  obtain ⟨⟨hx, hb, -, ho, hts⟩, hK, -, hA, -⟩ := cx
  refine va_newa hx hb (hts _ w1) hty hK wd.1 wd.2.1 wd.2.2.1 hA ha hn hN hbytes hcells hslots hdg (fun q cA H1 hK1 hP hD hS => ?_)
  have h1 : va_RA s cA ty := (hK1.2 (mh_ty ks).length (cA, ty) (by rw [List.getElem?_append_right (Nat.le_refl _), Nat.sub_self]; rfl)).2
  have h2 : va_RA s (ks kd) ty := (hK.2 kd _ ht).2
  have e1 := hr cA (ks kd) h1 h2
  subst e1
  obtain ⟨hn, w⟩ := mh_ext (e := .inl (kd, a0)) wd.2.2.2 hP hD hS
  exact kk q _ H1 hn w
/-- a final field, in the constructor -/
theorem mh_putF (cx : mh_C p m c cc nL s args own meth D ks A) (wd : mh_W D ks L A s.heap h H locs) (hin2 : meth.name = "<init>") {a ci k index N : Nat} {C : String} {T : u_T} {ty0 : Nat → FieldType} {fs : List Value} {ty : FieldType} {v : Value} (ha : h a = some (.inr (ci, fs))) (hc : vwCl[ci]? = some (C, T, N)) (hk : k < N) (hu : ∀ w ∈ u_ws C T N, w ∈ mh_TB) (hl : Cond.fieldLink own index (T k).1 (T k).2.1 (T k).2.2.1 ∈ mh_TB) (hty : ∀ k, k < N → parseFieldDescriptor (T k).2.2.1 = some (ty0 k)) (hnm : ∀ a, a < N → ∀ b, b < N → a ≠ b → (T a).2.1 ≠ (T b).2.1) (hfin : (T k).2.2.2 = true) (hdecl : (T k).1 = own) (hd : parseFieldDescriptor (T k).2.2.1 = some ty) (hn : narrow ty v = v) (hfit : fits ty v = true) (hlen : k < fs.length) (hdg : decode cc pc = .ok (.putfield index, 3))
    (kk : ∀ H locs, mh_W D ks L A s.heap (mh_up h a (.inr (ci, fs.set k v))) H locs → W p l e R s m args below meth c H locs cells slots Q (F0 m (pc + 3) ls rest)) : W p l e R s m args below meth c H locs cells slots Q (F0 m pc ls (v :: .ref a :: rest)) := by
  obtain ⟨⟨hx, hb, -, ho, hts⟩, hK, -, -⟩ := cx
  obtain ⟨hm, k0, hk0, hk1⟩ := mh_k wd ha
  exact va_putF hx hb hts hu ty0 hty hnm ho hK wd.1 wd.2.1 wd.2.2.1 k0 hk1 hc k hk (hts _ hl) (fun _ h9 => h9) hfin hin2 hdecl hd hn hfit hlen hdg (fun H1 locs1 hP hD hS => kk H1 locs1 (mh_set wd.2.1 hm hk0 wd.2.2.2 hP hD hS))
/-- a reference into a row of objects -/
theorem mh_aast (cx : mh_C p m c cc nL s args own meth D ks A) (wd : mh_W D ks L A s.heap h H locs) (kd : Nat) {a v ci n : Nat} {r : vw_C} {vs : List Value} {f : Nat → Option Nat} {i : Int32} (ht : (mh_ty ks)[kd]? = some (ks kd, .object r.1)) (hc : vwCl[ci]? = some r) (ha : h a = some (.inl (kd, n, .inr (.inr (.inr (.inr f)))))) (hv : h v = some (.inr (ci, vs))) (hin : vp_in i n) (hdg : decode cc pc = .ok (.aastore, 1))
    (kk : ∀ H locs, mh_W D ks L A s.heap (mh_up h a (.inl (kd, n, .inr (.inr (.inr (.inr (va_up f i.toNatClampNeg (some v)))))))) H locs → W p l e R s m args below meth c H locs cells slots Q (F0 m (pc + 1) ls rest)) : W p l e R s m args below meth c H locs cells slots Q (F0 m pc ls (.ref v :: .int i :: .ref a :: rest)) := by
  obtain ⟨⟨hx, hb, -, ho, hts⟩, hK, -, -⟩ := cx
  obtain ⟨hm, k0, hk0, hk1⟩ := mh_k wd ha
  obtain ⟨-, k2, -, hk3⟩ := mh_k wd hv
  exact va_astq hx hb hK wd.1 wd.2.1 wd.2.2.1 k0 kd k2 ci hk1 ht hk3 hc hin hdg (fun H1 locs1 hP hD hS => kk H1 locs1 (mh_set (e := .inl (kd, n, .inr (.inr (.inr (.inr (va_up f i.toNatClampNeg (some v))))))) wd.2.1 hm hk0 wd.2.2.2 hP hD hS))
end MhCtor
