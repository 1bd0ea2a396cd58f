/-! a field's row: its class, its place, its link -/
def mh_FL (own : String) (index ci k : Nat) : Prop := ∃ (C : String) (T : u_T) (N : Nat), vwCl[ci]? = some (C, T, N) ∧ k < N ∧ (∀ w ∈ u_ws C T N, w ∈ mh_TB) ∧ Cond.fieldLink own index (T k).1 (T k).2.1 (T k).2.2.1 ∈ mh_TB
def mh_FP (own : String) (index ci k : Nat) (ty : FieldType) : Prop := ∃ (C : String) (T : u_T) (N : Nat) (ty0 : Nat → FieldType), vwCl[ci]? = some (C, T, N) ∧ k < N ∧ (∀ w ∈ u_ws C T N, w ∈ mh_TB) ∧ Cond.fieldLink own index (T k).1 (T k).2.1 (T k).2.2.1 ∈ mh_TB ∧ (∀ k, k < N → parseFieldDescriptor (T k).2.2.1 = some (ty0 k)) ∧ (∀ a, a < N → ∀ b, b < N → a ≠ b → (T a).2.1 ≠ (T b).2.1) ∧ (T k).2.2.2 = false ∧ parseFieldDescriptor (T k).2.2.1 = some ty
section MhInstr
variable {p : Program} {l : Launch} {e : Env} {R : Room} {s : State} {m : MethodId} {args : Array Value} {below : List Frame} {meth : Method} {c : Code} {H : Heap} {locs : List Loc} {cells slots : Nat} {Q : State → Prop}
variable {cc : ByteArray} {pc nL : Nat} {ls : Array Slot} {rest : List Value} {D : va_G} {ks : Nat → ClassId} {L : List Nat} {A : Nat → Prop} {own : String} {h : mh_H} {α : Type} {Rz : α}
theorem mh_topi {x : Int32} {f : Int32 → Option α} (hX : mh_nm x f = some Rz) (kk : ∀ v, f v = some Rz → W p l e R s m args below meth c H locs cells slots Q (F0 m pc ls (.int v :: rest))) : W p l e R s m args below meth c H locs cells slots Q (F0 m pc ls (.int x :: rest)) := kk x hX
theorem mh_topl {x : Int64} {f : Int64 → Option α} (hX : mh_nm x f = some Rz) (kk : ∀ v, f v = some Rz → W p l e R s m args below meth c H locs cells slots Q (F0 m pc ls (.long v :: rest))) : W p l e R s m args below meth c H locs cells slots Q (F0 m pc ls (.long x :: rest)) := kk x hX
theorem mh_nmx {β : Type} {x : β} {f : β → Option α} (hX : mh_nm x f = some Rz) : ∃ v, x = v ∧ f v = some Rz := ⟨x, rfl, hX⟩
theorem mh_get (cx : mh_C p m c cc nL s args own meth D ks A) (wd : mh_W D ks L A s.heap h H locs) {a ci k index : Nat} {v : Value} (K : mh_FL own index ci k) (hdg : decode cc pc = .ok (.getfield index, 3)) (hv : mh_gF h a ci k = some v)
    (kk : W p l e R s m args below meth c H locs cells slots Q (F0 m (pc + 3) ls (v :: rest))) : W p l e R s m args below meth c H locs cells slots Q (F0 m pc ls (.ref a :: rest)) := by
  obtain ⟨⟨hx, hb, -, ho, hts⟩, hK, -, -⟩ := cx
  obtain ⟨C, T, N, hc, hk, hu, hl⟩ := K
  obtain ⟨fs, ha, hv⟩ := mh_gF_ok hv
  obtain ⟨-, k0, -, hk0⟩ := mh_k wd ha
  exact va_get hx hb hts hu ho hK wd.1 k0 hk0 hc k hk (hts _ hl) (fun _ h9 => h9) hv hdg kk
theorem mh_getI (cx : mh_C p m c cc nL s args own meth D ks A) (wd : mh_W D ks L A s.heap h H locs) {a ci k index : Nat} {f : Int32 → Option α} (K : mh_FL own index ci k) (hdg : decode cc pc = .ok (.getfield index, 3)) (hX : (mh_gI h a ci k).bind f = some Rz)
    (kk : ∀ v, f v = some Rz → W p l e R s m args below meth c H locs cells slots Q (F0 m (pc + 3) ls (.int v :: rest))) : W p l e R s m args below meth c H locs cells slots Q (F0 m pc ls (.ref a :: rest)) := by
  obtain ⟨v, e1, hX⟩ := mh_ob hX
  exact mh_get cx wd K hdg (mh_gI_ok e1) (kk v hX)
theorem mh_getR (cx : mh_C p m c cc nL s args own meth D ks A) (wd : mh_W D ks L A s.heap h H locs) {a ci k index : Nat} {f : Nat → Option α} (K : mh_FL own index ci k) (hdg : decode cc pc = .ok (.getfield index, 3)) (hX : (mh_gR h a ci k).bind f = some Rz)
    (kk : ∀ v, f v = some Rz → W p l e R s m args below meth c H locs cells slots Q (F0 m (pc + 3) ls (.ref v :: rest))) : W p l e R s m args below meth c H locs cells slots Q (F0 m pc ls (.ref a :: rest)) := by
  obtain ⟨v, e1, hX⟩ := mh_ob hX
  exact mh_get cx wd K hdg (mh_gR_ok e1) (kk v hX)
theorem mh_put (cx : mh_C p m c cc nL s args own meth D ks A) (wd : mh_W D ks L A s.heap h H locs) {a ci k index : Nat} {h' : mh_H} {ty : FieldType} {v : Int32} (K : mh_FP own index ci k ty) (hn : narrow ty (.int v) = .int v) (hfit : fits ty (.int v) = true) (hdg : decode cc pc = .ok (.putfield index, 3)) (hv : mh_pI h a ci k v = some h')
    (kk : ∀ H locs, mh_W D ks L A s.heap h' H locs → W p l e R s m args below meth c H locs cells slots Q (F0 m (pc + 3) ls rest)) : W p l e R s m args below meth c H locs cells slots Q (F0 m pc ls (.int v :: .ref a :: rest)) := by
  obtain ⟨⟨hx, hb, -, ho, hts⟩, hK, -, -⟩ := cx
  obtain ⟨C, T, N, ty0, hc, hk, hu, hl, hty, hnm, hfin, hd⟩ := K
  obtain ⟨fs, ha, hlen, rfl⟩ := mh_pI_ok hv
  obtain ⟨hm, k0, hk0, hk1⟩ := mh_k wd ha
  exact va_put hx hb hts hu ty0 hty hnm ho hK wd.1 wd.2.1 wd.2.2.1 k0 hk1 hc k hk (hts _ hl) (fun _ h9 => h9) hfin hd hn hfit hlen hdg (fun H1 locs1 hP hD hS => kk H1 locs1 (mh_set wd.2.1 hm hk0 wd.2.2.2 hP hD hS))
theorem mh_putI (cx : mh_C p m c cc nL s args own meth D ks A) (wd : mh_W D ks L A s.heap h H locs) {a ci k index : Nat} {v : Int32} {f : mh_H → Option α} (K : mh_FP own index ci k .int) (hdg : decode cc pc = .ok (.putfield index, 3)) (hX : (mh_pI h a ci k v).bind f = some Rz)
    (kk : ∀ h' H locs, mh_W D ks L A s.heap h' H locs → f h' = some Rz → W p l e R s m args below meth c H locs cells slots Q (F0 m (pc + 3) ls rest)) : W p l e R s m args below meth c H locs cells slots Q (F0 m pc ls (.int v :: .ref a :: rest)) := by
  obtain ⟨h', e1, hX⟩ := mh_ob hX
  exact mh_put cx wd K rfl rfl hdg e1 (fun H locs wd => kk h' H locs wd hX)
theorem mh_putZ (cx : mh_C p m c cc nL s args own meth D ks A) (wd : mh_W D ks L A s.heap h H locs) {a ci k index : Nat} {v : Int32} {f : mh_H → Option α} (K : mh_FP own index ci k .boolean) (hdg : decode cc pc = .ok (.putfield index, 3)) (hX : (mh_pZ h a ci k v).bind f = some Rz)
    (kk : ∀ h' H locs, mh_W D ks L A s.heap h' H locs → f h' = some Rz → W p l e R s m args below meth c H locs cells slots Q (F0 m (pc + 3) ls rest)) : W p l e R s m args below meth c H locs cells slots Q (F0 m pc ls (.int v :: .ref a :: rest)) := by
  obtain ⟨h', e1, hX⟩ := mh_ob hX
  obtain ⟨hv, e1⟩ := mh_pZ_ok e1
  exact mh_put cx wd K (by rcases hv with rfl | rfl <;> decide) (by rcases hv with rfl | rfl <;> decide) hdg e1 (fun H locs wd => kk h' H locs wd hX)
theorem mh_iald (cx : mh_C p m c cc nL s args own meth D ks A) (wd : mh_W D ks L A s.heap h H locs) {a : Nat} {i : Int32} {f : Int32 → Option α} (hdg : decode cc pc = .ok (.iaload, 1)) (hX : (mh_aI h a 0 i).bind f = some Rz)
    (kk : ∀ v, f v = some Rz → W p l e R s m args below meth c H locs cells slots Q (F0 m (pc + 1) ls (.int v :: rest))) : W p l e R s m args below meth c H locs cells slots Q (F0 m pc ls (.int i :: .ref a :: rest)) := by
  obtain ⟨⟨hx, hb, -, ho, hts⟩, hK, -, -⟩ := cx
  obtain ⟨v, e1, hX⟩ := mh_ob hX
  obtain ⟨n, g, ha, hin, rfl⟩ := mh_aI_ok e1
  obtain ⟨-, k0, -, hk0⟩ := mh_k wd ha
  exact va_iald hx hb hK wd.1 k0 0 hk0 rfl hin hdg (kk _ hX)
theorem mh_zald (cx : mh_C p m c cc nL s args own meth D ks A) (wd : mh_W D ks L A s.heap h H locs) {a : Nat} {i : Int32} {f : Int32 → Option α} (hdg : decode cc pc = .ok (.baload, 1)) (hX : (mh_aI h a 2 i).bind f = some Rz)
    (kk : ∀ v, f v = some Rz → W p l e R s m args below meth c H locs cells slots Q (F0 m (pc + 1) ls (.int v :: rest))) : W p l e R s m args below meth c H locs cells slots Q (F0 m pc ls (.int i :: .ref a :: rest)) := by
  obtain ⟨⟨hx, hb, -, ho, hts⟩, hK, -, -⟩ := cx
  obtain ⟨v, e1, hX⟩ := mh_ob hX
  obtain ⟨n, g, ha, hin, rfl⟩ := mh_aI_ok e1
  obtain ⟨-, k0, -, hk0⟩ := mh_k wd ha
  exact va_zald hx hb hK wd.1 k0 2 hk0 rfl hin hdg (kk _ hX)
theorem mh_lald (cx : mh_C p m c cc nL s args own meth D ks A) (wd : mh_W D ks L A s.heap h H locs) {a : Nat} {i : Int32} {f : Int64 → Option α} (hdg : decode cc pc = .ok (.laload, 1)) (hX : (mh_aJ h a i).bind f = some Rz)
    (kk : ∀ v, f v = some Rz → W p l e R s m args below meth c H locs cells slots Q (F0 m (pc + 1) ls (.long v :: rest))) : W p l e R s m args below meth c H locs cells slots Q (F0 m pc ls (.int i :: .ref a :: rest)) := by
  obtain ⟨⟨hx, hb, -, ho, hts⟩, hK, -, -⟩ := cx
  obtain ⟨v, e1, hX⟩ := mh_ob hX
  obtain ⟨n, g, ha, hin, rfl⟩ := mh_aJ_ok e1
  obtain ⟨-, k0, -, hk0⟩ := mh_k wd ha
  exact va_lald hx hb hK wd.1 k0 1 hk0 rfl hin hdg (kk _ hX)
theorem mh_aald (cx : mh_C p m c cc nL s args own meth D ks A) (wd : mh_W D ks L A s.heap h H locs) (kd : Nat) {ty : FieldType} (ht : (mh_ty ks)[kd]? = some (ks kd, ty)) (hr : ty.isReference = true) {a : Nat} {i : Int32} {f : Nat → Option α} (hdg : decode cc pc = .ok (.aaload, 1)) (hX : (mh_aR h a kd i).bind f = some Rz)
    (kk : ∀ v, f v = some Rz → W p l e R s m args below meth c H locs cells slots Q (F0 m (pc + 1) ls (.ref v :: rest))) : W p l e R s m args below meth c H locs cells slots Q (F0 m pc ls (.int i :: .ref a :: rest)) := by
  obtain ⟨⟨hx, hb, -, ho, hts⟩, hK, -, -⟩ := cx
  obtain ⟨v, e1, hX⟩ := mh_ob hX
  obtain ⟨n, g, ha, hin, hv⟩ := mh_aR_ok e1
  obtain ⟨-, k0, -, hk0⟩ := mh_k wd ha
  have hlt : i.toNatClampNeg < n := Nat.not_le.mp fun q => hin (Or.inr q)
  refine W.aald (v := va_rf (g i.toNatClampNeg)) (ty := ty) hx hb (wd.1 k0 _ hk0) ((hK.2 kd _ ht).1 n (fun j => va_rf (g j))) hr (fun q => by cases q) (by show ¬ (i < 0 ∨ (arrV _ _ _).slots.size ≤ _); rw [arrV_size]; exact hin) (by show (arrV _ _ _).slots[_]? = _; rw [arrV_read _ _ hlt]) rfl rfl hdg ?_
  rw [hv]
  exact kk v hX
theorem mh_alen (cx : mh_C p m c cc nL s args own meth D ks A) (wd : mh_W D ks L A s.heap h H locs) (kd : Nat) {ty : FieldType} (ht : (mh_ty ks)[kd]? = some (ks kd, ty)) {a : Nat} {f : Int32 → Option α} (hdg : decode cc pc = .ok (.arraylength, 1)) (hX : (mh_aL h a kd).bind f = some Rz)
    (kk : ∀ v, f v = some Rz → W p l e R s m args below meth c H locs cells slots Q (F0 m (pc + 1) ls (.int v :: rest))) : W p l e R s m args below meth c H locs cells slots Q (F0 m pc ls (.ref a :: rest)) := by
  obtain ⟨⟨hx, hb, -, ho, hts⟩, hK, -, -⟩ := cx
  obtain ⟨v, e1, hX⟩ := mh_ob hX
  obtain ⟨x, ha, hv⟩ := mh_aL_ok e1
  obtain ⟨-, k0, -, hk0⟩ := mh_k wd ha
  exact va_alen hx hb hK wd.1 k0 kd hk0 ht hv hdg (kk v hX)
theorem mh_iast (cx : mh_C p m c cc nL s args own meth D ks A) (wd : mh_W D ks L A s.heap h H locs) {a : Nat} {i v : Int32} {f : mh_H → Option α} (hdg : decode cc pc = .ok (.iastore, 1)) (hX : (mh_sI h a i v).bind f = some Rz)
    (kk : ∀ h' H locs, mh_W D ks L A s.heap h' H locs → f h' = some Rz → W p l e R s m args below meth c H locs cells slots Q (F0 m (pc + 1) ls rest)) : W p l e R s m args below meth c H locs cells slots Q (F0 m pc ls (.int v :: .int i :: .ref a :: rest)) := by
  obtain ⟨⟨hx, hb, -, ho, hts⟩, hK, -, -⟩ := cx
  obtain ⟨h', e1, hX⟩ := mh_ob hX
  obtain ⟨n, g, ha, hin, rfl⟩ := mh_sI_ok e1
  obtain ⟨hm, k0, hk0, hk1⟩ := mh_k wd ha
  exact va_iast hx hb hK wd.1 wd.2.1 wd.2.2.1 k0 0 hk1 rfl hin hdg (fun H1 locs1 hP hD hS => kk _ H1 locs1 (mh_set (e := .inl (0, n, .inl (upd g i.toNatClampNeg v))) wd.2.1 hm hk0 wd.2.2.2 hP hD hS) hX)
theorem mh_zast (cx : mh_C p m c cc nL s args own meth D ks A) (wd : mh_W D ks L A s.heap h H locs) {a : Nat} {i v : Int32} {f : mh_H → Option α} (hdg : decode cc pc = .ok (.bastore, 1)) (hX : (mh_sZ h a i v).bind f = some Rz)
    (kk : ∀ h' H locs, mh_W D ks L A s.heap h' H locs → f h' = some Rz → W p l e R s m args below meth c H locs cells slots Q (F0 m (pc + 1) ls rest)) : W p l e R s m args below meth c H locs cells slots Q (F0 m pc ls (.int v :: .int i :: .ref a :: rest)) := by
  obtain ⟨⟨hx, hb, -, ho, hts⟩, hK, -, -⟩ := cx
  obtain ⟨h', e1, hX⟩ := mh_ob hX
  obtain ⟨n, g, ha, hin, hv, rfl⟩ := mh_sZ_ok e1
  obtain ⟨hm, k0, hk0, hk1⟩ := mh_k wd ha
  have hz : vp_nar .boolean v = v := by rcases hv with rfl | rfl <;> decide
  exact va_zast hx hb hK wd.1 wd.2.1 wd.2.2.1 k0 2 hk1 rfl hin hdg (fun H1 locs1 hP hD hS => kk _ H1 locs1 (mh_set (e := .inl (2, n, .inl (upd g i.toNatClampNeg v))) wd.2.1 hm hk0 wd.2.2.2 (by rw [hz] at hP; exact hP) (by rw [hz] at hD; exact hD) hS) hX)
theorem mh_last (cx : mh_C p m c cc nL s args own meth D ks A) (wd : mh_W D ks L A s.heap h H locs) {a : Nat} {i : Int32} {v : Int64} {f : mh_H → Option α} (hdg : decode cc pc = .ok (.lastore, 1)) (hX : (mh_sJ h a i v).bind f = some Rz)
    (kk : ∀ h' H locs, mh_W D ks L A s.heap h' H locs → f h' = some Rz → W p l e R s m args below meth c H locs cells slots Q (F0 m (pc + 1) ls rest)) : W p l e R s m args below meth c H locs cells slots Q (F0 m pc ls (.long v :: .int i :: .ref a :: rest)) := by
  obtain ⟨⟨hx, hb, -, ho, hts⟩, hK, -, -⟩ := cx
  obtain ⟨h', e1, hX⟩ := mh_ob hX
  obtain ⟨n, g, ha, hin, rfl⟩ := mh_sJ_ok e1
  obtain ⟨hm, k0, hk0, hk1⟩ := mh_k wd ha
  exact va_last hx hb hK wd.1 wd.2.1 wd.2.2.1 k0 1 hk1 rfl hin hdg (fun H1 locs1 hP hD hS => kk _ H1 locs1 (mh_set (e := .inl (1, n, .inr (.inl (vp_updL g i.toNatClampNeg v)))) wd.2.1 hm hk0 wd.2.2.2 hP hD hS) hX)
end MhInstr
