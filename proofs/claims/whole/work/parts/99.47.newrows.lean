/-! new rows, rows of objects, rows of rows -/
def mh_rws (h : mh_H) (q : Nat) (e : mh_E) (l : List Nat) (z : mh_E) : mh_H := fun b => if b = q then some e else if b ∈ l then some z else h b
theorem mh_hw_rws {ks : Nat → ClassId} {h : mh_H} {q : Nat} {e : mh_E} {l : List Nat} {z : mh_E} (b : Nat) : mh_hw ks (mh_rws h q e l z) b = if b = q then mh_we ks e else if b ∈ l then mh_we ks z else mh_hw ks h b := by
  unfold mh_hw mh_rws
  by_cases h1 : b = q
  · rw [if_pos h1, if_pos h1]
  · rw [if_neg h1, if_neg h1]
    by_cases h2 : b ∈ l
    · rw [if_pos h2, if_pos h2]
    · rw [if_neg h2, if_neg h2]
section MhNr
variable {p : Program} {l : Launch} {e : Env} {R : Room} {s : State} {m : MethodId} {args : Array Value} {below : List Frame} {meth : Method} {c : Code} {H : Heap} {locs : List Loc} {cells slots : Nat} {Q : State → Prop}
variable {cc : ByteArray} {pc nL : Nat} {ls : Array Slot} {rest : List Value} {D : va_G} {ks : Nat → ClassId} {L : List Nat} {A : Nat → Prop} {own : String} {h : mh_H}
theorem mh_nwi (cx : mh_C p m c cc nL s args own meth D ks A) (wd : mh_W D ks L A s.heap h H locs) {n : Int32} {N' : Nat} (w1 : Cond.arrayClass .int ∈ mh_TB) (hn : ¬ n < 0) (hN : n.toNatClampNeg = N') (hbytes : N' * 4 ≤ 536870912) (hcells : cells + 1 ≤ R.cells) (hslots : slots + N' ≤ R.slots) (hdg : decode cc pc = .ok (.newarray .int, 2))
    (kk : ∀ q L' H', h q = none → mh_W D ks L' A s.heap (mh_up h q (.inl (0, N', .inl (fun _ => 0)))) H' locs → W p l e R s m args below meth c H' locs (cells + 1) (slots + N') Q (F0 m (pc + 2) ls (.ref q :: rest))) : W p l e R s m args below meth c H locs cells slots Q (F0 m pc ls (.int n :: rest)) :=
  mh_newa cx wd 0 (atype := .int) (ty := .int) rfl rfl (fun _ _ a b => mh_hru a b) w1 (N', .inl (fun _ => 0)) (fun _ => rfl) hn hN hbytes hcells hslots hdg kk
theorem mh_nwz (cx : mh_C p m c cc nL s args own meth D ks A) (wd : mh_W D ks L A s.heap h H locs) {n : Int32} {N' : Nat} (w1 : Cond.arrayClass .boolean ∈ mh_TB) (hn : ¬ n < 0) (hN : n.toNatClampNeg = N') (hbytes : N' ≤ 536870912) (hcells : cells + 1 ≤ R.cells) (hslots : slots + N' ≤ R.slots) (hdg : decode cc pc = .ok (.newarray .boolean, 2))
    (kk : ∀ q L' H', h q = none → mh_W D ks L' A s.heap (mh_up h q (.inl (2, N', .inl (fun _ => 0)))) H' locs → W p l e R s m args below meth c H' locs (cells + 1) (slots + N') Q (F0 m (pc + 2) ls (.ref q :: rest))) : W p l e R s m args below meth c H locs cells slots Q (F0 m pc ls (.int n :: rest)) :=
  mh_newa cx wd 2 (atype := .boolean) (ty := .boolean) rfl rfl (fun _ _ a b => mh_hru a b) w1 (N', .inl (fun _ => 0)) (fun _ => rfl) hn hN (by show N' * 1 ≤ _; omega) hcells hslots hdg kk
theorem mh_nwj (cx : mh_C p m c cc nL s args own meth D ks A) (wd : mh_W D ks L A s.heap h H locs) {n : Int32} {N' : Nat} (w1 : Cond.arrayClass .long ∈ mh_TB) (hn : ¬ n < 0) (hN : n.toNatClampNeg = N') (hbytes : N' * 8 ≤ 536870912) (hcells : cells + 1 ≤ R.cells) (hslots : slots + N' ≤ R.slots) (hdg : decode cc pc = .ok (.newarray .long, 2))
    (kk : ∀ q L' H', h q = none → mh_W D ks L' A s.heap (mh_up h q (.inl (1, N', .inr (.inl (fun _ => 0))))) H' locs → W p l e R s m args below meth c H' locs (cells + 1) (slots + N') Q (F0 m (pc + 2) ls (.ref q :: rest))) : W p l e R s m args below meth c H locs cells slots Q (F0 m pc ls (.int n :: rest)) :=
  mh_newa cx wd 1 (atype := .long) (ty := .long) rfl rfl (fun _ _ a b => mh_hru a b) w1 (N', .inr (.inl (fun _ => 0))) (fun _ => rfl) hn hN hbytes hcells hslots hdg kk
/-- a row for objects -/
theorem mh_nwq (cx : mh_C p m c cc nL s args own meth D ks A) (wd : mh_W D ks L A s.heap h H locs) (kd : Nat) {C : String} {index : Nat} (ht : (mh_ty ks)[kd]? = some (ks kd, .object C)) (hover : va_AO C s) (w1 : Cond.classLink own index C ∈ mh_TB) {n : Int32} {N' : Nat} (hn : ¬ n < 0) (hN : n.toNatClampNeg = N') (hbytes : N' * 4 ≤ 536870912) (hcells : cells + 1 ≤ R.cells) (hslots : slots + N' ≤ R.slots) (hdg : decode cc pc = .ok (.anewarray index, 3))
    (kk : ∀ q L' H', h q = none → mh_W D ks L' A s.heap (mh_up h q (.inl (kd, N', .inr (.inr (.inr (.inr (fun _ => none))))))) H' locs → W p l e R s m args below meth c H' locs (cells + 1) (slots + N') Q (F0 m (pc + 3) ls (.ref q :: rest))) : W p l e R s m args below meth c H locs cells slots Q (F0 m pc ls (.int n :: rest)) := by
  obtain ⟨⟨hx, hb, -, ho, hts⟩, hK, -, hA, -⟩ := cx
  refine va_newq hx hb ho (hts _ w1) hover hK wd.1 wd.2.1 wd.2.2.1 hA hn hN hbytes hcells hslots hdg (fun q cA H1 hK1 hP hD hS => ?_)
  have h1 : va_RA s cA (.object C) := (hK1.2 (mh_ty ks).length (cA, .object C) (by rw [List.getElem?_append_right (Nat.le_refl _), Nat.sub_self]; rfl)).2
  have h2 : va_RA s (ks kd) (.object C) := (hK.2 kd _ ht).2
  have e1 := mh_hru h1 h2
  subst e1
  obtain ⟨hn, w⟩ := mh_ext (e := .inl (kd, N', .inr (.inr (.inr (.inr (fun _ => none)))))) wd.2.2.2 hP hD hS
  exact kk q _ H1 hn w
/-- rows of rows -/
theorem mh_nwm (cx : mh_C p m c cc nL s args own meth D ks A) (wd : mh_W D ks L A s.heap h H locs) (kd kr : Nat) {ty : FieldType} {index : Nat} (ht : (mh_ty ks)[kd]? = some (ks kd, .array ty)) (hcy : s.vm.findClass (FieldType.array ty).toString = some (ks kr)) (hover : mh_AOA ty s) (w1 : Cond.classLink own index ("[" ++ (FieldType.array ty).toString) ∈ mh_TB) (w2 : Cond.arrayClass ty ∈ mh_TB) {n k : Int32} {N' K' : Nat} {z : vp_A} (hn : ¬ n < 0) (hk : ¬ k < 0) (hN : n.toNatClampNeg = N') (hM : k.toNatClampNeg = K')
    (hb1 : N' * 4 ≤ 536870912) (hb2 : K' * componentBytes ty ≤ 536870912) (hb3 : K' ≤ 536870912) (hdf : fits ty (defaultValue ty) = true) (hdd : (defaultValue ty).isDefault = true) (hcells : cells + (1 + N') ≤ R.cells) (hslots : slots + (N' + N' * K') ≤ R.slots) (hz : ∀ c : ClassId, Jvm.Free.Multi.innerC c K' (defaultValue ty) = vp_cell c z) (hdg : decode cc pc = .ok (.multianewarray index 2, 4))
    (kk : ∀ q (r : Nat → Nat) L' H', h q = none → (∀ i, i < N' → h (r i) = none ∧ r i ≠ q) → (∀ i j, i < N' → j < N' → r i = r j → i = j) → mh_W D ks L' A s.heap (mh_rws h q (.inl (kd, N', .inr (.inr (.inr (.inr (fun i => if i < N' then some (r i) else none)))))) ((List.range N').map r) (.inl (kr, z))) H' locs → W p l e R s m args below meth c H' locs (cells + 1 + N') (slots + N' + N' * K') Q (F0 m (pc + 4) ls (.ref q :: rest))) : W p l e R s m args below meth c H locs cells slots Q (F0 m pc ls (.int k :: .int n :: rest)) := by
  obtain ⟨⟨hx, hb, -, ho, hts⟩, hK, -, hA, -⟩ := cx
  refine va_mna (X := []) (L := L) (f := mh_hw ks h) hx hb ho (hts _ w1) hover (hts _ w2) hcy hK wd.1 wd.2.1 wd.2.2.1 hA hn hk hN hM hb1 hb2 hb3 hdf hdd hcells hslots hz hdg (fun q r cA H1 ri rL hK1 hP hD hS => ?_)
  have h1 : va_RA s cA (.array ty) := (hK1.2 (mh_ty ks).length (cA, .array ty) (by rw [List.getElem?_append_right (Nat.le_refl _), Nat.sub_self]; rfl)).2
  have h2 : va_RA s (ks kd) (.array ty) := (hK.2 kd _ ht).2
  have e1 := mh_hru h1 h2
  subst e1
  have hq : q ∉ L ++ (List.range N').map r := fun hq => by
    obtain ⟨i, hi⟩ := List.getElem?_of_mem hq
    have g1 : (([] ++ [(q, (.inl (ks kd, N', .inr (.inr (.inr (.inr (fun i => if i < N' then some (r i) else none))))) : va_E))]) ++ va_pl (L ++ (List.range N').map r) (vr_up (mh_hw ks h) ((List.range N').map r) (.inl (ks kr, z))))[0]? = some (q, .inl (ks kd, N', .inr (.inr (.inr (.inr (fun i => if i < N' then some (r i) else none)))))) := rfl
    have g2 : (([] ++ [(q, (.inl (ks kd, N', .inr (.inr (.inr (.inr (fun i => if i < N' then some (r i) else none))))) : va_E))]) ++ va_pl (L ++ (List.range N').map r) (vr_up (mh_hw ks h) ((List.range N').map r) (.inl (ks kr, z))))[i + 1]? = some (q, vr_up (mh_hw ks h) ((List.range N').map r) (.inl (ks kr, z)) q) := by
      show (va_pl (L ++ (List.range N').map r) _)[i]? = _
      unfold va_pl
      rw [List.getElem?_map, hi]
      rfl
    have := hD.1 0 (i + 1) _ _ g1 g2 rfl
    omega
  have nL : ∀ x, x ∉ L → h x = none := fun x hx => by
    cases hh : h x with
    | none => rfl
    | some y => exact absurd (wd.2.2.2 x y hh) hx
  have e2 : (([] ++ [(q, (.inl (ks kd, N', .inr (.inr (.inr (.inr (fun i => if i < N' then some (r i) else none))))) : va_E))]) ++ va_pl (L ++ (List.range N').map r) (vr_up (mh_hw ks h) ((List.range N').map r) (.inl (ks kr, z)))) = va_pl (q :: (L ++ (List.range N').map r)) (mh_hw ks (mh_rws h q (.inl (kd, N', .inr (.inr (.inr (.inr (fun i => if i < N' then some (r i) else none)))))) ((List.range N').map r) (.inl (kr, z)))) := by
    show (q, _) :: va_pl (L ++ (List.range N').map r) _ = (q, _) :: va_pl (L ++ (List.range N').map r) _
    congr 1
    · rw [mh_hw_rws, if_pos rfl]
      rfl
    · unfold va_pl
      apply List.map_congr_left
      intro a ha
      rw [mh_hw_rws, if_neg (show ¬ a = q from fun z => hq (z ▸ ha))]
      rfl
  rw [e2] at hP hD
  refine kk q r _ H1 (nL q (fun z => hq (List.mem_append_left _ z))) (fun i hi => ⟨nL _ (rL i hi), fun z => hq (List.mem_append_right _ (List.mem_map.mpr ⟨i, List.mem_range.mpr hi, z⟩))⟩) ri ⟨hP, hD, hS, fun a x hx => ?_⟩
  unfold mh_rws at hx
  by_cases h1 : a = q
  · rw [h1]; exact List.mem_cons_self
  · rw [if_neg h1] at hx
    by_cases h2 : a ∈ (List.range N').map r
    · exact List.mem_cons_of_mem _ (List.mem_append_right _ h2)
    · rw [if_neg h2] at hx
      exact List.mem_cons_of_mem _ (List.mem_append_left _ (wd.2.2.2 a x hx))
end MhNr
