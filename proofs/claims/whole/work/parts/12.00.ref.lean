def f_X12_thrown_e (o0 : Nat) (h : mh_H) : Option (Int32 × mh_H) :=
  (mh_gI h o0 12 0).bind fun v1 =>
  some (v1, h)
set_option maxRecDepth 100000 in
set_option maxHeartbeats 4000000 in
theorem w_X12_thrown_e {p : Program} {l : Launch} {e : Env} {s : State} {m : MethodId} {args : Array Value} {below : List Frame} {meth : Method} {c : Code} {D : va_G} {ks : Nat → ClassId} {L : List Nat} {r : Int32} {h' : mh_H} (cx : mh_C p m c cX12_thrown 1 s args RX12 meth D ks (mh_A L s.heap.size)) (hr : meth.sig.returnType = (some .int)) :
    ∀ (o0 : Nat) (h : mh_H) (H : Heap) (locs : List Loc) (ls : Array Slot), mh_W D ks L (mh_A L s.heap.size) s.heap h H locs → lv_has ls 1 [(0, .ref o0)] → f_X12_thrown_e o0 h = some (r, h') → W p l e (mh_rm 0) s m args below meth c H locs 0 0 (MQ below (mh_Qi D ks L s.heap.size r h') args s 0 0 (mh_A L s.heap.size)) (F0 m 0 ls []) := by
  intro o0 h H locs ls wd hl hX
  have hx := cx.1.1
  have hb := cx.1.2.1
  unfold f_X12_thrown_e at hX
  refine lv_aload_n hx hb dX12_thrown_0 rfl (lv_at hl 0 rfl) ?_
  refine mh_getI cx wd fl_X12_96 dX12_thrown_1 hX (fun v1 hX => ?_)
  exact mh_iret cx wd hr hX dX12_thrown_4
set_option maxRecDepth 100000 in
theorem c_X12_thrown {l : Launch} {L : List Nat} {h h' : mh_H} {r : Int32} {o0 : Nat} (hX : f_X12_thrown_e o0 h = some (r, h')) : mh_MI l yX12_thrown (Cond.code yX12_thrown cX12_thrown 1 (some .int) :: mh_TB) (mh_rm 0) [.ref o0] L h r h' :=
  mh_of (mc := 0) (ms := 0) (Qc := fun D ks sz => mh_Qi D ks L sz r h') (plainFor_of_name (by decide)) (Nat.le_of_ble_eq_true rfl) (fun p e s m below meth c D ks ls hr cx wd hl => by
    have hl : lv_has ls 1 [(0, .ref o0)] := hl
    exact w_X12_thrown_e cx hr o0 h _ _ ls wd hl hX)
def f_X12_fail_e (o0 : Nat) (x1 : Int32) (h : mh_H) : Option (Int32 × mh_H) :=
  (mh_pI h o0 12 0 x1).bind fun h1 =>
  some ((0 : Int32), h1)
set_option maxRecDepth 100000 in
set_option maxHeartbeats 4000000 in
theorem w_X12_fail_e {p : Program} {l : Launch} {e : Env} {s : State} {m : MethodId} {args : Array Value} {below : List Frame} {meth : Method} {c : Code} {D : va_G} {ks : Nat → ClassId} {L : List Nat} {r : Int32} {h' : mh_H} (cx : mh_C p m c cX12_fail 2 s args RX12 meth D ks (mh_A L s.heap.size)) (hr : meth.sig.returnType = (some .int)) :
    ∀ (o0 : Nat) (x1 : Int32) (h : mh_H) (H : Heap) (locs : List Loc) (ls : Array Slot), mh_W D ks L (mh_A L s.heap.size) s.heap h H locs → lv_has ls 2 [(0, .ref o0), (1, .int x1)] → f_X12_fail_e o0 x1 h = some (r, h') → W p l e (mh_rm 0) s m args below meth c H locs 0 0 (MQ below (mh_Qi D ks L s.heap.size r h') args s 0 0 (mh_A L s.heap.size)) (F0 m 0 ls []) := by
  intro o0 x1 h H locs ls wd hl hX
  have hx := cx.1.1
  have hb := cx.1.2.1
  unfold f_X12_fail_e at hX
  refine lv_aload_n hx hb dX12_fail_0 rfl (lv_at hl 0 rfl) ?_
  refine lv_iload_n hx hb dX12_fail_1 rfl (lv_at hl 1 rfl) ?_
  refine mh_putI cx wd fp_X12_96 dX12_fail_2 hX (fun h1 H locs wd hX => ?_)
  refine lv_iconst (v := 0) hx hb dX12_fail_5 (by decide) ?_
  exact mh_iret cx wd hr hX dX12_fail_6
set_option maxRecDepth 100000 in
theorem c_X12_fail {l : Launch} {L : List Nat} {h h' : mh_H} {r : Int32} {o0 : Nat} {x1 : Int32} (hX : f_X12_fail_e o0 x1 h = some (r, h')) : mh_MI l yX12_fail (Cond.code yX12_fail cX12_fail 2 (some .int) :: mh_TB) (mh_rm 0) [.ref o0, .int x1] L h r h' :=
  mh_of (mc := 0) (ms := 0) (Qc := fun D ks sz => mh_Qi D ks L sz r h') (plainFor_of_name (by decide)) (Nat.le_of_ble_eq_true rfl) (fun p e s m below meth c D ks ls hr cx wd hl => by
    have hl : lv_has ls 2 [(0, .ref o0), (1, .int x1)] := hl
    exact w_X12_fail_e cx hr o0 x1 h _ _ ls wd hl hX)
def f_X12_isMint_b15 (t0 : Int32) (h : mh_H) : Option (Int32 × mh_H) :=
  mh_rz t0 h
def f_X12_isMint_b14 (k15 : Int32 → mh_H → Option (Int32 × mh_H)) (h : mh_H) : Option (Int32 × mh_H) :=
  k15 (0 : Int32) h
def f_X12_isMint_e (x0 : Int32) (h : mh_H) : Option (Int32 × mh_H) :=
  if x0 < 0 then (
  f_X12_isMint_b14 (f_X12_isMint_b15) h) else
  if (8 : Int32) ≤ x0 then (
  f_X12_isMint_b14 (f_X12_isMint_b15) h) else
  f_X12_isMint_b15 (1 : Int32) h
set_option maxRecDepth 100000 in
set_option maxHeartbeats 4000000 in
theorem w_X12_isMint_b15 {p : Program} {l : Launch} {e : Env} {s : State} {m : MethodId} {args : Array Value} {below : List Frame} {meth : Method} {c : Code} {D : va_G} {ks : Nat → ClassId} {L : List Nat} {r : Int32} {h' : mh_H} (cx : mh_C p m c cX12_isMint 1 s args RX12 meth D ks (mh_A L s.heap.size)) (hr : meth.sig.returnType = (some .boolean)) :
    ∀ (t0 : Int32) (h : mh_H) (H : Heap) (locs : List Loc) (ls : Array Slot), mh_W D ks L (mh_A L s.heap.size) s.heap h H locs → lv_has ls 1 [] → f_X12_isMint_b15 t0 h = some (r, h') → W p l e (mh_rm 0) s m args below meth c H locs 0 0 (MQ below (mh_Qi D ks L s.heap.size r h') args s 0 0 (mh_A L s.heap.size)) (F0 m 15 ls [.int t0]) := by
  intro t0 h H locs ls wd hl hX
  have hx := cx.1.1
  have hb := cx.1.2.1
  unfold f_X12_isMint_b15 at hX
  exact mh_zret cx wd hr hX dX12_isMint_15
set_option maxRecDepth 100000 in
set_option maxHeartbeats 4000000 in
theorem w_X12_isMint_b14 {p : Program} {l : Launch} {e : Env} {s : State} {m : MethodId} {args : Array Value} {below : List Frame} {meth : Method} {c : Code} {D : va_G} {ks : Nat → ClassId} {L : List Nat} {r : Int32} {h' : mh_H} (k15 : Int32 → mh_H → Option (Int32 × mh_H)) (cx : mh_C p m c cX12_isMint 1 s args RX12 meth D ks (mh_A L s.heap.size)) (hr : meth.sig.returnType = (some .boolean))
    (hk15 : ∀ (t0 : Int32) (h : mh_H) (H : Heap) (locs : List Loc) (ls : Array Slot), mh_W D ks L (mh_A L s.heap.size) s.heap h H locs → lv_has ls 1 [] → k15 t0 h = some (r, h') → W p l e (mh_rm 0) s m args below meth c H locs 0 0 (MQ below (mh_Qi D ks L s.heap.size r h') args s 0 0 (mh_A L s.heap.size)) (F0 m 15 ls [.int t0])) :
    ∀ (h : mh_H) (H : Heap) (locs : List Loc) (ls : Array Slot), mh_W D ks L (mh_A L s.heap.size) s.heap h H locs → lv_has ls 1 [] → f_X12_isMint_b14 k15  h = some (r, h') → W p l e (mh_rm 0) s m args below meth c H locs 0 0 (MQ below (mh_Qi D ks L s.heap.size r h') args s 0 0 (mh_A L s.heap.size)) (F0 m 14 ls []) := by
  intro  h H locs ls wd hl hX
  have hx := cx.1.1
  have hb := cx.1.2.1
  unfold f_X12_isMint_b14 at hX
  refine lv_iconst (v := 0) hx hb dX12_isMint_14 (by decide) ?_
  exact hk15 _ h _ _ ls wd (lv_sub hl [] rfl) hX
set_option maxRecDepth 100000 in
set_option maxHeartbeats 4000000 in
theorem w_X12_isMint_e {p : Program} {l : Launch} {e : Env} {s : State} {m : MethodId} {args : Array Value} {below : List Frame} {meth : Method} {c : Code} {D : va_G} {ks : Nat → ClassId} {L : List Nat} {r : Int32} {h' : mh_H} (cx : mh_C p m c cX12_isMint 1 s args RX12 meth D ks (mh_A L s.heap.size)) (hr : meth.sig.returnType = (some .boolean)) :
    ∀ (x0 : Int32) (h : mh_H) (H : Heap) (locs : List Loc) (ls : Array Slot), mh_W D ks L (mh_A L s.heap.size) s.heap h H locs → lv_has ls 1 [(0, .int x0)] → f_X12_isMint_e x0 h = some (r, h') → W p l e (mh_rm 0) s m args below meth c H locs 0 0 (MQ below (mh_Qi D ks L s.heap.size r h') args s 0 0 (mh_A L s.heap.size)) (F0 m 0 ls []) := by
  intro x0 h H locs ls wd hl hX
  have hx := cx.1.1
  have hb := cx.1.2.1
  unfold f_X12_isMint_e at hX
  refine lv_iload_n hx hb dX12_isMint_0 rfl (lv_at hl 0 rfl) ?_
  refine lv_if_lt (tgt := 14) hx hb dX12_isMint_1 rfl (fun hc => (fun hX => ?_) ((mh_if hX).1 hc)) (fun hc => (fun hX => ?_) ((mh_if hX).2 hc))
  · exact w_X12_isMint_b14 (f_X12_isMint_b15) cx hr (w_X12_isMint_b15 cx hr)  h _ _ ls wd (lv_sub hl [] rfl) hX
  · refine lv_iload_n hx hb dX12_isMint_4 rfl (lv_at hl 0 rfl) ?_
    refine lv_bipush (v := 8) hx hb dX12_isMint_5 (by decide) ?_
    refine lv_icmp_ge (tgt := 14) hx hb dX12_isMint_7 rfl (fun hc => (fun hX => ?_) ((mh_if hX).1 hc)) (fun hc => (fun hX => ?_) ((mh_if hX).2 hc))
    · exact w_X12_isMint_b14 (f_X12_isMint_b15) cx hr (w_X12_isMint_b15 cx hr)  h _ _ ls wd (lv_sub hl [] rfl) hX
    · refine lv_iconst (v := 1) hx hb dX12_isMint_10 (by decide) ?_
      refine lv_goto (tgt := 15) hx hb dX12_isMint_11 rfl ?_
      exact w_X12_isMint_b15 cx hr _ h _ _ ls wd (lv_sub hl [] rfl) hX
set_option maxRecDepth 100000 in
theorem c_X12_isMint {l : Launch} {L : List Nat} {h h' : mh_H} {r : Int32} {x0 : Int32} (hX : f_X12_isMint_e x0 h = some (r, h')) : mh_MI l yX12_isMint (Cond.code yX12_isMint cX12_isMint 1 (some .boolean) :: mh_TB) (mh_rm 0) [.int x0] L h r h' :=
  mh_of (mc := 0) (ms := 0) (Qc := fun D ks sz => mh_Qi D ks L sz r h') (plainFor_of_name (by decide)) (Nat.le_of_ble_eq_true rfl) (fun p e s m below meth c D ks ls hr cx wd hl => by
    have hl : lv_has ls 1 [(0, .int x0)] := hl
    exact w_X12_isMint_e cx hr x0 h _ _ ls wd hl hX)
def f_X12_mintAt_e (x0 : Int32) (h : mh_H) : Option (Int32 × mh_H) :=
  some (((13 : Int32) * x0), h)
set_option maxRecDepth 100000 in
set_option maxHeartbeats 4000000 in
theorem w_X12_mintAt_e {p : Program} {l : Launch} {e : Env} {s : State} {m : MethodId} {args : Array Value} {below : List Frame} {meth : Method} {c : Code} {D : va_G} {ks : Nat → ClassId} {L : List Nat} {r : Int32} {h' : mh_H} (cx : mh_C p m c cX12_mintAt 1 s args RX12 meth D ks (mh_A L s.heap.size)) (hr : meth.sig.returnType = (some .int)) :
    ∀ (x0 : Int32) (h : mh_H) (H : Heap) (locs : List Loc) (ls : Array Slot), mh_W D ks L (mh_A L s.heap.size) s.heap h H locs → lv_has ls 1 [(0, .int x0)] → f_X12_mintAt_e x0 h = some (r, h') → W p l e (mh_rm 0) s m args below meth c H locs 0 0 (MQ below (mh_Qi D ks L s.heap.size r h') args s 0 0 (mh_A L s.heap.size)) (F0 m 0 ls []) := by
  intro x0 h H locs ls wd hl hX
  have hx := cx.1.1
  have hb := cx.1.2.1
  unfold f_X12_mintAt_e at hX
  refine lv_bipush (v := 13) hx hb dX12_mintAt_0 (by decide) ?_
  refine lv_iload_n hx hb dX12_mintAt_2 rfl (lv_at hl 0 rfl) ?_
  refine lv_imul hx hb dX12_mintAt_3 ?_
  exact mh_iret cx wd hr hX dX12_mintAt_4
set_option maxRecDepth 100000 in
theorem c_X12_mintAt {l : Launch} {L : List Nat} {h h' : mh_H} {r : Int32} {x0 : Int32} (hX : f_X12_mintAt_e x0 h = some (r, h')) : mh_MI l yX12_mintAt (Cond.code yX12_mintAt cX12_mintAt 1 (some .int) :: mh_TB) (mh_rm 0) [.int x0] L h r h' :=
  mh_of (mc := 0) (ms := 0) (Qc := fun D ks sz => mh_Qi D ks L sz r h') (plainFor_of_name (by decide)) (Nat.le_of_ble_eq_true rfl) (fun p e s m below meth c D ks ls hr cx wd hl => by
    have hl : lv_has ls 1 [(0, .int x0)] := hl
    exact w_X12_mintAt_e cx hr x0 h _ _ ls wd hl hX)
def f_X12_purseAt_e (x0 : Int32) (h : mh_H) : Option (Int32 × mh_H) :=
  some (((104 : Int32) + ((25 : Int32) * x0)), h)
set_option maxRecDepth 100000 in
set_option maxHeartbeats 4000000 in
theorem w_X12_purseAt_e {p : Program} {l : Launch} {e : Env} {s : State} {m : MethodId} {args : Array Value} {below : List Frame} {meth : Method} {c : Code} {D : va_G} {ks : Nat → ClassId} {L : List Nat} {r : Int32} {h' : mh_H} (cx : mh_C p m c cX12_purseAt 1 s args RX12 meth D ks (mh_A L s.heap.size)) (hr : meth.sig.returnType = (some .int)) :
    ∀ (x0 : Int32) (h : mh_H) (H : Heap) (locs : List Loc) (ls : Array Slot), mh_W D ks L (mh_A L s.heap.size) s.heap h H locs → lv_has ls 1 [(0, .int x0)] → f_X12_purseAt_e x0 h = some (r, h') → W p l e (mh_rm 0) s m args below meth c H locs 0 0 (MQ below (mh_Qi D ks L s.heap.size r h') args s 0 0 (mh_A L s.heap.size)) (F0 m 0 ls []) := by
  intro x0 h H locs ls wd hl hX
  have hx := cx.1.1
  have hb := cx.1.2.1
  unfold f_X12_purseAt_e at hX
  refine lv_bipush (v := 104) hx hb dX12_purseAt_0 (by decide) ?_
  refine lv_bipush (v := 25) hx hb dX12_purseAt_2 (by decide) ?_
  refine lv_iload_n hx hb dX12_purseAt_4 rfl (lv_at hl 0 rfl) ?_
  refine lv_imul hx hb dX12_purseAt_5 ?_
  refine lv_iadd hx hb dX12_purseAt_6 ?_
  exact mh_iret cx wd hr hX dX12_purseAt_7
set_option maxRecDepth 100000 in
theorem c_X12_purseAt {l : Launch} {L : List Nat} {h h' : mh_H} {r : Int32} {x0 : Int32} (hX : f_X12_purseAt_e x0 h = some (r, h')) : mh_MI l yX12_purseAt (Cond.code yX12_purseAt cX12_purseAt 1 (some .int) :: mh_TB) (mh_rm 0) [.int x0] L h r h' :=
  mh_of (mc := 0) (ms := 0) (Qc := fun D ks sz => mh_Qi D ks L sz r h') (plainFor_of_name (by decide)) (Nat.le_of_ble_eq_true rfl) (fun p e s m below meth c D ks ls hr cx wd hl => by
    have hl : lv_has ls 1 [(0, .int x0)] := hl
    exact w_X12_purseAt_e cx hr x0 h _ _ ls wd hl hX)
def f_X12_changed_b69 (h : mh_H) : Option mh_H :=
  some h
def f_X12_changed_b39 : Nat → Nat → Int32 → mh_H → Option mh_H
  | 0, _, _, _ => none
  | n + 1, o0, x1, h =>
    if (304 : Int32) ≤ x1 then (
    f_X12_changed_b69 h) else
    (mh_gR h o0 12 2).bind fun a1 =>
    (mh_gI h o0 12 3).bind fun v2 =>
    (mh_aR h a1 5 v2).bind fun a3 =>
    (mh_gR h o0 12 1).bind fun a4 =>
    (mh_aI h a4 0 x1).bind fun v5 =>
    (mh_sI h a3 x1 v5).bind fun h6 =>
    mh_nm (x1 + Int32.ofInt (1)) fun v7 =>
    f_X12_changed_b39 n o0 v7 h6
def f_X12_changed_b37 (o0 : Nat) (h : mh_H) : Option mh_H :=
  mh_nm (0 : Int32) fun v8 =>
  f_X12_changed_b39 mh_fu o0 v8 h
def f_X12_changed_e (o0 : Nat) (h : mh_H) : Option mh_H :=
  (mh_pI h o0 12 5 (0 : Int32)).bind fun h9 =>
  (mh_gI h9 o0 12 3).bind fun v10 =>
  mh_nz ((21 : Int32) = 0) <|
  (mh_pI h9 o0 12 3 (mh_irem (v10 + (1 : Int32)) (21 : Int32))).bind fun h11 =>
  (mh_gI h11 o0 12 4).bind fun v12 =>
  if (20 : Int32) ≤ v12 then (
  f_X12_changed_b37 o0 h11) else
  (mh_gI h11 o0 12 4).bind fun v13 =>
  (mh_pI h11 o0 12 4 (v13 + (1 : Int32))).bind fun h14 =>
  f_X12_changed_b37 o0 h14
set_option maxRecDepth 100000 in
set_option maxHeartbeats 4000000 in
theorem w_X12_changed_b69 {p : Program} {l : Launch} {e : Env} {s : State} {m : MethodId} {args : Array Value} {below : List Frame} {meth : Method} {c : Code} {D : va_G} {ks : Nat → ClassId} {L : List Nat} {h' : mh_H} (cx : mh_C p m c cX12_changed 2 s args RX12 meth D ks (mh_A L s.heap.size)) (hr : meth.sig.returnType = none) :
    ∀ (h : mh_H) (H : Heap) (locs : List Loc) (ls : Array Slot), mh_W D ks L (mh_A L s.heap.size) s.heap h H locs → lv_has ls 2 [] → f_X12_changed_b69  h = some h' → W p l e (mh_rm 0) s m args below meth c H locs 0 0 (MQ below (mh_Qv D ks L s.heap.size h') args s 0 0 (mh_A L s.heap.size)) (F0 m 69 ls []) := by
  intro  h H locs ls wd hl hX
  have hx := cx.1.1
  have hb := cx.1.2.1
  unfold f_X12_changed_b69 at hX
  exact mh_vret cx wd hr hX dX12_changed_69
set_option maxRecDepth 100000 in
set_option maxHeartbeats 4000000 in
theorem w_X12_changed_b39 {p : Program} {l : Launch} {e : Env} {s : State} {m : MethodId} {args : Array Value} {below : List Frame} {meth : Method} {c : Code} {D : va_G} {ks : Nat → ClassId} {L : List Nat} {h' : mh_H} (cx : mh_C p m c cX12_changed 2 s args RX12 meth D ks (mh_A L s.heap.size)) (hr : meth.sig.returnType = none) :
    ∀ n : Nat, ∀ (o0 : Nat) (x1 : Int32) (h : mh_H) (H : Heap) (locs : List Loc) (ls : Array Slot), mh_W D ks L (mh_A L s.heap.size) s.heap h H locs → lv_has ls 2 [(0, .ref o0), (1, .int x1)] → f_X12_changed_b39 n o0 x1 h = some h' → W p l e (mh_rm 0) s m args below meth c H locs 0 0 (MQ below (mh_Qv D ks L s.heap.size h') args s 0 0 (mh_A L s.heap.size)) (F0 m 39 ls []) := by
  intro n
  induction n with
  | zero =>
    intro o0 x1 h H locs ls wd hl hX
    cases hX
  | succ n ih =>
    intro o0 x1 h H locs ls wd hl hX
    have hx := cx.1.1
    have hb := cx.1.2.1
    rw [f_X12_changed_b39] at hX
    refine lv_iload_n hx hb dX12_changed_39 rfl (lv_at hl 1 rfl) ?_
    refine lv_sipush (v := 304) hx hb dX12_changed_40 (by decide) ?_
    refine lv_icmp_ge (tgt := 69) hx hb dX12_changed_43 rfl (fun hc => (fun hX => ?_) ((mh_if hX).1 hc)) (fun hc => (fun hX => ?_) ((mh_if hX).2 hc))
    · exact w_X12_changed_b69 cx hr  h _ _ ls wd (lv_sub hl [] rfl) hX
    · refine lv_aload_n hx hb dX12_changed_46 rfl (lv_at hl 0 rfl) ?_
      refine mh_getR cx wd fl_X12_15 dX12_changed_47 hX (fun a1 hX => ?_)
      refine lv_aload_n hx hb dX12_changed_50 rfl (lv_at hl 0 rfl) ?_
      refine mh_getI cx wd fl_X12_102 dX12_changed_51 hX (fun v2 hX => ?_)
      refine mh_aald cx wd 5 rfl rfl dX12_changed_54 hX (fun a3 hX => ?_)
      refine lv_iload_n hx hb dX12_changed_55 rfl (lv_at hl 1 rfl) ?_
      refine lv_aload_n hx hb dX12_changed_56 rfl (lv_at hl 0 rfl) ?_
      refine mh_getR cx wd fl_X12_9 dX12_changed_57 hX (fun a4 hX => ?_)
      refine lv_iload_n hx hb dX12_changed_60 rfl (lv_at hl 1 rfl) ?_
      refine mh_iald cx wd dX12_changed_61 hX (fun v5 hX => ?_)
      refine mh_iast cx wd dX12_changed_62 hX (fun h6 H locs wd hX => ?_)
      obtain ⟨v7, ev7, hX⟩ := mh_nmx hX
      refine lv_iinc (k := 1) (v := v7) (lv' := [(1, .int v7), (0, .ref o0)]) hx hb dX12_changed_63 hl rfl ev7 (Nat.le_of_ble_eq_true rfl) rfl (fun ls hl => ?_)
      refine lv_goto (tgt := 39) hx hb dX12_changed_66 rfl ?_
      exact ih _ _ h6 _ _ ls wd (lv_sub hl [1, 0] rfl) hX
set_option maxRecDepth 100000 in
set_option maxHeartbeats 4000000 in
theorem w_X12_changed_b37 {p : Program} {l : Launch} {e : Env} {s : State} {m : MethodId} {args : Array Value} {below : List Frame} {meth : Method} {c : Code} {D : va_G} {ks : Nat → ClassId} {L : List Nat} {h' : mh_H} (cx : mh_C p m c cX12_changed 2 s args RX12 meth D ks (mh_A L s.heap.size)) (hr : meth.sig.returnType = none) :
    ∀ (o0 : Nat) (h : mh_H) (H : Heap) (locs : List Loc) (ls : Array Slot), mh_W D ks L (mh_A L s.heap.size) s.heap h H locs → lv_has ls 2 [(0, .ref o0)] → f_X12_changed_b37 o0 h = some h' → W p l e (mh_rm 0) s m args below meth c H locs 0 0 (MQ below (mh_Qv D ks L s.heap.size h') args s 0 0 (mh_A L s.heap.size)) (F0 m 37 ls []) := by
  intro o0 h H locs ls wd hl hX
  have hx := cx.1.1
  have hb := cx.1.2.1
  unfold f_X12_changed_b37 at hX
  refine lv_iconst (v := 0) hx hb dX12_changed_37 (by decide) ?_
  refine mh_topi hX (fun v8 hX => ?_)
  refine lv_istore_n (lv' := [(1, .int v8), (0, .ref o0)]) hx hb dX12_changed_38 rfl hl (Nat.le_of_ble_eq_true rfl) rfl (fun ls hl => ?_)
  exact w_X12_changed_b39 cx hr mh_fu _ _ h _ _ ls wd (lv_sub hl [1, 0] rfl) hX
set_option maxRecDepth 100000 in
set_option maxHeartbeats 4000000 in
theorem w_X12_changed_e {p : Program} {l : Launch} {e : Env} {s : State} {m : MethodId} {args : Array Value} {below : List Frame} {meth : Method} {c : Code} {D : va_G} {ks : Nat → ClassId} {L : List Nat} {h' : mh_H} (cx : mh_C p m c cX12_changed 2 s args RX12 meth D ks (mh_A L s.heap.size)) (hr : meth.sig.returnType = none) :
    ∀ (o0 : Nat) (h : mh_H) (H : Heap) (locs : List Loc) (ls : Array Slot), mh_W D ks L (mh_A L s.heap.size) s.heap h H locs → lv_has ls 2 [(0, .ref o0)] → f_X12_changed_e o0 h = some h' → W p l e (mh_rm 0) s m args below meth c H locs 0 0 (MQ below (mh_Qv D ks L s.heap.size h') args s 0 0 (mh_A L s.heap.size)) (F0 m 0 ls []) := by
  intro o0 h H locs ls wd hl hX
  have hx := cx.1.1
  have hb := cx.1.2.1
  unfold f_X12_changed_e at hX
  refine lv_aload_n hx hb dX12_changed_0 rfl (lv_at hl 0 rfl) ?_
  refine lv_iconst (v := 0) hx hb dX12_changed_1 (by decide) ?_
  refine mh_putI cx wd fp_X12_99 dX12_changed_2 hX (fun h9 H locs wd hX => ?_)
  refine lv_aload_n hx hb dX12_changed_5 rfl (lv_at hl 0 rfl) ?_
  refine lv_aload_n hx hb dX12_changed_6 rfl (lv_at hl 0 rfl) ?_
  refine mh_getI cx wd fl_X12_102 dX12_changed_7 hX (fun v10 hX => ?_)
  refine lv_iconst (v := 1) hx hb dX12_changed_10 (by decide) ?_
  refine lv_iadd hx hb dX12_changed_11 ?_
  refine lv_bipush (v := 21) hx hb dX12_changed_12 (by decide) ?_
  obtain ⟨hz, hX⟩ := mh_nzk hX
  refine lv_irem hx hb dX12_changed_14 hz ?_
  refine mh_putI cx wd fp_X12_102 dX12_changed_15 hX (fun h11 H locs wd hX => ?_)
  refine lv_aload_n hx hb dX12_changed_18 rfl (lv_at hl 0 rfl) ?_
  refine mh_getI cx wd fl_X12_105 dX12_changed_19 hX (fun v12 hX => ?_)
  refine lv_bipush (v := 20) hx hb dX12_changed_22 (by decide) ?_
  refine lv_icmp_ge (tgt := 37) hx hb dX12_changed_24 rfl (fun hc => (fun hX => ?_) ((mh_if hX).1 hc)) (fun hc => (fun hX => ?_) ((mh_if hX).2 hc))
  · exact w_X12_changed_b37 cx hr _ h11 _ _ ls wd (lv_sub hl [0] rfl) hX
  · refine lv_aload_n hx hb dX12_changed_27 rfl (lv_at hl 0 rfl) ?_
    refine lv_dup hx hb dX12_changed_28 rfl ?_
    refine mh_getI cx wd fl_X12_105 dX12_changed_29 hX (fun v13 hX => ?_)
    refine lv_iconst (v := 1) hx hb dX12_changed_32 (by decide) ?_
    refine lv_iadd hx hb dX12_changed_33 ?_
    refine mh_putI cx wd fp_X12_105 dX12_changed_34 hX (fun h14 H locs wd hX => ?_)
    exact w_X12_changed_b37 cx hr _ h14 _ _ ls wd (lv_sub hl [0] rfl) hX
set_option maxRecDepth 100000 in
theorem c_X12_changed {l : Launch} {L : List Nat} {h h' : mh_H} {o0 : Nat} (hX : f_X12_changed_e o0 h = some h') : mh_MV l yX12_changed (Cond.code yX12_changed cX12_changed 2 none :: mh_TB) (mh_rm 0) [.ref o0] L h h' :=
  mh_of (mc := 0) (ms := 0) (Qc := fun D ks sz => mh_Qv D ks L sz h') (plainFor_of_name (by decide)) (Nat.le_of_ble_eq_true rfl) (fun p e s m below meth c D ks ls hr cx wd hl => by
    have hl : lv_has ls 2 [(0, .ref o0)] := hl
    exact w_X12_changed_e cx hr o0 h _ _ ls wd hl hX)
def f_X12_again_b32 (h : mh_H) : Option mh_H :=
  some h
def f_X12_again_b2 : Nat → Nat → Int32 → mh_H → Option mh_H
  | 0, _, _, _ => none
  | n + 1, o0, x1, h =>
    if (304 : Int32) ≤ x1 then (
    f_X12_again_b32 h) else
    (mh_gR h o0 12 1).bind fun a1 =>
    (mh_gR h o0 12 2).bind fun a2 =>
    (mh_gI h o0 12 3).bind fun v3 =>
    (mh_aR h a2 5 v3).bind fun a4 =>
    (mh_aI h a4 0 x1).bind fun v5 =>
    (mh_sI h a1 x1 v5).bind fun h6 =>
    mh_nm (x1 + Int32.ofInt (1)) fun v7 =>
    f_X12_again_b2 n o0 v7 h6
def f_X12_again_e (o0 : Nat) (h : mh_H) : Option mh_H :=
  mh_nm (0 : Int32) fun v8 =>
  f_X12_again_b2 mh_fu o0 v8 h
set_option maxRecDepth 100000 in
set_option maxHeartbeats 4000000 in
theorem w_X12_again_b32 {p : Program} {l : Launch} {e : Env} {s : State} {m : MethodId} {args : Array Value} {below : List Frame} {meth : Method} {c : Code} {D : va_G} {ks : Nat → ClassId} {L : List Nat} {h' : mh_H} (cx : mh_C p m c cX12_again 2 s args RX12 meth D ks (mh_A L s.heap.size)) (hr : meth.sig.returnType = none) :
    ∀ (h : mh_H) (H : Heap) (locs : List Loc) (ls : Array Slot), mh_W D ks L (mh_A L s.heap.size) s.heap h H locs → lv_has ls 2 [] → f_X12_again_b32  h = some h' → W p l e (mh_rm 0) s m args below meth c H locs 0 0 (MQ below (mh_Qv D ks L s.heap.size h') args s 0 0 (mh_A L s.heap.size)) (F0 m 32 ls []) := by
  intro  h H locs ls wd hl hX
  have hx := cx.1.1
  have hb := cx.1.2.1
  unfold f_X12_again_b32 at hX
  exact mh_vret cx wd hr hX dX12_again_32
set_option maxRecDepth 100000 in
set_option maxHeartbeats 4000000 in
theorem w_X12_again_b2 {p : Program} {l : Launch} {e : Env} {s : State} {m : MethodId} {args : Array Value} {below : List Frame} {meth : Method} {c : Code} {D : va_G} {ks : Nat → ClassId} {L : List Nat} {h' : mh_H} (cx : mh_C p m c cX12_again 2 s args RX12 meth D ks (mh_A L s.heap.size)) (hr : meth.sig.returnType = none) :
    ∀ n : Nat, ∀ (o0 : Nat) (x1 : Int32) (h : mh_H) (H : Heap) (locs : List Loc) (ls : Array Slot), mh_W D ks L (mh_A L s.heap.size) s.heap h H locs → lv_has ls 2 [(0, .ref o0), (1, .int x1)] → f_X12_again_b2 n o0 x1 h = some h' → W p l e (mh_rm 0) s m args below meth c H locs 0 0 (MQ below (mh_Qv D ks L s.heap.size h') args s 0 0 (mh_A L s.heap.size)) (F0 m 2 ls []) := by
  intro n
  induction n with
  | zero =>
    intro o0 x1 h H locs ls wd hl hX
    cases hX
  | succ n ih =>
    intro o0 x1 h H locs ls wd hl hX
    have hx := cx.1.1
    have hb := cx.1.2.1
    rw [f_X12_again_b2] at hX
    refine lv_iload_n hx hb dX12_again_2 rfl (lv_at hl 1 rfl) ?_
    refine lv_sipush (v := 304) hx hb dX12_again_3 (by decide) ?_
    refine lv_icmp_ge (tgt := 32) hx hb dX12_again_6 rfl (fun hc => (fun hX => ?_) ((mh_if hX).1 hc)) (fun hc => (fun hX => ?_) ((mh_if hX).2 hc))
    · exact w_X12_again_b32 cx hr  h _ _ ls wd (lv_sub hl [] rfl) hX
    · refine lv_aload_n hx hb dX12_again_9 rfl (lv_at hl 0 rfl) ?_
      refine mh_getR cx wd fl_X12_9 dX12_again_10 hX (fun a1 hX => ?_)
      refine lv_iload_n hx hb dX12_again_13 rfl (lv_at hl 1 rfl) ?_
      refine lv_aload_n hx hb dX12_again_14 rfl (lv_at hl 0 rfl) ?_
      refine mh_getR cx wd fl_X12_15 dX12_again_15 hX (fun a2 hX => ?_)
      refine lv_aload_n hx hb dX12_again_18 rfl (lv_at hl 0 rfl) ?_
      refine mh_getI cx wd fl_X12_102 dX12_again_19 hX (fun v3 hX => ?_)
      refine mh_aald cx wd 5 rfl rfl dX12_again_22 hX (fun a4 hX => ?_)
      refine lv_iload_n hx hb dX12_again_23 rfl (lv_at hl 1 rfl) ?_
      refine mh_iald cx wd dX12_again_24 hX (fun v5 hX => ?_)
      refine mh_iast cx wd dX12_again_25 hX (fun h6 H locs wd hX => ?_)
      obtain ⟨v7, ev7, hX⟩ := mh_nmx hX
      refine lv_iinc (k := 1) (v := v7) (lv' := [(1, .int v7), (0, .ref o0)]) hx hb dX12_again_26 hl rfl ev7 (Nat.le_of_ble_eq_true rfl) rfl (fun ls hl => ?_)
      refine lv_goto (tgt := 2) hx hb dX12_again_29 rfl ?_
      exact ih _ _ h6 _ _ ls wd (lv_sub hl [1, 0] rfl) hX
set_option maxRecDepth 100000 in
set_option maxHeartbeats 4000000 in
theorem w_X12_again_e {p : Program} {l : Launch} {e : Env} {s : State} {m : MethodId} {args : Array Value} {below : List Frame} {meth : Method} {c : Code} {D : va_G} {ks : Nat → ClassId} {L : List Nat} {h' : mh_H} (cx : mh_C p m c cX12_again 2 s args RX12 meth D ks (mh_A L s.heap.size)) (hr : meth.sig.returnType = none) :
    ∀ (o0 : Nat) (h : mh_H) (H : Heap) (locs : List Loc) (ls : Array Slot), mh_W D ks L (mh_A L s.heap.size) s.heap h H locs → lv_has ls 2 [(0, .ref o0)] → f_X12_again_e o0 h = some h' → W p l e (mh_rm 0) s m args below meth c H locs 0 0 (MQ below (mh_Qv D ks L s.heap.size h') args s 0 0 (mh_A L s.heap.size)) (F0 m 0 ls []) := by
  intro o0 h H locs ls wd hl hX
  have hx := cx.1.1
  have hb := cx.1.2.1
  unfold f_X12_again_e at hX
  refine lv_iconst (v := 0) hx hb dX12_again_0 (by decide) ?_
  refine mh_topi hX (fun v8 hX => ?_)
  refine lv_istore_n (lv' := [(1, .int v8), (0, .ref o0)]) hx hb dX12_again_1 rfl hl (Nat.le_of_ble_eq_true rfl) rfl (fun ls hl => ?_)
  exact w_X12_again_b2 cx hr mh_fu _ _ h _ _ ls wd (lv_sub hl [1, 0] rfl) hX
set_option maxRecDepth 100000 in
theorem c_X12_again {l : Launch} {L : List Nat} {h h' : mh_H} {o0 : Nat} (hX : f_X12_again_e o0 h = some h') : mh_MV l yX12_again (Cond.code yX12_again cX12_again 2 none :: mh_TB) (mh_rm 0) [.ref o0] L h h' :=
  mh_of (mc := 0) (ms := 0) (Qc := fun D ks sz => mh_Qv D ks L sz h') (plainFor_of_name (by decide)) (Nat.le_of_ble_eq_true rfl) (fun p e s m below meth c D ks ls hr cx wd hl => by
    have hl : lv_has ls 2 [(0, .ref o0)] := hl
    exact w_X12_again_e cx hr o0 h _ _ ls wd hl hX)
def f_X12_undo_e (o0 : Nat) (h : mh_H) : Option (Int32 × mh_H) :=
  (mh_pI h o0 12 0 (0 : Int32)).bind fun h1 =>
  (mh_gI h1 o0 12 4).bind fun v2 =>
  if v2 = 0 then (
  mh_rz (0 : Int32) h1) else
  (mh_gI h1 o0 12 4).bind fun v3 =>
  (mh_pI h1 o0 12 4 (v3 - (1 : Int32))).bind fun h4 =>
  (mh_gI h4 o0 12 5).bind fun v5 =>
  (mh_pI h4 o0 12 5 (v5 + (1 : Int32))).bind fun h6 =>
  (mh_gI h6 o0 12 3).bind fun v7 =>
  mh_nz ((21 : Int32) = 0) <|
  (mh_pI h6 o0 12 3 (mh_irem ((v7 + (21 : Int32)) - (1 : Int32)) (21 : Int32))).bind fun h8 =>
  (mh_cal h8 o0 12 (f_X12_again_e o0 h8)).bind fun h9 =>
  mh_rz (1 : Int32) h9
set_option maxRecDepth 100000 in
set_option maxHeartbeats 4000000 in
theorem w_X12_undo_e {p : Program} {l : Launch} {e : Env} {s : State} {m : MethodId} {args : Array Value} {below : List Frame} {meth : Method} {c : Code} {D : va_G} {ks : Nat → ClassId} {L : List Nat} {r : Int32} {h' : mh_H} (cx : mh_C p m c cX12_undo 1 s args RX12 meth D ks (mh_A L s.heap.size)) (hr : meth.sig.returnType = (some .boolean)) :
    ∀ (o0 : Nat) (h : mh_H) (H : Heap) (locs : List Loc) (ls : Array Slot), mh_W D ks L (mh_A L s.heap.size) s.heap h H locs → lv_has ls 1 [(0, .ref o0)] → f_X12_undo_e o0 h = some (r, h') → W p l e (mh_rm 1) s m args below meth c H locs 0 0 (MQ below (mh_Qi D ks L s.heap.size r h') args s 0 0 (mh_A L s.heap.size)) (F0 m 0 ls []) := by
  intro o0 h H locs ls wd hl hX
  have hx := cx.1.1
  have hb := cx.1.2.1
  unfold f_X12_undo_e at hX
  refine lv_aload_n hx hb dX12_undo_0 rfl (lv_at hl 0 rfl) ?_
  refine lv_iconst (v := 0) hx hb dX12_undo_1 (by decide) ?_
  refine mh_putI cx wd fp_X12_96 dX12_undo_2 hX (fun h1 H locs wd hX => ?_)
  refine lv_aload_n hx hb dX12_undo_5 rfl (lv_at hl 0 rfl) ?_
  refine mh_getI cx wd fl_X12_105 dX12_undo_6 hX (fun v2 hX => ?_)
  refine lv_if_ne (tgt := 14) hx hb dX12_undo_9 rfl (fun hc => (fun hX => ?_) ((mh_if hX).2 hc)) (fun hc => (fun hX => ?_) ((mh_if hX).1 hc))
  · refine lv_aload_n hx hb dX12_undo_14 rfl (lv_at hl 0 rfl) ?_
    refine lv_dup hx hb dX12_undo_15 rfl ?_
    refine mh_getI cx wd fl_X12_105 dX12_undo_16 hX (fun v3 hX => ?_)
    refine lv_iconst (v := 1) hx hb dX12_undo_19 (by decide) ?_
    refine lv_isub hx hb dX12_undo_20 ?_
    refine mh_putI cx wd fp_X12_105 dX12_undo_21 hX (fun h4 H locs wd hX => ?_)
    refine lv_aload_n hx hb dX12_undo_24 rfl (lv_at hl 0 rfl) ?_
    refine lv_dup hx hb dX12_undo_25 rfl ?_
    refine mh_getI cx wd fl_X12_99 dX12_undo_26 hX (fun v5 hX => ?_)
    refine lv_iconst (v := 1) hx hb dX12_undo_29 (by decide) ?_
    refine lv_iadd hx hb dX12_undo_30 ?_
    refine mh_putI cx wd fp_X12_99 dX12_undo_31 hX (fun h6 H locs wd hX => ?_)
    refine lv_aload_n hx hb dX12_undo_34 rfl (lv_at hl 0 rfl) ?_
    refine lv_aload_n hx hb dX12_undo_35 rfl (lv_at hl 0 rfl) ?_
    refine mh_getI cx wd fl_X12_102 dX12_undo_36 hX (fun v7 hX => ?_)
    refine lv_bipush (v := 21) hx hb dX12_undo_39 (by decide) ?_
    refine lv_iadd hx hb dX12_undo_41 ?_
    refine lv_iconst (v := 1) hx hb dX12_undo_42 (by decide) ?_
    refine lv_isub hx hb dX12_undo_43 ?_
    refine lv_bipush (v := 21) hx hb dX12_undo_44 (by decide) ?_
    obtain ⟨hz, hX⟩ := mh_nzk hX
    refine lv_irem hx hb dX12_undo_46 hz ?_
    refine mh_putI cx wd fp_X12_102 dX12_undo_47 hX (fun h8 H locs wd hX => ?_)
    refine lv_aload_n hx hb dX12_undo_50 rfl (lv_at hl 0 rfl) ?_
    refine mh_callVV cx wd [] (rfl : vwCl[12]? = some (RX12, TX12, 38)) yw_X12_again vw_X12_108 rfl hl.1 rfl (Nat.le_of_ble_eq_true rfl) dX12_undo_51 ⟨Nat.le_of_ble_eq_true rfl, Nat.le_of_ble_eq_true rfl⟩ ⟨Nat.le_refl _, Nat.le_refl _⟩ (fun _ q => c_X12_again q) hX (fun h9 H locs wd hX => ?_)
    refine lv_iconst (v := 1) hx hb dX12_undo_54 (by decide) ?_
    exact mh_zret cx wd hr hX dX12_undo_55
  · refine lv_iconst (v := 0) hx hb dX12_undo_12 (by decide) ?_
    exact mh_zret cx wd hr hX dX12_undo_13
set_option maxRecDepth 100000 in
theorem c_X12_undo {l : Launch} {L : List Nat} {h h' : mh_H} {r : Int32} {o0 : Nat} (hX : f_X12_undo_e o0 h = some (r, h')) : mh_MI l yX12_undo (Cond.code yX12_undo cX12_undo 1 (some .boolean) :: mh_TB) (mh_rm 1) [.ref o0] L h r h' :=
  mh_of (mc := 0) (ms := 0) (Qc := fun D ks sz => mh_Qi D ks L sz r h') (plainFor_of_name (by decide)) (Nat.le_of_ble_eq_true rfl) (fun p e s m below meth c D ks ls hr cx wd hl => by
    have hl : lv_has ls 1 [(0, .ref o0)] := hl
    exact w_X12_undo_e cx hr o0 h _ _ ls wd hl hX)
def f_X12_redo_e (o0 : Nat) (h : mh_H) : Option (Int32 × mh_H) :=
  (mh_pI h o0 12 0 (0 : Int32)).bind fun h1 =>
  (mh_gI h1 o0 12 5).bind fun v2 =>
  if v2 = 0 then (
  mh_rz (0 : Int32) h1) else
  (mh_gI h1 o0 12 5).bind fun v3 =>
  (mh_pI h1 o0 12 5 (v3 - (1 : Int32))).bind fun h4 =>
  (mh_gI h4 o0 12 4).bind fun v5 =>
  (mh_pI h4 o0 12 4 (v5 + (1 : Int32))).bind fun h6 =>
  (mh_gI h6 o0 12 3).bind fun v7 =>
  mh_nz ((21 : Int32) = 0) <|
  (mh_pI h6 o0 12 3 (mh_irem (v7 + (1 : Int32)) (21 : Int32))).bind fun h8 =>
  (mh_cal h8 o0 12 (f_X12_again_e o0 h8)).bind fun h9 =>
  mh_rz (1 : Int32) h9
set_option maxRecDepth 100000 in
set_option maxHeartbeats 4000000 in
theorem w_X12_redo_e {p : Program} {l : Launch} {e : Env} {s : State} {m : MethodId} {args : Array Value} {below : List Frame} {meth : Method} {c : Code} {D : va_G} {ks : Nat → ClassId} {L : List Nat} {r : Int32} {h' : mh_H} (cx : mh_C p m c cX12_redo 1 s args RX12 meth D ks (mh_A L s.heap.size)) (hr : meth.sig.returnType = (some .boolean)) :
    ∀ (o0 : Nat) (h : mh_H) (H : Heap) (locs : List Loc) (ls : Array Slot), mh_W D ks L (mh_A L s.heap.size) s.heap h H locs → lv_has ls 1 [(0, .ref o0)] → f_X12_redo_e o0 h = some (r, h') → W p l e (mh_rm 1) s m args below meth c H locs 0 0 (MQ below (mh_Qi D ks L s.heap.size r h') args s 0 0 (mh_A L s.heap.size)) (F0 m 0 ls []) := by
  intro o0 h H locs ls wd hl hX
  have hx := cx.1.1
  have hb := cx.1.2.1
  unfold f_X12_redo_e at hX
  refine lv_aload_n hx hb dX12_redo_0 rfl (lv_at hl 0 rfl) ?_
  refine lv_iconst (v := 0) hx hb dX12_redo_1 (by decide) ?_
  refine mh_putI cx wd fp_X12_96 dX12_redo_2 hX (fun h1 H locs wd hX => ?_)
  refine lv_aload_n hx hb dX12_redo_5 rfl (lv_at hl 0 rfl) ?_
  refine mh_getI cx wd fl_X12_99 dX12_redo_6 hX (fun v2 hX => ?_)
  refine lv_if_ne (tgt := 14) hx hb dX12_redo_9 rfl (fun hc => (fun hX => ?_) ((mh_if hX).2 hc)) (fun hc => (fun hX => ?_) ((mh_if hX).1 hc))
  · refine lv_aload_n hx hb dX12_redo_14 rfl (lv_at hl 0 rfl) ?_
    refine lv_dup hx hb dX12_redo_15 rfl ?_
    refine mh_getI cx wd fl_X12_99 dX12_redo_16 hX (fun v3 hX => ?_)
    refine lv_iconst (v := 1) hx hb dX12_redo_19 (by decide) ?_
    refine lv_isub hx hb dX12_redo_20 ?_
    refine mh_putI cx wd fp_X12_99 dX12_redo_21 hX (fun h4 H locs wd hX => ?_)
    refine lv_aload_n hx hb dX12_redo_24 rfl (lv_at hl 0 rfl) ?_
    refine lv_dup hx hb dX12_redo_25 rfl ?_
    refine mh_getI cx wd fl_X12_105 dX12_redo_26 hX (fun v5 hX => ?_)
    refine lv_iconst (v := 1) hx hb dX12_redo_29 (by decide) ?_
    refine lv_iadd hx hb dX12_redo_30 ?_
    refine mh_putI cx wd fp_X12_105 dX12_redo_31 hX (fun h6 H locs wd hX => ?_)
    refine lv_aload_n hx hb dX12_redo_34 rfl (lv_at hl 0 rfl) ?_
    refine lv_aload_n hx hb dX12_redo_35 rfl (lv_at hl 0 rfl) ?_
    refine mh_getI cx wd fl_X12_102 dX12_redo_36 hX (fun v7 hX => ?_)
    refine lv_iconst (v := 1) hx hb dX12_redo_39 (by decide) ?_
    refine lv_iadd hx hb dX12_redo_40 ?_
    refine lv_bipush (v := 21) hx hb dX12_redo_41 (by decide) ?_
    obtain ⟨hz, hX⟩ := mh_nzk hX
    refine lv_irem hx hb dX12_redo_43 hz ?_
    refine mh_putI cx wd fp_X12_102 dX12_redo_44 hX (fun h8 H locs wd hX => ?_)
    refine lv_aload_n hx hb dX12_redo_47 rfl (lv_at hl 0 rfl) ?_
    refine mh_callVV cx wd [] (rfl : vwCl[12]? = some (RX12, TX12, 38)) yw_X12_again vw_X12_108 rfl hl.1 rfl (Nat.le_of_ble_eq_true rfl) dX12_redo_48 ⟨Nat.le_of_ble_eq_true rfl, Nat.le_of_ble_eq_true rfl⟩ ⟨Nat.le_refl _, Nat.le_refl _⟩ (fun _ q => c_X12_again q) hX (fun h9 H locs wd hX => ?_)
    refine lv_iconst (v := 1) hx hb dX12_redo_51 (by decide) ?_
    exact mh_zret cx wd hr hX dX12_redo_52
  · refine lv_iconst (v := 0) hx hb dX12_redo_12 (by decide) ?_
    exact mh_zret cx wd hr hX dX12_redo_13
set_option maxRecDepth 100000 in
theorem c_X12_redo {l : Launch} {L : List Nat} {h h' : mh_H} {r : Int32} {o0 : Nat} (hX : f_X12_redo_e o0 h = some (r, h')) : mh_MI l yX12_redo (Cond.code yX12_redo cX12_redo 1 (some .boolean) :: mh_TB) (mh_rm 1) [.ref o0] L h r h' :=
  mh_of (mc := 0) (ms := 0) (Qc := fun D ks sz => mh_Qi D ks L sz r h') (plainFor_of_name (by decide)) (Nat.le_of_ble_eq_true rfl) (fun p e s m below meth c D ks ls hr cx wd hl => by
    have hl : lv_has ls 1 [(0, .ref o0)] := hl
    exact w_X12_redo_e cx hr o0 h _ _ ls wd hl hX)
def f_X12_coin_b38 (h : mh_H) : Option (Int32 × mh_H) :=
  some ((-1 : Int32), h)
def f_X12_coin_b138 (o0 : Nat) (x2 : Int32) (x3 : Int32) (x4 : Int32) (x5 : Int32) (h : mh_H) : Option (Int32 × mh_H) :=
  (mh_gR h o0 12 1).bind fun a1 =>
  (mh_sI h a1 ((x3 + x5) + (1 : Int32)) x2).bind fun h2 =>
  (mh_gR h2 o0 12 1).bind fun a3 =>
  (mh_aI h2 a3 0 x3).bind fun v4 =>
  (mh_sI h2 a3 x3 (v4 + (1 : Int32))).bind fun h5 =>
  (mh_cal h5 o0 12 (f_X12_changed_e o0 h5)).bind fun h6 =>
  some ((x4 + (1 : Int32)), h6)
def f_X12_coin_b105 : Nat → Nat → Int32 → Int32 → Int32 → Int32 → Int32 → mh_H → Option (Int32 × mh_H)
  | 0, _, _, _, _, _, _, _ => none
  | n + 1, o0, x2, x3, x4, x5, x6, h =>
    if x6 ≤ x5 then (
    f_X12_coin_b138 o0 x2 x3 x4 x5 h) else
    (mh_gR h o0 12 1).bind fun a7 =>
    (mh_gR h o0 12 1).bind fun a8 =>
    (mh_aI h a8 0 (x3 + x6)).bind fun v9 =>
    (mh_sI h a7 ((x3 + x6) + (1 : Int32)) v9).bind fun h10 =>
    mh_nm (x6 + Int32.ofInt (-1)) fun v11 =>
    f_X12_coin_b105 n o0 x2 x3 x4 x5 v11 h10
def f_X12_coin_b101 (o0 : Nat) (x2 : Int32) (x3 : Int32) (x4 : Int32) (x5 : Int32) (h : mh_H) : Option (Int32 × mh_H) :=
  f_X12_coin_b105 mh_fu o0 x2 x3 x4 x5 x4 h
def f_X12_coin_b81 (o0 : Nat) (x2 : Int32) (x3 : Int32) (x4 : Int32) (x5 : Int32) (h : mh_H) : Option (Int32 × mh_H) :=
  if x5 ≤ 0 then (
  f_X12_coin_b101 o0 x2 x3 x4 x5 h) else
  (mh_gR h o0 12 1).bind fun a12 =>
  (mh_aI h a12 0 (x3 + x5)).bind fun v13 =>
  if v13 = x2 then (
  some ((-1 : Int32), h)) else
  f_X12_coin_b101 o0 x2 x3 x4 x5 h
def f_X12_coin_b57 : Nat → Nat → Int32 → Int32 → Int32 → Int32 → mh_H → Option (Int32 × mh_H)
  | 0, _, _, _, _, _, _ => none
  | n + 1, o0, x2, x3, x4, x5, h =>
    if x5 ≤ 0 then (
    f_X12_coin_b81 o0 x2 x3 x4 x5 h) else
    (mh_gR h o0 12 1).bind fun a14 =>
    (mh_aI h a14 0 (x3 + x5)).bind fun v15 =>
    if v15 ≤ x2 then (
    f_X12_coin_b81 o0 x2 x3 x4 x5 h) else
    mh_nm (x5 + Int32.ofInt (-1)) fun v16 =>
    f_X12_coin_b57 n o0 x2 x3 x4 v16 h
def f_X12_coin_e (o0 : Nat) (x1 : Int32) (x2 : Int32) (h : mh_H) : Option (Int32 × mh_H) :=
  (mh_pI h o0 12 0 (0 : Int32)).bind fun h17 =>
  mh_b2 (f_X12_isMint_e x1 h17) fun v19 h18 =>
  if v19 = 0 then (
  f_X12_coin_b38 h18) else
  if x2 < (1 : Int32) then (
  f_X12_coin_b38 h18) else
  if (300 : Int32) < x2 then (
  f_X12_coin_b38 h18) else
  (mh_gR h18 o0 12 1).bind fun a20 =>
  mh_b2 (f_X12_mintAt_e x1 h18) fun v22 h21 =>
  (mh_aI h21 a20 0 v22).bind fun v23 =>
  if v23 = (12 : Int32) then (
  f_X12_coin_b38 h21) else
  mh_b2 (f_X12_mintAt_e x1 h21) fun v25 h24 =>
  (mh_gR h24 o0 12 1).bind fun a26 =>
  (mh_aI h24 a26 0 v25).bind fun v27 =>
  f_X12_coin_b57 mh_fu o0 x2 v25 v27 v27 h24
set_option maxRecDepth 100000 in
set_option maxHeartbeats 4000000 in
theorem w_X12_coin_b38 {p : Program} {l : Launch} {e : Env} {s : State} {m : MethodId} {args : Array Value} {below : List Frame} {meth : Method} {c : Code} {D : va_G} {ks : Nat → ClassId} {L : List Nat} {r : Int32} {h' : mh_H} (cx : mh_C p m c cX12_coin 7 s args RX12 meth D ks (mh_A L s.heap.size)) (hr : meth.sig.returnType = (some .int)) :
    ∀ (h : mh_H) (H : Heap) (locs : List Loc) (ls : Array Slot), mh_W D ks L (mh_A L s.heap.size) s.heap h H locs → lv_has ls 7 [] → f_X12_coin_b38  h = some (r, h') → W p l e (mh_rm 1) s m args below meth c H locs 0 0 (MQ below (mh_Qi D ks L s.heap.size r h') args s 0 0 (mh_A L s.heap.size)) (F0 m 38 ls []) := by
  intro  h H locs ls wd hl hX
  have hx := cx.1.1
  have hb := cx.1.2.1
  unfold f_X12_coin_b38 at hX
  refine lv_iconst (v := (-1)) hx hb dX12_coin_38 (by decide) ?_
  exact mh_iret cx wd hr hX dX12_coin_39
set_option maxRecDepth 100000 in
set_option maxHeartbeats 4000000 in
theorem w_X12_coin_b138 {p : Program} {l : Launch} {e : Env} {s : State} {m : MethodId} {args : Array Value} {below : List Frame} {meth : Method} {c : Code} {D : va_G} {ks : Nat → ClassId} {L : List Nat} {r : Int32} {h' : mh_H} (cx : mh_C p m c cX12_coin 7 s args RX12 meth D ks (mh_A L s.heap.size)) (hr : meth.sig.returnType = (some .int)) :
    ∀ (o0 : Nat) (x2 : Int32) (x3 : Int32) (x4 : Int32) (x5 : Int32) (h : mh_H) (H : Heap) (locs : List Loc) (ls : Array Slot), mh_W D ks L (mh_A L s.heap.size) s.heap h H locs → lv_has ls 7 [(0, .ref o0), (2, .int x2), (3, .int x3), (4, .int x4), (5, .int x5)] → f_X12_coin_b138 o0 x2 x3 x4 x5 h = some (r, h') → W p l e (mh_rm 1) s m args below meth c H locs 0 0 (MQ below (mh_Qi D ks L s.heap.size r h') args s 0 0 (mh_A L s.heap.size)) (F0 m 138 ls []) := by
  intro o0 x2 x3 x4 x5 h H locs ls wd hl hX
  have hx := cx.1.1
  have hb := cx.1.2.1
  unfold f_X12_coin_b138 at hX
  refine lv_aload_n hx hb dX12_coin_138 rfl (lv_at hl 0 rfl) ?_
  refine mh_getR cx wd fl_X12_9 dX12_coin_139 hX (fun a1 hX => ?_)
  refine lv_iload_n hx hb dX12_coin_142 rfl (lv_at hl 2 rfl) ?_
  refine lv_iload hx hb dX12_coin_143 (lv_at hl 4 rfl) ?_
  refine lv_iadd hx hb dX12_coin_145 ?_
  refine lv_iconst (v := 1) hx hb dX12_coin_146 (by decide) ?_
  refine lv_iadd hx hb dX12_coin_147 ?_
  refine lv_iload_n hx hb dX12_coin_148 rfl (lv_at hl 1 rfl) ?_
  refine mh_iast cx wd dX12_coin_149 hX (fun h2 H locs wd hX => ?_)
  refine lv_aload_n hx hb dX12_coin_150 rfl (lv_at hl 0 rfl) ?_
  refine mh_getR cx wd fl_X12_9 dX12_coin_151 hX (fun a3 hX => ?_)
  refine lv_iload_n hx hb dX12_coin_154 rfl (lv_at hl 2 rfl) ?_
  refine lv_dup2_11 hx hb dX12_coin_155 rfl rfl ?_
  refine mh_iald cx wd dX12_coin_156 hX (fun v4 hX => ?_)
  refine lv_iconst (v := 1) hx hb dX12_coin_157 (by decide) ?_
  refine lv_iadd hx hb dX12_coin_158 ?_
  refine mh_iast cx wd dX12_coin_159 hX (fun h5 H locs wd hX => ?_)
  refine lv_aload_n hx hb dX12_coin_160 rfl (lv_at hl 0 rfl) ?_
  refine mh_callVV cx wd [] (rfl : vwCl[12]? = some (RX12, TX12, 38)) yw_X12_changed vw_X12_119 rfl hl.1 rfl (Nat.le_of_ble_eq_true rfl) dX12_coin_161 ⟨Nat.le_of_ble_eq_true rfl, Nat.le_of_ble_eq_true rfl⟩ ⟨Nat.le_refl _, Nat.le_refl _⟩ (fun _ q => c_X12_changed q) hX (fun h6 H locs wd hX => ?_)
  refine lv_iload hx hb dX12_coin_164 (lv_at hl 3 rfl) ?_
  refine lv_iconst (v := 1) hx hb dX12_coin_166 (by decide) ?_
  refine lv_iadd hx hb dX12_coin_167 ?_
  exact mh_iret cx wd hr hX dX12_coin_168
set_option maxRecDepth 100000 in
set_option maxHeartbeats 4000000 in
theorem w_X12_coin_b105 {p : Program} {l : Launch} {e : Env} {s : State} {m : MethodId} {args : Array Value} {below : List Frame} {meth : Method} {c : Code} {D : va_G} {ks : Nat → ClassId} {L : List Nat} {r : Int32} {h' : mh_H} (cx : mh_C p m c cX12_coin 7 s args RX12 meth D ks (mh_A L s.heap.size)) (hr : meth.sig.returnType = (some .int)) :
    ∀ n : Nat, ∀ (o0 : Nat) (x2 : Int32) (x3 : Int32) (x4 : Int32) (x5 : Int32) (x6 : Int32) (h : mh_H) (H : Heap) (locs : List Loc) (ls : Array Slot), mh_W D ks L (mh_A L s.heap.size) s.heap h H locs → lv_has ls 7 [(0, .ref o0), (2, .int x2), (3, .int x3), (4, .int x4), (5, .int x5), (6, .int x6)] → f_X12_coin_b105 n o0 x2 x3 x4 x5 x6 h = some (r, h') → W p l e (mh_rm 1) s m args below meth c H locs 0 0 (MQ below (mh_Qi D ks L s.heap.size r h') args s 0 0 (mh_A L s.heap.size)) (F0 m 105 ls []) := by
  intro n
  induction n with
  | zero =>
    intro o0 x2 x3 x4 x5 x6 h H locs ls wd hl hX
    cases hX
  | succ n ih =>
    intro o0 x2 x3 x4 x5 x6 h H locs ls wd hl hX
    have hx := cx.1.1
    have hb := cx.1.2.1
    rw [f_X12_coin_b105] at hX
    refine lv_iload hx hb dX12_coin_105 (lv_at hl 5 rfl) ?_
    refine lv_iload hx hb dX12_coin_107 (lv_at hl 4 rfl) ?_
    refine lv_icmp_le (tgt := 138) hx hb dX12_coin_109 rfl (fun hc => (fun hX => ?_) ((mh_if hX).1 hc)) (fun hc => (fun hX => ?_) ((mh_if hX).2 hc))
    · exact w_X12_coin_b138 cx hr _ _ _ _ _ h _ _ ls wd (lv_sub hl [0, 1, 2, 3, 4] rfl) hX
    · refine lv_aload_n hx hb dX12_coin_112 rfl (lv_at hl 0 rfl) ?_
      refine mh_getR cx wd fl_X12_9 dX12_coin_113 hX (fun a7 hX => ?_)
      refine lv_iload_n hx hb dX12_coin_116 rfl (lv_at hl 2 rfl) ?_
      refine lv_iload hx hb dX12_coin_117 (lv_at hl 5 rfl) ?_
      refine lv_iadd hx hb dX12_coin_119 ?_
      refine lv_iconst (v := 1) hx hb dX12_coin_120 (by decide) ?_
      refine lv_iadd hx hb dX12_coin_121 ?_
      refine lv_aload_n hx hb dX12_coin_122 rfl (lv_at hl 0 rfl) ?_
      refine mh_getR cx wd fl_X12_9 dX12_coin_123 hX (fun a8 hX => ?_)
      refine lv_iload_n hx hb dX12_coin_126 rfl (lv_at hl 2 rfl) ?_
      refine lv_iload hx hb dX12_coin_127 (lv_at hl 5 rfl) ?_
      refine lv_iadd hx hb dX12_coin_129 ?_
      refine mh_iald cx wd dX12_coin_130 hX (fun v9 hX => ?_)
      refine mh_iast cx wd dX12_coin_131 hX (fun h10 H locs wd hX => ?_)
      obtain ⟨v11, ev11, hX⟩ := mh_nmx hX
      refine lv_iinc (k := 5) (v := v11) (lv' := [(6, .int v11), (0, .ref o0), (2, .int x2), (3, .int x3), (4, .int x4), (5, .int x5)]) hx hb dX12_coin_132 hl rfl ev11 (Nat.le_of_ble_eq_true rfl) rfl (fun ls hl => ?_)
      refine lv_goto (tgt := 105) hx hb dX12_coin_135 rfl ?_
      exact ih _ _ _ _ _ _ h10 _ _ ls wd (lv_sub hl [1, 2, 3, 4, 5, 0] rfl) hX
set_option maxRecDepth 100000 in
set_option maxHeartbeats 4000000 in
theorem w_X12_coin_b101 {p : Program} {l : Launch} {e : Env} {s : State} {m : MethodId} {args : Array Value} {below : List Frame} {meth : Method} {c : Code} {D : va_G} {ks : Nat → ClassId} {L : List Nat} {r : Int32} {h' : mh_H} (cx : mh_C p m c cX12_coin 7 s args RX12 meth D ks (mh_A L s.heap.size)) (hr : meth.sig.returnType = (some .int)) :
    ∀ (o0 : Nat) (x2 : Int32) (x3 : Int32) (x4 : Int32) (x5 : Int32) (h : mh_H) (H : Heap) (locs : List Loc) (ls : Array Slot), mh_W D ks L (mh_A L s.heap.size) s.heap h H locs → lv_has ls 7 [(0, .ref o0), (2, .int x2), (3, .int x3), (4, .int x4), (5, .int x5)] → f_X12_coin_b101 o0 x2 x3 x4 x5 h = some (r, h') → W p l e (mh_rm 1) s m args below meth c H locs 0 0 (MQ below (mh_Qi D ks L s.heap.size r h') args s 0 0 (mh_A L s.heap.size)) (F0 m 101 ls []) := by
  intro o0 x2 x3 x4 x5 h H locs ls wd hl hX
  have hx := cx.1.1
  have hb := cx.1.2.1
  unfold f_X12_coin_b101 at hX
  refine lv_iload hx hb dX12_coin_101 (lv_at hl 3 rfl) ?_
  refine lv_istore (lv' := [(6, .int x4), (0, .ref o0), (2, .int x2), (3, .int x3), (4, .int x4), (5, .int x5)]) hx hb dX12_coin_103 hl (Nat.le_of_ble_eq_true rfl) rfl (fun ls hl => ?_)
  exact w_X12_coin_b105 cx hr mh_fu _ _ _ _ _ _ h _ _ ls wd (lv_sub hl [1, 2, 3, 4, 5, 0] rfl) hX
set_option maxRecDepth 100000 in
set_option maxHeartbeats 4000000 in
theorem w_X12_coin_b81 {p : Program} {l : Launch} {e : Env} {s : State} {m : MethodId} {args : Array Value} {below : List Frame} {meth : Method} {c : Code} {D : va_G} {ks : Nat → ClassId} {L : List Nat} {r : Int32} {h' : mh_H} (cx : mh_C p m c cX12_coin 7 s args RX12 meth D ks (mh_A L s.heap.size)) (hr : meth.sig.returnType = (some .int)) :
    ∀ (o0 : Nat) (x2 : Int32) (x3 : Int32) (x4 : Int32) (x5 : Int32) (h : mh_H) (H : Heap) (locs : List Loc) (ls : Array Slot), mh_W D ks L (mh_A L s.heap.size) s.heap h H locs → lv_has ls 7 [(0, .ref o0), (2, .int x2), (3, .int x3), (4, .int x4), (5, .int x5)] → f_X12_coin_b81 o0 x2 x3 x4 x5 h = some (r, h') → W p l e (mh_rm 1) s m args below meth c H locs 0 0 (MQ below (mh_Qi D ks L s.heap.size r h') args s 0 0 (mh_A L s.heap.size)) (F0 m 81 ls []) := by
  intro o0 x2 x3 x4 x5 h H locs ls wd hl hX
  have hx := cx.1.1
  have hb := cx.1.2.1
  unfold f_X12_coin_b81 at hX
  refine lv_iload hx hb dX12_coin_81 (lv_at hl 4 rfl) ?_
  refine lv_if_le (tgt := 101) hx hb dX12_coin_83 rfl (fun hc => (fun hX => ?_) ((mh_if hX).1 hc)) (fun hc => (fun hX => ?_) ((mh_if hX).2 hc))
  · exact w_X12_coin_b101 cx hr _ _ _ _ _ h _ _ ls wd (lv_sub hl [0, 1, 2, 3, 4] rfl) hX
  · refine lv_aload_n hx hb dX12_coin_86 rfl (lv_at hl 0 rfl) ?_
    refine mh_getR cx wd fl_X12_9 dX12_coin_87 hX (fun a12 hX => ?_)
    refine lv_iload_n hx hb dX12_coin_90 rfl (lv_at hl 2 rfl) ?_
    refine lv_iload hx hb dX12_coin_91 (lv_at hl 4 rfl) ?_
    refine lv_iadd hx hb dX12_coin_93 ?_
    refine mh_iald cx wd dX12_coin_94 hX (fun v13 hX => ?_)
    refine lv_iload_n hx hb dX12_coin_95 rfl (lv_at hl 1 rfl) ?_
    refine lv_icmp_ne (tgt := 101) hx hb dX12_coin_96 rfl (fun hc => (fun hX => ?_) ((mh_if hX).2 hc)) (fun hc => (fun hX => ?_) ((mh_if hX).1 hc))
    · exact w_X12_coin_b101 cx hr _ _ _ _ _ h _ _ ls wd (lv_sub hl [0, 1, 2, 3, 4] rfl) hX
    · refine lv_iconst (v := (-1)) hx hb dX12_coin_99 (by decide) ?_
      exact mh_iret cx wd hr hX dX12_coin_100
set_option maxRecDepth 100000 in
set_option maxHeartbeats 4000000 in
theorem w_X12_coin_b57 {p : Program} {l : Launch} {e : Env} {s : State} {m : MethodId} {args : Array Value} {below : List Frame} {meth : Method} {c : Code} {D : va_G} {ks : Nat → ClassId} {L : List Nat} {r : Int32} {h' : mh_H} (cx : mh_C p m c cX12_coin 7 s args RX12 meth D ks (mh_A L s.heap.size)) (hr : meth.sig.returnType = (some .int)) :
    ∀ n : Nat, ∀ (o0 : Nat) (x2 : Int32) (x3 : Int32) (x4 : Int32) (x5 : Int32) (h : mh_H) (H : Heap) (locs : List Loc) (ls : Array Slot), mh_W D ks L (mh_A L s.heap.size) s.heap h H locs → lv_has ls 7 [(0, .ref o0), (2, .int x2), (3, .int x3), (4, .int x4), (5, .int x5)] → f_X12_coin_b57 n o0 x2 x3 x4 x5 h = some (r, h') → W p l e (mh_rm 1) s m args below meth c H locs 0 0 (MQ below (mh_Qi D ks L s.heap.size r h') args s 0 0 (mh_A L s.heap.size)) (F0 m 57 ls []) := by
  intro n
  induction n with
  | zero =>
    intro o0 x2 x3 x4 x5 h H locs ls wd hl hX
    cases hX
  | succ n ih =>
    intro o0 x2 x3 x4 x5 h H locs ls wd hl hX
    have hx := cx.1.1
    have hb := cx.1.2.1
    rw [f_X12_coin_b57] at hX
    refine lv_iload hx hb dX12_coin_57 (lv_at hl 4 rfl) ?_
    refine lv_if_le (tgt := 81) hx hb dX12_coin_59 rfl (fun hc => (fun hX => ?_) ((mh_if hX).1 hc)) (fun hc => (fun hX => ?_) ((mh_if hX).2 hc))
    · exact w_X12_coin_b81 cx hr _ _ _ _ _ h _ _ ls wd (lv_sub hl [0, 1, 2, 3, 4] rfl) hX
    · refine lv_aload_n hx hb dX12_coin_62 rfl (lv_at hl 0 rfl) ?_
      refine mh_getR cx wd fl_X12_9 dX12_coin_63 hX (fun a14 hX => ?_)
      refine lv_iload_n hx hb dX12_coin_66 rfl (lv_at hl 2 rfl) ?_
      refine lv_iload hx hb dX12_coin_67 (lv_at hl 4 rfl) ?_
      refine lv_iadd hx hb dX12_coin_69 ?_
      refine mh_iald cx wd dX12_coin_70 hX (fun v15 hX => ?_)
      refine lv_iload_n hx hb dX12_coin_71 rfl (lv_at hl 1 rfl) ?_
      refine lv_icmp_le (tgt := 81) hx hb dX12_coin_72 rfl (fun hc => (fun hX => ?_) ((mh_if hX).1 hc)) (fun hc => (fun hX => ?_) ((mh_if hX).2 hc))
      · exact w_X12_coin_b81 cx hr _ _ _ _ _ h _ _ ls wd (lv_sub hl [0, 1, 2, 3, 4] rfl) hX
      · obtain ⟨v16, ev16, hX⟩ := mh_nmx hX
        refine lv_iinc (k := 4) (v := v16) (lv' := [(5, .int v16), (0, .ref o0), (2, .int x2), (3, .int x3), (4, .int x4)]) hx hb dX12_coin_75 hl rfl ev16 (Nat.le_of_ble_eq_true rfl) rfl (fun ls hl => ?_)
        refine lv_goto (tgt := 57) hx hb dX12_coin_78 rfl ?_
        exact ih _ _ _ _ _ h _ _ ls wd (lv_sub hl [1, 2, 3, 4, 0] rfl) hX
set_option maxRecDepth 100000 in
set_option maxHeartbeats 4000000 in
theorem w_X12_coin_e {p : Program} {l : Launch} {e : Env} {s : State} {m : MethodId} {args : Array Value} {below : List Frame} {meth : Method} {c : Code} {D : va_G} {ks : Nat → ClassId} {L : List Nat} {r : Int32} {h' : mh_H} (cx : mh_C p m c cX12_coin 7 s args RX12 meth D ks (mh_A L s.heap.size)) (hr : meth.sig.returnType = (some .int)) :
    ∀ (o0 : Nat) (x1 : Int32) (x2 : Int32) (h : mh_H) (H : Heap) (locs : List Loc) (ls : Array Slot), mh_W D ks L (mh_A L s.heap.size) s.heap h H locs → lv_has ls 7 [(0, .ref o0), (1, .int x1), (2, .int x2)] → f_X12_coin_e o0 x1 x2 h = some (r, h') → W p l e (mh_rm 1) s m args below meth c H locs 0 0 (MQ below (mh_Qi D ks L s.heap.size r h') args s 0 0 (mh_A L s.heap.size)) (F0 m 0 ls []) := by
  intro o0 x1 x2 h H locs ls wd hl hX
  have hx := cx.1.1
  have hb := cx.1.2.1
  unfold f_X12_coin_e at hX
  refine lv_aload_n hx hb dX12_coin_0 rfl (lv_at hl 0 rfl) ?_
  refine lv_iconst (v := 0) hx hb dX12_coin_1 (by decide) ?_
  refine mh_putI cx wd fp_X12_96 dX12_coin_2 hX (fun h17 H locs wd hX => ?_)
  refine lv_iload_n hx hb dX12_coin_5 rfl (lv_at hl 1 rfl) ?_
  refine mh_callSI cx wd [.int x1] yw_X12_isMint sw_X12_111 rfl hl.1 rfl (Nat.le_of_ble_eq_true rfl) dX12_coin_6 ⟨Nat.le_of_ble_eq_true rfl, Nat.le_of_ble_eq_true rfl⟩ ⟨Nat.le_refl _, Nat.le_refl _⟩ (fun _ _ q => c_X12_isMint q) hX (fun v19 h18 H locs wd hX => ?_)
  refine lv_if_eq (tgt := 38) hx hb dX12_coin_9 rfl (fun hc => (fun hX => ?_) ((mh_if hX).1 hc)) (fun hc => (fun hX => ?_) ((mh_if hX).2 hc))
  · exact w_X12_coin_b38 cx hr  h18 _ _ ls wd (lv_sub hl [] rfl) hX
  · refine lv_iload_n hx hb dX12_coin_12 rfl (lv_at hl 2 rfl) ?_
    refine lv_iconst (v := 1) hx hb dX12_coin_13 (by decide) ?_
    refine lv_icmp_lt (tgt := 38) hx hb dX12_coin_14 rfl (fun hc => (fun hX => ?_) ((mh_if hX).1 hc)) (fun hc => (fun hX => ?_) ((mh_if hX).2 hc))
    · exact w_X12_coin_b38 cx hr  h18 _ _ ls wd (lv_sub hl [] rfl) hX
    · refine lv_iload_n hx hb dX12_coin_17 rfl (lv_at hl 2 rfl) ?_
      refine lv_sipush (v := 300) hx hb dX12_coin_18 (by decide) ?_
      refine lv_icmp_gt (tgt := 38) hx hb dX12_coin_21 rfl (fun hc => (fun hX => ?_) ((mh_if hX).1 hc)) (fun hc => (fun hX => ?_) ((mh_if hX).2 hc))
      · exact w_X12_coin_b38 cx hr  h18 _ _ ls wd (lv_sub hl [] rfl) hX
      · refine lv_aload_n hx hb dX12_coin_24 rfl (lv_at hl 0 rfl) ?_
        refine mh_getR cx wd fl_X12_9 dX12_coin_25 hX (fun a20 hX => ?_)
        refine lv_iload_n hx hb dX12_coin_28 rfl (lv_at hl 1 rfl) ?_
        refine mh_callSI cx wd [.int x1] yw_X12_mintAt sw_X12_115 rfl hl.1 rfl (Nat.le_of_ble_eq_true rfl) dX12_coin_29 ⟨Nat.le_of_ble_eq_true rfl, Nat.le_of_ble_eq_true rfl⟩ ⟨Nat.le_refl _, Nat.le_refl _⟩ (fun _ _ q => c_X12_mintAt q) hX (fun v22 h21 H locs wd hX => ?_)
        refine mh_iald cx wd dX12_coin_32 hX (fun v23 hX => ?_)
        refine lv_bipush (v := 12) hx hb dX12_coin_33 (by decide) ?_
        refine lv_icmp_ne (tgt := 40) hx hb dX12_coin_35 rfl (fun hc => (fun hX => ?_) ((mh_if hX).2 hc)) (fun hc => (fun hX => ?_) ((mh_if hX).1 hc))
        · refine lv_iload_n hx hb dX12_coin_40 rfl (lv_at hl 1 rfl) ?_
          refine mh_callSI cx wd [.int x1] yw_X12_mintAt sw_X12_115 rfl hl.1 rfl (Nat.le_of_ble_eq_true rfl) dX12_coin_41 ⟨Nat.le_of_ble_eq_true rfl, Nat.le_of_ble_eq_true rfl⟩ ⟨Nat.le_refl _, Nat.le_refl _⟩ (fun _ _ q => c_X12_mintAt q) hX (fun v25 h24 H locs wd hX => ?_)
          refine lv_istore_n (lv' := [(3, .int v25), (0, .ref o0), (1, .int x1), (2, .int x2)]) hx hb dX12_coin_44 rfl hl (Nat.le_of_ble_eq_true rfl) rfl (fun ls hl => ?_)
          refine lv_aload_n hx hb dX12_coin_45 rfl (lv_at hl 1 rfl) ?_
          refine mh_getR cx wd fl_X12_9 dX12_coin_46 hX (fun a26 hX => ?_)
          refine lv_iload_n hx hb dX12_coin_49 rfl (lv_at hl 0 rfl) ?_
          refine mh_iald cx wd dX12_coin_50 hX (fun v27 hX => ?_)
          refine lv_istore (lv' := [(4, .int v27), (3, .int v25), (0, .ref o0), (1, .int x1), (2, .int x2)]) hx hb dX12_coin_51 hl (Nat.le_of_ble_eq_true rfl) rfl (fun ls hl => ?_)
          refine lv_iload hx hb dX12_coin_53 (lv_at hl 0 rfl) ?_
          refine lv_istore (lv' := [(5, .int v27), (4, .int v27), (3, .int v25), (0, .ref o0), (1, .int x1), (2, .int x2)]) hx hb dX12_coin_55 hl (Nat.le_of_ble_eq_true rfl) rfl (fun ls hl => ?_)
          exact w_X12_coin_b57 cx hr mh_fu _ _ _ _ _ h24 _ _ ls wd (lv_sub hl [3, 5, 2, 1, 0] rfl) hX
        · exact w_X12_coin_b38 cx hr  h21 _ _ ls wd (lv_sub hl [] rfl) hX
set_option maxRecDepth 100000 in
theorem c_X12_coin {l : Launch} {L : List Nat} {h h' : mh_H} {r : Int32} {o0 : Nat} {x1 : Int32} {x2 : Int32} (hX : f_X12_coin_e o0 x1 x2 h = some (r, h')) : mh_MI l yX12_coin (Cond.code yX12_coin cX12_coin 7 (some .int) :: mh_TB) (mh_rm 1) [.ref o0, .int x1, .int x2] L h r h' :=
  mh_of (mc := 0) (ms := 0) (Qc := fun D ks sz => mh_Qi D ks L sz r h') (plainFor_of_name (by decide)) (Nat.le_of_ble_eq_true rfl) (fun p e s m below meth c D ks ls hr cx wd hl => by
    have hl : lv_has ls 7 [(0, .ref o0), (1, .int x1), (2, .int x2)] := hl
    exact w_X12_coin_e cx hr o0 x1 x2 h _ _ ls wd hl hX)
def f_X12_melt_b87 (o0 : Nat) (x3 : Int32) (h : mh_H) : Option (Int32 × mh_H) :=
  (mh_gR h o0 12 1).bind fun a1 =>
  (mh_aI h a1 0 x3).bind fun v2 =>
  (mh_sI h a1 x3 (v2 - (1 : Int32))).bind fun h3 =>
  (mh_cal h3 o0 12 (f_X12_changed_e o0 h3)).bind fun h4 =>
  mh_rz (1 : Int32) h4
def f_X12_melt_b50 : Nat → Nat → Int32 → Int32 → mh_H → Option (Int32 × mh_H)
  | 0, _, _, _, _ => none
  | n + 1, o0, x3, x5, h =>
    (mh_gR h o0 12 1).bind fun a5 =>
    (mh_aI h a5 0 x3).bind fun v6 =>
    if v6 ≤ x5 then (
    f_X12_melt_b87 o0 x3 h) else
    (mh_gR h o0 12 1).bind fun a7 =>
    (mh_gR h o0 12 1).bind fun a8 =>
    (mh_aI h a8 0 ((x3 + x5) + (1 : Int32))).bind fun v9 =>
    (mh_sI h a7 (x3 + x5) v9).bind fun h10 =>
    mh_nm (x5 + Int32.ofInt (1)) fun v11 =>
    f_X12_melt_b50 n o0 x3 v11 h10
def f_X12_melt_b46 (o0 : Nat) (x3 : Int32) (x4 : Int32) (h : mh_H) : Option (Int32 × mh_H) :=
  f_X12_melt_b50 mh_fu o0 x3 x4 h
def f_X12_melt_b109 (h : mh_H) : Option (Int32 × mh_H) :=
  mh_rz (0 : Int32) h
def f_X12_melt_b22 : Nat → Nat → Int32 → Int32 → Int32 → mh_H → Option (Int32 × mh_H)
  | 0, _, _, _, _, _ => none
  | n + 1, o0, x2, x3, x4, h =>
    (mh_gR h o0 12 1).bind fun a12 =>
    (mh_aI h a12 0 x3).bind fun v13 =>
    if v13 < x4 then (
    f_X12_melt_b109 h) else
    (mh_gR h o0 12 1).bind fun a14 =>
    (mh_aI h a14 0 (x3 + x4)).bind fun v15 =>
    if v15 = x2 then (
    f_X12_melt_b46 o0 x3 x4 h) else
    mh_nm (x4 + Int32.ofInt (1)) fun v16 =>
    f_X12_melt_b22 n o0 x2 x3 v16 h
def f_X12_melt_e (o0 : Nat) (x1 : Int32) (x2 : Int32) (h : mh_H) : Option (Int32 × mh_H) :=
  (mh_pI h o0 12 0 (0 : Int32)).bind fun h17 =>
  mh_b2 (f_X12_isMint_e x1 h17) fun v19 h18 =>
  if v19 = 0 then (
  mh_rz (0 : Int32) h18) else
  mh_b2 (f_X12_mintAt_e x1 h18) fun v21 h20 =>
  mh_nm (1 : Int32) fun v22 =>
  f_X12_melt_b22 mh_fu o0 x2 v21 v22 h20
set_option maxRecDepth 100000 in
set_option maxHeartbeats 4000000 in
theorem w_X12_melt_b87 {p : Program} {l : Launch} {e : Env} {s : State} {m : MethodId} {args : Array Value} {below : List Frame} {meth : Method} {c : Code} {D : va_G} {ks : Nat → ClassId} {L : List Nat} {r : Int32} {h' : mh_H} (cx : mh_C p m c cX12_melt 6 s args RX12 meth D ks (mh_A L s.heap.size)) (hr : meth.sig.returnType = (some .boolean)) :
    ∀ (o0 : Nat) (x3 : Int32) (h : mh_H) (H : Heap) (locs : List Loc) (ls : Array Slot), mh_W D ks L (mh_A L s.heap.size) s.heap h H locs → lv_has ls 6 [(0, .ref o0), (3, .int x3)] → f_X12_melt_b87 o0 x3 h = some (r, h') → W p l e (mh_rm 1) s m args below meth c H locs 0 0 (MQ below (mh_Qi D ks L s.heap.size r h') args s 0 0 (mh_A L s.heap.size)) (F0 m 87 ls []) := by
  intro o0 x3 h H locs ls wd hl hX
  have hx := cx.1.1
  have hb := cx.1.2.1
  unfold f_X12_melt_b87 at hX
  refine lv_aload_n hx hb dX12_melt_87 rfl (lv_at hl 0 rfl) ?_
  refine mh_getR cx wd fl_X12_9 dX12_melt_88 hX (fun a1 hX => ?_)
  refine lv_iload_n hx hb dX12_melt_91 rfl (lv_at hl 1 rfl) ?_
  refine lv_dup2_11 hx hb dX12_melt_92 rfl rfl ?_
  refine mh_iald cx wd dX12_melt_93 hX (fun v2 hX => ?_)
  refine lv_iconst (v := 1) hx hb dX12_melt_94 (by decide) ?_
  refine lv_isub hx hb dX12_melt_95 ?_
  refine mh_iast cx wd dX12_melt_96 hX (fun h3 H locs wd hX => ?_)
  refine lv_aload_n hx hb dX12_melt_97 rfl (lv_at hl 0 rfl) ?_
  refine mh_callVV cx wd [] (rfl : vwCl[12]? = some (RX12, TX12, 38)) yw_X12_changed vw_X12_119 rfl hl.1 rfl (Nat.le_of_ble_eq_true rfl) dX12_melt_98 ⟨Nat.le_of_ble_eq_true rfl, Nat.le_of_ble_eq_true rfl⟩ ⟨Nat.le_refl _, Nat.le_refl _⟩ (fun _ q => c_X12_changed q) hX (fun h4 H locs wd hX => ?_)
  refine lv_iconst (v := 1) hx hb dX12_melt_101 (by decide) ?_
  exact mh_zret cx wd hr hX dX12_melt_102
set_option maxRecDepth 100000 in
set_option maxHeartbeats 4000000 in
theorem w_X12_melt_b50 {p : Program} {l : Launch} {e : Env} {s : State} {m : MethodId} {args : Array Value} {below : List Frame} {meth : Method} {c : Code} {D : va_G} {ks : Nat → ClassId} {L : List Nat} {r : Int32} {h' : mh_H} (cx : mh_C p m c cX12_melt 6 s args RX12 meth D ks (mh_A L s.heap.size)) (hr : meth.sig.returnType = (some .boolean)) :
    ∀ n : Nat, ∀ (o0 : Nat) (x3 : Int32) (x5 : Int32) (h : mh_H) (H : Heap) (locs : List Loc) (ls : Array Slot), mh_W D ks L (mh_A L s.heap.size) s.heap h H locs → lv_has ls 6 [(0, .ref o0), (3, .int x3), (5, .int x5)] → f_X12_melt_b50 n o0 x3 x5 h = some (r, h') → W p l e (mh_rm 1) s m args below meth c H locs 0 0 (MQ below (mh_Qi D ks L s.heap.size r h') args s 0 0 (mh_A L s.heap.size)) (F0 m 50 ls []) := by
  intro n
  induction n with
  | zero =>
    intro o0 x3 x5 h H locs ls wd hl hX
    cases hX
  | succ n ih =>
    intro o0 x3 x5 h H locs ls wd hl hX
    have hx := cx.1.1
    have hb := cx.1.2.1
    rw [f_X12_melt_b50] at hX
    refine lv_iload hx hb dX12_melt_50 (lv_at hl 2 rfl) ?_
    refine lv_aload_n hx hb dX12_melt_52 rfl (lv_at hl 0 rfl) ?_
    refine mh_getR cx wd fl_X12_9 dX12_melt_53 hX (fun a5 hX => ?_)
    refine lv_iload_n hx hb dX12_melt_56 rfl (lv_at hl 1 rfl) ?_
    refine mh_iald cx wd dX12_melt_57 hX (fun v6 hX => ?_)
    refine lv_icmp_ge (tgt := 87) hx hb dX12_melt_58 rfl (fun hc => (fun hX => ?_) ((mh_if hX).1 hc)) (fun hc => (fun hX => ?_) ((mh_if hX).2 hc))
    · exact w_X12_melt_b87 cx hr _ _ h _ _ ls wd (lv_sub hl [0, 1] rfl) hX
    · refine lv_aload_n hx hb dX12_melt_61 rfl (lv_at hl 0 rfl) ?_
      refine mh_getR cx wd fl_X12_9 dX12_melt_62 hX (fun a7 hX => ?_)
      refine lv_iload_n hx hb dX12_melt_65 rfl (lv_at hl 1 rfl) ?_
      refine lv_iload hx hb dX12_melt_66 (lv_at hl 2 rfl) ?_
      refine lv_iadd hx hb dX12_melt_68 ?_
      refine lv_aload_n hx hb dX12_melt_69 rfl (lv_at hl 0 rfl) ?_
      refine mh_getR cx wd fl_X12_9 dX12_melt_70 hX (fun a8 hX => ?_)
      refine lv_iload_n hx hb dX12_melt_73 rfl (lv_at hl 1 rfl) ?_
      refine lv_iload hx hb dX12_melt_74 (lv_at hl 2 rfl) ?_
      refine lv_iadd hx hb dX12_melt_76 ?_
      refine lv_iconst (v := 1) hx hb dX12_melt_77 (by decide) ?_
      refine lv_iadd hx hb dX12_melt_78 ?_
      refine mh_iald cx wd dX12_melt_79 hX (fun v9 hX => ?_)
      refine mh_iast cx wd dX12_melt_80 hX (fun h10 H locs wd hX => ?_)
      obtain ⟨v11, ev11, hX⟩ := mh_nmx hX
      refine lv_iinc (k := 2) (v := v11) (lv' := [(5, .int v11), (0, .ref o0), (3, .int x3)]) hx hb dX12_melt_81 hl rfl ev11 (Nat.le_of_ble_eq_true rfl) rfl (fun ls hl => ?_)
      refine lv_goto (tgt := 50) hx hb dX12_melt_84 rfl ?_
      exact ih _ _ _ h10 _ _ ls wd (lv_sub hl [1, 2, 0] rfl) hX
set_option maxRecDepth 100000 in
set_option maxHeartbeats 4000000 in
theorem w_X12_melt_b46 {p : Program} {l : Launch} {e : Env} {s : State} {m : MethodId} {args : Array Value} {below : List Frame} {meth : Method} {c : Code} {D : va_G} {ks : Nat → ClassId} {L : List Nat} {r : Int32} {h' : mh_H} (cx : mh_C p m c cX12_melt 6 s args RX12 meth D ks (mh_A L s.heap.size)) (hr : meth.sig.returnType = (some .boolean)) :
    ∀ (o0 : Nat) (x3 : Int32) (x4 : Int32) (h : mh_H) (H : Heap) (locs : List Loc) (ls : Array Slot), mh_W D ks L (mh_A L s.heap.size) s.heap h H locs → lv_has ls 6 [(0, .ref o0), (3, .int x3), (4, .int x4)] → f_X12_melt_b46 o0 x3 x4 h = some (r, h') → W p l e (mh_rm 1) s m args below meth c H locs 0 0 (MQ below (mh_Qi D ks L s.heap.size r h') args s 0 0 (mh_A L s.heap.size)) (F0 m 46 ls []) := by
  intro o0 x3 x4 h H locs ls wd hl hX
  have hx := cx.1.1
  have hb := cx.1.2.1
  unfold f_X12_melt_b46 at hX
  refine lv_iload hx hb dX12_melt_46 (lv_at hl 2 rfl) ?_
  refine lv_istore (lv' := [(5, .int x4), (0, .ref o0), (3, .int x3), (4, .int x4)]) hx hb dX12_melt_48 hl (Nat.le_of_ble_eq_true rfl) rfl (fun ls hl => ?_)
  exact w_X12_melt_b50 cx hr mh_fu _ _ _ h _ _ ls wd (lv_sub hl [1, 2, 0] rfl) hX
set_option maxRecDepth 100000 in
set_option maxHeartbeats 4000000 in
theorem w_X12_melt_b109 {p : Program} {l : Launch} {e : Env} {s : State} {m : MethodId} {args : Array Value} {below : List Frame} {meth : Method} {c : Code} {D : va_G} {ks : Nat → ClassId} {L : List Nat} {r : Int32} {h' : mh_H} (cx : mh_C p m c cX12_melt 6 s args RX12 meth D ks (mh_A L s.heap.size)) (hr : meth.sig.returnType = (some .boolean)) :
    ∀ (h : mh_H) (H : Heap) (locs : List Loc) (ls : Array Slot), mh_W D ks L (mh_A L s.heap.size) s.heap h H locs → lv_has ls 6 [] → f_X12_melt_b109  h = some (r, h') → W p l e (mh_rm 1) s m args below meth c H locs 0 0 (MQ below (mh_Qi D ks L s.heap.size r h') args s 0 0 (mh_A L s.heap.size)) (F0 m 109 ls []) := by
  intro  h H locs ls wd hl hX
  have hx := cx.1.1
  have hb := cx.1.2.1
  unfold f_X12_melt_b109 at hX
  refine lv_iconst (v := 0) hx hb dX12_melt_109 (by decide) ?_
  exact mh_zret cx wd hr hX dX12_melt_110
set_option maxRecDepth 100000 in
set_option maxHeartbeats 4000000 in
theorem w_X12_melt_b22 {p : Program} {l : Launch} {e : Env} {s : State} {m : MethodId} {args : Array Value} {below : List Frame} {meth : Method} {c : Code} {D : va_G} {ks : Nat → ClassId} {L : List Nat} {r : Int32} {h' : mh_H} (cx : mh_C p m c cX12_melt 6 s args RX12 meth D ks (mh_A L s.heap.size)) (hr : meth.sig.returnType = (some .boolean)) :
    ∀ n : Nat, ∀ (o0 : Nat) (x2 : Int32) (x3 : Int32) (x4 : Int32) (h : mh_H) (H : Heap) (locs : List Loc) (ls : Array Slot), mh_W D ks L (mh_A L s.heap.size) s.heap h H locs → lv_has ls 6 [(0, .ref o0), (2, .int x2), (3, .int x3), (4, .int x4)] → f_X12_melt_b22 n o0 x2 x3 x4 h = some (r, h') → W p l e (mh_rm 1) s m args below meth c H locs 0 0 (MQ below (mh_Qi D ks L s.heap.size r h') args s 0 0 (mh_A L s.heap.size)) (F0 m 22 ls []) := by
  intro n
  induction n with
  | zero =>
    intro o0 x2 x3 x4 h H locs ls wd hl hX
    cases hX
  | succ n ih =>
    intro o0 x2 x3 x4 h H locs ls wd hl hX
    have hx := cx.1.1
    have hb := cx.1.2.1
    rw [f_X12_melt_b22] at hX
    refine lv_iload hx hb dX12_melt_22 (lv_at hl 3 rfl) ?_
    refine lv_aload_n hx hb dX12_melt_24 rfl (lv_at hl 0 rfl) ?_
    refine mh_getR cx wd fl_X12_9 dX12_melt_25 hX (fun a12 hX => ?_)
    refine lv_iload_n hx hb dX12_melt_28 rfl (lv_at hl 2 rfl) ?_
    refine mh_iald cx wd dX12_melt_29 hX (fun v13 hX => ?_)
    refine lv_icmp_gt (tgt := 109) hx hb dX12_melt_30 rfl (fun hc => (fun hX => ?_) ((mh_if hX).1 hc)) (fun hc => (fun hX => ?_) ((mh_if hX).2 hc))
    · exact w_X12_melt_b109 cx hr  h _ _ ls wd (lv_sub hl [] rfl) hX
    · refine lv_aload_n hx hb dX12_melt_33 rfl (lv_at hl 0 rfl) ?_
      refine mh_getR cx wd fl_X12_9 dX12_melt_34 hX (fun a14 hX => ?_)
      refine lv_iload_n hx hb dX12_melt_37 rfl (lv_at hl 2 rfl) ?_
      refine lv_iload hx hb dX12_melt_38 (lv_at hl 3 rfl) ?_
      refine lv_iadd hx hb dX12_melt_40 ?_
      refine mh_iald cx wd dX12_melt_41 hX (fun v15 hX => ?_)
      refine lv_iload_n hx hb dX12_melt_42 rfl (lv_at hl 1 rfl) ?_
      refine lv_icmp_ne (tgt := 103) hx hb dX12_melt_43 rfl (fun hc => (fun hX => ?_) ((mh_if hX).2 hc)) (fun hc => (fun hX => ?_) ((mh_if hX).1 hc))
      · obtain ⟨v16, ev16, hX⟩ := mh_nmx hX
        refine lv_iinc (k := 3) (v := v16) (lv' := [(4, .int v16), (0, .ref o0), (2, .int x2), (3, .int x3)]) hx hb dX12_melt_103 hl rfl ev16 (Nat.le_of_ble_eq_true rfl) rfl (fun ls hl => ?_)
        refine lv_goto (tgt := 22) hx hb dX12_melt_106 rfl ?_
        exact ih _ _ _ _ h _ _ ls wd (lv_sub hl [1, 2, 3, 0] rfl) hX
      · exact w_X12_melt_b46 cx hr _ _ _ h _ _ ls wd (lv_sub hl [0, 2, 3] rfl) hX
set_option maxRecDepth 100000 in
set_option maxHeartbeats 4000000 in
theorem w_X12_melt_e {p : Program} {l : Launch} {e : Env} {s : State} {m : MethodId} {args : Array Value} {below : List Frame} {meth : Method} {c : Code} {D : va_G} {ks : Nat → ClassId} {L : List Nat} {r : Int32} {h' : mh_H} (cx : mh_C p m c cX12_melt 6 s args RX12 meth D ks (mh_A L s.heap.size)) (hr : meth.sig.returnType = (some .boolean)) :
    ∀ (o0 : Nat) (x1 : Int32) (x2 : Int32) (h : mh_H) (H : Heap) (locs : List Loc) (ls : Array Slot), mh_W D ks L (mh_A L s.heap.size) s.heap h H locs → lv_has ls 6 [(0, .ref o0), (1, .int x1), (2, .int x2)] → f_X12_melt_e o0 x1 x2 h = some (r, h') → W p l e (mh_rm 1) s m args below meth c H locs 0 0 (MQ below (mh_Qi D ks L s.heap.size r h') args s 0 0 (mh_A L s.heap.size)) (F0 m 0 ls []) := by
  intro o0 x1 x2 h H locs ls wd hl hX
  have hx := cx.1.1
  have hb := cx.1.2.1
  unfold f_X12_melt_e at hX
  refine lv_aload_n hx hb dX12_melt_0 rfl (lv_at hl 0 rfl) ?_
  refine lv_iconst (v := 0) hx hb dX12_melt_1 (by decide) ?_
  refine mh_putI cx wd fp_X12_96 dX12_melt_2 hX (fun h17 H locs wd hX => ?_)
  refine lv_iload_n hx hb dX12_melt_5 rfl (lv_at hl 1 rfl) ?_
  refine mh_callSI cx wd [.int x1] yw_X12_isMint sw_X12_111 rfl hl.1 rfl (Nat.le_of_ble_eq_true rfl) dX12_melt_6 ⟨Nat.le_of_ble_eq_true rfl, Nat.le_of_ble_eq_true rfl⟩ ⟨Nat.le_refl _, Nat.le_refl _⟩ (fun _ _ q => c_X12_isMint q) hX (fun v19 h18 H locs wd hX => ?_)
  refine lv_if_ne (tgt := 14) hx hb dX12_melt_9 rfl (fun hc => (fun hX => ?_) ((mh_if hX).2 hc)) (fun hc => (fun hX => ?_) ((mh_if hX).1 hc))
  · refine lv_iload_n hx hb dX12_melt_14 rfl (lv_at hl 1 rfl) ?_
    refine mh_callSI cx wd [.int x1] yw_X12_mintAt sw_X12_115 rfl hl.1 rfl (Nat.le_of_ble_eq_true rfl) dX12_melt_15 ⟨Nat.le_of_ble_eq_true rfl, Nat.le_of_ble_eq_true rfl⟩ ⟨Nat.le_refl _, Nat.le_refl _⟩ (fun _ _ q => c_X12_mintAt q) hX (fun v21 h20 H locs wd hX => ?_)
    refine lv_istore_n (lv' := [(3, .int v21), (0, .ref o0), (1, .int x1), (2, .int x2)]) hx hb dX12_melt_18 rfl hl (Nat.le_of_ble_eq_true rfl) rfl (fun ls hl => ?_)
    refine lv_iconst (v := 1) hx hb dX12_melt_19 (by decide) ?_
    refine mh_topi hX (fun v22 hX => ?_)
    refine lv_istore (lv' := [(4, .int v22), (3, .int v21), (0, .ref o0), (1, .int x1), (2, .int x2)]) hx hb dX12_melt_20 hl (Nat.le_of_ble_eq_true rfl) rfl (fun ls hl => ?_)
    exact w_X12_melt_b22 cx hr mh_fu _ _ _ _ h20 _ _ ls wd (lv_sub hl [2, 4, 1, 0] rfl) hX
  · refine lv_iconst (v := 0) hx hb dX12_melt_12 (by decide) ?_
    exact mh_zret cx wd hr hX dX12_melt_13
set_option maxRecDepth 100000 in
theorem c_X12_melt {l : Launch} {L : List Nat} {h h' : mh_H} {r : Int32} {o0 : Nat} {x1 : Int32} {x2 : Int32} (hX : f_X12_melt_e o0 x1 x2 h = some (r, h')) : mh_MI l yX12_melt (Cond.code yX12_melt cX12_melt 6 (some .boolean) :: mh_TB) (mh_rm 1) [.ref o0, .int x1, .int x2] L h r h' :=
  mh_of (mc := 0) (ms := 0) (Qc := fun D ks sz => mh_Qi D ks L sz r h') (plainFor_of_name (by decide)) (Nat.le_of_ble_eq_true rfl) (fun p e s m below meth c D ks ls hr cx wd hl => by
    have hl : lv_has ls 6 [(0, .ref o0), (1, .int x1), (2, .int x2)] := hl
    exact w_X12_melt_e cx hr o0 x1 x2 h _ _ ls wd hl hX)
def f_X12_at_b30 (o0 : Nat) (h : mh_H) : Option (Int32 × mh_H) :=
  mh_b2 (mh_cal h o0 12 (f_X12_fail_e o0 (1 : Int32) h)) fun v2 h1 =>
  some (v2, h1)
def f_X12_at_b66 (t0 : Int32) (h : mh_H) : Option (Int32 × mh_H) :=
  some (t0, h)
def f_X12_at_e (o0 : Nat) (x1 : Int32) (x2 : Int32) (h : mh_H) : Option (Int32 × mh_H) :=
  (mh_pI h o0 12 0 (0 : Int32)).bind fun h3 =>
  mh_b2 (f_X12_isMint_e x1 h3) fun v5 h4 =>
  if v5 = 0 then (
  f_X12_at_b30 o0 h4) else
  if x2 < (-1 : Int32) then (
  f_X12_at_b30 o0 h4) else
  (mh_gR h4 o0 12 1).bind fun a6 =>
  mh_b2 (f_X12_mintAt_e x1 h4) fun v8 h7 =>
  (mh_aI h7 a6 0 v8).bind fun v9 =>
  if x2 < v9 then (
  if x2 = (-1 : Int32) then (
  (mh_gR h7 o0 12 1).bind fun a14 =>
  mh_b2 (f_X12_mintAt_e x1 h7) fun v16 h15 =>
  (mh_aI h15 a14 0 v16).bind fun v17 =>
  f_X12_at_b66 v17 h15) else
  (mh_gR h7 o0 12 1).bind fun a10 =>
  mh_b2 (f_X12_mintAt_e x1 h7) fun v12 h11 =>
  (mh_aI h11 a10 0 ((v12 + (1 : Int32)) + x2)).bind fun v13 =>
  f_X12_at_b66 v13 h11) else
  f_X12_at_b30 o0 h7
set_option maxRecDepth 100000 in
set_option maxHeartbeats 4000000 in
theorem w_X12_at_b30 {p : Program} {l : Launch} {e : Env} {s : State} {m : MethodId} {args : Array Value} {below : List Frame} {meth : Method} {c : Code} {D : va_G} {ks : Nat → ClassId} {L : List Nat} {r : Int32} {h' : mh_H} (cx : mh_C p m c cX12_at 3 s args RX12 meth D ks (mh_A L s.heap.size)) (hr : meth.sig.returnType = (some .int)) :
    ∀ (o0 : Nat) (h : mh_H) (H : Heap) (locs : List Loc) (ls : Array Slot), mh_W D ks L (mh_A L s.heap.size) s.heap h H locs → lv_has ls 3 [(0, .ref o0)] → f_X12_at_b30 o0 h = some (r, h') → W p l e (mh_rm 1) s m args below meth c H locs 0 0 (MQ below (mh_Qi D ks L s.heap.size r h') args s 0 0 (mh_A L s.heap.size)) (F0 m 30 ls []) := by
  intro o0 h H locs ls wd hl hX
  have hx := cx.1.1
  have hb := cx.1.2.1
  unfold f_X12_at_b30 at hX
  refine lv_aload_n hx hb dX12_at_30 rfl (lv_at hl 0 rfl) ?_
  refine lv_iconst (v := 1) hx hb dX12_at_31 (by decide) ?_
  refine mh_callVI cx wd [.int (1 : Int32)] (rfl : vwCl[12]? = some (RX12, TX12, 38)) yw_X12_fail vw_X12_122 rfl hl.1 rfl (Nat.le_of_ble_eq_true rfl) dX12_at_32 ⟨Nat.le_of_ble_eq_true rfl, Nat.le_of_ble_eq_true rfl⟩ ⟨Nat.le_refl _, Nat.le_refl _⟩ (fun _ _ q => c_X12_fail q) hX (fun v2 h1 H locs wd hX => ?_)
  exact mh_iret cx wd hr hX dX12_at_35
set_option maxRecDepth 100000 in
set_option maxHeartbeats 4000000 in
theorem w_X12_at_b66 {p : Program} {l : Launch} {e : Env} {s : State} {m : MethodId} {args : Array Value} {below : List Frame} {meth : Method} {c : Code} {D : va_G} {ks : Nat → ClassId} {L : List Nat} {r : Int32} {h' : mh_H} (cx : mh_C p m c cX12_at 3 s args RX12 meth D ks (mh_A L s.heap.size)) (hr : meth.sig.returnType = (some .int)) :
    ∀ (t0 : Int32) (h : mh_H) (H : Heap) (locs : List Loc) (ls : Array Slot), mh_W D ks L (mh_A L s.heap.size) s.heap h H locs → lv_has ls 3 [] → f_X12_at_b66 t0 h = some (r, h') → W p l e (mh_rm 1) s m args below meth c H locs 0 0 (MQ below (mh_Qi D ks L s.heap.size r h') args s 0 0 (mh_A L s.heap.size)) (F0 m 66 ls [.int t0]) := by
  intro t0 h H locs ls wd hl hX
  have hx := cx.1.1
  have hb := cx.1.2.1
  unfold f_X12_at_b66 at hX
  exact mh_iret cx wd hr hX dX12_at_66
set_option maxRecDepth 100000 in
set_option maxHeartbeats 4000000 in
theorem w_X12_at_e {p : Program} {l : Launch} {e : Env} {s : State} {m : MethodId} {args : Array Value} {below : List Frame} {meth : Method} {c : Code} {D : va_G} {ks : Nat → ClassId} {L : List Nat} {r : Int32} {h' : mh_H} (cx : mh_C p m c cX12_at 3 s args RX12 meth D ks (mh_A L s.heap.size)) (hr : meth.sig.returnType = (some .int)) :
    ∀ (o0 : Nat) (x1 : Int32) (x2 : Int32) (h : mh_H) (H : Heap) (locs : List Loc) (ls : Array Slot), mh_W D ks L (mh_A L s.heap.size) s.heap h H locs → lv_has ls 3 [(0, .ref o0), (1, .int x1), (2, .int x2)] → f_X12_at_e o0 x1 x2 h = some (r, h') → W p l e (mh_rm 1) s m args below meth c H locs 0 0 (MQ below (mh_Qi D ks L s.heap.size r h') args s 0 0 (mh_A L s.heap.size)) (F0 m 0 ls []) := by
  intro o0 x1 x2 h H locs ls wd hl hX
  have hx := cx.1.1
  have hb := cx.1.2.1
  unfold f_X12_at_e at hX
  refine lv_aload_n hx hb dX12_at_0 rfl (lv_at hl 0 rfl) ?_
  refine lv_iconst (v := 0) hx hb dX12_at_1 (by decide) ?_
  refine mh_putI cx wd fp_X12_96 dX12_at_2 hX (fun h3 H locs wd hX => ?_)
  refine lv_iload_n hx hb dX12_at_5 rfl (lv_at hl 1 rfl) ?_
  refine mh_callSI cx wd [.int x1] yw_X12_isMint sw_X12_111 rfl hl.1 rfl (Nat.le_of_ble_eq_true rfl) dX12_at_6 ⟨Nat.le_of_ble_eq_true rfl, Nat.le_of_ble_eq_true rfl⟩ ⟨Nat.le_refl _, Nat.le_refl _⟩ (fun _ _ q => c_X12_isMint q) hX (fun v5 h4 H locs wd hX => ?_)
  refine lv_if_eq (tgt := 30) hx hb dX12_at_9 rfl (fun hc => (fun hX => ?_) ((mh_if hX).1 hc)) (fun hc => (fun hX => ?_) ((mh_if hX).2 hc))
  · exact w_X12_at_b30 cx hr _ h4 _ _ ls wd (lv_sub hl [0] rfl) hX
  · refine lv_iload_n hx hb dX12_at_12 rfl (lv_at hl 2 rfl) ?_
    refine lv_iconst (v := (-1)) hx hb dX12_at_13 (by decide) ?_
    refine lv_icmp_lt (tgt := 30) hx hb dX12_at_14 rfl (fun hc => (fun hX => ?_) ((mh_if hX).1 hc)) (fun hc => (fun hX => ?_) ((mh_if hX).2 hc))
    · exact w_X12_at_b30 cx hr _ h4 _ _ ls wd (lv_sub hl [0] rfl) hX
    · refine lv_iload_n hx hb dX12_at_17 rfl (lv_at hl 2 rfl) ?_
      refine lv_aload_n hx hb dX12_at_18 rfl (lv_at hl 0 rfl) ?_
      refine mh_getR cx wd fl_X12_9 dX12_at_19 hX (fun a6 hX => ?_)
      refine lv_iload_n hx hb dX12_at_22 rfl (lv_at hl 1 rfl) ?_
      refine mh_callSI cx wd [.int x1] yw_X12_mintAt sw_X12_115 rfl hl.1 rfl (Nat.le_of_ble_eq_true rfl) dX12_at_23 ⟨Nat.le_of_ble_eq_true rfl, Nat.le_of_ble_eq_true rfl⟩ ⟨Nat.le_refl _, Nat.le_refl _⟩ (fun _ _ q => c_X12_mintAt q) hX (fun v8 h7 H locs wd hX => ?_)
      refine mh_iald cx wd dX12_at_26 hX (fun v9 hX => ?_)
      refine lv_icmp_lt (tgt := 36) hx hb dX12_at_27 rfl (fun hc => (fun hX => ?_) ((mh_if hX).1 hc)) (fun hc => (fun hX => ?_) ((mh_if hX).2 hc))
      · refine lv_iload_n hx hb dX12_at_36 rfl (lv_at hl 2 rfl) ?_
        refine lv_iconst (v := (-1)) hx hb dX12_at_37 (by decide) ?_
        refine lv_icmp_ne (tgt := 53) hx hb dX12_at_38 rfl (fun hc => (fun hX => ?_) ((mh_if hX).2 hc)) (fun hc => (fun hX => ?_) ((mh_if hX).1 hc))
        · refine lv_aload_n hx hb dX12_at_53 rfl (lv_at hl 0 rfl) ?_
          refine mh_getR cx wd fl_X12_9 dX12_at_54 hX (fun a10 hX => ?_)
          refine lv_iload_n hx hb dX12_at_57 rfl (lv_at hl 1 rfl) ?_
          refine mh_callSI cx wd [.int x1] yw_X12_mintAt sw_X12_115 rfl hl.1 rfl (Nat.le_of_ble_eq_true rfl) dX12_at_58 ⟨Nat.le_of_ble_eq_true rfl, Nat.le_of_ble_eq_true rfl⟩ ⟨Nat.le_refl _, Nat.le_refl _⟩ (fun _ _ q => c_X12_mintAt q) hX (fun v12 h11 H locs wd hX => ?_)
          refine lv_iconst (v := 1) hx hb dX12_at_61 (by decide) ?_
          refine lv_iadd hx hb dX12_at_62 ?_
          refine lv_iload_n hx hb dX12_at_63 rfl (lv_at hl 2 rfl) ?_
          refine lv_iadd hx hb dX12_at_64 ?_
          refine mh_iald cx wd dX12_at_65 hX (fun v13 hX => ?_)
          exact w_X12_at_b66 cx hr _ h11 _ _ ls wd (lv_sub hl [] rfl) hX
        · refine lv_aload_n hx hb dX12_at_41 rfl (lv_at hl 0 rfl) ?_
          refine mh_getR cx wd fl_X12_9 dX12_at_42 hX (fun a14 hX => ?_)
          refine lv_iload_n hx hb dX12_at_45 rfl (lv_at hl 1 rfl) ?_
          refine mh_callSI cx wd [.int x1] yw_X12_mintAt sw_X12_115 rfl hl.1 rfl (Nat.le_of_ble_eq_true rfl) dX12_at_46 ⟨Nat.le_of_ble_eq_true rfl, Nat.le_of_ble_eq_true rfl⟩ ⟨Nat.le_refl _, Nat.le_refl _⟩ (fun _ _ q => c_X12_mintAt q) hX (fun v16 h15 H locs wd hX => ?_)
          refine mh_iald cx wd dX12_at_49 hX (fun v17 hX => ?_)
          refine lv_goto (tgt := 66) hx hb dX12_at_50 rfl ?_
          exact w_X12_at_b66 cx hr _ h15 _ _ ls wd (lv_sub hl [] rfl) hX
      · exact w_X12_at_b30 cx hr _ h7 _ _ ls wd (lv_sub hl [0] rfl) hX
set_option maxRecDepth 100000 in
theorem c_X12_at {l : Launch} {L : List Nat} {h h' : mh_H} {r : Int32} {o0 : Nat} {x1 : Int32} {x2 : Int32} (hX : f_X12_at_e o0 x1 x2 h = some (r, h')) : mh_MI l yX12_at (Cond.code yX12_at cX12_at 3 (some .int) :: mh_TB) (mh_rm 1) [.ref o0, .int x1, .int x2] L h r h' :=
  mh_of (mc := 0) (ms := 0) (Qc := fun D ks sz => mh_Qi D ks L sz r h') (plainFor_of_name (by decide)) (Nat.le_of_ble_eq_true rfl) (fun p e s m below meth c D ks ls hr cx wd hl => by
    have hl : lv_has ls 3 [(0, .ref o0), (1, .int x1), (2, .int x2)] := hl
    exact w_X12_at_e cx hr o0 x1 x2 h _ _ ls wd hl hX)
