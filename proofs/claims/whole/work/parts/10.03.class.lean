def f_X10_countBy_b21 (h : mh_H) : Option (Int64 × mh_H) :=
  some ((0 : Int64), h)
def f_X10_countBy_b52 (o0 : Nat) (x1 : Int32) (x2 : Int32) (h : mh_H) : Option (Int64 × mh_H) :=
  (mh_gR h o0 10 1).bind fun a1 =>
  (mh_aR h a1 6 x1).bind fun a2 =>
  (mh_aJ h a2 x2).bind fun w3 =>
  some (w3, h)
def f_X10_countBy_b23 : Nat → Nat → Int32 → Int32 → mh_H → Option (Int64 × mh_H)
  | 0, _, _, _, _ => none
  | n + 1, o0, x1, x2, h =>
    (mh_gI h o0 10 2).bind fun v4 =>
    if x2 ≤ v4 then (
    f_X10_countBy_b52 o0 x1 x2 h) else
    (mh_gI h o0 10 2).bind fun v5 =>
    (mh_pI h o0 10 2 (v5 + (1 : Int32))).bind fun h6 =>
    (mh_gI h6 o0 10 2).bind fun v7 =>
    (mh_cal h6 o0 10 (f_X10_reckon_e o0 v7 h6)).bind fun h8 =>
    f_X10_countBy_b23 n o0 x1 x2 h8
def f_X10_countBy_e (o0 : Nat) (x1 : Int32) (x2 : Int32) (h : mh_H) : Option (Int64 × mh_H) :=
  if x2 < 0 then (
  f_X10_countBy_b21 h) else
  if (3000 : Int32) < x2 then (
  f_X10_countBy_b21 h) else
  if x1 < 0 then (
  f_X10_countBy_b21 h) else
  if x1 ≤ (12 : Int32) then (
  f_X10_countBy_b23 mh_fu o0 x1 x2 h) else
  f_X10_countBy_b21 h
set_option maxRecDepth 100000 in
set_option maxHeartbeats 4000000 in
theorem w_X10_countBy_b21 {p : Program} {l : Launch} {e : Env} {s : State} {m : MethodId} {args : Array Value} {below : List Frame} {meth : Method} {c : Code} {D : va_G} {ks : Nat → ClassId} {L : List Nat} {r : Int64} {h' : mh_H} (cx : mh_C p m c cX10_countBy 3 s args RX10 meth D ks (mh_A L s.heap.size)) (hr : meth.sig.returnType = (some .long)) :
    ∀ (h : mh_H) (H : Heap) (locs : List Loc) (ls : Array Slot), mh_W D ks L (mh_A L s.heap.size) s.heap h H locs → lv_has ls 3 [] → f_X10_countBy_b21  h = some (r, h') → W p l e (mh_rm 2) s m args below meth c H locs 0 0 (MQ below (mh_Ql D ks L s.heap.size r h') args s 0 0 (mh_A L s.heap.size)) (F0 m 21 ls []) := by
  intro  h H locs ls wd hl hX
  have hx := cx.1.1
  have hb := cx.1.2.1
  unfold f_X10_countBy_b21 at hX
  refine lv_lconst (v := 0) hx hb dX10_countBy_21 (by decide) ?_
  exact mh_lret cx wd hr hX dX10_countBy_22
set_option maxRecDepth 100000 in
set_option maxHeartbeats 4000000 in
theorem w_X10_countBy_b52 {p : Program} {l : Launch} {e : Env} {s : State} {m : MethodId} {args : Array Value} {below : List Frame} {meth : Method} {c : Code} {D : va_G} {ks : Nat → ClassId} {L : List Nat} {r : Int64} {h' : mh_H} (cx : mh_C p m c cX10_countBy 3 s args RX10 meth D ks (mh_A L s.heap.size)) (hr : meth.sig.returnType = (some .long)) :
    ∀ (o0 : Nat) (x1 : Int32) (x2 : Int32) (h : mh_H) (H : Heap) (locs : List Loc) (ls : Array Slot), mh_W D ks L (mh_A L s.heap.size) s.heap h H locs → lv_has ls 3 [(0, .ref o0), (1, .int x1), (2, .int x2)] → f_X10_countBy_b52 o0 x1 x2 h = some (r, h') → W p l e (mh_rm 2) s m args below meth c H locs 0 0 (MQ below (mh_Ql D ks L s.heap.size r h') args s 0 0 (mh_A L s.heap.size)) (F0 m 52 ls []) := by
  intro o0 x1 x2 h H locs ls wd hl hX
  have hx := cx.1.1
  have hb := cx.1.2.1
  unfold f_X10_countBy_b52 at hX
  refine lv_aload_n hx hb dX10_countBy_52 rfl (lv_at hl 0 rfl) ?_
  refine mh_getR cx wd fl_X10_20 dX10_countBy_53 hX (fun a1 hX => ?_)
  refine lv_iload_n hx hb dX10_countBy_56 rfl (lv_at hl 1 rfl) ?_
  refine mh_aald cx wd 6 rfl rfl dX10_countBy_57 hX (fun a2 hX => ?_)
  refine lv_iload_n hx hb dX10_countBy_58 rfl (lv_at hl 2 rfl) ?_
  refine mh_lald cx wd dX10_countBy_59 hX (fun w3 hX => ?_)
  exact mh_lret cx wd hr hX dX10_countBy_60
set_option maxRecDepth 100000 in
set_option maxHeartbeats 4000000 in
theorem w_X10_countBy_b23 {p : Program} {l : Launch} {e : Env} {s : State} {m : MethodId} {args : Array Value} {below : List Frame} {meth : Method} {c : Code} {D : va_G} {ks : Nat → ClassId} {L : List Nat} {r : Int64} {h' : mh_H} (cx : mh_C p m c cX10_countBy 3 s args RX10 meth D ks (mh_A L s.heap.size)) (hr : meth.sig.returnType = (some .long)) :
    ∀ n : Nat, ∀ (o0 : Nat) (x1 : Int32) (x2 : Int32) (h : mh_H) (H : Heap) (locs : List Loc) (ls : Array Slot), mh_W D ks L (mh_A L s.heap.size) s.heap h H locs → lv_has ls 3 [(0, .ref o0), (1, .int x1), (2, .int x2)] → f_X10_countBy_b23 n o0 x1 x2 h = some (r, h') → W p l e (mh_rm 2) s m args below meth c H locs 0 0 (MQ below (mh_Ql D ks L s.heap.size r h') args s 0 0 (mh_A L s.heap.size)) (F0 m 23 ls []) := by
  intro n
  induction n with
  | zero =>
    intro o0 x1 x2 h H locs ls wd hl hX
    cases hX
  | succ n ih =>
    intro o0 x1 x2 h H locs ls wd hl hX
    have hx := cx.1.1
    have hb := cx.1.2.1
    rw [f_X10_countBy_b23] at hX
    refine lv_aload_n hx hb dX10_countBy_23 rfl (lv_at hl 0 rfl) ?_
    refine mh_getI cx wd fl_X10_23 dX10_countBy_24 hX (fun v4 hX => ?_)
    refine lv_iload_n hx hb dX10_countBy_27 rfl (lv_at hl 2 rfl) ?_
    refine lv_icmp_ge (tgt := 52) hx hb dX10_countBy_28 rfl (fun hc => (fun hX => ?_) ((mh_if hX).1 hc)) (fun hc => (fun hX => ?_) ((mh_if hX).2 hc))
    · exact w_X10_countBy_b52 cx hr _ _ _ h _ _ ls wd (lv_sub hl [0, 1, 2] rfl) hX
    · refine lv_aload_n hx hb dX10_countBy_31 rfl (lv_at hl 0 rfl) ?_
      refine lv_dup hx hb dX10_countBy_32 rfl ?_
      refine mh_getI cx wd fl_X10_23 dX10_countBy_33 hX (fun v5 hX => ?_)
      refine lv_iconst (v := 1) hx hb dX10_countBy_36 (by decide) ?_
      refine lv_iadd hx hb dX10_countBy_37 ?_
      refine mh_putI cx wd fp_X10_23 dX10_countBy_38 hX (fun h6 H locs wd hX => ?_)
      refine lv_aload_n hx hb dX10_countBy_41 rfl (lv_at hl 0 rfl) ?_
      refine lv_aload_n hx hb dX10_countBy_42 rfl (lv_at hl 0 rfl) ?_
      refine mh_getI cx wd fl_X10_23 dX10_countBy_43 hX (fun v7 hX => ?_)
      refine mh_callVV cx wd [.int v7] (rfl : vwCl[10]? = some (RX10, TX10, 3)) yw_X10_reckon vw_X10_43 rfl hl.1 rfl (Nat.le_of_ble_eq_true rfl) dX10_countBy_46 ⟨Nat.le_of_ble_eq_true rfl, Nat.le_of_ble_eq_true rfl⟩ ⟨Nat.le_refl _, Nat.le_refl _⟩ (fun _ q => c_X10_reckon q) hX (fun h8 H locs wd hX => ?_)
      refine lv_goto (tgt := 23) hx hb dX10_countBy_49 rfl ?_
      exact ih _ _ _ h8 _ _ ls wd (lv_sub hl [0, 1, 2] rfl) hX
set_option maxRecDepth 100000 in
set_option maxHeartbeats 4000000 in
theorem w_X10_countBy_e {p : Program} {l : Launch} {e : Env} {s : State} {m : MethodId} {args : Array Value} {below : List Frame} {meth : Method} {c : Code} {D : va_G} {ks : Nat → ClassId} {L : List Nat} {r : Int64} {h' : mh_H} (cx : mh_C p m c cX10_countBy 3 s args RX10 meth D ks (mh_A L s.heap.size)) (hr : meth.sig.returnType = (some .long)) :
    ∀ (o0 : Nat) (x1 : Int32) (x2 : Int32) (h : mh_H) (H : Heap) (locs : List Loc) (ls : Array Slot), mh_W D ks L (mh_A L s.heap.size) s.heap h H locs → lv_has ls 3 [(0, .ref o0), (1, .int x1), (2, .int x2)] → f_X10_countBy_e o0 x1 x2 h = some (r, h') → W p l e (mh_rm 2) s m args below meth c H locs 0 0 (MQ below (mh_Ql D ks L s.heap.size r h') args s 0 0 (mh_A L s.heap.size)) (F0 m 0 ls []) := by
  intro o0 x1 x2 h H locs ls wd hl hX
  have hx := cx.1.1
  have hb := cx.1.2.1
  unfold f_X10_countBy_e at hX
  refine lv_iload_n hx hb dX10_countBy_0 rfl (lv_at hl 2 rfl) ?_
  refine lv_if_lt (tgt := 21) hx hb dX10_countBy_1 rfl (fun hc => (fun hX => ?_) ((mh_if hX).1 hc)) (fun hc => (fun hX => ?_) ((mh_if hX).2 hc))
  · exact w_X10_countBy_b21 cx hr  h _ _ ls wd (lv_sub hl [] rfl) hX
  · refine lv_iload_n hx hb dX10_countBy_4 rfl (lv_at hl 2 rfl) ?_
    refine lv_sipush (v := 3000) hx hb dX10_countBy_5 (by decide) ?_
    refine lv_icmp_gt (tgt := 21) hx hb dX10_countBy_8 rfl (fun hc => (fun hX => ?_) ((mh_if hX).1 hc)) (fun hc => (fun hX => ?_) ((mh_if hX).2 hc))
    · exact w_X10_countBy_b21 cx hr  h _ _ ls wd (lv_sub hl [] rfl) hX
    · refine lv_iload_n hx hb dX10_countBy_11 rfl (lv_at hl 1 rfl) ?_
      refine lv_if_lt (tgt := 21) hx hb dX10_countBy_12 rfl (fun hc => (fun hX => ?_) ((mh_if hX).1 hc)) (fun hc => (fun hX => ?_) ((mh_if hX).2 hc))
      · exact w_X10_countBy_b21 cx hr  h _ _ ls wd (lv_sub hl [] rfl) hX
      · refine lv_iload_n hx hb dX10_countBy_15 rfl (lv_at hl 1 rfl) ?_
        refine lv_bipush (v := 12) hx hb dX10_countBy_16 (by decide) ?_
        refine lv_icmp_le (tgt := 23) hx hb dX10_countBy_18 rfl (fun hc => (fun hX => ?_) ((mh_if hX).1 hc)) (fun hc => (fun hX => ?_) ((mh_if hX).2 hc))
        · exact w_X10_countBy_b23 cx hr mh_fu _ _ _ h _ _ ls wd (lv_sub hl [0, 1, 2] rfl) hX
        · exact w_X10_countBy_b21 cx hr  h _ _ ls wd (lv_sub hl [] rfl) hX
set_option maxRecDepth 100000 in
theorem c_X10_countBy {l : Launch} {L : List Nat} {h h' : mh_H} {r : Int64} {o0 : Nat} {x1 : Int32} {x2 : Int32} (hX : f_X10_countBy_e o0 x1 x2 h = some (r, h')) : mh_MJ l yX10_countBy (Cond.code yX10_countBy cX10_countBy 3 (some .long) :: mh_TB) (mh_rm 2) [.ref o0, .int x1, .int x2] L h r h' :=
  mh_of (mc := 0) (ms := 0) (Qc := fun D ks sz => mh_Ql D ks L sz r h') (plainFor_of_name (by decide)) (Nat.le_of_ble_eq_true rfl) (fun p e s m below meth c D ks ls hr cx wd hl => by
    have hl : lv_has ls 3 [(0, .ref o0), (1, .int x1), (2, .int x2)] := hl
    exact w_X10_countBy_e cx hr o0 x1 x2 h _ _ ls wd hl hX)
def f_X7_set_b22 (h : mh_H) : Option mh_H :=
  some h
def f_X7_set_e (o0 : Nat) (x1 : Int32) (x2 : Int32) (h : mh_H) : Option mh_H :=
  if x1 < 0 then (
  f_X7_set_b22 h) else
  (mh_gR h o0 7 0).bind fun a1 =>
  mh_b2 (mh_cal h a1 1 (f_X1_count_e a1 h)) fun v3 h2 =>
  if v3 ≤ x1 then (
  f_X7_set_b22 h2) else
  (mh_gR h2 o0 7 1).bind fun a4 =>
  (mh_sI h2 a4 x1 x2).bind fun h5 =>
  f_X7_set_b22 h5
set_option maxRecDepth 100000 in
set_option maxHeartbeats 4000000 in
theorem w_X7_set_b22 {p : Program} {l : Launch} {e : Env} {s : State} {m : MethodId} {args : Array Value} {below : List Frame} {meth : Method} {c : Code} {D : va_G} {ks : Nat → ClassId} {L : List Nat} {h' : mh_H} (cx : mh_C p m c cX7_set 3 s args RX7 meth D ks (mh_A L s.heap.size)) (hr : meth.sig.returnType = none) :
    ∀ (h : mh_H) (H : Heap) (locs : List Loc) (ls : Array Slot), mh_W D ks L (mh_A L s.heap.size) s.heap h H locs → lv_has ls 3 [] → f_X7_set_b22  h = some h' → W p l e (mh_rm 1) s m args below meth c H locs 0 0 (MQ below (mh_Qv D ks L s.heap.size h') args s 0 0 (mh_A L s.heap.size)) (F0 m 22 ls []) := by
  intro  h H locs ls wd hl hX
  have hx := cx.1.1
  have hb := cx.1.2.1
  unfold f_X7_set_b22 at hX
  exact mh_vret cx wd hr hX dX7_set_22
set_option maxRecDepth 100000 in
set_option maxHeartbeats 4000000 in
theorem w_X7_set_e {p : Program} {l : Launch} {e : Env} {s : State} {m : MethodId} {args : Array Value} {below : List Frame} {meth : Method} {c : Code} {D : va_G} {ks : Nat → ClassId} {L : List Nat} {h' : mh_H} (cx : mh_C p m c cX7_set 3 s args RX7 meth D ks (mh_A L s.heap.size)) (hr : meth.sig.returnType = none) :
    ∀ (o0 : Nat) (x1 : Int32) (x2 : Int32) (h : mh_H) (H : Heap) (locs : List Loc) (ls : Array Slot), mh_W D ks L (mh_A L s.heap.size) s.heap h H locs → lv_has ls 3 [(0, .ref o0), (1, .int x1), (2, .int x2)] → f_X7_set_e o0 x1 x2 h = some h' → W p l e (mh_rm 1) s m args below meth c H locs 0 0 (MQ below (mh_Qv D ks L s.heap.size h') args s 0 0 (mh_A L s.heap.size)) (F0 m 0 ls []) := by
  intro o0 x1 x2 h H locs ls wd hl hX
  have hx := cx.1.1
  have hb := cx.1.2.1
  unfold f_X7_set_e at hX
  refine lv_iload_n hx hb dX7_set_0 rfl (lv_at hl 1 rfl) ?_
  refine lv_if_lt (tgt := 22) hx hb dX7_set_1 rfl (fun hc => (fun hX => ?_) ((mh_if hX).1 hc)) (fun hc => (fun hX => ?_) ((mh_if hX).2 hc))
  · exact w_X7_set_b22 cx hr  h _ _ ls wd (lv_sub hl [] rfl) hX
  · refine lv_iload_n hx hb dX7_set_4 rfl (lv_at hl 1 rfl) ?_
    refine lv_aload_n hx hb dX7_set_5 rfl (lv_at hl 0 rfl) ?_
    refine mh_getR cx wd fl_X7_12 dX7_set_6 hX (fun a1 hX => ?_)
    refine mh_callVI cx wd [] (rfl : vwCl[1]? = some (RX1, TX1, 2)) yw_X1_count vw_X7_22 rfl hl.1 rfl (Nat.le_of_ble_eq_true rfl) dX7_set_9 ⟨Nat.le_of_ble_eq_true rfl, Nat.le_of_ble_eq_true rfl⟩ ⟨Nat.le_refl _, Nat.le_refl _⟩ (fun _ _ q => c_X1_count q) hX (fun v3 h2 H locs wd hX => ?_)
    refine lv_icmp_ge (tgt := 22) hx hb dX7_set_12 rfl (fun hc => (fun hX => ?_) ((mh_if hX).1 hc)) (fun hc => (fun hX => ?_) ((mh_if hX).2 hc))
    · exact w_X7_set_b22 cx hr  h2 _ _ ls wd (lv_sub hl [] rfl) hX
    · refine lv_aload_n hx hb dX7_set_15 rfl (lv_at hl 0 rfl) ?_
      refine mh_getR cx wd fl_X7_18 dX7_set_16 hX (fun a4 hX => ?_)
      refine lv_iload_n hx hb dX7_set_19 rfl (lv_at hl 1 rfl) ?_
      refine lv_iload_n hx hb dX7_set_20 rfl (lv_at hl 2 rfl) ?_
      refine mh_iast cx wd dX7_set_21 hX (fun h5 H locs wd hX => ?_)
      exact w_X7_set_b22 cx hr  h5 _ _ ls wd (lv_sub hl [] rfl) hX
set_option maxRecDepth 100000 in
theorem c_X7_set {l : Launch} {L : List Nat} {h h' : mh_H} {o0 : Nat} {x1 : Int32} {x2 : Int32} (hX : f_X7_set_e o0 x1 x2 h = some h') : mh_MV l yX7_set (Cond.code yX7_set cX7_set 3 none :: mh_TB) (mh_rm 1) [.ref o0, .int x1, .int x2] L h h' :=
  mh_of (mc := 0) (ms := 0) (Qc := fun D ks sz => mh_Qv D ks L sz h') (plainFor_of_name (by decide)) (Nat.le_of_ble_eq_true rfl) (fun p e s m below meth c D ks ls hr cx wd hl => by
    have hl : lv_has ls 3 [(0, .ref o0), (1, .int x1), (2, .int x2)] := hl
    exact w_X7_set_e cx hr o0 x1 x2 h _ _ ls wd hl hX)
def f_X10_lay_b99 (k17 : Nat → Nat → Int32 → Int64 → Int32 → mh_H → Option mh_H) (o0 : Nat) (o4 : Nat) (x5 : Int32) (y6 : Int64) (x8 : Int32) (x9 : Int32) (x10 : Int32) (h : mh_H) : Option mh_H :=
  (mh_cal h o4 7 (f_X7_set_e o4 x8 x10 h)).bind fun h1 =>
  mh_nm (x5 - (x10 * x9)) fun v2 =>
  mh_nm (x8 + Int32.ofInt (-1)) fun v3 =>
  k17 o0 o4 v2 y6 v3 h1
def f_X10_lay_b49 (k17 : Nat → Nat → Int32 → Int64 → Int32 → mh_H → Option mh_H) : Nat → Nat → Nat → Int32 → Int64 → Int32 → Int32 → Int32 → mh_H → Option mh_H
  | 0, _, _, _, _, _, _, _, _ => none
  | n + 1, o0, o4, x5, y6, x8, x9, x10, h =>
    if x10 ≤ 0 then (
    f_X10_lay_b99 k17 o0 o4 x5 y6 x8 x9 x10 h) else
    mh_b2 (mh_cal h o0 10 (f_X10_countBy_e o0 x8 (x5 - (x10 * x9)) h)) fun w5 h4 =>
    if (lg_cmp y6 w5) < 0 then (
    f_X10_lay_b99 k17 o0 o4 x5 y6 x8 x9 x10 h4) else
    mh_b2 (mh_cal h4 o0 10 (f_X10_countBy_e o0 x8 (x5 - (x10 * x9)) h4)) fun w7 h6 =>
    mh_nm (y6 - w7) fun w8 =>
    mh_nm (x10 + Int32.ofInt (-1)) fun v9 =>
    f_X10_lay_b49 k17 n o0 o4 x5 w8 x8 x9 v9 h6
def f_X10_lay_b47 (k17 : Nat → Nat → Int32 → Int64 → Int32 → mh_H → Option mh_H) (o0 : Nat) (o4 : Nat) (x5 : Int32) (y6 : Int64) (x8 : Int32) (x9 : Int32) (t0 : Int32) (h : mh_H) : Option mh_H :=
  f_X10_lay_b49 k17 mh_fu o0 o4 x5 y6 x8 x9 t0 h
def f_X10_lay_b124 (h : mh_H) : Option mh_H :=
  some h
def f_X10_lay_b17 : Nat → Nat → Nat → Int32 → Int64 → Int32 → mh_H → Option mh_H
  | 0, _, _, _, _, _, _ => none
  | n + 1, o0, o4, x5, y6, x8, h =>
    if x8 < 0 then (
    f_X10_lay_b124 h) else
    (mh_gR h o0 10 0).bind fun a10 =>
    mh_b2 (mh_cal h a10 1 (f_X1_value_e a10 x8 h)) fun v12 h11 =>
    if v12 ≤ 0 then (
    f_X10_lay_b47 (f_X10_lay_b17 n) o0 o4 x5 y6 x8 v12 (0 : Int32) h11) else
    mh_nz (v12 = 0) <|
    f_X10_lay_b47 (f_X10_lay_b17 n) o0 o4 x5 y6 x8 v12 (x5 / v12) h11
def f_X10_lay_e (o0 : Nat) (x1 : Int32) (y2 : Int64) (o4 : Nat) (h : mh_H) : Option mh_H :=
  (mh_gR h o0 10 0).bind fun a13 =>
  mh_b2 (mh_cal h a13 1 (f_X1_count_e a13 h)) fun v15 h14 =>
  mh_nm (v15 - (1 : Int32)) fun v16 =>
  f_X10_lay_b17 mh_fu o0 o4 x1 y2 v16 h14
set_option maxRecDepth 100000 in
set_option maxHeartbeats 4000000 in
theorem w_X10_lay_b99 {p : Program} {l : Launch} {e : Env} {s : State} {m : MethodId} {args : Array Value} {below : List Frame} {meth : Method} {c : Code} {D : va_G} {ks : Nat → ClassId} {L : List Nat} {h' : mh_H} (k17 : Nat → Nat → Int32 → Int64 → Int32 → mh_H → Option mh_H) (cx : mh_C p m c cX10_lay 11 s args RX10 meth D ks (mh_A L s.heap.size)) (hr : meth.sig.returnType = none)
    (hk17 : ∀ (o0 : Nat) (o4 : Nat) (x5 : Int32) (y6 : Int64) (x8 : Int32) (h : mh_H) (H : Heap) (locs : List Loc) (ls : Array Slot), mh_W D ks L (mh_A L s.heap.size) s.heap h H locs → lv_has ls 11 [(0, .ref o0), (4, .ref o4), (5, .int x5), (6, .long y6), (8, .int x8)] → k17 o0 o4 x5 y6 x8 h = some h' → W p l e (mh_rm 3) s m args below meth c H locs 0 0 (MQ below (mh_Qv D ks L s.heap.size h') args s 0 0 (mh_A L s.heap.size)) (F0 m 17 ls [])) :
    ∀ (o0 : Nat) (o4 : Nat) (x5 : Int32) (y6 : Int64) (x8 : Int32) (x9 : Int32) (x10 : Int32) (h : mh_H) (H : Heap) (locs : List Loc) (ls : Array Slot), mh_W D ks L (mh_A L s.heap.size) s.heap h H locs → lv_has ls 11 [(0, .ref o0), (4, .ref o4), (5, .int x5), (6, .long y6), (8, .int x8), (9, .int x9), (10, .int x10)] → f_X10_lay_b99 k17 o0 o4 x5 y6 x8 x9 x10 h = some h' → W p l e (mh_rm 3) s m args below meth c H locs 0 0 (MQ below (mh_Qv D ks L s.heap.size h') args s 0 0 (mh_A L s.heap.size)) (F0 m 99 ls []) := by
  intro o0 o4 x5 y6 x8 x9 x10 h H locs ls wd hl hX
  have hx := cx.1.1
  have hb := cx.1.2.1
  unfold f_X10_lay_b99 at hX
  refine lv_aload hx hb dX10_lay_99 (lv_at hl 1 rfl) ?_
  refine lv_iload hx hb dX10_lay_101 (lv_at hl 4 rfl) ?_
  refine lv_iload hx hb dX10_lay_103 (lv_at hl 6 rfl) ?_
  refine mh_callVV cx wd [.int x8, .int x10] (rfl : vwCl[7]? = some (RX7, TX7, 2)) yw_X7_set vw_X10_59 rfl hl.1 rfl (Nat.le_of_ble_eq_true rfl) dX10_lay_105 ⟨Nat.le_of_ble_eq_true rfl, Nat.le_of_ble_eq_true rfl⟩ ⟨Nat.le_refl _, Nat.le_refl _⟩ (fun _ q => c_X7_set q) hX (fun h1 H locs wd hX => ?_)
  refine lv_iload hx hb dX10_lay_108 (lv_at hl 2 rfl) ?_
  refine lv_iload hx hb dX10_lay_110 (lv_at hl 6 rfl) ?_
  refine lv_iload hx hb dX10_lay_112 (lv_at hl 5 rfl) ?_
  refine lv_imul hx hb dX10_lay_114 ?_
  refine lv_isub hx hb dX10_lay_115 ?_
  refine mh_topi hX (fun v2 hX => ?_)
  refine lv_istore (lv' := [(5, .int v2), (0, .ref o0), (4, .ref o4), (6, .long y6), (8, .int x8), (9, .int x9), (10, .int x10)]) hx hb dX10_lay_116 hl (Nat.le_of_ble_eq_true rfl) rfl (fun ls hl => ?_)
  obtain ⟨v3, ev3, hX⟩ := mh_nmx hX
  refine lv_iinc (k := 4) (v := v3) (lv' := [(8, .int v3), (5, .int v2), (0, .ref o0), (4, .ref o4), (6, .long y6), (9, .int x9), (10, .int x10)]) hx hb dX10_lay_118 hl rfl ev3 (Nat.le_of_ble_eq_true rfl) rfl (fun ls hl => ?_)
  refine lv_goto (tgt := 17) hx hb dX10_lay_121 rfl ?_
  exact hk17 _ _ _ _ _ h1 _ _ ls wd (lv_sub hl [2, 3, 1, 4, 0] rfl) hX
set_option maxRecDepth 100000 in
set_option maxHeartbeats 4000000 in
theorem w_X10_lay_b49 {p : Program} {l : Launch} {e : Env} {s : State} {m : MethodId} {args : Array Value} {below : List Frame} {meth : Method} {c : Code} {D : va_G} {ks : Nat → ClassId} {L : List Nat} {h' : mh_H} (k17 : Nat → Nat → Int32 → Int64 → Int32 → mh_H → Option mh_H) (cx : mh_C p m c cX10_lay 11 s args RX10 meth D ks (mh_A L s.heap.size)) (hr : meth.sig.returnType = none)
    (hk17 : ∀ (o0 : Nat) (o4 : Nat) (x5 : Int32) (y6 : Int64) (x8 : Int32) (h : mh_H) (H : Heap) (locs : List Loc) (ls : Array Slot), mh_W D ks L (mh_A L s.heap.size) s.heap h H locs → lv_has ls 11 [(0, .ref o0), (4, .ref o4), (5, .int x5), (6, .long y6), (8, .int x8)] → k17 o0 o4 x5 y6 x8 h = some h' → W p l e (mh_rm 3) s m args below meth c H locs 0 0 (MQ below (mh_Qv D ks L s.heap.size h') args s 0 0 (mh_A L s.heap.size)) (F0 m 17 ls [])) :
    ∀ n : Nat, ∀ (o0 : Nat) (o4 : Nat) (x5 : Int32) (y6 : Int64) (x8 : Int32) (x9 : Int32) (x10 : Int32) (h : mh_H) (H : Heap) (locs : List Loc) (ls : Array Slot), mh_W D ks L (mh_A L s.heap.size) s.heap h H locs → lv_has ls 11 [(0, .ref o0), (4, .ref o4), (5, .int x5), (6, .long y6), (8, .int x8), (9, .int x9), (10, .int x10)] → f_X10_lay_b49 k17 n o0 o4 x5 y6 x8 x9 x10 h = some h' → W p l e (mh_rm 3) s m args below meth c H locs 0 0 (MQ below (mh_Qv D ks L s.heap.size h') args s 0 0 (mh_A L s.heap.size)) (F0 m 49 ls []) := by
  intro n
  induction n with
  | zero =>
    intro o0 o4 x5 y6 x8 x9 x10 h H locs ls wd hl hX
    cases hX
  | succ n ih =>
    intro o0 o4 x5 y6 x8 x9 x10 h H locs ls wd hl hX
    have hx := cx.1.1
    have hb := cx.1.2.1
    rw [f_X10_lay_b49] at hX
    refine lv_iload hx hb dX10_lay_49 (lv_at hl 6 rfl) ?_
    refine lv_if_le (tgt := 99) hx hb dX10_lay_51 rfl (fun hc => (fun hX => ?_) ((mh_if hX).1 hc)) (fun hc => (fun hX => ?_) ((mh_if hX).2 hc))
    · exact w_X10_lay_b99 k17 cx hr hk17 _ _ _ _ _ _ _ h _ _ ls wd (lv_sub hl [0, 1, 2, 3, 4, 5, 6] rfl) hX
    · refine lv_lload hx hb dX10_lay_54 (lv_at hl 3 rfl) ?_
      refine lv_aload_n hx hb dX10_lay_56 rfl (lv_at hl 0 rfl) ?_
      refine lv_iload hx hb dX10_lay_57 (lv_at hl 4 rfl) ?_
      refine lv_iload hx hb dX10_lay_59 (lv_at hl 2 rfl) ?_
      refine lv_iload hx hb dX10_lay_61 (lv_at hl 6 rfl) ?_
      refine lv_iload hx hb dX10_lay_63 (lv_at hl 5 rfl) ?_
      refine lv_imul hx hb dX10_lay_65 ?_
      refine lv_isub hx hb dX10_lay_66 ?_
      refine mh_callVJ cx wd [.int x8, .int (x5 - (x10 * x9))] (rfl : vwCl[10]? = some (RX10, TX10, 3)) yw_X10_countBy vw_X10_39 rfl hl.1 rfl (Nat.le_of_ble_eq_true rfl) dX10_lay_67 ⟨Nat.le_of_ble_eq_true rfl, Nat.le_of_ble_eq_true rfl⟩ ⟨Nat.le_refl _, Nat.le_refl _⟩ (fun _ _ q => c_X10_countBy q) hX (fun w5 h4 H locs wd hX => ?_)
      refine W.lcmp hx hb dX10_lay_70 ?_
      refine lv_if_lt (tgt := 99) hx hb dX10_lay_71 rfl (fun hc => (fun hX => ?_) ((mh_if hX).1 hc)) (fun hc => (fun hX => ?_) ((mh_if hX).2 hc))
      · exact w_X10_lay_b99 k17 cx hr hk17 _ _ _ _ _ _ _ h4 _ _ ls wd (lv_sub hl [0, 1, 2, 3, 4, 5, 6] rfl) hX
      · refine lv_lload hx hb dX10_lay_74 (lv_at hl 3 rfl) ?_
        refine lv_aload_n hx hb dX10_lay_76 rfl (lv_at hl 0 rfl) ?_
        refine lv_iload hx hb dX10_lay_77 (lv_at hl 4 rfl) ?_
        refine lv_iload hx hb dX10_lay_79 (lv_at hl 2 rfl) ?_
        refine lv_iload hx hb dX10_lay_81 (lv_at hl 6 rfl) ?_
        refine lv_iload hx hb dX10_lay_83 (lv_at hl 5 rfl) ?_
        refine lv_imul hx hb dX10_lay_85 ?_
        refine lv_isub hx hb dX10_lay_86 ?_
        refine mh_callVJ cx wd [.int x8, .int (x5 - (x10 * x9))] (rfl : vwCl[10]? = some (RX10, TX10, 3)) yw_X10_countBy vw_X10_39 rfl hl.1 rfl (Nat.le_of_ble_eq_true rfl) dX10_lay_87 ⟨Nat.le_of_ble_eq_true rfl, Nat.le_of_ble_eq_true rfl⟩ ⟨Nat.le_refl _, Nat.le_refl _⟩ (fun _ _ q => c_X10_countBy q) hX (fun w7 h6 H locs wd hX => ?_)
        refine lv_lsub hx hb dX10_lay_90 ?_
        refine mh_topl hX (fun w8 hX => ?_)
        refine lv_lstore (lv' := [(6, .long w8), (0, .ref o0), (4, .ref o4), (5, .int x5), (8, .int x8), (9, .int x9), (10, .int x10)]) hx hb dX10_lay_91 hl (Nat.le_of_ble_eq_true rfl) rfl (fun ls hl => ?_)
        obtain ⟨v9, ev9, hX⟩ := mh_nmx hX
        refine lv_iinc (k := 6) (v := v9) (lv' := [(10, .int v9), (6, .long w8), (0, .ref o0), (4, .ref o4), (5, .int x5), (8, .int x8), (9, .int x9)]) hx hb dX10_lay_93 hl rfl ev9 (Nat.le_of_ble_eq_true rfl) rfl (fun ls hl => ?_)
        refine lv_goto (tgt := 49) hx hb dX10_lay_96 rfl ?_
        exact ih _ _ _ _ _ _ _ h6 _ _ ls wd (lv_sub hl [2, 3, 4, 1, 5, 6, 0] rfl) hX
set_option maxRecDepth 100000 in
set_option maxHeartbeats 4000000 in
theorem w_X10_lay_b47 {p : Program} {l : Launch} {e : Env} {s : State} {m : MethodId} {args : Array Value} {below : List Frame} {meth : Method} {c : Code} {D : va_G} {ks : Nat → ClassId} {L : List Nat} {h' : mh_H} (k17 : Nat → Nat → Int32 → Int64 → Int32 → mh_H → Option mh_H) (cx : mh_C p m c cX10_lay 11 s args RX10 meth D ks (mh_A L s.heap.size)) (hr : meth.sig.returnType = none)
    (hk17 : ∀ (o0 : Nat) (o4 : Nat) (x5 : Int32) (y6 : Int64) (x8 : Int32) (h : mh_H) (H : Heap) (locs : List Loc) (ls : Array Slot), mh_W D ks L (mh_A L s.heap.size) s.heap h H locs → lv_has ls 11 [(0, .ref o0), (4, .ref o4), (5, .int x5), (6, .long y6), (8, .int x8)] → k17 o0 o4 x5 y6 x8 h = some h' → W p l e (mh_rm 3) s m args below meth c H locs 0 0 (MQ below (mh_Qv D ks L s.heap.size h') args s 0 0 (mh_A L s.heap.size)) (F0 m 17 ls [])) :
    ∀ (o0 : Nat) (o4 : Nat) (x5 : Int32) (y6 : Int64) (x8 : Int32) (x9 : Int32) (t0 : Int32) (h : mh_H) (H : Heap) (locs : List Loc) (ls : Array Slot), mh_W D ks L (mh_A L s.heap.size) s.heap h H locs → lv_has ls 11 [(0, .ref o0), (4, .ref o4), (5, .int x5), (6, .long y6), (8, .int x8), (9, .int x9)] → f_X10_lay_b47 k17 o0 o4 x5 y6 x8 x9 t0 h = some h' → W p l e (mh_rm 3) s m args below meth c H locs 0 0 (MQ below (mh_Qv D ks L s.heap.size h') args s 0 0 (mh_A L s.heap.size)) (F0 m 47 ls [.int t0]) := by
  intro o0 o4 x5 y6 x8 x9 t0 h H locs ls wd hl hX
  have hx := cx.1.1
  have hb := cx.1.2.1
  unfold f_X10_lay_b47 at hX
  refine lv_istore (lv' := [(10, .int t0), (0, .ref o0), (4, .ref o4), (5, .int x5), (6, .long y6), (8, .int x8), (9, .int x9)]) hx hb dX10_lay_47 hl (Nat.le_of_ble_eq_true rfl) rfl (fun ls hl => ?_)
  exact w_X10_lay_b49 k17 cx hr hk17 mh_fu _ _ _ _ _ _ _ h _ _ ls wd (lv_sub hl [1, 2, 3, 4, 5, 6, 0] rfl) hX
set_option maxRecDepth 100000 in
set_option maxHeartbeats 4000000 in
theorem w_X10_lay_b124 {p : Program} {l : Launch} {e : Env} {s : State} {m : MethodId} {args : Array Value} {below : List Frame} {meth : Method} {c : Code} {D : va_G} {ks : Nat → ClassId} {L : List Nat} {h' : mh_H} (cx : mh_C p m c cX10_lay 11 s args RX10 meth D ks (mh_A L s.heap.size)) (hr : meth.sig.returnType = none) :
    ∀ (h : mh_H) (H : Heap) (locs : List Loc) (ls : Array Slot), mh_W D ks L (mh_A L s.heap.size) s.heap h H locs → lv_has ls 11 [] → f_X10_lay_b124  h = some h' → W p l e (mh_rm 3) s m args below meth c H locs 0 0 (MQ below (mh_Qv D ks L s.heap.size h') args s 0 0 (mh_A L s.heap.size)) (F0 m 124 ls []) := by
  intro  h H locs ls wd hl hX
  have hx := cx.1.1
  have hb := cx.1.2.1
  unfold f_X10_lay_b124 at hX
  exact mh_vret cx wd hr hX dX10_lay_124
set_option maxRecDepth 100000 in
set_option maxHeartbeats 4000000 in
theorem w_X10_lay_b17 {p : Program} {l : Launch} {e : Env} {s : State} {m : MethodId} {args : Array Value} {below : List Frame} {meth : Method} {c : Code} {D : va_G} {ks : Nat → ClassId} {L : List Nat} {h' : mh_H} (cx : mh_C p m c cX10_lay 11 s args RX10 meth D ks (mh_A L s.heap.size)) (hr : meth.sig.returnType = none) :
    ∀ n : Nat, ∀ (o0 : Nat) (o4 : Nat) (x5 : Int32) (y6 : Int64) (x8 : Int32) (h : mh_H) (H : Heap) (locs : List Loc) (ls : Array Slot), mh_W D ks L (mh_A L s.heap.size) s.heap h H locs → lv_has ls 11 [(0, .ref o0), (4, .ref o4), (5, .int x5), (6, .long y6), (8, .int x8)] → f_X10_lay_b17 n o0 o4 x5 y6 x8 h = some h' → W p l e (mh_rm 3) s m args below meth c H locs 0 0 (MQ below (mh_Qv D ks L s.heap.size h') args s 0 0 (mh_A L s.heap.size)) (F0 m 17 ls []) := by
  intro n
  induction n with
  | zero =>
    intro o0 o4 x5 y6 x8 h H locs ls wd hl hX
    cases hX
  | succ n ih =>
    intro o0 o4 x5 y6 x8 h H locs ls wd hl hX
    have hx := cx.1.1
    have hb := cx.1.2.1
    rw [f_X10_lay_b17] at hX
    refine lv_iload hx hb dX10_lay_17 (lv_at hl 4 rfl) ?_
    refine lv_if_lt (tgt := 124) hx hb dX10_lay_19 rfl (fun hc => (fun hX => ?_) ((mh_if hX).1 hc)) (fun hc => (fun hX => ?_) ((mh_if hX).2 hc))
    · exact w_X10_lay_b124 cx hr  h _ _ ls wd (lv_sub hl [] rfl) hX
    · refine lv_aload_n hx hb dX10_lay_22 rfl (lv_at hl 0 rfl) ?_
      refine mh_getR cx wd fl_X10_12 dX10_lay_23 hX (fun a10 hX => ?_)
      refine lv_iload hx hb dX10_lay_26 (lv_at hl 4 rfl) ?_
      refine mh_callVI cx wd [.int x8] (rfl : vwCl[1]? = some (RX1, TX1, 2)) yw_X1_value vw_X10_47 rfl hl.1 rfl (Nat.le_of_ble_eq_true rfl) dX10_lay_28 ⟨Nat.le_of_ble_eq_true rfl, Nat.le_of_ble_eq_true rfl⟩ ⟨Nat.le_refl _, Nat.le_refl _⟩ (fun _ _ q => c_X1_value q) hX (fun v12 h11 H locs wd hX => ?_)
      refine lv_istore (lv' := [(9, .int v12), (0, .ref o0), (4, .ref o4), (5, .int x5), (6, .long y6), (8, .int x8)]) hx hb dX10_lay_31 hl (Nat.le_of_ble_eq_true rfl) rfl (fun ls hl => ?_)
      refine lv_iload hx hb dX10_lay_33 (lv_at hl 0 rfl) ?_
      refine lv_if_le (tgt := 46) hx hb dX10_lay_35 rfl (fun hc => (fun hX => ?_) ((mh_if hX).1 hc)) (fun hc => (fun hX => ?_) ((mh_if hX).2 hc))
      · refine lv_iconst (v := 0) hx hb dX10_lay_46 (by decide) ?_
        exact w_X10_lay_b47 (f_X10_lay_b17 n) cx hr ih _ _ _ _ _ _ _ h11 _ _ ls wd (lv_sub hl [1, 2, 3, 4, 5, 0] rfl) hX
      · refine lv_iload hx hb dX10_lay_38 (lv_at hl 3 rfl) ?_
        refine lv_iload hx hb dX10_lay_40 (lv_at hl 0 rfl) ?_
        obtain ⟨hz, hX⟩ := mh_nzk hX
        refine lv_idiv hx hb dX10_lay_42 hz ?_
        refine lv_goto (tgt := 47) hx hb dX10_lay_43 rfl ?_
        exact w_X10_lay_b47 (f_X10_lay_b17 n) cx hr ih _ _ _ _ _ _ _ h11 _ _ ls wd (lv_sub hl [1, 2, 3, 4, 5, 0] rfl) hX
set_option maxRecDepth 100000 in
set_option maxHeartbeats 4000000 in
theorem w_X10_lay_e {p : Program} {l : Launch} {e : Env} {s : State} {m : MethodId} {args : Array Value} {below : List Frame} {meth : Method} {c : Code} {D : va_G} {ks : Nat → ClassId} {L : List Nat} {h' : mh_H} (cx : mh_C p m c cX10_lay 11 s args RX10 meth D ks (mh_A L s.heap.size)) (hr : meth.sig.returnType = none) :
    ∀ (o0 : Nat) (x1 : Int32) (y2 : Int64) (o4 : Nat) (h : mh_H) (H : Heap) (locs : List Loc) (ls : Array Slot), mh_W D ks L (mh_A L s.heap.size) s.heap h H locs → lv_has ls 11 [(0, .ref o0), (1, .int x1), (2, .long y2), (4, .ref o4)] → f_X10_lay_e o0 x1 y2 o4 h = some h' → W p l e (mh_rm 3) s m args below meth c H locs 0 0 (MQ below (mh_Qv D ks L s.heap.size h') args s 0 0 (mh_A L s.heap.size)) (F0 m 0 ls []) := by
  intro o0 x1 y2 o4 h H locs ls wd hl hX
  have hx := cx.1.1
  have hb := cx.1.2.1
  unfold f_X10_lay_e at hX
  refine lv_iload_n hx hb dX10_lay_0 rfl (lv_at hl 1 rfl) ?_
  refine lv_istore (lv' := [(5, .int x1), (0, .ref o0), (1, .int x1), (2, .long y2), (4, .ref o4)]) hx hb dX10_lay_1 hl (Nat.le_of_ble_eq_true rfl) rfl (fun ls hl => ?_)
  refine lv_lload_n hx hb dX10_lay_3 rfl (lv_at hl 3 rfl) ?_
  refine lv_lstore (lv' := [(6, .long y2), (5, .int x1), (0, .ref o0), (1, .int x1), (2, .long y2), (4, .ref o4)]) hx hb dX10_lay_4 hl (Nat.le_of_ble_eq_true rfl) rfl (fun ls hl => ?_)
  refine lv_aload_n hx hb dX10_lay_6 rfl (lv_at hl 2 rfl) ?_
  refine mh_getR cx wd fl_X10_12 dX10_lay_7 hX (fun a13 hX => ?_)
  refine mh_callVI cx wd [] (rfl : vwCl[1]? = some (RX1, TX1, 2)) yw_X1_count vw_X10_35 rfl hl.1 rfl (Nat.le_of_ble_eq_true rfl) dX10_lay_10 ⟨Nat.le_of_ble_eq_true rfl, Nat.le_of_ble_eq_true rfl⟩ ⟨Nat.le_refl _, Nat.le_refl _⟩ (fun _ _ q => c_X1_count q) hX (fun v15 h14 H locs wd hX => ?_)
  refine lv_iconst (v := 1) hx hb dX10_lay_13 (by decide) ?_
  refine lv_isub hx hb dX10_lay_14 ?_
  refine mh_topi hX (fun v16 hX => ?_)
  refine lv_istore (lv' := [(8, .int v16), (6, .long y2), (5, .int x1), (0, .ref o0), (1, .int x1), (2, .long y2), (4, .ref o4)]) hx hb dX10_lay_15 hl (Nat.le_of_ble_eq_true rfl) rfl (fun ls hl => ?_)
  exact w_X10_lay_b17 cx hr mh_fu _ _ _ _ _ h14 _ _ ls wd (lv_sub hl [3, 6, 2, 1, 0] rfl) hX
set_option maxRecDepth 100000 in
theorem c_X10_lay {l : Launch} {L : List Nat} {h h' : mh_H} {o0 : Nat} {x1 : Int32} {y2 : Int64} {o4 : Nat} (hX : f_X10_lay_e o0 x1 y2 o4 h = some h') : mh_MV l yX10_lay (Cond.code yX10_lay cX10_lay 11 none :: mh_TB) (mh_rm 3) [.ref o0, .int x1, .long y2, .ref o4] L h h' :=
  mh_of (mc := 0) (ms := 0) (Qc := fun D ks sz => mh_Qv D ks L sz h') (plainFor_of_name (by decide)) (Nat.le_of_ble_eq_true rfl) (fun p e s m below meth c D ks ls hr cx wd hl => by
    have hl : lv_has ls 11 [(0, .ref o0), (1, .int x1), (2, .long y2), (4, .ref o4)] := hl
    exact w_X10_lay_e cx hr o0 x1 y2 o4 h _ _ ls wd hl hX)
def f_X7_refit_e (o0 : Nat) (o1 : Nat) (h : mh_H) : Option mh_H :=
  (mh_gR h o0 7 0).bind fun a1 =>
  (mh_cal h a1 1 (f_X1_copy_e a1 o1 h)).bind fun h2 =>
  (mh_gR h2 o0 7 1).bind fun a3 =>
  (f_J7_fill_53178_e a3 (0 : Int32) h2).bind fun h4 =>
  some h4
set_option maxRecDepth 100000 in
set_option maxHeartbeats 4000000 in
theorem w_X7_refit_e {p : Program} {l : Launch} {e : Env} {s : State} {m : MethodId} {args : Array Value} {below : List Frame} {meth : Method} {c : Code} {D : va_G} {ks : Nat → ClassId} {L : List Nat} {h' : mh_H} (cx : mh_C p m c cX7_refit 2 s args RX7 meth D ks (mh_A L s.heap.size)) (hr : meth.sig.returnType = none) :
    ∀ (o0 : Nat) (o1 : Nat) (h : mh_H) (H : Heap) (locs : List Loc) (ls : Array Slot), mh_W D ks L (mh_A L s.heap.size) s.heap h H locs → lv_has ls 2 [(0, .ref o0), (1, .ref o1)] → f_X7_refit_e o0 o1 h = some h' → W p l e (mh_rm 2) s m args below meth c H locs 0 0 (MQ below (mh_Qv D ks L s.heap.size h') args s 0 0 (mh_A L s.heap.size)) (F0 m 0 ls []) := by
  intro o0 o1 h H locs ls wd hl hX
  have hx := cx.1.1
  have hb := cx.1.2.1
  unfold f_X7_refit_e at hX
  refine lv_aload_n hx hb dX7_refit_0 rfl (lv_at hl 0 rfl) ?_
  refine mh_getR cx wd fl_X7_12 dX7_refit_1 hX (fun a1 hX => ?_)
  refine lv_aload_n hx hb dX7_refit_4 rfl (lv_at hl 1 rfl) ?_
  refine mh_callVV cx wd [.ref o1] (rfl : vwCl[1]? = some (RX1, TX1, 2)) yw_X1_copy vw_X7_26 rfl hl.1 rfl (Nat.le_of_ble_eq_true rfl) dX7_refit_5 ⟨Nat.le_of_ble_eq_true rfl, Nat.le_of_ble_eq_true rfl⟩ ⟨Nat.le_refl _, Nat.le_refl _⟩ (fun _ q => c_X1_copy q) hX (fun h2 H locs wd hX => ?_)
  refine lv_aload_n hx hb dX7_refit_8 rfl (lv_at hl 0 rfl) ?_
  refine mh_getR cx wd fl_X7_18 dX7_refit_9 hX (fun a3 hX => ?_)
  refine lv_iconst (v := 0) hx hb dX7_refit_12 (by decide) ?_
  refine mh_callSV cx wd [.ref a3, .int (0 : Int32)] yw_J7_fill_53178 sw_X7_30 rfl hl.1 rfl (Nat.le_of_ble_eq_true rfl) dX7_refit_13 ⟨Nat.le_of_ble_eq_true rfl, Nat.le_of_ble_eq_true rfl⟩ ⟨Nat.le_refl _, Nat.le_refl _⟩ (fun _ q => c_J7_fill_53178 q) hX (fun h4 H locs wd hX => ?_)
  exact mh_vret cx wd hr hX dX7_refit_16
set_option maxRecDepth 100000 in
theorem c_X7_refit {l : Launch} {L : List Nat} {h h' : mh_H} {o0 : Nat} {o1 : Nat} (hX : f_X7_refit_e o0 o1 h = some h') : mh_MV l yX7_refit (Cond.code yX7_refit cX7_refit 2 none :: mh_TB) (mh_rm 2) [.ref o0, .ref o1] L h h' :=
  mh_of (mc := 0) (ms := 0) (Qc := fun D ks sz => mh_Qv D ks L sz h') (plainFor_of_name (by decide)) (Nat.le_of_ble_eq_true rfl) (fun p e s m below meth c D ks ls hr cx wd hl => by
    have hl : lv_has ls 2 [(0, .ref o0), (1, .ref o1)] := hl
    exact w_X7_refit_e cx hr o0 o1 h _ _ ls wd hl hX)
def f_X6_list_b85 (k29 : Nat → Nat → Int32 → Int32 → mh_H → Option mh_H) (o0 : Nat) (o1 : Nat) (x2 : Int32) (x4 : Int32) (h : mh_H) : Option mh_H :=
  mh_nm (x4 + Int32.ofInt (1)) fun v1 =>
  k29 o0 o1 x2 v1 h
def f_X6_list_b53 (k29 : Nat → Nat → Int32 → Int32 → mh_H → Option mh_H) : Nat → Nat → Nat → Int32 → Int32 → Int32 → mh_H → Option mh_H
  | 0, _, _, _, _, _, _ => none
  | n + 1, o0, o1, x2, x4, x5, h =>
    if (12 : Int32) ≤ x5 then (
    f_X6_list_b85 k29 o0 o1 x2 x4 h) else
    (mh_gR h o0 6 0).bind fun a2 =>
    (mh_aR h a2 5 x4).bind fun a3 =>
    (mh_gR h o0 6 3).bind fun a4 =>
    mh_b2 (mh_cal h a4 7 (f_X7_often_e a4 x5 h)) fun v6 h5 =>
    (mh_sI h5 a3 x5 v6).bind fun h7 =>
    mh_nm (x5 + Int32.ofInt (1)) fun v8 =>
    f_X6_list_b53 k29 n o0 o1 x2 x4 v8 h7
def f_X6_list_b91 (h : mh_H) : Option mh_H :=
  some h
def f_X6_list_b29 : Nat → Nat → Nat → Int32 → Int32 → mh_H → Option mh_H
  | 0, _, _, _, _, _ => none
  | n + 1, o0, o1, x2, x4, h =>
    (mh_gI h o0 6 4).bind fun v9 =>
    if v9 ≤ x4 then (
    f_X6_list_b91 h) else
    (mh_gR h o0 6 3).bind fun a10 =>
    (mh_cal h o1 10 (f_X10_lay_e o1 x2 ((x4).toInt64) a10 h)).bind fun h11 =>
    mh_nm (0 : Int32) fun v12 =>
    f_X6_list_b53 (f_X6_list_b29 n) mh_fu o0 o1 x2 x4 v12 h11
def f_X6_list_e (o0 : Nat) (o1 : Nat) (x2 : Int32) (x3 : Int32) (h : mh_H) : Option mh_H :=
  (mh_pI h o0 6 4 (if (0 : Int32) < (if (200 : Int32) < x3 then (200 : Int32) else x3) then (if (200 : Int32) < x3 then (200 : Int32) else x3) else (0 : Int32))).bind fun h13 =>
  (mh_gR h13 o0 6 3).bind fun a14 =>
  mh_b2 (mh_cal h13 o1 10 (f_X10_coins_e o1 h13)) fun a16 h15 =>
  (mh_cal h15 a14 7 (f_X7_refit_e a14 a16 h15)).bind fun h17 =>
  mh_nm (0 : Int32) fun v18 =>
  f_X6_list_b29 mh_fu o0 o1 x2 v18 h17
set_option maxRecDepth 100000 in
set_option maxHeartbeats 4000000 in
theorem w_X6_list_b85 {p : Program} {l : Launch} {e : Env} {s : State} {m : MethodId} {args : Array Value} {below : List Frame} {meth : Method} {c : Code} {D : va_G} {ks : Nat → ClassId} {L : List Nat} {h' : mh_H} (k29 : Nat → Nat → Int32 → Int32 → mh_H → Option mh_H) (cx : mh_C p m c cX6_list 6 s args RX6 meth D ks (mh_A L s.heap.size)) (hr : meth.sig.returnType = none)
    (hk29 : ∀ (o0 : Nat) (o1 : Nat) (x2 : Int32) (x4 : Int32) (h : mh_H) (H : Heap) (locs : List Loc) (ls : Array Slot), mh_W D ks L (mh_A L s.heap.size) s.heap h H locs → lv_has ls 6 [(0, .ref o0), (1, .ref o1), (2, .int x2), (4, .int x4)] → k29 o0 o1 x2 x4 h = some h' → W p l e (mh_rm 4) s m args below meth c H locs 0 0 (MQ below (mh_Qv D ks L s.heap.size h') args s 0 0 (mh_A L s.heap.size)) (F0 m 29 ls [])) :
    ∀ (o0 : Nat) (o1 : Nat) (x2 : Int32) (x4 : Int32) (h : mh_H) (H : Heap) (locs : List Loc) (ls : Array Slot), mh_W D ks L (mh_A L s.heap.size) s.heap h H locs → lv_has ls 6 [(0, .ref o0), (1, .ref o1), (2, .int x2), (4, .int x4)] → f_X6_list_b85 k29 o0 o1 x2 x4 h = some h' → W p l e (mh_rm 4) s m args below meth c H locs 0 0 (MQ below (mh_Qv D ks L s.heap.size h') args s 0 0 (mh_A L s.heap.size)) (F0 m 85 ls []) := by
  intro o0 o1 x2 x4 h H locs ls wd hl hX
  have hx := cx.1.1
  have hb := cx.1.2.1
  unfold f_X6_list_b85 at hX
  obtain ⟨v1, ev1, hX⟩ := mh_nmx hX
  refine lv_iinc (k := 3) (v := v1) (lv' := [(4, .int v1), (0, .ref o0), (1, .ref o1), (2, .int x2)]) hx hb dX6_list_85 hl rfl ev1 (Nat.le_of_ble_eq_true rfl) rfl (fun ls hl => ?_)
  refine lv_goto (tgt := 29) hx hb dX6_list_88 rfl ?_
  exact hk29 _ _ _ _ h _ _ ls wd (lv_sub hl [1, 2, 3, 0] rfl) hX
set_option maxRecDepth 100000 in
set_option maxHeartbeats 4000000 in
theorem w_X6_list_b53 {p : Program} {l : Launch} {e : Env} {s : State} {m : MethodId} {args : Array Value} {below : List Frame} {meth : Method} {c : Code} {D : va_G} {ks : Nat → ClassId} {L : List Nat} {h' : mh_H} (k29 : Nat → Nat → Int32 → Int32 → mh_H → Option mh_H) (cx : mh_C p m c cX6_list 6 s args RX6 meth D ks (mh_A L s.heap.size)) (hr : meth.sig.returnType = none)
    (hk29 : ∀ (o0 : Nat) (o1 : Nat) (x2 : Int32) (x4 : Int32) (h : mh_H) (H : Heap) (locs : List Loc) (ls : Array Slot), mh_W D ks L (mh_A L s.heap.size) s.heap h H locs → lv_has ls 6 [(0, .ref o0), (1, .ref o1), (2, .int x2), (4, .int x4)] → k29 o0 o1 x2 x4 h = some h' → W p l e (mh_rm 4) s m args below meth c H locs 0 0 (MQ below (mh_Qv D ks L s.heap.size h') args s 0 0 (mh_A L s.heap.size)) (F0 m 29 ls [])) :
    ∀ n : Nat, ∀ (o0 : Nat) (o1 : Nat) (x2 : Int32) (x4 : Int32) (x5 : Int32) (h : mh_H) (H : Heap) (locs : List Loc) (ls : Array Slot), mh_W D ks L (mh_A L s.heap.size) s.heap h H locs → lv_has ls 6 [(0, .ref o0), (1, .ref o1), (2, .int x2), (4, .int x4), (5, .int x5)] → f_X6_list_b53 k29 n o0 o1 x2 x4 x5 h = some h' → W p l e (mh_rm 4) s m args below meth c H locs 0 0 (MQ below (mh_Qv D ks L s.heap.size h') args s 0 0 (mh_A L s.heap.size)) (F0 m 53 ls []) := by
  intro n
  induction n with
  | zero =>
    intro o0 o1 x2 x4 x5 h H locs ls wd hl hX
    cases hX
  | succ n ih =>
    intro o0 o1 x2 x4 x5 h H locs ls wd hl hX
    have hx := cx.1.1
    have hb := cx.1.2.1
    rw [f_X6_list_b53] at hX
    refine lv_iload hx hb dX6_list_53 (lv_at hl 4 rfl) ?_
    refine lv_bipush (v := 12) hx hb dX6_list_55 (by decide) ?_
    refine lv_icmp_ge (tgt := 85) hx hb dX6_list_57 rfl (fun hc => (fun hX => ?_) ((mh_if hX).1 hc)) (fun hc => (fun hX => ?_) ((mh_if hX).2 hc))
    · exact w_X6_list_b85 k29 cx hr hk29 _ _ _ _ h _ _ ls wd (lv_sub hl [0, 1, 2, 3] rfl) hX
    · refine lv_aload_n hx hb dX6_list_60 rfl (lv_at hl 0 rfl) ?_
      refine mh_getR cx wd fl_X6_11 dX6_list_61 hX (fun a2 hX => ?_)
      refine lv_iload hx hb dX6_list_64 (lv_at hl 3 rfl) ?_
      refine mh_aald cx wd 5 rfl rfl dX6_list_66 hX (fun a3 hX => ?_)
      refine lv_iload hx hb dX6_list_67 (lv_at hl 4 rfl) ?_
      refine lv_aload_n hx hb dX6_list_69 rfl (lv_at hl 0 rfl) ?_
      refine mh_getR cx wd fl_X6_27 dX6_list_70 hX (fun a4 hX => ?_)
      refine lv_iload hx hb dX6_list_73 (lv_at hl 4 rfl) ?_
      refine mh_callVI cx wd [.int x5] (rfl : vwCl[7]? = some (RX7, TX7, 2)) yw_X7_often vw_X6_58 rfl hl.1 rfl (Nat.le_of_ble_eq_true rfl) dX6_list_75 ⟨Nat.le_of_ble_eq_true rfl, Nat.le_of_ble_eq_true rfl⟩ ⟨Nat.le_refl _, Nat.le_refl _⟩ (fun _ _ q => c_X7_often q) hX (fun v6 h5 H locs wd hX => ?_)
      refine mh_iast cx wd dX6_list_78 hX (fun h7 H locs wd hX => ?_)
      obtain ⟨v8, ev8, hX⟩ := mh_nmx hX
      refine lv_iinc (k := 4) (v := v8) (lv' := [(5, .int v8), (0, .ref o0), (1, .ref o1), (2, .int x2), (4, .int x4)]) hx hb dX6_list_79 hl rfl ev8 (Nat.le_of_ble_eq_true rfl) rfl (fun ls hl => ?_)
      refine lv_goto (tgt := 53) hx hb dX6_list_82 rfl ?_
      exact ih _ _ _ _ _ h7 _ _ ls wd (lv_sub hl [1, 2, 3, 4, 0] rfl) hX
set_option maxRecDepth 100000 in
set_option maxHeartbeats 4000000 in
theorem w_X6_list_b91 {p : Program} {l : Launch} {e : Env} {s : State} {m : MethodId} {args : Array Value} {below : List Frame} {meth : Method} {c : Code} {D : va_G} {ks : Nat → ClassId} {L : List Nat} {h' : mh_H} (cx : mh_C p m c cX6_list 6 s args RX6 meth D ks (mh_A L s.heap.size)) (hr : meth.sig.returnType = none) :
    ∀ (h : mh_H) (H : Heap) (locs : List Loc) (ls : Array Slot), mh_W D ks L (mh_A L s.heap.size) s.heap h H locs → lv_has ls 6 [] → f_X6_list_b91  h = some h' → W p l e (mh_rm 4) s m args below meth c H locs 0 0 (MQ below (mh_Qv D ks L s.heap.size h') args s 0 0 (mh_A L s.heap.size)) (F0 m 91 ls []) := by
  intro  h H locs ls wd hl hX
  have hx := cx.1.1
  have hb := cx.1.2.1
  unfold f_X6_list_b91 at hX
  exact mh_vret cx wd hr hX dX6_list_91
set_option maxRecDepth 100000 in
set_option maxHeartbeats 4000000 in
theorem w_X6_list_b29 {p : Program} {l : Launch} {e : Env} {s : State} {m : MethodId} {args : Array Value} {below : List Frame} {meth : Method} {c : Code} {D : va_G} {ks : Nat → ClassId} {L : List Nat} {h' : mh_H} (cx : mh_C p m c cX6_list 6 s args RX6 meth D ks (mh_A L s.heap.size)) (hr : meth.sig.returnType = none) :
    ∀ n : Nat, ∀ (o0 : Nat) (o1 : Nat) (x2 : Int32) (x4 : Int32) (h : mh_H) (H : Heap) (locs : List Loc) (ls : Array Slot), mh_W D ks L (mh_A L s.heap.size) s.heap h H locs → lv_has ls 6 [(0, .ref o0), (1, .ref o1), (2, .int x2), (4, .int x4)] → f_X6_list_b29 n o0 o1 x2 x4 h = some h' → W p l e (mh_rm 4) s m args below meth c H locs 0 0 (MQ below (mh_Qv D ks L s.heap.size h') args s 0 0 (mh_A L s.heap.size)) (F0 m 29 ls []) := by
  intro n
  induction n with
  | zero =>
    intro o0 o1 x2 x4 h H locs ls wd hl hX
    cases hX
  | succ n ih =>
    intro o0 o1 x2 x4 h H locs ls wd hl hX
    have hx := cx.1.1
    have hb := cx.1.2.1
    rw [f_X6_list_b29] at hX
    refine lv_iload hx hb dX6_list_29 (lv_at hl 3 rfl) ?_
    refine lv_aload_n hx hb dX6_list_31 rfl (lv_at hl 0 rfl) ?_
    refine mh_getI cx wd fl_X6_31 dX6_list_32 hX (fun v9 hX => ?_)
    refine lv_icmp_ge (tgt := 91) hx hb dX6_list_35 rfl (fun hc => (fun hX => ?_) ((mh_if hX).1 hc)) (fun hc => (fun hX => ?_) ((mh_if hX).2 hc))
    · exact w_X6_list_b91 cx hr  h _ _ ls wd (lv_sub hl [] rfl) hX
    · refine lv_aload_n hx hb dX6_list_38 rfl (lv_at hl 1 rfl) ?_
      refine lv_iload_n hx hb dX6_list_39 rfl (lv_at hl 2 rfl) ?_
      refine lv_iload hx hb dX6_list_40 (lv_at hl 3 rfl) ?_
      refine lv_i2l hx hb dX6_list_42 rfl ?_
      refine lv_aload_n hx hb dX6_list_43 rfl (lv_at hl 0 rfl) ?_
      refine mh_getR cx wd fl_X6_27 dX6_list_44 hX (fun a10 hX => ?_)
      refine mh_callVV cx wd [.int x2, .long ((x4).toInt64), .ref a10] (rfl : vwCl[10]? = some (RX10, TX10, 3)) yw_X10_lay vw_X6_54 rfl hl.1 rfl (Nat.le_of_ble_eq_true rfl) dX6_list_47 ⟨Nat.le_of_ble_eq_true rfl, Nat.le_of_ble_eq_true rfl⟩ ⟨Nat.le_refl _, Nat.le_refl _⟩ (fun _ q => c_X10_lay q) hX (fun h11 H locs wd hX => ?_)
      refine lv_iconst (v := 0) hx hb dX6_list_50 (by decide) ?_
      refine mh_topi hX (fun v12 hX => ?_)
      refine lv_istore (lv' := [(5, .int v12), (0, .ref o0), (1, .ref o1), (2, .int x2), (4, .int x4)]) hx hb dX6_list_51 hl (Nat.le_of_ble_eq_true rfl) rfl (fun ls hl => ?_)
      exact w_X6_list_b53 (f_X6_list_b29 n) cx hr ih mh_fu _ _ _ _ _ h11 _ _ ls wd (lv_sub hl [1, 2, 3, 4, 0] rfl) hX
set_option maxRecDepth 100000 in
set_option maxHeartbeats 4000000 in
theorem w_X6_list_e {p : Program} {l : Launch} {e : Env} {s : State} {m : MethodId} {args : Array Value} {below : List Frame} {meth : Method} {c : Code} {D : va_G} {ks : Nat → ClassId} {L : List Nat} {h' : mh_H} (cx : mh_C p m c cX6_list 6 s args RX6 meth D ks (mh_A L s.heap.size)) (hr : meth.sig.returnType = none) :
    ∀ (o0 : Nat) (o1 : Nat) (x2 : Int32) (x3 : Int32) (h : mh_H) (H : Heap) (locs : List Loc) (ls : Array Slot), mh_W D ks L (mh_A L s.heap.size) s.heap h H locs → lv_has ls 6 [(0, .ref o0), (1, .ref o1), (2, .int x2), (3, .int x3)] → f_X6_list_e o0 o1 x2 x3 h = some h' → W p l e (mh_rm 4) s m args below meth c H locs 0 0 (MQ below (mh_Qv D ks L s.heap.size h') args s 0 0 (mh_A L s.heap.size)) (F0 m 0 ls []) := by
  intro o0 o1 x2 x3 h H locs ls wd hl hX
  have hx := cx.1.1
  have hb := cx.1.2.1
  unfold f_X6_list_e at hX
  refine lv_aload_n hx hb dX6_list_0 rfl (lv_at hl 0 rfl) ?_
  refine lv_iconst (v := 0) hx hb dX6_list_1 (by decide) ?_
  refine lv_iload_n hx hb dX6_list_2 rfl (lv_at hl 3 rfl) ?_
  refine lv_sipush (v := 200) hx hb dX6_list_3 (by decide) ?_
  refine mh_mmin mh_Mok cx hl.1 km_X6_35 (Nat.le_of_ble_eq_true rfl) (Nat.le_of_ble_eq_true rfl) ⟨Nat.le_refl _, Nat.le_refl _⟩ dX6_list_6 ?_
  refine mh_mmax mh_Mok cx hl.1 km_X6_41 (Nat.le_of_ble_eq_true rfl) (Nat.le_of_ble_eq_true rfl) ⟨Nat.le_refl _, Nat.le_refl _⟩ dX6_list_9 ?_
  refine mh_putI cx wd fp_X6_31 dX6_list_12 hX (fun h13 H locs wd hX => ?_)
  refine lv_aload_n hx hb dX6_list_15 rfl (lv_at hl 0 rfl) ?_
  refine mh_getR cx wd fl_X6_27 dX6_list_16 hX (fun a14 hX => ?_)
  refine lv_aload_n hx hb dX6_list_19 rfl (lv_at hl 1 rfl) ?_
  refine mh_callVR cx wd [] (rfl : vwCl[10]? = some (RX10, TX10, 3)) yw_X10_coins vw_X6_44 rfl hl.1 rfl (Nat.le_of_ble_eq_true rfl) dX6_list_20 ⟨Nat.le_of_ble_eq_true rfl, Nat.le_of_ble_eq_true rfl⟩ ⟨Nat.le_refl _, Nat.le_refl _⟩ (fun _ _ q => c_X10_coins q) hX (fun a16 h15 H locs wd hX => ?_)
  refine mh_callVV cx wd [.ref a16] (rfl : vwCl[7]? = some (RX7, TX7, 2)) yw_X7_refit vw_X6_50 rfl hl.1 rfl (Nat.le_of_ble_eq_true rfl) dX6_list_23 ⟨Nat.le_of_ble_eq_true rfl, Nat.le_of_ble_eq_true rfl⟩ ⟨Nat.le_refl _, Nat.le_refl _⟩ (fun _ q => c_X7_refit q) hX (fun h17 H locs wd hX => ?_)
  refine lv_iconst (v := 0) hx hb dX6_list_26 (by decide) ?_
  refine mh_topi hX (fun v18 hX => ?_)
  refine lv_istore (lv' := [(4, .int v18), (0, .ref o0), (1, .ref o1), (2, .int x2), (3, .int x3)]) hx hb dX6_list_27 hl (Nat.le_of_ble_eq_true rfl) rfl (fun ls hl => ?_)
  exact w_X6_list_b29 cx hr mh_fu _ _ _ _ h17 _ _ ls wd (lv_sub hl [1, 2, 3, 0] rfl) hX
set_option maxRecDepth 100000 in
theorem c_X6_list {l : Launch} {L : List Nat} {h h' : mh_H} {o0 : Nat} {o1 : Nat} {x2 : Int32} {x3 : Int32} (hX : f_X6_list_e o0 o1 x2 x3 h = some h') : mh_MV l yX6_list (Cond.code yX6_list cX6_list 6 none :: mh_TB) (mh_rm 4) [.ref o0, .ref o1, .int x2, .int x3] L h h' :=
  mh_of (mc := 0) (ms := 0) (Qc := fun D ks sz => mh_Qv D ks L sz h') (plainFor_of_name (by decide)) (Nat.le_of_ble_eq_true rfl) (fun p e s m below meth c D ks ls hr cx wd hl => by
    have hl : lv_has ls 6 [(0, .ref o0), (1, .ref o1), (2, .int x2), (3, .int x3)] := hl
    exact w_X6_list_e cx hr o0 o1 x2 x3 h _ _ ls wd hl hX)
def f_X6_difference_b63 (x3 : Int32) (x4 : Int32) (h : mh_H) : Option (Int32 × mh_H) :=
  some ((if x3 < x4 then x4 else x3), h)
def f_X6_difference_b8 : Nat → Nat → Int32 → Int32 → Int32 → Int32 → Int32 → mh_H → Option (Int32 × mh_H)
  | 0, _, _, _, _, _, _, _ => none
  | n + 1, o0, x1, x2, x3, x4, x5, h =>
    if (12 : Int32) ≤ x5 then (
    f_X6_difference_b63 x3 x4 h) else
    (mh_gR h o0 6 0).bind fun a1 =>
    (mh_aR h a1 5 x1).bind fun a2 =>
    (mh_aI h a2 0 x5).bind fun v3 =>
    (mh_gR h o0 6 0).bind fun a4 =>
    (mh_aR h a4 5 x2).bind fun a5 =>
    (mh_aI h a5 0 x5).bind fun v6 =>
    mh_nm (v3 - v6) fun v7 =>
    mh_nm (x3 + (if (0 : Int32) < v7 then v7 else (0 : Int32))) fun v8 =>
    mh_nm (x4 + (if (0 : Int32) < (-v7) then (-v7) else (0 : Int32))) fun v9 =>
    mh_nm (x5 + Int32.ofInt (1)) fun v10 =>
    f_X6_difference_b8 n o0 x1 x2 v8 v9 v10 h
def f_X6_difference_e (o0 : Nat) (x1 : Int32) (x2 : Int32) (h : mh_H) : Option (Int32 × mh_H) :=
  mh_nm (0 : Int32) fun v11 =>
  mh_nm (0 : Int32) fun v12 =>
  mh_nm (0 : Int32) fun v13 =>
  f_X6_difference_b8 mh_fu o0 x1 x2 v11 v12 v13 h
set_option maxRecDepth 100000 in
set_option maxHeartbeats 4000000 in
theorem w_X6_difference_b63 {p : Program} {l : Launch} {e : Env} {s : State} {m : MethodId} {args : Array Value} {below : List Frame} {meth : Method} {c : Code} {D : va_G} {ks : Nat → ClassId} {L : List Nat} {r : Int32} {h' : mh_H} (cx : mh_C p m c cX6_difference 7 s args RX6 meth D ks (mh_A L s.heap.size)) (hr : meth.sig.returnType = (some .int)) :
    ∀ (x3 : Int32) (x4 : Int32) (h : mh_H) (H : Heap) (locs : List Loc) (ls : Array Slot), mh_W D ks L (mh_A L s.heap.size) s.heap h H locs → lv_has ls 7 [(3, .int x3), (4, .int x4)] → f_X6_difference_b63 x3 x4 h = some (r, h') → W p l e (mh_rm 1) s m args below meth c H locs 0 0 (MQ below (mh_Qi D ks L s.heap.size r h') args s 0 0 (mh_A L s.heap.size)) (F0 m 63 ls []) := by
  intro x3 x4 h H locs ls wd hl hX
  have hx := cx.1.1
  have hb := cx.1.2.1
  unfold f_X6_difference_b63 at hX
  refine lv_iload_n hx hb dX6_difference_63 rfl (lv_at hl 0 rfl) ?_
  refine lv_iload hx hb dX6_difference_64 (lv_at hl 1 rfl) ?_
  refine mh_mmax mh_Mok cx hl.1 km_X6_41 (Nat.le_of_ble_eq_true rfl) (Nat.le_of_ble_eq_true rfl) ⟨Nat.le_refl _, Nat.le_refl _⟩ dX6_difference_66 ?_
  exact mh_iret cx wd hr hX dX6_difference_69
set_option maxRecDepth 100000 in
set_option maxHeartbeats 4000000 in
theorem w_X6_difference_b8 {p : Program} {l : Launch} {e : Env} {s : State} {m : MethodId} {args : Array Value} {below : List Frame} {meth : Method} {c : Code} {D : va_G} {ks : Nat → ClassId} {L : List Nat} {r : Int32} {h' : mh_H} (cx : mh_C p m c cX6_difference 7 s args RX6 meth D ks (mh_A L s.heap.size)) (hr : meth.sig.returnType = (some .int)) :
    ∀ n : Nat, ∀ (o0 : Nat) (x1 : Int32) (x2 : Int32) (x3 : Int32) (x4 : Int32) (x5 : Int32) (h : mh_H) (H : Heap) (locs : List Loc) (ls : Array Slot), mh_W D ks L (mh_A L s.heap.size) s.heap h H locs → lv_has ls 7 [(0, .ref o0), (1, .int x1), (2, .int x2), (3, .int x3), (4, .int x4), (5, .int x5)] → f_X6_difference_b8 n o0 x1 x2 x3 x4 x5 h = some (r, h') → W p l e (mh_rm 1) s m args below meth c H locs 0 0 (MQ below (mh_Qi D ks L s.heap.size r h') args s 0 0 (mh_A L s.heap.size)) (F0 m 8 ls []) := by
  intro n
  induction n with
  | zero =>
    intro o0 x1 x2 x3 x4 x5 h H locs ls wd hl hX
    cases hX
  | succ n ih =>
    intro o0 x1 x2 x3 x4 x5 h H locs ls wd hl hX
    have hx := cx.1.1
    have hb := cx.1.2.1
    rw [f_X6_difference_b8] at hX
    refine lv_iload hx hb dX6_difference_8 (lv_at hl 5 rfl) ?_
    refine lv_bipush (v := 12) hx hb dX6_difference_10 (by decide) ?_
    refine lv_icmp_ge (tgt := 63) hx hb dX6_difference_12 rfl (fun hc => (fun hX => ?_) ((mh_if hX).1 hc)) (fun hc => (fun hX => ?_) ((mh_if hX).2 hc))
    · exact w_X6_difference_b63 cx hr _ _ h _ _ ls wd (lv_sub hl [3, 4] rfl) hX
    · refine lv_aload_n hx hb dX6_difference_15 rfl (lv_at hl 0 rfl) ?_
      refine mh_getR cx wd fl_X6_11 dX6_difference_16 hX (fun a1 hX => ?_)
      refine lv_iload_n hx hb dX6_difference_19 rfl (lv_at hl 1 rfl) ?_
      refine mh_aald cx wd 5 rfl rfl dX6_difference_20 hX (fun a2 hX => ?_)
      refine lv_iload hx hb dX6_difference_21 (lv_at hl 5 rfl) ?_
      refine mh_iald cx wd dX6_difference_23 hX (fun v3 hX => ?_)
      refine lv_aload_n hx hb dX6_difference_24 rfl (lv_at hl 0 rfl) ?_
      refine mh_getR cx wd fl_X6_11 dX6_difference_25 hX (fun a4 hX => ?_)
      refine lv_iload_n hx hb dX6_difference_28 rfl (lv_at hl 2 rfl) ?_
      refine mh_aald cx wd 5 rfl rfl dX6_difference_29 hX (fun a5 hX => ?_)
      refine lv_iload hx hb dX6_difference_30 (lv_at hl 5 rfl) ?_
      refine mh_iald cx wd dX6_difference_32 hX (fun v6 hX => ?_)
      refine lv_isub hx hb dX6_difference_33 ?_
      refine mh_topi hX (fun v7 hX => ?_)
      refine lv_istore (lv' := [(6, .int v7), (0, .ref o0), (1, .int x1), (2, .int x2), (3, .int x3), (4, .int x4), (5, .int x5)]) hx hb dX6_difference_34 hl (Nat.le_of_ble_eq_true rfl) rfl (fun ls hl => ?_)
      refine lv_iload_n hx hb dX6_difference_36 rfl (lv_at hl 4 rfl) ?_
      refine lv_iconst (v := 0) hx hb dX6_difference_37 (by decide) ?_
      refine lv_iload hx hb dX6_difference_38 (lv_at hl 0 rfl) ?_
      refine mh_mmax mh_Mok cx hl.1 km_X6_41 (Nat.le_of_ble_eq_true rfl) (Nat.le_of_ble_eq_true rfl) ⟨Nat.le_refl _, Nat.le_refl _⟩ dX6_difference_40 ?_
      refine lv_iadd hx hb dX6_difference_43 ?_
      refine mh_topi hX (fun v8 hX => ?_)
      refine lv_istore_n (lv' := [(3, .int v8), (6, .int v7), (0, .ref o0), (1, .int x1), (2, .int x2), (4, .int x4), (5, .int x5)]) hx hb dX6_difference_44 rfl hl (Nat.le_of_ble_eq_true rfl) rfl (fun ls hl => ?_)
      refine lv_iload hx hb dX6_difference_45 (lv_at hl 5 rfl) ?_
      refine lv_iconst (v := 0) hx hb dX6_difference_47 (by decide) ?_
      refine lv_iload hx hb dX6_difference_48 (lv_at hl 1 rfl) ?_
      refine lv_ineg hx hb dX6_difference_50 ?_
      refine mh_mmax mh_Mok cx hl.1 km_X6_41 (Nat.le_of_ble_eq_true rfl) (Nat.le_of_ble_eq_true rfl) ⟨Nat.le_refl _, Nat.le_refl _⟩ dX6_difference_51 ?_
      refine lv_iadd hx hb dX6_difference_54 ?_
      refine mh_topi hX (fun v9 hX => ?_)
      refine lv_istore (lv' := [(4, .int v9), (3, .int v8), (6, .int v7), (0, .ref o0), (1, .int x1), (2, .int x2), (5, .int x5)]) hx hb dX6_difference_55 hl (Nat.le_of_ble_eq_true rfl) rfl (fun ls hl => ?_)
      obtain ⟨v10, ev10, hX⟩ := mh_nmx hX
      refine lv_iinc (k := 6) (v := v10) (lv' := [(5, .int v10), (4, .int v9), (3, .int v8), (6, .int v7), (0, .ref o0), (1, .int x1), (2, .int x2)]) hx hb dX6_difference_57 hl rfl ev10 (Nat.le_of_ble_eq_true rfl) rfl (fun ls hl => ?_)
      refine lv_goto (tgt := 8) hx hb dX6_difference_60 rfl ?_
      exact ih _ _ _ _ _ _ h _ _ ls wd (lv_sub hl [4, 5, 6, 2, 1, 0] rfl) hX
set_option maxRecDepth 100000 in
set_option maxHeartbeats 4000000 in
theorem w_X6_difference_e {p : Program} {l : Launch} {e : Env} {s : State} {m : MethodId} {args : Array Value} {below : List Frame} {meth : Method} {c : Code} {D : va_G} {ks : Nat → ClassId} {L : List Nat} {r : Int32} {h' : mh_H} (cx : mh_C p m c cX6_difference 7 s args RX6 meth D ks (mh_A L s.heap.size)) (hr : meth.sig.returnType = (some .int)) :
    ∀ (o0 : Nat) (x1 : Int32) (x2 : Int32) (h : mh_H) (H : Heap) (locs : List Loc) (ls : Array Slot), mh_W D ks L (mh_A L s.heap.size) s.heap h H locs → lv_has ls 7 [(0, .ref o0), (1, .int x1), (2, .int x2)] → f_X6_difference_e o0 x1 x2 h = some (r, h') → W p l e (mh_rm 1) s m args below meth c H locs 0 0 (MQ below (mh_Qi D ks L s.heap.size r h') args s 0 0 (mh_A L s.heap.size)) (F0 m 0 ls []) := by
  intro o0 x1 x2 h H locs ls wd hl hX
  have hx := cx.1.1
  have hb := cx.1.2.1
  unfold f_X6_difference_e at hX
  refine lv_iconst (v := 0) hx hb dX6_difference_0 (by decide) ?_
  refine mh_topi hX (fun v11 hX => ?_)
  refine lv_istore_n (lv' := [(3, .int v11), (0, .ref o0), (1, .int x1), (2, .int x2)]) hx hb dX6_difference_1 rfl hl (Nat.le_of_ble_eq_true rfl) rfl (fun ls hl => ?_)
  refine lv_iconst (v := 0) hx hb dX6_difference_2 (by decide) ?_
  refine mh_topi hX (fun v12 hX => ?_)
  refine lv_istore (lv' := [(4, .int v12), (3, .int v11), (0, .ref o0), (1, .int x1), (2, .int x2)]) hx hb dX6_difference_3 hl (Nat.le_of_ble_eq_true rfl) rfl (fun ls hl => ?_)
  refine lv_iconst (v := 0) hx hb dX6_difference_5 (by decide) ?_
  refine mh_topi hX (fun v13 hX => ?_)
  refine lv_istore (lv' := [(5, .int v13), (4, .int v12), (3, .int v11), (0, .ref o0), (1, .int x1), (2, .int x2)]) hx hb dX6_difference_6 hl (Nat.le_of_ble_eq_true rfl) rfl (fun ls hl => ?_)
  exact w_X6_difference_b8 cx hr mh_fu _ _ _ _ _ _ h _ _ ls wd (lv_sub hl [3, 4, 5, 2, 1, 0] rfl) hX
set_option maxRecDepth 100000 in
theorem c_X6_difference {l : Launch} {L : List Nat} {h h' : mh_H} {r : Int32} {o0 : Nat} {x1 : Int32} {x2 : Int32} (hX : f_X6_difference_e o0 x1 x2 h = some (r, h')) : mh_MI l yX6_difference (Cond.code yX6_difference cX6_difference 7 (some .int) :: mh_TB) (mh_rm 1) [.ref o0, .int x1, .int x2] L h r h' :=
  mh_of (mc := 0) (ms := 0) (Qc := fun D ks sz => mh_Qi D ks L sz r h') (plainFor_of_name (by decide)) (Nat.le_of_ble_eq_true rfl) (fun p e s m below meth c D ks ls hr cx wd hl => by
    have hl : lv_has ls 7 [(0, .ref o0), (1, .int x1), (2, .int x2)] := hl
    exact w_X6_difference_e cx hr o0 x1 x2 h _ _ ls wd hl hX)
def f_X6_nearestLeft_b43 (k4 : Nat → Int32 → Int32 → mh_H → Option (Int32 × mh_H)) (o0 : Nat) (x1 : Int32) (x2 : Int32) (h : mh_H) : Option (Int32 × mh_H) :=
  mh_nm (x2 + Int32.ofInt (1)) fun v1 =>
  k4 o0 x1 v1 h
def f_X6_nearestLeft_b41 (k43 : Nat → Int32 → Int32 → mh_H → Option (Int32 × mh_H)) (o0 : Nat) (x2 : Int32) (h : mh_H) : Option (Int32 × mh_H) :=
  k43 o0 x2 x2 h
def f_X6_nearestLeft_b49 (x1 : Int32) (h : mh_H) : Option (Int32 × mh_H) :=
  some ((if (0 : Int32) < x1 then x1 else (0 : Int32)), h)
def f_X6_nearestLeft_b4 : Nat → Nat → Int32 → Int32 → mh_H → Option (Int32 × mh_H)
  | 0, _, _, _, _ => none
  | n + 1, o0, x1, x2, h =>
    (mh_gI h o0 6 4).bind fun v2 =>
    if v2 ≤ x2 then (
    f_X6_nearestLeft_b49 x1 h) else
    (mh_gR h o0 6 2).bind fun a3 =>
    (mh_aI h a3 2 x2).bind fun v4 =>
    if v4 = 0 then (
    if x1 = (-1 : Int32) then (
    f_X6_nearestLeft_b41 (f_X6_nearestLeft_b43 (f_X6_nearestLeft_b4 n)) o0 x2 h) else
    (mh_gR h o0 6 1).bind fun a5 =>
    (mh_aI h a5 0 x2).bind fun v6 =>
    (mh_gR h o0 6 1).bind fun a7 =>
    (mh_aI h a7 0 x1).bind fun v8 =>
    if v8 ≤ v6 then (
    f_X6_nearestLeft_b43 (f_X6_nearestLeft_b4 n) o0 x1 x2 h) else
    f_X6_nearestLeft_b41 (f_X6_nearestLeft_b43 (f_X6_nearestLeft_b4 n)) o0 x2 h) else
    f_X6_nearestLeft_b43 (f_X6_nearestLeft_b4 n) o0 x1 x2 h
def f_X6_nearestLeft_e (o0 : Nat) (h : mh_H) : Option (Int32 × mh_H) :=
  mh_nm (-1 : Int32) fun v9 =>
  mh_nm (0 : Int32) fun v10 =>
  f_X6_nearestLeft_b4 mh_fu o0 v9 v10 h
set_option maxRecDepth 100000 in
set_option maxHeartbeats 4000000 in
theorem w_X6_nearestLeft_b43 {p : Program} {l : Launch} {e : Env} {s : State} {m : MethodId} {args : Array Value} {below : List Frame} {meth : Method} {c : Code} {D : va_G} {ks : Nat → ClassId} {L : List Nat} {r : Int32} {h' : mh_H} (k4 : Nat → Int32 → Int32 → mh_H → Option (Int32 × mh_H)) (cx : mh_C p m c cX6_nearestLeft 3 s args RX6 meth D ks (mh_A L s.heap.size)) (hr : meth.sig.returnType = (some .int))
    (hk4 : ∀ (o0 : Nat) (x1 : Int32) (x2 : Int32) (h : mh_H) (H : Heap) (locs : List Loc) (ls : Array Slot), mh_W D ks L (mh_A L s.heap.size) s.heap h H locs → lv_has ls 3 [(0, .ref o0), (1, .int x1), (2, .int x2)] → k4 o0 x1 x2 h = some (r, h') → W p l e (mh_rm 1) s m args below meth c H locs 0 0 (MQ below (mh_Qi D ks L s.heap.size r h') args s 0 0 (mh_A L s.heap.size)) (F0 m 4 ls [])) :
    ∀ (o0 : Nat) (x1 : Int32) (x2 : Int32) (h : mh_H) (H : Heap) (locs : List Loc) (ls : Array Slot), mh_W D ks L (mh_A L s.heap.size) s.heap h H locs → lv_has ls 3 [(0, .ref o0), (1, .int x1), (2, .int x2)] → f_X6_nearestLeft_b43 k4 o0 x1 x2 h = some (r, h') → W p l e (mh_rm 1) s m args below meth c H locs 0 0 (MQ below (mh_Qi D ks L s.heap.size r h') args s 0 0 (mh_A L s.heap.size)) (F0 m 43 ls []) := by
  intro o0 x1 x2 h H locs ls wd hl hX
  have hx := cx.1.1
  have hb := cx.1.2.1
  unfold f_X6_nearestLeft_b43 at hX
  obtain ⟨v1, ev1, hX⟩ := mh_nmx hX
  refine lv_iinc (k := 2) (v := v1) (lv' := [(2, .int v1), (0, .ref o0), (1, .int x1)]) hx hb dX6_nearestLeft_43 hl rfl ev1 (Nat.le_of_ble_eq_true rfl) rfl (fun ls hl => ?_)
  refine lv_goto (tgt := 4) hx hb dX6_nearestLeft_46 rfl ?_
  exact hk4 _ _ _ h _ _ ls wd (lv_sub hl [1, 2, 0] rfl) hX
set_option maxRecDepth 100000 in
set_option maxHeartbeats 4000000 in
theorem w_X6_nearestLeft_b41 {p : Program} {l : Launch} {e : Env} {s : State} {m : MethodId} {args : Array Value} {below : List Frame} {meth : Method} {c : Code} {D : va_G} {ks : Nat → ClassId} {L : List Nat} {r : Int32} {h' : mh_H} (k43 : Nat → Int32 → Int32 → mh_H → Option (Int32 × mh_H)) (cx : mh_C p m c cX6_nearestLeft 3 s args RX6 meth D ks (mh_A L s.heap.size)) (hr : meth.sig.returnType = (some .int))
    (hk43 : ∀ (o0 : Nat) (x1 : Int32) (x2 : Int32) (h : mh_H) (H : Heap) (locs : List Loc) (ls : Array Slot), mh_W D ks L (mh_A L s.heap.size) s.heap h H locs → lv_has ls 3 [(0, .ref o0), (1, .int x1), (2, .int x2)] → k43 o0 x1 x2 h = some (r, h') → W p l e (mh_rm 1) s m args below meth c H locs 0 0 (MQ below (mh_Qi D ks L s.heap.size r h') args s 0 0 (mh_A L s.heap.size)) (F0 m 43 ls [])) :
    ∀ (o0 : Nat) (x2 : Int32) (h : mh_H) (H : Heap) (locs : List Loc) (ls : Array Slot), mh_W D ks L (mh_A L s.heap.size) s.heap h H locs → lv_has ls 3 [(0, .ref o0), (2, .int x2)] → f_X6_nearestLeft_b41 k43 o0 x2 h = some (r, h') → W p l e (mh_rm 1) s m args below meth c H locs 0 0 (MQ below (mh_Qi D ks L s.heap.size r h') args s 0 0 (mh_A L s.heap.size)) (F0 m 41 ls []) := by
  intro o0 x2 h H locs ls wd hl hX
  have hx := cx.1.1
  have hb := cx.1.2.1
  unfold f_X6_nearestLeft_b41 at hX
  refine lv_iload_n hx hb dX6_nearestLeft_41 rfl (lv_at hl 1 rfl) ?_
  refine lv_istore_n (lv' := [(1, .int x2), (0, .ref o0), (2, .int x2)]) hx hb dX6_nearestLeft_42 rfl hl (Nat.le_of_ble_eq_true rfl) rfl (fun ls hl => ?_)
  exact hk43 _ _ _ h _ _ ls wd (lv_sub hl [1, 0, 2] rfl) hX
set_option maxRecDepth 100000 in
set_option maxHeartbeats 4000000 in
theorem w_X6_nearestLeft_b49 {p : Program} {l : Launch} {e : Env} {s : State} {m : MethodId} {args : Array Value} {below : List Frame} {meth : Method} {c : Code} {D : va_G} {ks : Nat → ClassId} {L : List Nat} {r : Int32} {h' : mh_H} (cx : mh_C p m c cX6_nearestLeft 3 s args RX6 meth D ks (mh_A L s.heap.size)) (hr : meth.sig.returnType = (some .int)) :
    ∀ (x1 : Int32) (h : mh_H) (H : Heap) (locs : List Loc) (ls : Array Slot), mh_W D ks L (mh_A L s.heap.size) s.heap h H locs → lv_has ls 3 [(1, .int x1)] → f_X6_nearestLeft_b49 x1 h = some (r, h') → W p l e (mh_rm 1) s m args below meth c H locs 0 0 (MQ below (mh_Qi D ks L s.heap.size r h') args s 0 0 (mh_A L s.heap.size)) (F0 m 49 ls []) := by
  intro x1 h H locs ls wd hl hX
  have hx := cx.1.1
  have hb := cx.1.2.1
  unfold f_X6_nearestLeft_b49 at hX
  refine lv_iconst (v := 0) hx hb dX6_nearestLeft_49 (by decide) ?_
  refine lv_iload_n hx hb dX6_nearestLeft_50 rfl (lv_at hl 0 rfl) ?_
  refine mh_mmax mh_Mok cx hl.1 km_X6_41 (Nat.le_of_ble_eq_true rfl) (Nat.le_of_ble_eq_true rfl) ⟨Nat.le_refl _, Nat.le_refl _⟩ dX6_nearestLeft_51 ?_
  exact mh_iret cx wd hr hX dX6_nearestLeft_54
set_option maxRecDepth 100000 in
set_option maxHeartbeats 4000000 in
theorem w_X6_nearestLeft_b4 {p : Program} {l : Launch} {e : Env} {s : State} {m : MethodId} {args : Array Value} {below : List Frame} {meth : Method} {c : Code} {D : va_G} {ks : Nat → ClassId} {L : List Nat} {r : Int32} {h' : mh_H} (cx : mh_C p m c cX6_nearestLeft 3 s args RX6 meth D ks (mh_A L s.heap.size)) (hr : meth.sig.returnType = (some .int)) :
    ∀ n : Nat, ∀ (o0 : Nat) (x1 : Int32) (x2 : Int32) (h : mh_H) (H : Heap) (locs : List Loc) (ls : Array Slot), mh_W D ks L (mh_A L s.heap.size) s.heap h H locs → lv_has ls 3 [(0, .ref o0), (1, .int x1), (2, .int x2)] → f_X6_nearestLeft_b4 n o0 x1 x2 h = some (r, h') → W p l e (mh_rm 1) s m args below meth c H locs 0 0 (MQ below (mh_Qi D ks L s.heap.size r h') args s 0 0 (mh_A L s.heap.size)) (F0 m 4 ls []) := by
  intro n
  induction n with
  | zero =>
    intro o0 x1 x2 h H locs ls wd hl hX
    cases hX
  | succ n ih =>
    intro o0 x1 x2 h H locs ls wd hl hX
    have hx := cx.1.1
    have hb := cx.1.2.1
    rw [f_X6_nearestLeft_b4] at hX
    refine lv_iload_n hx hb dX6_nearestLeft_4 rfl (lv_at hl 2 rfl) ?_
    refine lv_aload_n hx hb dX6_nearestLeft_5 rfl (lv_at hl 0 rfl) ?_
    refine mh_getI cx wd fl_X6_31 dX6_nearestLeft_6 hX (fun v2 hX => ?_)
    refine lv_icmp_ge (tgt := 49) hx hb dX6_nearestLeft_9 rfl (fun hc => (fun hX => ?_) ((mh_if hX).1 hc)) (fun hc => (fun hX => ?_) ((mh_if hX).2 hc))
    · exact w_X6_nearestLeft_b49 cx hr _ h _ _ ls wd (lv_sub hl [1] rfl) hX
    · refine lv_aload_n hx hb dX6_nearestLeft_12 rfl (lv_at hl 0 rfl) ?_
      refine mh_getR cx wd fl_X6_20 dX6_nearestLeft_13 hX (fun a3 hX => ?_)
      refine lv_iload_n hx hb dX6_nearestLeft_16 rfl (lv_at hl 2 rfl) ?_
      refine mh_zald cx wd dX6_nearestLeft_17 hX (fun v4 hX => ?_)
      refine lv_if_ne (tgt := 43) hx hb dX6_nearestLeft_18 rfl (fun hc => (fun hX => ?_) ((mh_if hX).2 hc)) (fun hc => (fun hX => ?_) ((mh_if hX).1 hc))
      · exact w_X6_nearestLeft_b43 (f_X6_nearestLeft_b4 n) cx hr ih _ _ _ h _ _ ls wd (lv_sub hl [0, 1, 2] rfl) hX
      · refine lv_iload_n hx hb dX6_nearestLeft_21 rfl (lv_at hl 1 rfl) ?_
        refine lv_iconst (v := (-1)) hx hb dX6_nearestLeft_22 (by decide) ?_
        refine lv_icmp_eq (tgt := 41) hx hb dX6_nearestLeft_23 rfl (fun hc => (fun hX => ?_) ((mh_if hX).1 hc)) (fun hc => (fun hX => ?_) ((mh_if hX).2 hc))
        · exact w_X6_nearestLeft_b41 (f_X6_nearestLeft_b43 (f_X6_nearestLeft_b4 n)) cx hr (w_X6_nearestLeft_b43 (f_X6_nearestLeft_b4 n) cx hr ih) _ _ h _ _ ls wd (lv_sub hl [0, 2] rfl) hX
        · refine lv_aload_n hx hb dX6_nearestLeft_26 rfl (lv_at hl 0 rfl) ?_
          refine mh_getR cx wd fl_X6_16 dX6_nearestLeft_27 hX (fun a5 hX => ?_)
          refine lv_iload_n hx hb dX6_nearestLeft_30 rfl (lv_at hl 2 rfl) ?_
          refine mh_iald cx wd dX6_nearestLeft_31 hX (fun v6 hX => ?_)
          refine lv_aload_n hx hb dX6_nearestLeft_32 rfl (lv_at hl 0 rfl) ?_
          refine mh_getR cx wd fl_X6_16 dX6_nearestLeft_33 hX (fun a7 hX => ?_)
          refine lv_iload_n hx hb dX6_nearestLeft_36 rfl (lv_at hl 1 rfl) ?_
          refine mh_iald cx wd dX6_nearestLeft_37 hX (fun v8 hX => ?_)
          refine lv_icmp_ge (tgt := 43) hx hb dX6_nearestLeft_38 rfl (fun hc => (fun hX => ?_) ((mh_if hX).1 hc)) (fun hc => (fun hX => ?_) ((mh_if hX).2 hc))
          · exact w_X6_nearestLeft_b43 (f_X6_nearestLeft_b4 n) cx hr ih _ _ _ h _ _ ls wd (lv_sub hl [0, 1, 2] rfl) hX
          · exact w_X6_nearestLeft_b41 (f_X6_nearestLeft_b43 (f_X6_nearestLeft_b4 n)) cx hr (w_X6_nearestLeft_b43 (f_X6_nearestLeft_b4 n) cx hr ih) _ _ h _ _ ls wd (lv_sub hl [0, 2] rfl) hX
set_option maxRecDepth 100000 in
set_option maxHeartbeats 4000000 in
theorem w_X6_nearestLeft_e {p : Program} {l : Launch} {e : Env} {s : State} {m : MethodId} {args : Array Value} {below : List Frame} {meth : Method} {c : Code} {D : va_G} {ks : Nat → ClassId} {L : List Nat} {r : Int32} {h' : mh_H} (cx : mh_C p m c cX6_nearestLeft 3 s args RX6 meth D ks (mh_A L s.heap.size)) (hr : meth.sig.returnType = (some .int)) :
    ∀ (o0 : Nat) (h : mh_H) (H : Heap) (locs : List Loc) (ls : Array Slot), mh_W D ks L (mh_A L s.heap.size) s.heap h H locs → lv_has ls 3 [(0, .ref o0)] → f_X6_nearestLeft_e o0 h = some (r, h') → W p l e (mh_rm 1) s m args below meth c H locs 0 0 (MQ below (mh_Qi D ks L s.heap.size r h') args s 0 0 (mh_A L s.heap.size)) (F0 m 0 ls []) := by
  intro o0 h H locs ls wd hl hX
  have hx := cx.1.1
  have hb := cx.1.2.1
  unfold f_X6_nearestLeft_e at hX
  refine lv_iconst (v := (-1)) hx hb dX6_nearestLeft_0 (by decide) ?_
  refine mh_topi hX (fun v9 hX => ?_)
  refine lv_istore_n (lv' := [(1, .int v9), (0, .ref o0)]) hx hb dX6_nearestLeft_1 rfl hl (Nat.le_of_ble_eq_true rfl) rfl (fun ls hl => ?_)
  refine lv_iconst (v := 0) hx hb dX6_nearestLeft_2 (by decide) ?_
  refine mh_topi hX (fun v10 hX => ?_)
  refine lv_istore_n (lv' := [(2, .int v10), (1, .int v9), (0, .ref o0)]) hx hb dX6_nearestLeft_3 rfl hl (Nat.le_of_ble_eq_true rfl) rfl (fun ls hl => ?_)
  exact w_X6_nearestLeft_b4 cx hr mh_fu _ _ _ h _ _ ls wd (lv_sub hl [2, 1, 0] rfl) hX
set_option maxRecDepth 100000 in
theorem c_X6_nearestLeft {l : Launch} {L : List Nat} {h h' : mh_H} {r : Int32} {o0 : Nat} (hX : f_X6_nearestLeft_e o0 h = some (r, h')) : mh_MI l yX6_nearestLeft (Cond.code yX6_nearestLeft cX6_nearestLeft 3 (some .int) :: mh_TB) (mh_rm 1) [.ref o0] L h r h' :=
  mh_of (mc := 0) (ms := 0) (Qc := fun D ks sz => mh_Qi D ks L sz r h') (plainFor_of_name (by decide)) (Nat.le_of_ble_eq_true rfl) (fun p e s m below meth c D ks ls hr cx wd hl => by
    have hl : lv_has ls 3 [(0, .ref o0)] := hl
    exact w_X6_nearestLeft_e cx hr o0 h _ _ ls wd hl hX)
def f_X6_widestStep_b24 (k2 : Nat → Int32 → mh_H → Option (Int32 × mh_H)) (o0 : Nat) (x1 : Int32) (t0 : Nat) (t1 : Int32) (t2 : Int32) (h : mh_H) : Option (Int32 × mh_H) :=
  (mh_sZ h t0 t1 t2).bind fun h1 =>
  (mh_gR h1 o0 6 1).bind fun a2 =>
  mh_b2 (mh_cal h1 o0 6 (f_X6_difference_e o0 (0 : Int32) x1 h1)) fun v4 h3 =>
  (mh_sI h3 a2 x1 v4).bind fun h5 =>
  mh_nm (x1 + Int32.ofInt (1)) fun v6 =>
  k2 o0 v6 h5
def f_X6_widestStep_b120 (k47 : Nat → Int32 → Int32 → mh_H → Option (Int32 × mh_H)) (o0 : Nat) (x1 : Int32) (x2 : Int32) (h : mh_H) : Option (Int32 × mh_H) :=
  mh_nm (x2 + Int32.ofInt (1)) fun v7 =>
  k47 o0 x1 v7 h
def f_X6_widestStep_b81 (k47 : Nat → Int32 → Int32 → mh_H → Option (Int32 × mh_H)) : Nat → Nat → Int32 → Int32 → Int32 → Int32 → mh_H → Option (Int32 × mh_H)
  | 0, _, _, _, _, _, _ => none
  | n + 1, o0, x1, x2, x3, x4, h =>
    (mh_gI h o0 6 4).bind fun v8 =>
    if v8 ≤ x4 then (
    f_X6_widestStep_b120 k47 o0 x1 x2 h) else
    (mh_gR h o0 6 1).bind fun a9 =>
    (mh_gR h o0 6 1).bind fun a10 =>
    (mh_aI h a10 0 x4).bind fun v11 =>
    mh_b2 (mh_cal h o0 6 (f_X6_difference_e o0 x3 x4 h)) fun v13 h12 =>
    (mh_sI h12 a9 x4 (if v13 < v11 then v13 else v11)).bind fun h14 =>
    mh_nm (x4 + Int32.ofInt (1)) fun v15 =>
    f_X6_widestStep_b81 k47 n o0 x1 x2 x3 v15 h14
def f_X6_widestStep_b126 (x1 : Int32) (h : mh_H) : Option (Int32 × mh_H) :=
  some (x1, h)
def f_X6_widestStep_b47 : Nat → Nat → Int32 → Int32 → mh_H → Option (Int32 × mh_H)
  | 0, _, _, _, _ => none
  | n + 1, o0, x1, x2, h =>
    (mh_gI h o0 6 4).bind fun v16 =>
    if v16 ≤ x2 then (
    f_X6_widestStep_b126 x1 h) else
    mh_b2 (mh_cal h o0 6 (f_X6_nearestLeft_e o0 h)) fun v18 h17 =>
    (mh_gR h17 o0 6 1).bind fun a19 =>
    (mh_aI h17 a19 0 v18).bind fun v20 =>
    mh_nm (if x1 < v20 then v20 else x1) fun v21 =>
    (mh_gR h17 o0 6 2).bind fun a22 =>
    (mh_sZ h17 a22 v18 (1 : Int32)).bind fun h23 =>
    mh_nm (0 : Int32) fun v24 =>
    f_X6_widestStep_b81 (f_X6_widestStep_b47 n) mh_fu o0 v21 x2 v18 v24 h23
def f_X6_widestStep_b43 (o0 : Nat) (h : mh_H) : Option (Int32 × mh_H) :=
  mh_nm (0 : Int32) fun v25 =>
  mh_nm (1 : Int32) fun v26 =>
  f_X6_widestStep_b47 mh_fu o0 v25 v26 h
def f_X6_widestStep_b2 : Nat → Nat → Int32 → mh_H → Option (Int32 × mh_H)
  | 0, _, _, _ => none
  | n + 1, o0, x1, h =>
    (mh_gI h o0 6 4).bind fun v27 =>
    if v27 ≤ x1 then (
    f_X6_widestStep_b43 o0 h) else
    (mh_gR h o0 6 2).bind fun a28 =>
    if x1 = 0 then (
    f_X6_widestStep_b24 (f_X6_widestStep_b2 n) o0 x1 a28 x1 (1 : Int32) h) else
    f_X6_widestStep_b24 (f_X6_widestStep_b2 n) o0 x1 a28 x1 (0 : Int32) h
def f_X6_widestStep_e (o0 : Nat) (h : mh_H) : Option (Int32 × mh_H) :=
  mh_nm (0 : Int32) fun v29 =>
  f_X6_widestStep_b2 mh_fu o0 v29 h
set_option maxRecDepth 100000 in
set_option maxHeartbeats 4000000 in
theorem w_X6_widestStep_b24 {p : Program} {l : Launch} {e : Env} {s : State} {m : MethodId} {args : Array Value} {below : List Frame} {meth : Method} {c : Code} {D : va_G} {ks : Nat → ClassId} {L : List Nat} {r : Int32} {h' : mh_H} (k2 : Nat → Int32 → mh_H → Option (Int32 × mh_H)) (cx : mh_C p m c cX6_widestStep 5 s args RX6 meth D ks (mh_A L s.heap.size)) (hr : meth.sig.returnType = (some .int))
    (hk2 : ∀ (o0 : Nat) (x1 : Int32) (h : mh_H) (H : Heap) (locs : List Loc) (ls : Array Slot), mh_W D ks L (mh_A L s.heap.size) s.heap h H locs → lv_has ls 5 [(0, .ref o0), (1, .int x1)] → k2 o0 x1 h = some (r, h') → W p l e (mh_rm 2) s m args below meth c H locs 0 0 (MQ below (mh_Qi D ks L s.heap.size r h') args s 0 0 (mh_A L s.heap.size)) (F0 m 2 ls [])) :
    ∀ (o0 : Nat) (x1 : Int32) (t0 : Nat) (t1 : Int32) (t2 : Int32) (h : mh_H) (H : Heap) (locs : List Loc) (ls : Array Slot), mh_W D ks L (mh_A L s.heap.size) s.heap h H locs → lv_has ls 5 [(0, .ref o0), (1, .int x1)] → f_X6_widestStep_b24 k2 o0 x1 t0 t1 t2 h = some (r, h') → W p l e (mh_rm 2) s m args below meth c H locs 0 0 (MQ below (mh_Qi D ks L s.heap.size r h') args s 0 0 (mh_A L s.heap.size)) (F0 m 24 ls [.int t2, .int t1, .ref t0]) := by
  intro o0 x1 t0 t1 t2 h H locs ls wd hl hX
  have hx := cx.1.1
  have hb := cx.1.2.1
  unfold f_X6_widestStep_b24 at hX
  refine mh_zast cx wd dX6_widestStep_24 hX (fun h1 H locs wd hX => ?_)
  refine lv_aload_n hx hb dX6_widestStep_25 rfl (lv_at hl 0 rfl) ?_
  refine mh_getR cx wd fl_X6_16 dX6_widestStep_26 hX (fun a2 hX => ?_)
  refine lv_iload_n hx hb dX6_widestStep_29 rfl (lv_at hl 1 rfl) ?_
  refine lv_aload_n hx hb dX6_widestStep_30 rfl (lv_at hl 0 rfl) ?_
  refine lv_iconst (v := 0) hx hb dX6_widestStep_31 (by decide) ?_
  refine lv_iload_n hx hb dX6_widestStep_32 rfl (lv_at hl 1 rfl) ?_
  refine mh_callVI cx wd [.int (0 : Int32), .int x1] (rfl : vwCl[6]? = some (RX6, TX6, 5)) yw_X6_difference vw_X6_62 rfl hl.1 rfl (Nat.le_of_ble_eq_true rfl) dX6_widestStep_33 ⟨Nat.le_of_ble_eq_true rfl, Nat.le_of_ble_eq_true rfl⟩ ⟨Nat.le_refl _, Nat.le_refl _⟩ (fun _ _ q => c_X6_difference q) hX (fun v4 h3 H locs wd hX => ?_)
  refine mh_iast cx wd dX6_widestStep_36 hX (fun h5 H locs wd hX => ?_)
  obtain ⟨v6, ev6, hX⟩ := mh_nmx hX
  refine lv_iinc (k := 1) (v := v6) (lv' := [(1, .int v6), (0, .ref o0)]) hx hb dX6_widestStep_37 hl rfl ev6 (Nat.le_of_ble_eq_true rfl) rfl (fun ls hl => ?_)
  refine lv_goto (tgt := 2) hx hb dX6_widestStep_40 rfl ?_
  exact hk2 _ _ h5 _ _ ls wd (lv_sub hl [1, 0] rfl) hX
set_option maxRecDepth 100000 in
set_option maxHeartbeats 4000000 in
theorem w_X6_widestStep_b120 {p : Program} {l : Launch} {e : Env} {s : State} {m : MethodId} {args : Array Value} {below : List Frame} {meth : Method} {c : Code} {D : va_G} {ks : Nat → ClassId} {L : List Nat} {r : Int32} {h' : mh_H} (k47 : Nat → Int32 → Int32 → mh_H → Option (Int32 × mh_H)) (cx : mh_C p m c cX6_widestStep 5 s args RX6 meth D ks (mh_A L s.heap.size)) (hr : meth.sig.returnType = (some .int))
    (hk47 : ∀ (o0 : Nat) (x1 : Int32) (x2 : Int32) (h : mh_H) (H : Heap) (locs : List Loc) (ls : Array Slot), mh_W D ks L (mh_A L s.heap.size) s.heap h H locs → lv_has ls 5 [(0, .ref o0), (1, .int x1), (2, .int x2)] → k47 o0 x1 x2 h = some (r, h') → W p l e (mh_rm 2) s m args below meth c H locs 0 0 (MQ below (mh_Qi D ks L s.heap.size r h') args s 0 0 (mh_A L s.heap.size)) (F0 m 47 ls [])) :
    ∀ (o0 : Nat) (x1 : Int32) (x2 : Int32) (h : mh_H) (H : Heap) (locs : List Loc) (ls : Array Slot), mh_W D ks L (mh_A L s.heap.size) s.heap h H locs → lv_has ls 5 [(0, .ref o0), (1, .int x1), (2, .int x2)] → f_X6_widestStep_b120 k47 o0 x1 x2 h = some (r, h') → W p l e (mh_rm 2) s m args below meth c H locs 0 0 (MQ below (mh_Qi D ks L s.heap.size r h') args s 0 0 (mh_A L s.heap.size)) (F0 m 120 ls []) := by
  intro o0 x1 x2 h H locs ls wd hl hX
  have hx := cx.1.1
  have hb := cx.1.2.1
  unfold f_X6_widestStep_b120 at hX
  obtain ⟨v7, ev7, hX⟩ := mh_nmx hX
  refine lv_iinc (k := 2) (v := v7) (lv' := [(2, .int v7), (0, .ref o0), (1, .int x1)]) hx hb dX6_widestStep_120 hl rfl ev7 (Nat.le_of_ble_eq_true rfl) rfl (fun ls hl => ?_)
  refine lv_goto (tgt := 47) hx hb dX6_widestStep_123 rfl ?_
  exact hk47 _ _ _ h _ _ ls wd (lv_sub hl [1, 2, 0] rfl) hX
set_option maxRecDepth 100000 in
set_option maxHeartbeats 4000000 in
theorem w_X6_widestStep_b81 {p : Program} {l : Launch} {e : Env} {s : State} {m : MethodId} {args : Array Value} {below : List Frame} {meth : Method} {c : Code} {D : va_G} {ks : Nat → ClassId} {L : List Nat} {r : Int32} {h' : mh_H} (k47 : Nat → Int32 → Int32 → mh_H → Option (Int32 × mh_H)) (cx : mh_C p m c cX6_widestStep 5 s args RX6 meth D ks (mh_A L s.heap.size)) (hr : meth.sig.returnType = (some .int))
    (hk47 : ∀ (o0 : Nat) (x1 : Int32) (x2 : Int32) (h : mh_H) (H : Heap) (locs : List Loc) (ls : Array Slot), mh_W D ks L (mh_A L s.heap.size) s.heap h H locs → lv_has ls 5 [(0, .ref o0), (1, .int x1), (2, .int x2)] → k47 o0 x1 x2 h = some (r, h') → W p l e (mh_rm 2) s m args below meth c H locs 0 0 (MQ below (mh_Qi D ks L s.heap.size r h') args s 0 0 (mh_A L s.heap.size)) (F0 m 47 ls [])) :
    ∀ n : Nat, ∀ (o0 : Nat) (x1 : Int32) (x2 : Int32) (x3 : Int32) (x4 : Int32) (h : mh_H) (H : Heap) (locs : List Loc) (ls : Array Slot), mh_W D ks L (mh_A L s.heap.size) s.heap h H locs → lv_has ls 5 [(0, .ref o0), (1, .int x1), (2, .int x2), (3, .int x3), (4, .int x4)] → f_X6_widestStep_b81 k47 n o0 x1 x2 x3 x4 h = some (r, h') → W p l e (mh_rm 2) s m args below meth c H locs 0 0 (MQ below (mh_Qi D ks L s.heap.size r h') args s 0 0 (mh_A L s.heap.size)) (F0 m 81 ls []) := by
  intro n
  induction n with
  | zero =>
    intro o0 x1 x2 x3 x4 h H locs ls wd hl hX
    cases hX
  | succ n ih =>
    intro o0 x1 x2 x3 x4 h H locs ls wd hl hX
    have hx := cx.1.1
    have hb := cx.1.2.1
    rw [f_X6_widestStep_b81] at hX
    refine lv_iload hx hb dX6_widestStep_81 (lv_at hl 4 rfl) ?_
    refine lv_aload_n hx hb dX6_widestStep_83 rfl (lv_at hl 0 rfl) ?_
    refine mh_getI cx wd fl_X6_31 dX6_widestStep_84 hX (fun v8 hX => ?_)
    refine lv_icmp_ge (tgt := 120) hx hb dX6_widestStep_87 rfl (fun hc => (fun hX => ?_) ((mh_if hX).1 hc)) (fun hc => (fun hX => ?_) ((mh_if hX).2 hc))
    · exact w_X6_widestStep_b120 k47 cx hr hk47 _ _ _ h _ _ ls wd (lv_sub hl [0, 1, 2] rfl) hX
    · refine lv_aload_n hx hb dX6_widestStep_90 rfl (lv_at hl 0 rfl) ?_
      refine mh_getR cx wd fl_X6_16 dX6_widestStep_91 hX (fun a9 hX => ?_)
      refine lv_iload hx hb dX6_widestStep_94 (lv_at hl 4 rfl) ?_
      refine lv_aload_n hx hb dX6_widestStep_96 rfl (lv_at hl 0 rfl) ?_
      refine mh_getR cx wd fl_X6_16 dX6_widestStep_97 hX (fun a10 hX => ?_)
      refine lv_iload hx hb dX6_widestStep_100 (lv_at hl 4 rfl) ?_
      refine mh_iald cx wd dX6_widestStep_102 hX (fun v11 hX => ?_)
      refine lv_aload_n hx hb dX6_widestStep_103 rfl (lv_at hl 0 rfl) ?_
      refine lv_iload_n hx hb dX6_widestStep_104 rfl (lv_at hl 3 rfl) ?_
      refine lv_iload hx hb dX6_widestStep_105 (lv_at hl 4 rfl) ?_
      refine mh_callVI cx wd [.int x3, .int x4] (rfl : vwCl[6]? = some (RX6, TX6, 5)) yw_X6_difference vw_X6_62 rfl hl.1 rfl (Nat.le_of_ble_eq_true rfl) dX6_widestStep_107 ⟨Nat.le_of_ble_eq_true rfl, Nat.le_of_ble_eq_true rfl⟩ ⟨Nat.le_refl _, Nat.le_refl _⟩ (fun _ _ q => c_X6_difference q) hX (fun v13 h12 H locs wd hX => ?_)
      refine mh_mmin mh_Mok cx hl.1 km_X6_35 (Nat.le_of_ble_eq_true rfl) (Nat.le_of_ble_eq_true rfl) ⟨Nat.le_refl _, Nat.le_refl _⟩ dX6_widestStep_110 ?_
      refine mh_iast cx wd dX6_widestStep_113 hX (fun h14 H locs wd hX => ?_)
      obtain ⟨v15, ev15, hX⟩ := mh_nmx hX
      refine lv_iinc (k := 4) (v := v15) (lv' := [(4, .int v15), (0, .ref o0), (1, .int x1), (2, .int x2), (3, .int x3)]) hx hb dX6_widestStep_114 hl rfl ev15 (Nat.le_of_ble_eq_true rfl) rfl (fun ls hl => ?_)
      refine lv_goto (tgt := 81) hx hb dX6_widestStep_117 rfl ?_
      exact ih _ _ _ _ _ h14 _ _ ls wd (lv_sub hl [1, 2, 3, 4, 0] rfl) hX
set_option maxRecDepth 100000 in
set_option maxHeartbeats 4000000 in
theorem w_X6_widestStep_b126 {p : Program} {l : Launch} {e : Env} {s : State} {m : MethodId} {args : Array Value} {below : List Frame} {meth : Method} {c : Code} {D : va_G} {ks : Nat → ClassId} {L : List Nat} {r : Int32} {h' : mh_H} (cx : mh_C p m c cX6_widestStep 5 s args RX6 meth D ks (mh_A L s.heap.size)) (hr : meth.sig.returnType = (some .int)) :
    ∀ (x1 : Int32) (h : mh_H) (H : Heap) (locs : List Loc) (ls : Array Slot), mh_W D ks L (mh_A L s.heap.size) s.heap h H locs → lv_has ls 5 [(1, .int x1)] → f_X6_widestStep_b126 x1 h = some (r, h') → W p l e (mh_rm 2) s m args below meth c H locs 0 0 (MQ below (mh_Qi D ks L s.heap.size r h') args s 0 0 (mh_A L s.heap.size)) (F0 m 126 ls []) := by
  intro x1 h H locs ls wd hl hX
  have hx := cx.1.1
  have hb := cx.1.2.1
  unfold f_X6_widestStep_b126 at hX
  refine lv_iload_n hx hb dX6_widestStep_126 rfl (lv_at hl 0 rfl) ?_
  exact mh_iret cx wd hr hX dX6_widestStep_127
set_option maxRecDepth 100000 in
set_option maxHeartbeats 4000000 in
theorem w_X6_widestStep_b47 {p : Program} {l : Launch} {e : Env} {s : State} {m : MethodId} {args : Array Value} {below : List Frame} {meth : Method} {c : Code} {D : va_G} {ks : Nat → ClassId} {L : List Nat} {r : Int32} {h' : mh_H} (cx : mh_C p m c cX6_widestStep 5 s args RX6 meth D ks (mh_A L s.heap.size)) (hr : meth.sig.returnType = (some .int)) :
    ∀ n : Nat, ∀ (o0 : Nat) (x1 : Int32) (x2 : Int32) (h : mh_H) (H : Heap) (locs : List Loc) (ls : Array Slot), mh_W D ks L (mh_A L s.heap.size) s.heap h H locs → lv_has ls 5 [(0, .ref o0), (1, .int x1), (2, .int x2)] → f_X6_widestStep_b47 n o0 x1 x2 h = some (r, h') → W p l e (mh_rm 2) s m args below meth c H locs 0 0 (MQ below (mh_Qi D ks L s.heap.size r h') args s 0 0 (mh_A L s.heap.size)) (F0 m 47 ls []) := by
  intro n
  induction n with
  | zero =>
    intro o0 x1 x2 h H locs ls wd hl hX
    cases hX
  | succ n ih =>
    intro o0 x1 x2 h H locs ls wd hl hX
    have hx := cx.1.1
    have hb := cx.1.2.1
    rw [f_X6_widestStep_b47] at hX
    refine lv_iload_n hx hb dX6_widestStep_47 rfl (lv_at hl 2 rfl) ?_
    refine lv_aload_n hx hb dX6_widestStep_48 rfl (lv_at hl 0 rfl) ?_
    refine mh_getI cx wd fl_X6_31 dX6_widestStep_49 hX (fun v16 hX => ?_)
    refine lv_icmp_ge (tgt := 126) hx hb dX6_widestStep_52 rfl (fun hc => (fun hX => ?_) ((mh_if hX).1 hc)) (fun hc => (fun hX => ?_) ((mh_if hX).2 hc))
    · exact w_X6_widestStep_b126 cx hr _ h _ _ ls wd (lv_sub hl [1] rfl) hX
    · refine lv_aload_n hx hb dX6_widestStep_55 rfl (lv_at hl 0 rfl) ?_
      refine mh_callVI cx wd [] (rfl : vwCl[6]? = some (RX6, TX6, 5)) yw_X6_nearestLeft vw_X6_65 rfl hl.1 rfl (Nat.le_of_ble_eq_true rfl) dX6_widestStep_56 ⟨Nat.le_of_ble_eq_true rfl, Nat.le_of_ble_eq_true rfl⟩ ⟨Nat.le_refl _, Nat.le_refl _⟩ (fun _ _ q => c_X6_nearestLeft q) hX (fun v18 h17 H locs wd hX => ?_)
      refine lv_istore_n (lv' := [(3, .int v18), (0, .ref o0), (1, .int x1), (2, .int x2)]) hx hb dX6_widestStep_59 rfl hl (Nat.le_of_ble_eq_true rfl) rfl (fun ls hl => ?_)
      refine lv_iload_n hx hb dX6_widestStep_60 rfl (lv_at hl 2 rfl) ?_
      refine lv_aload_n hx hb dX6_widestStep_61 rfl (lv_at hl 1 rfl) ?_
      refine mh_getR cx wd fl_X6_16 dX6_widestStep_62 hX (fun a19 hX => ?_)
      refine lv_iload_n hx hb dX6_widestStep_65 rfl (lv_at hl 0 rfl) ?_
      refine mh_iald cx wd dX6_widestStep_66 hX (fun v20 hX => ?_)
      refine mh_mmax mh_Mok cx hl.1 km_X6_41 (Nat.le_of_ble_eq_true rfl) (Nat.le_of_ble_eq_true rfl) ⟨Nat.le_refl _, Nat.le_refl _⟩ dX6_widestStep_67 ?_
      refine mh_topi hX (fun v21 hX => ?_)
      refine lv_istore_n (lv' := [(1, .int v21), (3, .int v18), (0, .ref o0), (2, .int x2)]) hx hb dX6_widestStep_70 rfl hl (Nat.le_of_ble_eq_true rfl) rfl (fun ls hl => ?_)
      refine lv_aload_n hx hb dX6_widestStep_71 rfl (lv_at hl 2 rfl) ?_
      refine mh_getR cx wd fl_X6_20 dX6_widestStep_72 hX (fun a22 hX => ?_)
      refine lv_iload_n hx hb dX6_widestStep_75 rfl (lv_at hl 1 rfl) ?_
      refine lv_iconst (v := 1) hx hb dX6_widestStep_76 (by decide) ?_
      refine mh_zast cx wd dX6_widestStep_77 hX (fun h23 H locs wd hX => ?_)
      refine lv_iconst (v := 0) hx hb dX6_widestStep_78 (by decide) ?_
      refine mh_topi hX (fun v24 hX => ?_)
      refine lv_istore (lv' := [(4, .int v24), (1, .int v21), (3, .int v18), (0, .ref o0), (2, .int x2)]) hx hb dX6_widestStep_79 hl (Nat.le_of_ble_eq_true rfl) rfl (fun ls hl => ?_)
      exact w_X6_widestStep_b81 (f_X6_widestStep_b47 n) cx hr ih mh_fu _ _ _ _ _ h23 _ _ ls wd (lv_sub hl [3, 1, 4, 2, 0] rfl) hX
set_option maxRecDepth 100000 in
set_option maxHeartbeats 4000000 in
theorem w_X6_widestStep_b43 {p : Program} {l : Launch} {e : Env} {s : State} {m : MethodId} {args : Array Value} {below : List Frame} {meth : Method} {c : Code} {D : va_G} {ks : Nat → ClassId} {L : List Nat} {r : Int32} {h' : mh_H} (cx : mh_C p m c cX6_widestStep 5 s args RX6 meth D ks (mh_A L s.heap.size)) (hr : meth.sig.returnType = (some .int)) :
    ∀ (o0 : Nat) (h : mh_H) (H : Heap) (locs : List Loc) (ls : Array Slot), mh_W D ks L (mh_A L s.heap.size) s.heap h H locs → lv_has ls 5 [(0, .ref o0)] → f_X6_widestStep_b43 o0 h = some (r, h') → W p l e (mh_rm 2) s m args below meth c H locs 0 0 (MQ below (mh_Qi D ks L s.heap.size r h') args s 0 0 (mh_A L s.heap.size)) (F0 m 43 ls []) := by
  intro o0 h H locs ls wd hl hX
  have hx := cx.1.1
  have hb := cx.1.2.1
  unfold f_X6_widestStep_b43 at hX
  refine lv_iconst (v := 0) hx hb dX6_widestStep_43 (by decide) ?_
  refine mh_topi hX (fun v25 hX => ?_)
  refine lv_istore_n (lv' := [(1, .int v25), (0, .ref o0)]) hx hb dX6_widestStep_44 rfl hl (Nat.le_of_ble_eq_true rfl) rfl (fun ls hl => ?_)
  refine lv_iconst (v := 1) hx hb dX6_widestStep_45 (by decide) ?_
  refine mh_topi hX (fun v26 hX => ?_)
  refine lv_istore_n (lv' := [(2, .int v26), (1, .int v25), (0, .ref o0)]) hx hb dX6_widestStep_46 rfl hl (Nat.le_of_ble_eq_true rfl) rfl (fun ls hl => ?_)
  exact w_X6_widestStep_b47 cx hr mh_fu _ _ _ h _ _ ls wd (lv_sub hl [2, 1, 0] rfl) hX
set_option maxRecDepth 100000 in
set_option maxHeartbeats 4000000 in
theorem w_X6_widestStep_b2 {p : Program} {l : Launch} {e : Env} {s : State} {m : MethodId} {args : Array Value} {below : List Frame} {meth : Method} {c : Code} {D : va_G} {ks : Nat → ClassId} {L : List Nat} {r : Int32} {h' : mh_H} (cx : mh_C p m c cX6_widestStep 5 s args RX6 meth D ks (mh_A L s.heap.size)) (hr : meth.sig.returnType = (some .int)) :
    ∀ n : Nat, ∀ (o0 : Nat) (x1 : Int32) (h : mh_H) (H : Heap) (locs : List Loc) (ls : Array Slot), mh_W D ks L (mh_A L s.heap.size) s.heap h H locs → lv_has ls 5 [(0, .ref o0), (1, .int x1)] → f_X6_widestStep_b2 n o0 x1 h = some (r, h') → W p l e (mh_rm 2) s m args below meth c H locs 0 0 (MQ below (mh_Qi D ks L s.heap.size r h') args s 0 0 (mh_A L s.heap.size)) (F0 m 2 ls []) := by
  intro n
  induction n with
  | zero =>
    intro o0 x1 h H locs ls wd hl hX
    cases hX
  | succ n ih =>
    intro o0 x1 h H locs ls wd hl hX
    have hx := cx.1.1
    have hb := cx.1.2.1
    rw [f_X6_widestStep_b2] at hX
    refine lv_iload_n hx hb dX6_widestStep_2 rfl (lv_at hl 1 rfl) ?_
    refine lv_aload_n hx hb dX6_widestStep_3 rfl (lv_at hl 0 rfl) ?_
    refine mh_getI cx wd fl_X6_31 dX6_widestStep_4 hX (fun v27 hX => ?_)
    refine lv_icmp_ge (tgt := 43) hx hb dX6_widestStep_7 rfl (fun hc => (fun hX => ?_) ((mh_if hX).1 hc)) (fun hc => (fun hX => ?_) ((mh_if hX).2 hc))
    · exact w_X6_widestStep_b43 cx hr _ h _ _ ls wd (lv_sub hl [0] rfl) hX
    · refine lv_aload_n hx hb dX6_widestStep_10 rfl (lv_at hl 0 rfl) ?_
      refine mh_getR cx wd fl_X6_20 dX6_widestStep_11 hX (fun a28 hX => ?_)
      refine lv_iload_n hx hb dX6_widestStep_14 rfl (lv_at hl 1 rfl) ?_
      refine lv_iload_n hx hb dX6_widestStep_15 rfl (lv_at hl 1 rfl) ?_
      refine lv_if_ne (tgt := 23) hx hb dX6_widestStep_16 rfl (fun hc => (fun hX => ?_) ((mh_if hX).2 hc)) (fun hc => (fun hX => ?_) ((mh_if hX).1 hc))
      · refine lv_iconst (v := 0) hx hb dX6_widestStep_23 (by decide) ?_
        exact w_X6_widestStep_b24 (f_X6_widestStep_b2 n) cx hr ih _ _ _ _ _ h _ _ ls wd (lv_sub hl [0, 1] rfl) hX
      · refine lv_iconst (v := 1) hx hb dX6_widestStep_19 (by decide) ?_
        refine lv_goto (tgt := 24) hx hb dX6_widestStep_20 rfl ?_
        exact w_X6_widestStep_b24 (f_X6_widestStep_b2 n) cx hr ih _ _ _ _ _ h _ _ ls wd (lv_sub hl [0, 1] rfl) hX
set_option maxRecDepth 100000 in
set_option maxHeartbeats 4000000 in
theorem w_X6_widestStep_e {p : Program} {l : Launch} {e : Env} {s : State} {m : MethodId} {args : Array Value} {below : List Frame} {meth : Method} {c : Code} {D : va_G} {ks : Nat → ClassId} {L : List Nat} {r : Int32} {h' : mh_H} (cx : mh_C p m c cX6_widestStep 5 s args RX6 meth D ks (mh_A L s.heap.size)) (hr : meth.sig.returnType = (some .int)) :
    ∀ (o0 : Nat) (h : mh_H) (H : Heap) (locs : List Loc) (ls : Array Slot), mh_W D ks L (mh_A L s.heap.size) s.heap h H locs → lv_has ls 5 [(0, .ref o0)] → f_X6_widestStep_e o0 h = some (r, h') → W p l e (mh_rm 2) s m args below meth c H locs 0 0 (MQ below (mh_Qi D ks L s.heap.size r h') args s 0 0 (mh_A L s.heap.size)) (F0 m 0 ls []) := by
  intro o0 h H locs ls wd hl hX
  have hx := cx.1.1
  have hb := cx.1.2.1
  unfold f_X6_widestStep_e at hX
  refine lv_iconst (v := 0) hx hb dX6_widestStep_0 (by decide) ?_
  refine mh_topi hX (fun v29 hX => ?_)
  refine lv_istore_n (lv' := [(1, .int v29), (0, .ref o0)]) hx hb dX6_widestStep_1 rfl hl (Nat.le_of_ble_eq_true rfl) rfl (fun ls hl => ?_)
  exact w_X6_widestStep_b2 cx hr mh_fu _ _ h _ _ ls wd (lv_sub hl [1, 0] rfl) hX
set_option maxRecDepth 100000 in
theorem c_X6_widestStep {l : Launch} {L : List Nat} {h h' : mh_H} {r : Int32} {o0 : Nat} (hX : f_X6_widestStep_e o0 h = some (r, h')) : mh_MI l yX6_widestStep (Cond.code yX6_widestStep cX6_widestStep 5 (some .int) :: mh_TB) (mh_rm 2) [.ref o0] L h r h' :=
  mh_of (mc := 0) (ms := 0) (Qc := fun D ks sz => mh_Qi D ks L sz r h') (plainFor_of_name (by decide)) (Nat.le_of_ble_eq_true rfl) (fun p e s m below meth c D ks ls hr cx wd hl => by
    have hl : lv_has ls 5 [(0, .ref o0)] := hl
    exact w_X6_widestStep_e cx hr o0 h _ _ ls wd hl hX)
def f_X7_alike_b43 (h : mh_H) : Option (Int32 × mh_H) :=
  mh_rz (0 : Int32) h
def f_X7_alike_b51 (h : mh_H) : Option (Int32 × mh_H) :=
  mh_rz (1 : Int32) h
def f_X7_alike_b18 : Nat → Nat → Nat → Int32 → mh_H → Option (Int32 × mh_H)
  | 0, _, _, _, _ => none
  | n + 1, o0, o1, x2, h =>
    (mh_gR h o0 7 0).bind fun a1 =>
    mh_b2 (mh_cal h a1 1 (f_X1_count_e a1 h)) fun v3 h2 =>
    if v3 ≤ x2 then (
    f_X7_alike_b51 h2) else
    (mh_gR h2 o0 7 1).bind fun a4 =>
    (mh_aI h2 a4 0 x2).bind fun v5 =>
    mh_b2 (mh_cal h2 o1 7 (f_X7_often_e o1 x2 h2)) fun v7 h6 =>
    if v5 = v7 then (
    mh_nm (x2 + Int32.ofInt (1)) fun v8 =>
    f_X7_alike_b18 n o0 o1 v8 h6) else
    f_X7_alike_b43 h6
def f_X7_alike_e (o0 : Nat) (o1 : Nat) (h : mh_H) : Option (Int32 × mh_H) :=
  (mh_gR h o0 7 0).bind fun a9 =>
  mh_b2 (mh_cal h o1 7 (f_X7_coins_e o1 h)) fun a11 h10 =>
  mh_b2 (mh_cal h10 a9 1 (f_X1_alike_e a9 a11 h10)) fun v13 h12 =>
  if v13 = 0 then (
  mh_rz (0 : Int32) h12) else
  mh_nm (0 : Int32) fun v14 =>
  f_X7_alike_b18 mh_fu o0 o1 v14 h12
set_option maxRecDepth 100000 in
set_option maxHeartbeats 4000000 in
theorem w_X7_alike_b43 {p : Program} {l : Launch} {e : Env} {s : State} {m : MethodId} {args : Array Value} {below : List Frame} {meth : Method} {c : Code} {D : va_G} {ks : Nat → ClassId} {L : List Nat} {r : Int32} {h' : mh_H} (cx : mh_C p m c cX7_alike 3 s args RX7 meth D ks (mh_A L s.heap.size)) (hr : meth.sig.returnType = (some .boolean)) :
    ∀ (h : mh_H) (H : Heap) (locs : List Loc) (ls : Array Slot), mh_W D ks L (mh_A L s.heap.size) s.heap h H locs → lv_has ls 3 [] → f_X7_alike_b43  h = some (r, h') → W p l e (mh_rm 2) s m args below meth c H locs 0 0 (MQ below (mh_Qi D ks L s.heap.size r h') args s 0 0 (mh_A L s.heap.size)) (F0 m 43 ls []) := by
  intro  h H locs ls wd hl hX
  have hx := cx.1.1
  have hb := cx.1.2.1
  unfold f_X7_alike_b43 at hX
  refine lv_iconst (v := 0) hx hb dX7_alike_43 (by decide) ?_
  exact mh_zret cx wd hr hX dX7_alike_44
set_option maxRecDepth 100000 in
set_option maxHeartbeats 4000000 in
theorem w_X7_alike_b51 {p : Program} {l : Launch} {e : Env} {s : State} {m : MethodId} {args : Array Value} {below : List Frame} {meth : Method} {c : Code} {D : va_G} {ks : Nat → ClassId} {L : List Nat} {r : Int32} {h' : mh_H} (cx : mh_C p m c cX7_alike 3 s args RX7 meth D ks (mh_A L s.heap.size)) (hr : meth.sig.returnType = (some .boolean)) :
    ∀ (h : mh_H) (H : Heap) (locs : List Loc) (ls : Array Slot), mh_W D ks L (mh_A L s.heap.size) s.heap h H locs → lv_has ls 3 [] → f_X7_alike_b51  h = some (r, h') → W p l e (mh_rm 2) s m args below meth c H locs 0 0 (MQ below (mh_Qi D ks L s.heap.size r h') args s 0 0 (mh_A L s.heap.size)) (F0 m 51 ls []) := by
  intro  h H locs ls wd hl hX
  have hx := cx.1.1
  have hb := cx.1.2.1
  unfold f_X7_alike_b51 at hX
  refine lv_iconst (v := 1) hx hb dX7_alike_51 (by decide) ?_
  exact mh_zret cx wd hr hX dX7_alike_52
set_option maxRecDepth 100000 in
set_option maxHeartbeats 4000000 in
theorem w_X7_alike_b18 {p : Program} {l : Launch} {e : Env} {s : State} {m : MethodId} {args : Array Value} {below : List Frame} {meth : Method} {c : Code} {D : va_G} {ks : Nat → ClassId} {L : List Nat} {r : Int32} {h' : mh_H} (cx : mh_C p m c cX7_alike 3 s args RX7 meth D ks (mh_A L s.heap.size)) (hr : meth.sig.returnType = (some .boolean)) :
    ∀ n : Nat, ∀ (o0 : Nat) (o1 : Nat) (x2 : Int32) (h : mh_H) (H : Heap) (locs : List Loc) (ls : Array Slot), mh_W D ks L (mh_A L s.heap.size) s.heap h H locs → lv_has ls 3 [(0, .ref o0), (1, .ref o1), (2, .int x2)] → f_X7_alike_b18 n o0 o1 x2 h = some (r, h') → W p l e (mh_rm 2) s m args below meth c H locs 0 0 (MQ below (mh_Qi D ks L s.heap.size r h') args s 0 0 (mh_A L s.heap.size)) (F0 m 18 ls []) := by
  intro n
  induction n with
  | zero =>
    intro o0 o1 x2 h H locs ls wd hl hX
    cases hX
  | succ n ih =>
    intro o0 o1 x2 h H locs ls wd hl hX
    have hx := cx.1.1
    have hb := cx.1.2.1
    rw [f_X7_alike_b18] at hX
    refine lv_iload_n hx hb dX7_alike_18 rfl (lv_at hl 2 rfl) ?_
    refine lv_aload_n hx hb dX7_alike_19 rfl (lv_at hl 0 rfl) ?_
    refine mh_getR cx wd fl_X7_12 dX7_alike_20 hX (fun a1 hX => ?_)
    refine mh_callVI cx wd [] (rfl : vwCl[1]? = some (RX1, TX1, 2)) yw_X1_count vw_X7_22 rfl hl.1 rfl (Nat.le_of_ble_eq_true rfl) dX7_alike_23 ⟨Nat.le_of_ble_eq_true rfl, Nat.le_of_ble_eq_true rfl⟩ ⟨Nat.le_refl _, Nat.le_refl _⟩ (fun _ _ q => c_X1_count q) hX (fun v3 h2 H locs wd hX => ?_)
    refine lv_icmp_ge (tgt := 51) hx hb dX7_alike_26 rfl (fun hc => (fun hX => ?_) ((mh_if hX).1 hc)) (fun hc => (fun hX => ?_) ((mh_if hX).2 hc))
    · exact w_X7_alike_b51 cx hr  h2 _ _ ls wd (lv_sub hl [] rfl) hX
    · refine lv_aload_n hx hb dX7_alike_29 rfl (lv_at hl 0 rfl) ?_
      refine mh_getR cx wd fl_X7_18 dX7_alike_30 hX (fun a4 hX => ?_)
      refine lv_iload_n hx hb dX7_alike_33 rfl (lv_at hl 2 rfl) ?_
      refine mh_iald cx wd dX7_alike_34 hX (fun v5 hX => ?_)
      refine lv_aload_n hx hb dX7_alike_35 rfl (lv_at hl 1 rfl) ?_
      refine lv_iload_n hx hb dX7_alike_36 rfl (lv_at hl 2 rfl) ?_
      refine mh_callVI cx wd [.int x2] (rfl : vwCl[7]? = some (RX7, TX7, 2)) yw_X7_often vw_X7_39 rfl hl.1 rfl (Nat.le_of_ble_eq_true rfl) dX7_alike_37 ⟨Nat.le_of_ble_eq_true rfl, Nat.le_of_ble_eq_true rfl⟩ ⟨Nat.le_refl _, Nat.le_refl _⟩ (fun _ _ q => c_X7_often q) hX (fun v7 h6 H locs wd hX => ?_)
      refine lv_icmp_eq (tgt := 45) hx hb dX7_alike_40 rfl (fun hc => (fun hX => ?_) ((mh_if hX).1 hc)) (fun hc => (fun hX => ?_) ((mh_if hX).2 hc))
      · obtain ⟨v8, ev8, hX⟩ := mh_nmx hX
        refine lv_iinc (k := 2) (v := v8) (lv' := [(2, .int v8), (0, .ref o0), (1, .ref o1)]) hx hb dX7_alike_45 hl rfl ev8 (Nat.le_of_ble_eq_true rfl) rfl (fun ls hl => ?_)
        refine lv_goto (tgt := 18) hx hb dX7_alike_48 rfl ?_
        exact ih _ _ _ h6 _ _ ls wd (lv_sub hl [1, 2, 0] rfl) hX
      · exact w_X7_alike_b43 cx hr  h6 _ _ ls wd (lv_sub hl [] rfl) hX
set_option maxRecDepth 100000 in
set_option maxHeartbeats 4000000 in
theorem w_X7_alike_e {p : Program} {l : Launch} {e : Env} {s : State} {m : MethodId} {args : Array Value} {below : List Frame} {meth : Method} {c : Code} {D : va_G} {ks : Nat → ClassId} {L : List Nat} {r : Int32} {h' : mh_H} (cx : mh_C p m c cX7_alike 3 s args RX7 meth D ks (mh_A L s.heap.size)) (hr : meth.sig.returnType = (some .boolean)) :
    ∀ (o0 : Nat) (o1 : Nat) (h : mh_H) (H : Heap) (locs : List Loc) (ls : Array Slot), mh_W D ks L (mh_A L s.heap.size) s.heap h H locs → lv_has ls 3 [(0, .ref o0), (1, .ref o1)] → f_X7_alike_e o0 o1 h = some (r, h') → W p l e (mh_rm 2) s m args below meth c H locs 0 0 (MQ below (mh_Qi D ks L s.heap.size r h') args s 0 0 (mh_A L s.heap.size)) (F0 m 0 ls []) := by
  intro o0 o1 h H locs ls wd hl hX
  have hx := cx.1.1
  have hb := cx.1.2.1
  unfold f_X7_alike_e at hX
  refine lv_aload_n hx hb dX7_alike_0 rfl (lv_at hl 0 rfl) ?_
  refine mh_getR cx wd fl_X7_12 dX7_alike_1 hX (fun a9 hX => ?_)
  refine lv_aload_n hx hb dX7_alike_4 rfl (lv_at hl 1 rfl) ?_
  refine mh_callVR cx wd [] (rfl : vwCl[7]? = some (RX7, TX7, 2)) yw_X7_coins vw_X7_36 rfl hl.1 rfl (Nat.le_of_ble_eq_true rfl) dX7_alike_5 ⟨Nat.le_of_ble_eq_true rfl, Nat.le_of_ble_eq_true rfl⟩ ⟨Nat.le_refl _, Nat.le_refl _⟩ (fun _ _ q => c_X7_coins q) hX (fun a11 h10 H locs wd hX => ?_)
  refine mh_callVI cx wd [.ref a11] (rfl : vwCl[1]? = some (RX1, TX1, 2)) yw_X1_alike vw_X7_43 rfl hl.1 rfl (Nat.le_of_ble_eq_true rfl) dX7_alike_8 ⟨Nat.le_of_ble_eq_true rfl, Nat.le_of_ble_eq_true rfl⟩ ⟨Nat.le_refl _, Nat.le_refl _⟩ (fun _ _ q => c_X1_alike q) hX (fun v13 h12 H locs wd hX => ?_)
  refine lv_if_ne (tgt := 16) hx hb dX7_alike_11 rfl (fun hc => (fun hX => ?_) ((mh_if hX).2 hc)) (fun hc => (fun hX => ?_) ((mh_if hX).1 hc))
  · refine lv_iconst (v := 0) hx hb dX7_alike_16 (by decide) ?_
    refine mh_topi hX (fun v14 hX => ?_)
    refine lv_istore_n (lv' := [(2, .int v14), (0, .ref o0), (1, .ref o1)]) hx hb dX7_alike_17 rfl hl (Nat.le_of_ble_eq_true rfl) rfl (fun ls hl => ?_)
    exact w_X7_alike_b18 cx hr mh_fu _ _ _ h12 _ _ ls wd (lv_sub hl [1, 2, 0] rfl) hX
  · refine lv_iconst (v := 0) hx hb dX7_alike_14 (by decide) ?_
    exact mh_zret cx wd hr hX dX7_alike_15
set_option maxRecDepth 100000 in
theorem c_X7_alike {l : Launch} {L : List Nat} {h h' : mh_H} {r : Int32} {o0 : Nat} {o1 : Nat} (hX : f_X7_alike_e o0 o1 h = some (r, h')) : mh_MI l yX7_alike (Cond.code yX7_alike cX7_alike 3 (some .boolean) :: mh_TB) (mh_rm 2) [.ref o0, .ref o1] L h r h' :=
  mh_of (mc := 0) (ms := 0) (Qc := fun D ks sz => mh_Qi D ks L sz r h') (plainFor_of_name (by decide)) (Nat.le_of_ble_eq_true rfl) (fun p e s m below meth c D ks ls hr cx wd hl => by
    have hl : lv_has ls 3 [(0, .ref o0), (1, .ref o1)] := hl
    exact w_X7_alike_e cx hr o0 o1 h _ _ ls wd hl hX)
def f_X7_total_b39 (x1 : Int32) (h : mh_H) : Option (Int32 × mh_H) :=
  some (x1, h)
def f_X7_total_b4 : Nat → Nat → Int32 → Int32 → mh_H → Option (Int32 × mh_H)
  | 0, _, _, _, _ => none
  | n + 1, o0, x1, x2, h =>
    (mh_gR h o0 7 0).bind fun a1 =>
    mh_b2 (mh_cal h a1 1 (f_X1_count_e a1 h)) fun v3 h2 =>
    if v3 ≤ x2 then (
    f_X7_total_b39 x1 h2) else
    (mh_gR h2 o0 7 1).bind fun a4 =>
    (mh_aI h2 a4 0 x2).bind fun v5 =>
    (mh_gR h2 o0 7 0).bind fun a6 =>
    mh_b2 (mh_cal h2 a6 1 (f_X1_value_e a6 x2 h2)) fun v8 h7 =>
    mh_nm (x1 + (v5 * v8)) fun v9 =>
    mh_nm (x2 + Int32.ofInt (1)) fun v10 =>
    f_X7_total_b4 n o0 v9 v10 h7
def f_X7_total_e (o0 : Nat) (h : mh_H) : Option (Int32 × mh_H) :=
  mh_nm (0 : Int32) fun v11 =>
  mh_nm (0 : Int32) fun v12 =>
  f_X7_total_b4 mh_fu o0 v11 v12 h
set_option maxRecDepth 100000 in
set_option maxHeartbeats 4000000 in
theorem w_X7_total_b39 {p : Program} {l : Launch} {e : Env} {s : State} {m : MethodId} {args : Array Value} {below : List Frame} {meth : Method} {c : Code} {D : va_G} {ks : Nat → ClassId} {L : List Nat} {r : Int32} {h' : mh_H} (cx : mh_C p m c cX7_total 3 s args RX7 meth D ks (mh_A L s.heap.size)) (hr : meth.sig.returnType = (some .int)) :
    ∀ (x1 : Int32) (h : mh_H) (H : Heap) (locs : List Loc) (ls : Array Slot), mh_W D ks L (mh_A L s.heap.size) s.heap h H locs → lv_has ls 3 [(1, .int x1)] → f_X7_total_b39 x1 h = some (r, h') → W p l e (mh_rm 1) s m args below meth c H locs 0 0 (MQ below (mh_Qi D ks L s.heap.size r h') args s 0 0 (mh_A L s.heap.size)) (F0 m 39 ls []) := by
  intro x1 h H locs ls wd hl hX
  have hx := cx.1.1
  have hb := cx.1.2.1
  unfold f_X7_total_b39 at hX
  refine lv_iload_n hx hb dX7_total_39 rfl (lv_at hl 0 rfl) ?_
  exact mh_iret cx wd hr hX dX7_total_40
set_option maxRecDepth 100000 in
set_option maxHeartbeats 4000000 in
theorem w_X7_total_b4 {p : Program} {l : Launch} {e : Env} {s : State} {m : MethodId} {args : Array Value} {below : List Frame} {meth : Method} {c : Code} {D : va_G} {ks : Nat → ClassId} {L : List Nat} {r : Int32} {h' : mh_H} (cx : mh_C p m c cX7_total 3 s args RX7 meth D ks (mh_A L s.heap.size)) (hr : meth.sig.returnType = (some .int)) :
    ∀ n : Nat, ∀ (o0 : Nat) (x1 : Int32) (x2 : Int32) (h : mh_H) (H : Heap) (locs : List Loc) (ls : Array Slot), mh_W D ks L (mh_A L s.heap.size) s.heap h H locs → lv_has ls 3 [(0, .ref o0), (1, .int x1), (2, .int x2)] → f_X7_total_b4 n o0 x1 x2 h = some (r, h') → W p l e (mh_rm 1) s m args below meth c H locs 0 0 (MQ below (mh_Qi D ks L s.heap.size r h') args s 0 0 (mh_A L s.heap.size)) (F0 m 4 ls []) := by
  intro n
  induction n with
  | zero =>
    intro o0 x1 x2 h H locs ls wd hl hX
    cases hX
  | succ n ih =>
    intro o0 x1 x2 h H locs ls wd hl hX
    have hx := cx.1.1
    have hb := cx.1.2.1
    rw [f_X7_total_b4] at hX
    refine lv_iload_n hx hb dX7_total_4 rfl (lv_at hl 2 rfl) ?_
    refine lv_aload_n hx hb dX7_total_5 rfl (lv_at hl 0 rfl) ?_
    refine mh_getR cx wd fl_X7_12 dX7_total_6 hX (fun a1 hX => ?_)
    refine mh_callVI cx wd [] (rfl : vwCl[1]? = some (RX1, TX1, 2)) yw_X1_count vw_X7_22 rfl hl.1 rfl (Nat.le_of_ble_eq_true rfl) dX7_total_9 ⟨Nat.le_of_ble_eq_true rfl, Nat.le_of_ble_eq_true rfl⟩ ⟨Nat.le_refl _, Nat.le_refl _⟩ (fun _ _ q => c_X1_count q) hX (fun v3 h2 H locs wd hX => ?_)
    refine lv_icmp_ge (tgt := 39) hx hb dX7_total_12 rfl (fun hc => (fun hX => ?_) ((mh_if hX).1 hc)) (fun hc => (fun hX => ?_) ((mh_if hX).2 hc))
    · exact w_X7_total_b39 cx hr _ h2 _ _ ls wd (lv_sub hl [1] rfl) hX
    · refine lv_iload_n hx hb dX7_total_15 rfl (lv_at hl 1 rfl) ?_
      refine lv_aload_n hx hb dX7_total_16 rfl (lv_at hl 0 rfl) ?_
      refine mh_getR cx wd fl_X7_18 dX7_total_17 hX (fun a4 hX => ?_)
      refine lv_iload_n hx hb dX7_total_20 rfl (lv_at hl 2 rfl) ?_
      refine mh_iald cx wd dX7_total_21 hX (fun v5 hX => ?_)
      refine lv_aload_n hx hb dX7_total_22 rfl (lv_at hl 0 rfl) ?_
      refine mh_getR cx wd fl_X7_12 dX7_total_23 hX (fun a6 hX => ?_)
      refine lv_iload_n hx hb dX7_total_26 rfl (lv_at hl 2 rfl) ?_
      refine mh_callVI cx wd [.int x2] (rfl : vwCl[1]? = some (RX1, TX1, 2)) yw_X1_value vw_X7_47 rfl hl.1 rfl (Nat.le_of_ble_eq_true rfl) dX7_total_27 ⟨Nat.le_of_ble_eq_true rfl, Nat.le_of_ble_eq_true rfl⟩ ⟨Nat.le_refl _, Nat.le_refl _⟩ (fun _ _ q => c_X1_value q) hX (fun v8 h7 H locs wd hX => ?_)
      refine lv_imul hx hb dX7_total_30 ?_
      refine lv_iadd hx hb dX7_total_31 ?_
      refine mh_topi hX (fun v9 hX => ?_)
      refine lv_istore_n (lv' := [(1, .int v9), (0, .ref o0), (2, .int x2)]) hx hb dX7_total_32 rfl hl (Nat.le_of_ble_eq_true rfl) rfl (fun ls hl => ?_)
      obtain ⟨v10, ev10, hX⟩ := mh_nmx hX
      refine lv_iinc (k := 2) (v := v10) (lv' := [(2, .int v10), (1, .int v9), (0, .ref o0)]) hx hb dX7_total_33 hl rfl ev10 (Nat.le_of_ble_eq_true rfl) rfl (fun ls hl => ?_)
      refine lv_goto (tgt := 4) hx hb dX7_total_36 rfl ?_
      exact ih _ _ _ h7 _ _ ls wd (lv_sub hl [2, 1, 0] rfl) hX
set_option maxRecDepth 100000 in
set_option maxHeartbeats 4000000 in
theorem w_X7_total_e {p : Program} {l : Launch} {e : Env} {s : State} {m : MethodId} {args : Array Value} {below : List Frame} {meth : Method} {c : Code} {D : va_G} {ks : Nat → ClassId} {L : List Nat} {r : Int32} {h' : mh_H} (cx : mh_C p m c cX7_total 3 s args RX7 meth D ks (mh_A L s.heap.size)) (hr : meth.sig.returnType = (some .int)) :
    ∀ (o0 : Nat) (h : mh_H) (H : Heap) (locs : List Loc) (ls : Array Slot), mh_W D ks L (mh_A L s.heap.size) s.heap h H locs → lv_has ls 3 [(0, .ref o0)] → f_X7_total_e o0 h = some (r, h') → W p l e (mh_rm 1) s m args below meth c H locs 0 0 (MQ below (mh_Qi D ks L s.heap.size r h') args s 0 0 (mh_A L s.heap.size)) (F0 m 0 ls []) := by
  intro o0 h H locs ls wd hl hX
  have hx := cx.1.1
  have hb := cx.1.2.1
  unfold f_X7_total_e at hX
  refine lv_iconst (v := 0) hx hb dX7_total_0 (by decide) ?_
  refine mh_topi hX (fun v11 hX => ?_)
  refine lv_istore_n (lv' := [(1, .int v11), (0, .ref o0)]) hx hb dX7_total_1 rfl hl (Nat.le_of_ble_eq_true rfl) rfl (fun ls hl => ?_)
  refine lv_iconst (v := 0) hx hb dX7_total_2 (by decide) ?_
  refine mh_topi hX (fun v12 hX => ?_)
  refine lv_istore_n (lv' := [(2, .int v12), (1, .int v11), (0, .ref o0)]) hx hb dX7_total_3 rfl hl (Nat.le_of_ble_eq_true rfl) rfl (fun ls hl => ?_)
  exact w_X7_total_b4 cx hr mh_fu _ _ _ h _ _ ls wd (lv_sub hl [2, 1, 0] rfl) hX
set_option maxRecDepth 100000 in
theorem c_X7_total {l : Launch} {L : List Nat} {h h' : mh_H} {r : Int32} {o0 : Nat} (hX : f_X7_total_e o0 h = some (r, h')) : mh_MI l yX7_total (Cond.code yX7_total cX7_total 3 (some .int) :: mh_TB) (mh_rm 1) [.ref o0] L h r h' :=
  mh_of (mc := 0) (ms := 0) (Qc := fun D ks sz => mh_Qi D ks L sz r h') (plainFor_of_name (by decide)) (Nat.le_of_ble_eq_true rfl) (fun p e s m below meth c D ks ls hr cx wd hl => by
    have hl : lv_has ls 3 [(0, .ref o0)] := hl
    exact w_X7_total_e cx hr o0 h _ _ ls wd hl hX)
def f_X7_alter_b105 (t0 : Int32) (h : mh_H) : Option (Int32 × mh_H) :=
  mh_rz t0 h
def f_X7_alter_b79 (o0 : Nat) (x2 : Int32) (x3 : Int32) (h : mh_H) : Option (Int32 × mh_H) :=
  (mh_gR h o0 7 1).bind fun a1 =>
  (mh_aI h a1 0 x3).bind fun v2 =>
  (mh_sI h a1 x3 (v2 + x2)).bind fun h3 =>
  (mh_gR h3 o0 7 1).bind fun a4 =>
  (mh_aI h3 a4 0 x3).bind fun v5 =>
  if (20 : Int32) < v5 then (
  f_X7_alter_b105 (0 : Int32) h3) else
  f_X7_alter_b105 (1 : Int32) h3
def f_X7_alter_b72 (k79 : Nat → Int32 → Int32 → mh_H → Option (Int32 × mh_H)) (o0 : Nat) (x2 : Int32) (x3 : Int32) (h : mh_H) : Option (Int32 × mh_H) :=
  (mh_gR h o0 7 1).bind fun a6 =>
  (mh_sI h a6 x3 (0 : Int32)).bind fun h7 =>
  k79 o0 x2 x3 h7
def f_X7_alter_b44 (k79 : Nat → Int32 → Int32 → mh_H → Option (Int32 × mh_H)) : Nat → Nat → Int32 → Int32 → Int32 → mh_H → Option (Int32 × mh_H)
  | 0, _, _, _, _, _ => none
  | n + 1, o0, x2, x3, x4, h =>
    if x4 ≤ x3 then (
    f_X7_alter_b72 k79 o0 x2 x3 h) else
    (mh_gR h o0 7 1).bind fun a8 =>
    (mh_gR h o0 7 1).bind fun a9 =>
    (mh_aI h a9 0 (x4 - (1 : Int32))).bind fun v10 =>
    (mh_sI h a8 x4 v10).bind fun h11 =>
    mh_nm (x4 + Int32.ofInt (-1)) fun v12 =>
    f_X7_alter_b44 k79 n o0 x2 x3 v12 h11
def f_X7_alter_e (o0 : Nat) (x1 : Int32) (x2 : Int32) (h : mh_H) : Option (Int32 × mh_H) :=
  (mh_gR h o0 7 0).bind fun a13 =>
  mh_b2 (mh_cal h a13 1 (f_X1_placeFor_e a13 x1 h)) fun v15 h14 =>
  (mh_gR h14 o0 7 0).bind fun a16 =>
  mh_b2 (mh_cal h14 a16 1 (f_X1_holds_e a16 x1 h14)) fun v18 h17 =>
  if v18 = 0 then (
  (mh_gR h17 o0 7 0).bind fun a19 =>
  mh_b2 (mh_cal h17 a19 1 (f_X1_insert_e a19 x1 h17)) fun v21 h20 =>
  if v21 = 0 then (
  mh_rz (0 : Int32) h20) else
  (mh_gR h20 o0 7 0).bind fun a22 =>
  mh_b2 (mh_cal h20 a22 1 (f_X1_count_e a22 h20)) fun v24 h23 =>
  mh_nm (v24 - (1 : Int32)) fun v25 =>
  f_X7_alter_b44 (f_X7_alter_b79) mh_fu o0 x2 v15 v25 h23) else
  f_X7_alter_b79 o0 x2 v15 h17
set_option maxRecDepth 100000 in
set_option maxHeartbeats 4000000 in
theorem w_X7_alter_b105 {p : Program} {l : Launch} {e : Env} {s : State} {m : MethodId} {args : Array Value} {below : List Frame} {meth : Method} {c : Code} {D : va_G} {ks : Nat → ClassId} {L : List Nat} {r : Int32} {h' : mh_H} (cx : mh_C p m c cX7_alter 5 s args RX7 meth D ks (mh_A L s.heap.size)) (hr : meth.sig.returnType = (some .boolean)) :
    ∀ (t0 : Int32) (h : mh_H) (H : Heap) (locs : List Loc) (ls : Array Slot), mh_W D ks L (mh_A L s.heap.size) s.heap h H locs → lv_has ls 5 [] → f_X7_alter_b105 t0 h = some (r, h') → W p l e (mh_rm 3) s m args below meth c H locs 0 0 (MQ below (mh_Qi D ks L s.heap.size r h') args s 0 0 (mh_A L s.heap.size)) (F0 m 105 ls [.int t0]) := by
  intro t0 h H locs ls wd hl hX
  have hx := cx.1.1
  have hb := cx.1.2.1
  unfold f_X7_alter_b105 at hX
  exact mh_zret cx wd hr hX dX7_alter_105
set_option maxRecDepth 100000 in
set_option maxHeartbeats 4000000 in
theorem w_X7_alter_b79 {p : Program} {l : Launch} {e : Env} {s : State} {m : MethodId} {args : Array Value} {below : List Frame} {meth : Method} {c : Code} {D : va_G} {ks : Nat → ClassId} {L : List Nat} {r : Int32} {h' : mh_H} (cx : mh_C p m c cX7_alter 5 s args RX7 meth D ks (mh_A L s.heap.size)) (hr : meth.sig.returnType = (some .boolean)) :
    ∀ (o0 : Nat) (x2 : Int32) (x3 : Int32) (h : mh_H) (H : Heap) (locs : List Loc) (ls : Array Slot), mh_W D ks L (mh_A L s.heap.size) s.heap h H locs → lv_has ls 5 [(0, .ref o0), (2, .int x2), (3, .int x3)] → f_X7_alter_b79 o0 x2 x3 h = some (r, h') → W p l e (mh_rm 3) s m args below meth c H locs 0 0 (MQ below (mh_Qi D ks L s.heap.size r h') args s 0 0 (mh_A L s.heap.size)) (F0 m 79 ls []) := by
  intro o0 x2 x3 h H locs ls wd hl hX
  have hx := cx.1.1
  have hb := cx.1.2.1
  unfold f_X7_alter_b79 at hX
  refine lv_aload_n hx hb dX7_alter_79 rfl (lv_at hl 0 rfl) ?_
  refine mh_getR cx wd fl_X7_18 dX7_alter_80 hX (fun a1 hX => ?_)
  refine lv_iload_n hx hb dX7_alter_83 rfl (lv_at hl 2 rfl) ?_
  refine lv_dup2_11 hx hb dX7_alter_84 rfl rfl ?_
  refine mh_iald cx wd dX7_alter_85 hX (fun v2 hX => ?_)
  refine lv_iload_n hx hb dX7_alter_86 rfl (lv_at hl 1 rfl) ?_
  refine lv_iadd hx hb dX7_alter_87 ?_
  refine mh_iast cx wd dX7_alter_88 hX (fun h3 H locs wd hX => ?_)
  refine lv_aload_n hx hb dX7_alter_89 rfl (lv_at hl 0 rfl) ?_
  refine mh_getR cx wd fl_X7_18 dX7_alter_90 hX (fun a4 hX => ?_)
  refine lv_iload_n hx hb dX7_alter_93 rfl (lv_at hl 2 rfl) ?_
  refine mh_iald cx wd dX7_alter_94 hX (fun v5 hX => ?_)
  refine lv_bipush (v := 20) hx hb dX7_alter_95 (by decide) ?_
  refine lv_icmp_gt (tgt := 104) hx hb dX7_alter_97 rfl (fun hc => (fun hX => ?_) ((mh_if hX).1 hc)) (fun hc => (fun hX => ?_) ((mh_if hX).2 hc))
  · refine lv_iconst (v := 0) hx hb dX7_alter_104 (by decide) ?_
    exact w_X7_alter_b105 cx hr _ h3 _ _ ls wd (lv_sub hl [] rfl) hX
  · refine lv_iconst (v := 1) hx hb dX7_alter_100 (by decide) ?_
    refine lv_goto (tgt := 105) hx hb dX7_alter_101 rfl ?_
    exact w_X7_alter_b105 cx hr _ h3 _ _ ls wd (lv_sub hl [] rfl) hX
set_option maxRecDepth 100000 in
set_option maxHeartbeats 4000000 in
theorem w_X7_alter_b72 {p : Program} {l : Launch} {e : Env} {s : State} {m : MethodId} {args : Array Value} {below : List Frame} {meth : Method} {c : Code} {D : va_G} {ks : Nat → ClassId} {L : List Nat} {r : Int32} {h' : mh_H} (k79 : Nat → Int32 → Int32 → mh_H → Option (Int32 × mh_H)) (cx : mh_C p m c cX7_alter 5 s args RX7 meth D ks (mh_A L s.heap.size)) (hr : meth.sig.returnType = (some .boolean))
    (hk79 : ∀ (o0 : Nat) (x2 : Int32) (x3 : Int32) (h : mh_H) (H : Heap) (locs : List Loc) (ls : Array Slot), mh_W D ks L (mh_A L s.heap.size) s.heap h H locs → lv_has ls 5 [(0, .ref o0), (2, .int x2), (3, .int x3)] → k79 o0 x2 x3 h = some (r, h') → W p l e (mh_rm 3) s m args below meth c H locs 0 0 (MQ below (mh_Qi D ks L s.heap.size r h') args s 0 0 (mh_A L s.heap.size)) (F0 m 79 ls [])) :
    ∀ (o0 : Nat) (x2 : Int32) (x3 : Int32) (h : mh_H) (H : Heap) (locs : List Loc) (ls : Array Slot), mh_W D ks L (mh_A L s.heap.size) s.heap h H locs → lv_has ls 5 [(0, .ref o0), (2, .int x2), (3, .int x3)] → f_X7_alter_b72 k79 o0 x2 x3 h = some (r, h') → W p l e (mh_rm 3) s m args below meth c H locs 0 0 (MQ below (mh_Qi D ks L s.heap.size r h') args s 0 0 (mh_A L s.heap.size)) (F0 m 72 ls []) := by
  intro o0 x2 x3 h H locs ls wd hl hX
  have hx := cx.1.1
  have hb := cx.1.2.1
  unfold f_X7_alter_b72 at hX
  refine lv_aload_n hx hb dX7_alter_72 rfl (lv_at hl 0 rfl) ?_
  refine mh_getR cx wd fl_X7_18 dX7_alter_73 hX (fun a6 hX => ?_)
  refine lv_iload_n hx hb dX7_alter_76 rfl (lv_at hl 2 rfl) ?_
  refine lv_iconst (v := 0) hx hb dX7_alter_77 (by decide) ?_
  refine mh_iast cx wd dX7_alter_78 hX (fun h7 H locs wd hX => ?_)
  exact hk79 _ _ _ h7 _ _ ls wd (lv_sub hl [0, 1, 2] rfl) hX
set_option maxRecDepth 100000 in
set_option maxHeartbeats 4000000 in
theorem w_X7_alter_b44 {p : Program} {l : Launch} {e : Env} {s : State} {m : MethodId} {args : Array Value} {below : List Frame} {meth : Method} {c : Code} {D : va_G} {ks : Nat → ClassId} {L : List Nat} {r : Int32} {h' : mh_H} (k79 : Nat → Int32 → Int32 → mh_H → Option (Int32 × mh_H)) (cx : mh_C p m c cX7_alter 5 s args RX7 meth D ks (mh_A L s.heap.size)) (hr : meth.sig.returnType = (some .boolean))
    (hk79 : ∀ (o0 : Nat) (x2 : Int32) (x3 : Int32) (h : mh_H) (H : Heap) (locs : List Loc) (ls : Array Slot), mh_W D ks L (mh_A L s.heap.size) s.heap h H locs → lv_has ls 5 [(0, .ref o0), (2, .int x2), (3, .int x3)] → k79 o0 x2 x3 h = some (r, h') → W p l e (mh_rm 3) s m args below meth c H locs 0 0 (MQ below (mh_Qi D ks L s.heap.size r h') args s 0 0 (mh_A L s.heap.size)) (F0 m 79 ls [])) :
    ∀ n : Nat, ∀ (o0 : Nat) (x2 : Int32) (x3 : Int32) (x4 : Int32) (h : mh_H) (H : Heap) (locs : List Loc) (ls : Array Slot), mh_W D ks L (mh_A L s.heap.size) s.heap h H locs → lv_has ls 5 [(0, .ref o0), (2, .int x2), (3, .int x3), (4, .int x4)] → f_X7_alter_b44 k79 n o0 x2 x3 x4 h = some (r, h') → W p l e (mh_rm 3) s m args below meth c H locs 0 0 (MQ below (mh_Qi D ks L s.heap.size r h') args s 0 0 (mh_A L s.heap.size)) (F0 m 44 ls []) := by
  intro n
  induction n with
  | zero =>
    intro o0 x2 x3 x4 h H locs ls wd hl hX
    cases hX
  | succ n ih =>
    intro o0 x2 x3 x4 h H locs ls wd hl hX
    have hx := cx.1.1
    have hb := cx.1.2.1
    rw [f_X7_alter_b44] at hX
    refine lv_iload hx hb dX7_alter_44 (lv_at hl 3 rfl) ?_
    refine lv_iload_n hx hb dX7_alter_46 rfl (lv_at hl 2 rfl) ?_
    refine lv_icmp_le (tgt := 72) hx hb dX7_alter_47 rfl (fun hc => (fun hX => ?_) ((mh_if hX).1 hc)) (fun hc => (fun hX => ?_) ((mh_if hX).2 hc))
    · exact w_X7_alter_b72 k79 cx hr hk79 _ _ _ h _ _ ls wd (lv_sub hl [0, 1, 2] rfl) hX
    · refine lv_aload_n hx hb dX7_alter_50 rfl (lv_at hl 0 rfl) ?_
      refine mh_getR cx wd fl_X7_18 dX7_alter_51 hX (fun a8 hX => ?_)
      refine lv_iload hx hb dX7_alter_54 (lv_at hl 3 rfl) ?_
      refine lv_aload_n hx hb dX7_alter_56 rfl (lv_at hl 0 rfl) ?_
      refine mh_getR cx wd fl_X7_18 dX7_alter_57 hX (fun a9 hX => ?_)
      refine lv_iload hx hb dX7_alter_60 (lv_at hl 3 rfl) ?_
      refine lv_iconst (v := 1) hx hb dX7_alter_62 (by decide) ?_
      refine lv_isub hx hb dX7_alter_63 ?_
      refine mh_iald cx wd dX7_alter_64 hX (fun v10 hX => ?_)
      refine mh_iast cx wd dX7_alter_65 hX (fun h11 H locs wd hX => ?_)
      obtain ⟨v12, ev12, hX⟩ := mh_nmx hX
      refine lv_iinc (k := 3) (v := v12) (lv' := [(4, .int v12), (0, .ref o0), (2, .int x2), (3, .int x3)]) hx hb dX7_alter_66 hl rfl ev12 (Nat.le_of_ble_eq_true rfl) rfl (fun ls hl => ?_)
      refine lv_goto (tgt := 44) hx hb dX7_alter_69 rfl ?_
      exact ih _ _ _ _ h11 _ _ ls wd (lv_sub hl [1, 2, 3, 0] rfl) hX
set_option maxRecDepth 100000 in
set_option maxHeartbeats 4000000 in
theorem w_X7_alter_e {p : Program} {l : Launch} {e : Env} {s : State} {m : MethodId} {args : Array Value} {below : List Frame} {meth : Method} {c : Code} {D : va_G} {ks : Nat → ClassId} {L : List Nat} {r : Int32} {h' : mh_H} (cx : mh_C p m c cX7_alter 5 s args RX7 meth D ks (mh_A L s.heap.size)) (hr : meth.sig.returnType = (some .boolean)) :
    ∀ (o0 : Nat) (x1 : Int32) (x2 : Int32) (h : mh_H) (H : Heap) (locs : List Loc) (ls : Array Slot), mh_W D ks L (mh_A L s.heap.size) s.heap h H locs → lv_has ls 5 [(0, .ref o0), (1, .int x1), (2, .int x2)] → f_X7_alter_e o0 x1 x2 h = some (r, h') → W p l e (mh_rm 3) s m args below meth c H locs 0 0 (MQ below (mh_Qi D ks L s.heap.size r h') args s 0 0 (mh_A L s.heap.size)) (F0 m 0 ls []) := by
  intro o0 x1 x2 h H locs ls wd hl hX
  have hx := cx.1.1
  have hb := cx.1.2.1
  unfold f_X7_alter_e at hX
  refine lv_aload_n hx hb dX7_alter_0 rfl (lv_at hl 0 rfl) ?_
  refine mh_getR cx wd fl_X7_12 dX7_alter_1 hX (fun a13 hX => ?_)
  refine lv_iload_n hx hb dX7_alter_4 rfl (lv_at hl 1 rfl) ?_
  refine mh_callVI cx wd [.int x1] (rfl : vwCl[1]? = some (RX1, TX1, 2)) yw_X1_placeFor vw_X7_50 rfl hl.1 rfl (Nat.le_of_ble_eq_true rfl) dX7_alter_5 ⟨Nat.le_of_ble_eq_true rfl, Nat.le_of_ble_eq_true rfl⟩ ⟨Nat.le_refl _, Nat.le_refl _⟩ (fun _ _ q => c_X1_placeFor q) hX (fun v15 h14 H locs wd hX => ?_)
  refine lv_istore_n (lv' := [(3, .int v15), (0, .ref o0), (1, .int x1), (2, .int x2)]) hx hb dX7_alter_8 rfl hl (Nat.le_of_ble_eq_true rfl) rfl (fun ls hl => ?_)
  refine lv_aload_n hx hb dX7_alter_9 rfl (lv_at hl 1 rfl) ?_
  refine mh_getR cx wd fl_X7_12 dX7_alter_10 hX (fun a16 hX => ?_)
  refine lv_iload_n hx hb dX7_alter_13 rfl (lv_at hl 2 rfl) ?_
  refine mh_callVI cx wd [.int x1] (rfl : vwCl[1]? = some (RX1, TX1, 2)) yw_X1_holds vw_X7_53 rfl hl.1 rfl (Nat.le_of_ble_eq_true rfl) dX7_alter_14 ⟨Nat.le_of_ble_eq_true rfl, Nat.le_of_ble_eq_true rfl⟩ ⟨Nat.le_refl _, Nat.le_refl _⟩ (fun _ _ q => c_X1_holds q) hX (fun v18 h17 H locs wd hX => ?_)
  refine lv_if_ne (tgt := 79) hx hb dX7_alter_17 rfl (fun hc => (fun hX => ?_) ((mh_if hX).2 hc)) (fun hc => (fun hX => ?_) ((mh_if hX).1 hc))
  · exact w_X7_alter_b79 cx hr _ _ _ h17 _ _ ls wd (lv_sub hl [1, 3, 0] rfl) hX
  · refine lv_aload_n hx hb dX7_alter_20 rfl (lv_at hl 1 rfl) ?_
    refine mh_getR cx wd fl_X7_12 dX7_alter_21 hX (fun a19 hX => ?_)
    refine lv_iload_n hx hb dX7_alter_24 rfl (lv_at hl 2 rfl) ?_
    refine mh_callVI cx wd [.int x1] (rfl : vwCl[1]? = some (RX1, TX1, 2)) yw_X1_insert vw_X7_57 rfl hl.1 rfl (Nat.le_of_ble_eq_true rfl) dX7_alter_25 ⟨Nat.le_of_ble_eq_true rfl, Nat.le_of_ble_eq_true rfl⟩ ⟨Nat.le_refl _, Nat.le_refl _⟩ (fun _ _ q => c_X1_insert q) hX (fun v21 h20 H locs wd hX => ?_)
    refine lv_if_ne (tgt := 33) hx hb dX7_alter_28 rfl (fun hc => (fun hX => ?_) ((mh_if hX).2 hc)) (fun hc => (fun hX => ?_) ((mh_if hX).1 hc))
    · refine lv_aload_n hx hb dX7_alter_33 rfl (lv_at hl 1 rfl) ?_
      refine mh_getR cx wd fl_X7_12 dX7_alter_34 hX (fun a22 hX => ?_)
      refine mh_callVI cx wd [] (rfl : vwCl[1]? = some (RX1, TX1, 2)) yw_X1_count vw_X7_22 rfl hl.1 rfl (Nat.le_of_ble_eq_true rfl) dX7_alter_37 ⟨Nat.le_of_ble_eq_true rfl, Nat.le_of_ble_eq_true rfl⟩ ⟨Nat.le_refl _, Nat.le_refl _⟩ (fun _ _ q => c_X1_count q) hX (fun v24 h23 H locs wd hX => ?_)
      refine lv_iconst (v := 1) hx hb dX7_alter_40 (by decide) ?_
      refine lv_isub hx hb dX7_alter_41 ?_
      refine mh_topi hX (fun v25 hX => ?_)
      refine lv_istore (lv' := [(4, .int v25), (3, .int v15), (0, .ref o0), (1, .int x1), (2, .int x2)]) hx hb dX7_alter_42 hl (Nat.le_of_ble_eq_true rfl) rfl (fun ls hl => ?_)
      exact w_X7_alter_b44 (f_X7_alter_b79) cx hr (w_X7_alter_b79 cx hr) mh_fu _ _ _ _ h23 _ _ ls wd (lv_sub hl [2, 4, 1, 0] rfl) hX
    · refine lv_iconst (v := 0) hx hb dX7_alter_31 (by decide) ?_
      exact mh_zret cx wd hr hX dX7_alter_32
set_option maxRecDepth 100000 in
theorem c_X7_alter {l : Launch} {L : List Nat} {h h' : mh_H} {r : Int32} {o0 : Nat} {x1 : Int32} {x2 : Int32} (hX : f_X7_alter_e o0 x1 x2 h = some (r, h')) : mh_MI l yX7_alter (Cond.code yX7_alter cX7_alter 5 (some .boolean) :: mh_TB) (mh_rm 3) [.ref o0, .int x1, .int x2] L h r h' :=
  mh_of (mc := 0) (ms := 0) (Qc := fun D ks sz => mh_Qi D ks L sz r h') (plainFor_of_name (by decide)) (Nat.le_of_ble_eq_true rfl) (fun p e s m below meth c D ks ls hr cx wd hl => by
    have hl : lv_has ls 5 [(0, .ref o0), (1, .int x1), (2, .int x2)] := hl
    exact w_X7_alter_e cx hr o0 x1 x2 h _ _ ls wd hl hX)
def f_J7_fill_d0a16_b22 (h : mh_H) : Option mh_H :=
  some h
def f_J7_fill_d0a16_b6 : Nat → Nat → Int64 → Int32 → Int32 → mh_H → Option mh_H
  | 0, _, _, _, _, _ => none
  | n + 1, o0, y1, x3, x4, h =>
    if x4 ≤ x3 then (
    f_J7_fill_d0a16_b22 h) else
    (mh_sJ h o0 x3 y1).bind fun h1 =>
    mh_nm (x3 + Int32.ofInt (1)) fun v2 =>
    f_J7_fill_d0a16_b6 n o0 y1 v2 x4 h1
def f_J7_fill_d0a16_e (o0 : Nat) (y1 : Int64) (h : mh_H) : Option mh_H :=
  mh_nm (0 : Int32) fun v3 =>
  (mh_aL h o0 1).bind fun v4 =>
  f_J7_fill_d0a16_b6 mh_fu o0 y1 v3 v4 h
set_option maxRecDepth 100000 in
set_option maxHeartbeats 4000000 in
theorem w_J7_fill_d0a16_b22 {p : Program} {l : Launch} {e : Env} {s : State} {m : MethodId} {args : Array Value} {below : List Frame} {meth : Method} {c : Code} {D : va_G} {ks : Nat → ClassId} {L : List Nat} {h' : mh_H} (cx : mh_C p m c cJ7_fill_d0a16 5 s args RJ7 meth D ks (mh_A L s.heap.size)) (hr : meth.sig.returnType = none) :
    ∀ (h : mh_H) (H : Heap) (locs : List Loc) (ls : Array Slot), mh_W D ks L (mh_A L s.heap.size) s.heap h H locs → lv_has ls 5 [] → f_J7_fill_d0a16_b22  h = some h' → W p l e (mh_rm 0) s m args below meth c H locs 0 0 (MQ below (mh_Qv D ks L s.heap.size h') args s 0 0 (mh_A L s.heap.size)) (F0 m 22 ls []) := by
  intro  h H locs ls wd hl hX
  have hx := cx.1.1
  have hb := cx.1.2.1
  unfold f_J7_fill_d0a16_b22 at hX
  exact mh_vret cx wd hr hX dJ7_fill_d0a16_22
set_option maxRecDepth 100000 in
set_option maxHeartbeats 4000000 in
theorem w_J7_fill_d0a16_b6 {p : Program} {l : Launch} {e : Env} {s : State} {m : MethodId} {args : Array Value} {below : List Frame} {meth : Method} {c : Code} {D : va_G} {ks : Nat → ClassId} {L : List Nat} {h' : mh_H} (cx : mh_C p m c cJ7_fill_d0a16 5 s args RJ7 meth D ks (mh_A L s.heap.size)) (hr : meth.sig.returnType = none) :
    ∀ n : Nat, ∀ (o0 : Nat) (y1 : Int64) (x3 : Int32) (x4 : Int32) (h : mh_H) (H : Heap) (locs : List Loc) (ls : Array Slot), mh_W D ks L (mh_A L s.heap.size) s.heap h H locs → lv_has ls 5 [(0, .ref o0), (1, .long y1), (3, .int x3), (4, .int x4)] → f_J7_fill_d0a16_b6 n o0 y1 x3 x4 h = some h' → W p l e (mh_rm 0) s m args below meth c H locs 0 0 (MQ below (mh_Qv D ks L s.heap.size h') args s 0 0 (mh_A L s.heap.size)) (F0 m 6 ls []) := by
  intro n
  induction n with
  | zero =>
    intro o0 y1 x3 x4 h H locs ls wd hl hX
    cases hX
  | succ n ih =>
    intro o0 y1 x3 x4 h H locs ls wd hl hX
    have hx := cx.1.1
    have hb := cx.1.2.1
    rw [f_J7_fill_d0a16_b6] at hX
    refine lv_iload_n hx hb dJ7_fill_d0a16_6 rfl (lv_at hl 2 rfl) ?_
    refine lv_iload hx hb dJ7_fill_d0a16_7 (lv_at hl 3 rfl) ?_
    refine lv_icmp_ge (tgt := 22) hx hb dJ7_fill_d0a16_9 rfl (fun hc => (fun hX => ?_) ((mh_if hX).1 hc)) (fun hc => (fun hX => ?_) ((mh_if hX).2 hc))
    · exact w_J7_fill_d0a16_b22 cx hr  h _ _ ls wd (lv_sub hl [] rfl) hX
    · refine lv_aload_n hx hb dJ7_fill_d0a16_12 rfl (lv_at hl 0 rfl) ?_
      refine lv_iload_n hx hb dJ7_fill_d0a16_13 rfl (lv_at hl 2 rfl) ?_
      refine lv_lload_n hx hb dJ7_fill_d0a16_14 rfl (lv_at hl 1 rfl) ?_
      refine mh_last cx wd dJ7_fill_d0a16_15 hX (fun h1 H locs wd hX => ?_)
      obtain ⟨v2, ev2, hX⟩ := mh_nmx hX
      refine lv_iinc (k := 2) (v := v2) (lv' := [(3, .int v2), (0, .ref o0), (1, .long y1), (4, .int x4)]) hx hb dJ7_fill_d0a16_16 hl rfl ev2 (Nat.le_of_ble_eq_true rfl) rfl (fun ls hl => ?_)
      refine lv_goto (tgt := 6) hx hb dJ7_fill_d0a16_19 rfl ?_
      exact ih _ _ _ _ h1 _ _ ls wd (lv_sub hl [1, 2, 0, 3] rfl) hX
set_option maxRecDepth 100000 in
set_option maxHeartbeats 4000000 in
theorem w_J7_fill_d0a16_e {p : Program} {l : Launch} {e : Env} {s : State} {m : MethodId} {args : Array Value} {below : List Frame} {meth : Method} {c : Code} {D : va_G} {ks : Nat → ClassId} {L : List Nat} {h' : mh_H} (cx : mh_C p m c cJ7_fill_d0a16 5 s args RJ7 meth D ks (mh_A L s.heap.size)) (hr : meth.sig.returnType = none) :
    ∀ (o0 : Nat) (y1 : Int64) (h : mh_H) (H : Heap) (locs : List Loc) (ls : Array Slot), mh_W D ks L (mh_A L s.heap.size) s.heap h H locs → lv_has ls 5 [(0, .ref o0), (1, .long y1)] → f_J7_fill_d0a16_e o0 y1 h = some h' → W p l e (mh_rm 0) s m args below meth c H locs 0 0 (MQ below (mh_Qv D ks L s.heap.size h') args s 0 0 (mh_A L s.heap.size)) (F0 m 0 ls []) := by
  intro o0 y1 h H locs ls wd hl hX
  have hx := cx.1.1
  have hb := cx.1.2.1
  unfold f_J7_fill_d0a16_e at hX
  refine lv_iconst (v := 0) hx hb dJ7_fill_d0a16_0 (by decide) ?_
  refine mh_topi hX (fun v3 hX => ?_)
  refine lv_istore_n (lv' := [(3, .int v3), (0, .ref o0), (1, .long y1)]) hx hb dJ7_fill_d0a16_1 rfl hl (Nat.le_of_ble_eq_true rfl) rfl (fun ls hl => ?_)
  refine lv_aload_n hx hb dJ7_fill_d0a16_2 rfl (lv_at hl 1 rfl) ?_
  refine mh_alen cx wd 1 rfl dJ7_fill_d0a16_3 hX (fun v4 hX => ?_)
  refine lv_istore (lv' := [(4, .int v4), (3, .int v3), (0, .ref o0), (1, .long y1)]) hx hb dJ7_fill_d0a16_4 hl (Nat.le_of_ble_eq_true rfl) rfl (fun ls hl => ?_)
  exact w_J7_fill_d0a16_b6 cx hr mh_fu _ _ _ _ h _ _ ls wd (lv_sub hl [2, 3, 1, 0] rfl) hX
set_option maxRecDepth 100000 in
theorem c_J7_fill_d0a16 {l : Launch} {L : List Nat} {h h' : mh_H} {o0 : Nat} {y1 : Int64} (hX : f_J7_fill_d0a16_e o0 y1 h = some h') : mh_MV l yJ7_fill_d0a16 (Cond.code yJ7_fill_d0a16 cJ7_fill_d0a16 5 none :: mh_TB) (mh_rm 0) [.ref o0, .long y1] L h h' :=
  mh_of (mc := 0) (ms := 0) (Qc := fun D ks sz => mh_Qv D ks L sz h') (plainFor_of_name (by decide)) (Nat.le_of_ble_eq_true rfl) (fun p e s m below meth c D ks ls hr cx wd hl => by
    have hl : lv_has ls 5 [(0, .ref o0), (1, .long y1)] := hl
    exact w_J7_fill_d0a16_e cx hr o0 y1 h _ _ ls wd hl hX)
def f_X8_allow_b16 (h : mh_H) : Option mh_H :=
  some h
def f_X8_allow_b85 (k33 : Nat → Int32 → Int64 → Int32 → mh_H → Option mh_H) (o0 : Nat) (x1 : Int32) (y2 : Int64) (x4 : Int32) (h : mh_H) : Option mh_H :=
  mh_nm (x4 + Int32.ofInt (-1)) fun v1 =>
  k33 o0 x1 y2 v1 h
def f_X8_allow_b91 (h : mh_H) : Option mh_H :=
  some h
def f_X8_allow_b33 : Nat → Nat → Int32 → Int64 → Int32 → mh_H → Option mh_H
  | 0, _, _, _, _, _ => none
  | n + 1, o0, x1, y2, x4, h =>
    if x4 < x1 then (
    f_X8_allow_b91 h) else
    (mh_gR h o0 8 1).bind fun a2 =>
    (mh_aJ h a2 (x4 - x1)).bind fun w3 =>
    if (lg_cmp w3 (9223372036854775807 : Int64)) = 0 then (
    f_X8_allow_b85 (f_X8_allow_b33 n) o0 x1 y2 x4 h) else
    (mh_gR h o0 8 1).bind fun a4 =>
    (mh_aJ h a4 x4).bind fun w5 =>
    if 0 ≤ (lg_cmp (w3 + y2) w5) then (
    f_X8_allow_b85 (f_X8_allow_b33 n) o0 x1 y2 x4 h) else
    (mh_gR h o0 8 1).bind fun a6 =>
    (mh_sJ h a6 x4 (w3 + y2)).bind fun h7 =>
    f_X8_allow_b85 (f_X8_allow_b33 n) o0 x1 y2 x4 h7
def f_X8_allow_e (o0 : Nat) (x1 : Int32) (y2 : Int64) (h : mh_H) : Option mh_H :=
  if x1 < 0 then (
  f_X8_allow_b16 h) else
  (mh_gI h o0 8 2).bind fun v8 =>
  if (v8 + x1) ≤ (20000 : Int32) then (
  (mh_gI h o0 8 2).bind fun v9 =>
  (mh_pI h o0 8 2 (v9 + x1)).bind fun h10 =>
  (mh_gI h10 o0 8 2).bind fun v11 =>
  f_X8_allow_b33 mh_fu o0 x1 y2 v11 h10) else
  f_X8_allow_b16 h
set_option maxRecDepth 100000 in
set_option maxHeartbeats 4000000 in
theorem w_X8_allow_b16 {p : Program} {l : Launch} {e : Env} {s : State} {m : MethodId} {args : Array Value} {below : List Frame} {meth : Method} {c : Code} {D : va_G} {ks : Nat → ClassId} {L : List Nat} {h' : mh_H} (cx : mh_C p m c cX8_allow 7 s args RX8 meth D ks (mh_A L s.heap.size)) (hr : meth.sig.returnType = none) :
    ∀ (h : mh_H) (H : Heap) (locs : List Loc) (ls : Array Slot), mh_W D ks L (mh_A L s.heap.size) s.heap h H locs → lv_has ls 7 [] → f_X8_allow_b16  h = some h' → W p l e (mh_rm 0) s m args below meth c H locs 0 0 (MQ below (mh_Qv D ks L s.heap.size h') args s 0 0 (mh_A L s.heap.size)) (F0 m 16 ls []) := by
  intro  h H locs ls wd hl hX
  have hx := cx.1.1
  have hb := cx.1.2.1
  unfold f_X8_allow_b16 at hX
  exact mh_vret cx wd hr hX dX8_allow_16
set_option maxRecDepth 100000 in
set_option maxHeartbeats 4000000 in
theorem w_X8_allow_b85 {p : Program} {l : Launch} {e : Env} {s : State} {m : MethodId} {args : Array Value} {below : List Frame} {meth : Method} {c : Code} {D : va_G} {ks : Nat → ClassId} {L : List Nat} {h' : mh_H} (k33 : Nat → Int32 → Int64 → Int32 → mh_H → Option mh_H) (cx : mh_C p m c cX8_allow 7 s args RX8 meth D ks (mh_A L s.heap.size)) (hr : meth.sig.returnType = none)
    (hk33 : ∀ (o0 : Nat) (x1 : Int32) (y2 : Int64) (x4 : Int32) (h : mh_H) (H : Heap) (locs : List Loc) (ls : Array Slot), mh_W D ks L (mh_A L s.heap.size) s.heap h H locs → lv_has ls 7 [(0, .ref o0), (1, .int x1), (2, .long y2), (4, .int x4)] → k33 o0 x1 y2 x4 h = some h' → W p l e (mh_rm 0) s m args below meth c H locs 0 0 (MQ below (mh_Qv D ks L s.heap.size h') args s 0 0 (mh_A L s.heap.size)) (F0 m 33 ls [])) :
    ∀ (o0 : Nat) (x1 : Int32) (y2 : Int64) (x4 : Int32) (h : mh_H) (H : Heap) (locs : List Loc) (ls : Array Slot), mh_W D ks L (mh_A L s.heap.size) s.heap h H locs → lv_has ls 7 [(0, .ref o0), (1, .int x1), (2, .long y2), (4, .int x4)] → f_X8_allow_b85 k33 o0 x1 y2 x4 h = some h' → W p l e (mh_rm 0) s m args below meth c H locs 0 0 (MQ below (mh_Qv D ks L s.heap.size h') args s 0 0 (mh_A L s.heap.size)) (F0 m 85 ls []) := by
  intro o0 x1 y2 x4 h H locs ls wd hl hX
  have hx := cx.1.1
  have hb := cx.1.2.1
  unfold f_X8_allow_b85 at hX
  obtain ⟨v1, ev1, hX⟩ := mh_nmx hX
  refine lv_iinc (k := 3) (v := v1) (lv' := [(4, .int v1), (0, .ref o0), (1, .int x1), (2, .long y2)]) hx hb dX8_allow_85 hl rfl ev1 (Nat.le_of_ble_eq_true rfl) rfl (fun ls hl => ?_)
  refine lv_goto (tgt := 33) hx hb dX8_allow_88 rfl ?_
  exact hk33 _ _ _ _ h _ _ ls wd (lv_sub hl [1, 2, 3, 0] rfl) hX
set_option maxRecDepth 100000 in
set_option maxHeartbeats 4000000 in
theorem w_X8_allow_b91 {p : Program} {l : Launch} {e : Env} {s : State} {m : MethodId} {args : Array Value} {below : List Frame} {meth : Method} {c : Code} {D : va_G} {ks : Nat → ClassId} {L : List Nat} {h' : mh_H} (cx : mh_C p m c cX8_allow 7 s args RX8 meth D ks (mh_A L s.heap.size)) (hr : meth.sig.returnType = none) :
    ∀ (h : mh_H) (H : Heap) (locs : List Loc) (ls : Array Slot), mh_W D ks L (mh_A L s.heap.size) s.heap h H locs → lv_has ls 7 [] → f_X8_allow_b91  h = some h' → W p l e (mh_rm 0) s m args below meth c H locs 0 0 (MQ below (mh_Qv D ks L s.heap.size h') args s 0 0 (mh_A L s.heap.size)) (F0 m 91 ls []) := by
  intro  h H locs ls wd hl hX
  have hx := cx.1.1
  have hb := cx.1.2.1
  unfold f_X8_allow_b91 at hX
  exact mh_vret cx wd hr hX dX8_allow_91
set_option maxRecDepth 100000 in
set_option maxHeartbeats 4000000 in
theorem w_X8_allow_b33 {p : Program} {l : Launch} {e : Env} {s : State} {m : MethodId} {args : Array Value} {below : List Frame} {meth : Method} {c : Code} {D : va_G} {ks : Nat → ClassId} {L : List Nat} {h' : mh_H} (cx : mh_C p m c cX8_allow 7 s args RX8 meth D ks (mh_A L s.heap.size)) (hr : meth.sig.returnType = none) :
    ∀ n : Nat, ∀ (o0 : Nat) (x1 : Int32) (y2 : Int64) (x4 : Int32) (h : mh_H) (H : Heap) (locs : List Loc) (ls : Array Slot), mh_W D ks L (mh_A L s.heap.size) s.heap h H locs → lv_has ls 7 [(0, .ref o0), (1, .int x1), (2, .long y2), (4, .int x4)] → f_X8_allow_b33 n o0 x1 y2 x4 h = some h' → W p l e (mh_rm 0) s m args below meth c H locs 0 0 (MQ below (mh_Qv D ks L s.heap.size h') args s 0 0 (mh_A L s.heap.size)) (F0 m 33 ls []) := by
  intro n
  induction n with
  | zero =>
    intro o0 x1 y2 x4 h H locs ls wd hl hX
    cases hX
  | succ n ih =>
    intro o0 x1 y2 x4 h H locs ls wd hl hX
    have hx := cx.1.1
    have hb := cx.1.2.1
    rw [f_X8_allow_b33] at hX
    refine lv_iload hx hb dX8_allow_33 (lv_at hl 3 rfl) ?_
    refine lv_iload_n hx hb dX8_allow_35 rfl (lv_at hl 1 rfl) ?_
    refine lv_icmp_lt (tgt := 91) hx hb dX8_allow_36 rfl (fun hc => (fun hX => ?_) ((mh_if hX).1 hc)) (fun hc => (fun hX => ?_) ((mh_if hX).2 hc))
    · exact w_X8_allow_b91 cx hr  h _ _ ls wd (lv_sub hl [] rfl) hX
    · refine lv_aload_n hx hb dX8_allow_39 rfl (lv_at hl 0 rfl) ?_
      refine mh_getR cx wd fl_X8_18 dX8_allow_40 hX (fun a2 hX => ?_)
      refine lv_iload hx hb dX8_allow_43 (lv_at hl 3 rfl) ?_
      refine lv_iload_n hx hb dX8_allow_45 rfl (lv_at hl 1 rfl) ?_
      refine lv_isub hx hb dX8_allow_46 ?_
      refine mh_lald cx wd dX8_allow_47 hX (fun w3 hX => ?_)
      refine lv_lstore (lv' := [(5, .long w3), (0, .ref o0), (1, .int x1), (2, .long y2), (4, .int x4)]) hx hb dX8_allow_48 hl (Nat.le_of_ble_eq_true rfl) rfl (fun ls hl => ?_)
      refine lv_lload hx hb dX8_allow_50 (lv_at hl 0 rfl) ?_
      refine mh_ldc2 cx kl_X8_34 dX8_allow_52 ?_
      refine W.lcmp hx hb dX8_allow_55 ?_
      refine lv_if_eq (tgt := 85) hx hb dX8_allow_56 rfl (fun hc => (fun hX => ?_) ((mh_if hX).1 hc)) (fun hc => (fun hX => ?_) ((mh_if hX).2 hc))
      · exact w_X8_allow_b85 (f_X8_allow_b33 n) cx hr ih _ _ _ _ h _ _ ls wd (lv_sub hl [1, 2, 3, 4] rfl) hX
      · refine lv_lload hx hb dX8_allow_59 (lv_at hl 0 rfl) ?_
        refine lv_lload_n hx hb dX8_allow_61 rfl (lv_at hl 3 rfl) ?_
        refine lv_ladd hx hb dX8_allow_62 ?_
        refine lv_aload_n hx hb dX8_allow_63 rfl (lv_at hl 1 rfl) ?_
        refine mh_getR cx wd fl_X8_18 dX8_allow_64 hX (fun a4 hX => ?_)
        refine lv_iload hx hb dX8_allow_67 (lv_at hl 4 rfl) ?_
        refine mh_lald cx wd dX8_allow_69 hX (fun w5 hX => ?_)
        refine W.lcmp hx hb dX8_allow_70 ?_
        refine lv_if_ge (tgt := 85) hx hb dX8_allow_71 rfl (fun hc => (fun hX => ?_) ((mh_if hX).1 hc)) (fun hc => (fun hX => ?_) ((mh_if hX).2 hc))
        · exact w_X8_allow_b85 (f_X8_allow_b33 n) cx hr ih _ _ _ _ h _ _ ls wd (lv_sub hl [1, 2, 3, 4] rfl) hX
        · refine lv_aload_n hx hb dX8_allow_74 rfl (lv_at hl 1 rfl) ?_
          refine mh_getR cx wd fl_X8_18 dX8_allow_75 hX (fun a6 hX => ?_)
          refine lv_iload hx hb dX8_allow_78 (lv_at hl 4 rfl) ?_
          refine lv_lload hx hb dX8_allow_80 (lv_at hl 0 rfl) ?_
          refine lv_lload_n hx hb dX8_allow_82 rfl (lv_at hl 3 rfl) ?_
          refine lv_ladd hx hb dX8_allow_83 ?_
          refine mh_last cx wd dX8_allow_84 hX (fun h7 H locs wd hX => ?_)
          exact w_X8_allow_b85 (f_X8_allow_b33 n) cx hr ih _ _ _ _ h7 _ _ ls wd (lv_sub hl [1, 2, 3, 4] rfl) hX
set_option maxRecDepth 100000 in
set_option maxHeartbeats 4000000 in
theorem w_X8_allow_e {p : Program} {l : Launch} {e : Env} {s : State} {m : MethodId} {args : Array Value} {below : List Frame} {meth : Method} {c : Code} {D : va_G} {ks : Nat → ClassId} {L : List Nat} {h' : mh_H} (cx : mh_C p m c cX8_allow 7 s args RX8 meth D ks (mh_A L s.heap.size)) (hr : meth.sig.returnType = none) :
    ∀ (o0 : Nat) (x1 : Int32) (y2 : Int64) (h : mh_H) (H : Heap) (locs : List Loc) (ls : Array Slot), mh_W D ks L (mh_A L s.heap.size) s.heap h H locs → lv_has ls 7 [(0, .ref o0), (1, .int x1), (2, .long y2)] → f_X8_allow_e o0 x1 y2 h = some h' → W p l e (mh_rm 0) s m args below meth c H locs 0 0 (MQ below (mh_Qv D ks L s.heap.size h') args s 0 0 (mh_A L s.heap.size)) (F0 m 0 ls []) := by
  intro o0 x1 y2 h H locs ls wd hl hX
  have hx := cx.1.1
  have hb := cx.1.2.1
  unfold f_X8_allow_e at hX
  refine lv_iload_n hx hb dX8_allow_0 rfl (lv_at hl 1 rfl) ?_
  refine lv_if_lt (tgt := 16) hx hb dX8_allow_1 rfl (fun hc => (fun hX => ?_) ((mh_if hX).1 hc)) (fun hc => (fun hX => ?_) ((mh_if hX).2 hc))
  · exact w_X8_allow_b16 cx hr  h _ _ ls wd (lv_sub hl [] rfl) hX
  · refine lv_aload_n hx hb dX8_allow_4 rfl (lv_at hl 0 rfl) ?_
    refine mh_getI cx wd fl_X8_22 dX8_allow_5 hX (fun v8 hX => ?_)
    refine lv_iload_n hx hb dX8_allow_8 rfl (lv_at hl 1 rfl) ?_
    refine lv_iadd hx hb dX8_allow_9 ?_
    refine lv_sipush (v := 20000) hx hb dX8_allow_10 (by decide) ?_
    refine lv_icmp_le (tgt := 17) hx hb dX8_allow_13 rfl (fun hc => (fun hX => ?_) ((mh_if hX).1 hc)) (fun hc => (fun hX => ?_) ((mh_if hX).2 hc))
    · refine lv_aload_n hx hb dX8_allow_17 rfl (lv_at hl 0 rfl) ?_
      refine lv_dup hx hb dX8_allow_18 rfl ?_
      refine mh_getI cx wd fl_X8_22 dX8_allow_19 hX (fun v9 hX => ?_)
      refine lv_iload_n hx hb dX8_allow_22 rfl (lv_at hl 1 rfl) ?_
      refine lv_iadd hx hb dX8_allow_23 ?_
      refine mh_putI cx wd fp_X8_22 dX8_allow_24 hX (fun h10 H locs wd hX => ?_)
      refine lv_aload_n hx hb dX8_allow_27 rfl (lv_at hl 0 rfl) ?_
      refine mh_getI cx wd fl_X8_22 dX8_allow_28 hX (fun v11 hX => ?_)
      refine lv_istore (lv' := [(4, .int v11), (0, .ref o0), (1, .int x1), (2, .long y2)]) hx hb dX8_allow_31 hl (Nat.le_of_ble_eq_true rfl) rfl (fun ls hl => ?_)
      exact w_X8_allow_b33 cx hr mh_fu _ _ _ _ h10 _ _ ls wd (lv_sub hl [1, 2, 3, 0] rfl) hX
    · exact w_X8_allow_b16 cx hr  h _ _ ls wd (lv_sub hl [] rfl) hX
set_option maxRecDepth 100000 in
theorem c_X8_allow {l : Launch} {L : List Nat} {h h' : mh_H} {o0 : Nat} {x1 : Int32} {y2 : Int64} (hX : f_X8_allow_e o0 x1 y2 h = some h') : mh_MV l yX8_allow (Cond.code yX8_allow cX8_allow 7 none :: mh_TB) (mh_rm 0) [.ref o0, .int x1, .long y2] L h h' :=
  mh_of (mc := 0) (ms := 0) (Qc := fun D ks sz => mh_Qv D ks L sz h') (plainFor_of_name (by decide)) (Nat.le_of_ble_eq_true rfl) (fun p e s m below meth c D ks ls hr cx wd hl => by
    have hl : lv_has ls 7 [(0, .ref o0), (1, .int x1), (2, .long y2)] := hl
    exact w_X8_allow_e cx hr o0 x1 y2 h _ _ ls wd hl hX)
