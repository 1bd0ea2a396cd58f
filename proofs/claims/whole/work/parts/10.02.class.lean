def f_X3_purse_e (o0 : Nat) (x1 : Int32) (h : mh_H) : Option (Nat × mh_H) :=
  (mh_gR h o0 3 1).bind fun a1 =>
  (mh_gI h o0 3 2).bind fun v2 =>
  (mh_aR h a1 4 ((v2 * (8 : Int32)) + x1)).bind fun a3 =>
  some (a3, h)
set_option maxRecDepth 100000 in
set_option maxHeartbeats 4000000 in
theorem w_X3_purse_e {p : Program} {l : Launch} {e : Env} {s : State} {m : MethodId} {args : Array Value} {below : List Frame} {meth : Method} {c : Code} {D : va_G} {ks : Nat → ClassId} {L : List Nat} {r : Nat} {h' : mh_H} (cx : mh_C p m c cX3_purse 2 s args RX3 meth D ks (mh_A L s.heap.size)) (hr : meth.sig.returnType = (some (.object "MintHouse$Purse"))) :
    ∀ (o0 : Nat) (x1 : Int32) (h : mh_H) (H : Heap) (locs : List Loc) (ls : Array Slot), mh_W D ks L (mh_A L s.heap.size) s.heap h H locs → lv_has ls 2 [(0, .ref o0), (1, .int x1)] → f_X3_purse_e o0 x1 h = some (r, h') → W p l e (mh_rm 0) s m args below meth c H locs 0 0 (MQ below (mh_Qr D ks L s.heap.size r h') args s 0 0 (mh_A L s.heap.size)) (F0 m 0 ls []) := by
  intro o0 x1 h H locs ls wd hl hX
  have hx := cx.1.1
  have hb := cx.1.2.1
  unfold f_X3_purse_e at hX
  refine lv_aload_n hx hb dX3_purse_0 rfl (lv_at hl 0 rfl) ?_
  refine mh_getR cx wd fl_X3_19 dX3_purse_1 hX (fun a1 hX => ?_)
  refine lv_aload_n hx hb dX3_purse_4 rfl (lv_at hl 0 rfl) ?_
  refine mh_getI cx wd fl_X3_23 dX3_purse_5 hX (fun v2 hX => ?_)
  refine lv_bipush (v := 8) hx hb dX3_purse_8 (by decide) ?_
  refine lv_imul hx hb dX3_purse_10 ?_
  refine lv_iload_n hx hb dX3_purse_11 rfl (lv_at hl 1 rfl) ?_
  refine lv_iadd hx hb dX3_purse_12 ?_
  refine mh_aald cx wd 4 rfl rfl dX3_purse_13 hX (fun a3 hX => ?_)
  exact mh_aret cx wd hr (Or.inl ⟨_, rfl⟩) hX dX3_purse_14
set_option maxRecDepth 100000 in
theorem c_X3_purse {l : Launch} {L : List Nat} {h h' : mh_H} {r : Nat} {o0 : Nat} {x1 : Int32} (hX : f_X3_purse_e o0 x1 h = some (r, h')) : mh_MR l yX3_purse (Cond.code yX3_purse cX3_purse 2 (some (.object "MintHouse$Purse")) :: mh_TB) (mh_rm 0) [.ref o0, .int x1] L h r h' :=
  mh_of (mc := 0) (ms := 0) (Qc := fun D ks sz => mh_Qr D ks L sz r h') (plainFor_of_name (by decide)) (Nat.le_of_ble_eq_true rfl) (fun p e s m below meth c D ks ls hr cx wd hl => by
    have hl : lv_has ls 2 [(0, .ref o0), (1, .int x1)] := hl
    exact w_X3_purse_e cx hr o0 x1 h _ _ ls wd hl hX)
def f_X7_coins_e (o0 : Nat) (h : mh_H) : Option (Nat × mh_H) :=
  (mh_gR h o0 7 0).bind fun a1 =>
  some (a1, h)
set_option maxRecDepth 100000 in
set_option maxHeartbeats 4000000 in
theorem w_X7_coins_e {p : Program} {l : Launch} {e : Env} {s : State} {m : MethodId} {args : Array Value} {below : List Frame} {meth : Method} {c : Code} {D : va_G} {ks : Nat → ClassId} {L : List Nat} {r : Nat} {h' : mh_H} (cx : mh_C p m c cX7_coins 1 s args RX7 meth D ks (mh_A L s.heap.size)) (hr : meth.sig.returnType = (some (.object "MintHouse$Coins"))) :
    ∀ (o0 : Nat) (h : mh_H) (H : Heap) (locs : List Loc) (ls : Array Slot), mh_W D ks L (mh_A L s.heap.size) s.heap h H locs → lv_has ls 1 [(0, .ref o0)] → f_X7_coins_e o0 h = some (r, h') → W p l e (mh_rm 0) s m args below meth c H locs 0 0 (MQ below (mh_Qr D ks L s.heap.size r h') args s 0 0 (mh_A L s.heap.size)) (F0 m 0 ls []) := by
  intro o0 h H locs ls wd hl hX
  have hx := cx.1.1
  have hb := cx.1.2.1
  unfold f_X7_coins_e at hX
  refine lv_aload_n hx hb dX7_coins_0 rfl (lv_at hl 0 rfl) ?_
  refine mh_getR cx wd fl_X7_12 dX7_coins_1 hX (fun a1 hX => ?_)
  exact mh_aret cx wd hr (Or.inl ⟨_, rfl⟩) hX dX7_coins_4
set_option maxRecDepth 100000 in
theorem c_X7_coins {l : Launch} {L : List Nat} {h h' : mh_H} {r : Nat} {o0 : Nat} (hX : f_X7_coins_e o0 h = some (r, h')) : mh_MR l yX7_coins (Cond.code yX7_coins cX7_coins 1 (some (.object "MintHouse$Coins")) :: mh_TB) (mh_rm 0) [.ref o0] L h r h' :=
  mh_of (mc := 0) (ms := 0) (Qc := fun D ks sz => mh_Qr D ks L sz r h') (plainFor_of_name (by decide)) (Nat.le_of_ble_eq_true rfl) (fun p e s m below meth c D ks ls hr cx wd hl => by
    have hl : lv_has ls 1 [(0, .ref o0)] := hl
    exact w_X7_coins_e cx hr o0 h _ _ ls wd hl hX)
def f_X7_often_b25 (t0 : Int32) (h : mh_H) : Option (Int32 × mh_H) :=
  some (t0, h)
def f_X7_often_b24 (k25 : Int32 → mh_H → Option (Int32 × mh_H)) (h : mh_H) : Option (Int32 × mh_H) :=
  k25 (0 : Int32) h
def f_X7_often_e (o0 : Nat) (x1 : Int32) (h : mh_H) : Option (Int32 × mh_H) :=
  if x1 < 0 then (
  f_X7_often_b24 (f_X7_often_b25) h) else
  (mh_gR h o0 7 0).bind fun a1 =>
  mh_b2 (mh_cal h a1 1 (f_X1_count_e a1 h)) fun v3 h2 =>
  if v3 ≤ x1 then (
  f_X7_often_b24 (f_X7_often_b25) h2) else
  (mh_gR h2 o0 7 1).bind fun a4 =>
  (mh_aI h2 a4 0 x1).bind fun v5 =>
  f_X7_often_b25 v5 h2
set_option maxRecDepth 100000 in
set_option maxHeartbeats 4000000 in
theorem w_X7_often_b25 {p : Program} {l : Launch} {e : Env} {s : State} {m : MethodId} {args : Array Value} {below : List Frame} {meth : Method} {c : Code} {D : va_G} {ks : Nat → ClassId} {L : List Nat} {r : Int32} {h' : mh_H} (cx : mh_C p m c cX7_often 2 s args RX7 meth D ks (mh_A L s.heap.size)) (hr : meth.sig.returnType = (some .int)) :
    ∀ (t0 : Int32) (h : mh_H) (H : Heap) (locs : List Loc) (ls : Array Slot), mh_W D ks L (mh_A L s.heap.size) s.heap h H locs → lv_has ls 2 [] → f_X7_often_b25 t0 h = some (r, h') → W p l e (mh_rm 1) s m args below meth c H locs 0 0 (MQ below (mh_Qi D ks L s.heap.size r h') args s 0 0 (mh_A L s.heap.size)) (F0 m 25 ls [.int t0]) := by
  intro t0 h H locs ls wd hl hX
  have hx := cx.1.1
  have hb := cx.1.2.1
  unfold f_X7_often_b25 at hX
  exact mh_iret cx wd hr hX dX7_often_25
set_option maxRecDepth 100000 in
set_option maxHeartbeats 4000000 in
theorem w_X7_often_b24 {p : Program} {l : Launch} {e : Env} {s : State} {m : MethodId} {args : Array Value} {below : List Frame} {meth : Method} {c : Code} {D : va_G} {ks : Nat → ClassId} {L : List Nat} {r : Int32} {h' : mh_H} (k25 : Int32 → mh_H → Option (Int32 × mh_H)) (cx : mh_C p m c cX7_often 2 s args RX7 meth D ks (mh_A L s.heap.size)) (hr : meth.sig.returnType = (some .int))
    (hk25 : ∀ (t0 : Int32) (h : mh_H) (H : Heap) (locs : List Loc) (ls : Array Slot), mh_W D ks L (mh_A L s.heap.size) s.heap h H locs → lv_has ls 2 [] → k25 t0 h = some (r, h') → W p l e (mh_rm 1) s m args below meth c H locs 0 0 (MQ below (mh_Qi D ks L s.heap.size r h') args s 0 0 (mh_A L s.heap.size)) (F0 m 25 ls [.int t0])) :
    ∀ (h : mh_H) (H : Heap) (locs : List Loc) (ls : Array Slot), mh_W D ks L (mh_A L s.heap.size) s.heap h H locs → lv_has ls 2 [] → f_X7_often_b24 k25  h = some (r, h') → W p l e (mh_rm 1) s m args below meth c H locs 0 0 (MQ below (mh_Qi D ks L s.heap.size r h') args s 0 0 (mh_A L s.heap.size)) (F0 m 24 ls []) := by
  intro  h H locs ls wd hl hX
  have hx := cx.1.1
  have hb := cx.1.2.1
  unfold f_X7_often_b24 at hX
  refine lv_iconst (v := 0) hx hb dX7_often_24 (by decide) ?_
  exact hk25 _ h _ _ ls wd (lv_sub hl [] rfl) hX
set_option maxRecDepth 100000 in
set_option maxHeartbeats 4000000 in
theorem w_X7_often_e {p : Program} {l : Launch} {e : Env} {s : State} {m : MethodId} {args : Array Value} {below : List Frame} {meth : Method} {c : Code} {D : va_G} {ks : Nat → ClassId} {L : List Nat} {r : Int32} {h' : mh_H} (cx : mh_C p m c cX7_often 2 s args RX7 meth D ks (mh_A L s.heap.size)) (hr : meth.sig.returnType = (some .int)) :
    ∀ (o0 : Nat) (x1 : Int32) (h : mh_H) (H : Heap) (locs : List Loc) (ls : Array Slot), mh_W D ks L (mh_A L s.heap.size) s.heap h H locs → lv_has ls 2 [(0, .ref o0), (1, .int x1)] → f_X7_often_e o0 x1 h = some (r, h') → W p l e (mh_rm 1) s m args below meth c H locs 0 0 (MQ below (mh_Qi D ks L s.heap.size r h') args s 0 0 (mh_A L s.heap.size)) (F0 m 0 ls []) := by
  intro o0 x1 h H locs ls wd hl hX
  have hx := cx.1.1
  have hb := cx.1.2.1
  unfold f_X7_often_e at hX
  refine lv_iload_n hx hb dX7_often_0 rfl (lv_at hl 1 rfl) ?_
  refine lv_if_lt (tgt := 24) hx hb dX7_often_1 rfl (fun hc => (fun hX => ?_) ((mh_if hX).1 hc)) (fun hc => (fun hX => ?_) ((mh_if hX).2 hc))
  · exact w_X7_often_b24 (f_X7_often_b25) cx hr (w_X7_often_b25 cx hr)  h _ _ ls wd (lv_sub hl [] rfl) hX
  · refine lv_iload_n hx hb dX7_often_4 rfl (lv_at hl 1 rfl) ?_
    refine lv_aload_n hx hb dX7_often_5 rfl (lv_at hl 0 rfl) ?_
    refine mh_getR cx wd fl_X7_12 dX7_often_6 hX (fun a1 hX => ?_)
    refine mh_callVI cx wd [] (rfl : vwCl[1]? = some (RX1, TX1, 2)) yw_X1_count vw_X7_22 rfl hl.1 rfl (Nat.le_of_ble_eq_true rfl) dX7_often_9 ⟨Nat.le_of_ble_eq_true rfl, Nat.le_of_ble_eq_true rfl⟩ ⟨Nat.le_refl _, Nat.le_refl _⟩ (fun _ _ q => c_X1_count q) hX (fun v3 h2 H locs wd hX => ?_)
    refine lv_icmp_ge (tgt := 24) hx hb dX7_often_12 rfl (fun hc => (fun hX => ?_) ((mh_if hX).1 hc)) (fun hc => (fun hX => ?_) ((mh_if hX).2 hc))
    · exact w_X7_often_b24 (f_X7_often_b25) cx hr (w_X7_often_b25 cx hr)  h2 _ _ ls wd (lv_sub hl [] rfl) hX
    · refine lv_aload_n hx hb dX7_often_15 rfl (lv_at hl 0 rfl) ?_
      refine mh_getR cx wd fl_X7_18 dX7_often_16 hX (fun a4 hX => ?_)
      refine lv_iload_n hx hb dX7_often_19 rfl (lv_at hl 1 rfl) ?_
      refine mh_iald cx wd dX7_often_20 hX (fun v5 hX => ?_)
      refine lv_goto (tgt := 25) hx hb dX7_often_21 rfl ?_
      exact w_X7_often_b25 cx hr _ h2 _ _ ls wd (lv_sub hl [] rfl) hX
set_option maxRecDepth 100000 in
theorem c_X7_often {l : Launch} {L : List Nat} {h h' : mh_H} {r : Int32} {o0 : Nat} {x1 : Int32} (hX : f_X7_often_e o0 x1 h = some (r, h')) : mh_MI l yX7_often (Cond.code yX7_often cX7_often 2 (some .int) :: mh_TB) (mh_rm 1) [.ref o0, .int x1] L h r h' :=
  mh_of (mc := 0) (ms := 0) (Qc := fun D ks sz => mh_Qi D ks L sz r h') (plainFor_of_name (by decide)) (Nat.le_of_ble_eq_true rfl) (fun p e s m below meth c D ks ls hr cx wd hl => by
    have hl : lv_has ls 2 [(0, .ref o0), (1, .int x1)] := hl
    exact w_X7_often_e cx hr o0 x1 h _ _ ls wd hl hX)
def f_X7_copy_b36 (h : mh_H) : Option mh_H :=
  some h
def f_X7_copy_b13 : Nat → Nat → Nat → Int32 → mh_H → Option mh_H
  | 0, _, _, _, _ => none
  | n + 1, o0, o1, x2, h =>
    if (12 : Int32) ≤ x2 then (
    f_X7_copy_b36 h) else
    (mh_gR h o0 7 1).bind fun a1 =>
    mh_b2 (mh_cal h o1 7 (f_X7_often_e o1 x2 h)) fun v3 h2 =>
    (mh_sI h2 a1 x2 v3).bind fun h4 =>
    mh_nm (x2 + Int32.ofInt (1)) fun v5 =>
    f_X7_copy_b13 n o0 o1 v5 h4
def f_X7_copy_e (o0 : Nat) (o1 : Nat) (h : mh_H) : Option mh_H :=
  (mh_gR h o0 7 0).bind fun a6 =>
  mh_b2 (mh_cal h o1 7 (f_X7_coins_e o1 h)) fun a8 h7 =>
  (mh_cal h7 a6 1 (f_X1_copy_e a6 a8 h7)).bind fun h9 =>
  mh_nm (0 : Int32) fun v10 =>
  f_X7_copy_b13 mh_fu o0 o1 v10 h9
set_option maxRecDepth 100000 in
set_option maxHeartbeats 4000000 in
theorem w_X7_copy_b36 {p : Program} {l : Launch} {e : Env} {s : State} {m : MethodId} {args : Array Value} {below : List Frame} {meth : Method} {c : Code} {D : va_G} {ks : Nat → ClassId} {L : List Nat} {h' : mh_H} (cx : mh_C p m c cX7_copy 3 s args RX7 meth D ks (mh_A L s.heap.size)) (hr : meth.sig.returnType = none) :
    ∀ (h : mh_H) (H : Heap) (locs : List Loc) (ls : Array Slot), mh_W D ks L (mh_A L s.heap.size) s.heap h H locs → lv_has ls 3 [] → f_X7_copy_b36  h = some h' → W p l e (mh_rm 2) s m args below meth c H locs 0 0 (MQ below (mh_Qv D ks L s.heap.size h') args s 0 0 (mh_A L s.heap.size)) (F0 m 36 ls []) := by
  intro  h H locs ls wd hl hX
  have hx := cx.1.1
  have hb := cx.1.2.1
  unfold f_X7_copy_b36 at hX
  exact mh_vret cx wd hr hX dX7_copy_36
set_option maxRecDepth 100000 in
set_option maxHeartbeats 4000000 in
theorem w_X7_copy_b13 {p : Program} {l : Launch} {e : Env} {s : State} {m : MethodId} {args : Array Value} {below : List Frame} {meth : Method} {c : Code} {D : va_G} {ks : Nat → ClassId} {L : List Nat} {h' : mh_H} (cx : mh_C p m c cX7_copy 3 s args RX7 meth D ks (mh_A L s.heap.size)) (hr : meth.sig.returnType = none) :
    ∀ n : Nat, ∀ (o0 : Nat) (o1 : Nat) (x2 : Int32) (h : mh_H) (H : Heap) (locs : List Loc) (ls : Array Slot), mh_W D ks L (mh_A L s.heap.size) s.heap h H locs → lv_has ls 3 [(0, .ref o0), (1, .ref o1), (2, .int x2)] → f_X7_copy_b13 n o0 o1 x2 h = some h' → W p l e (mh_rm 2) s m args below meth c H locs 0 0 (MQ below (mh_Qv D ks L s.heap.size h') args s 0 0 (mh_A L s.heap.size)) (F0 m 13 ls []) := by
  intro n
  induction n with
  | zero =>
    intro o0 o1 x2 h H locs ls wd hl hX
    cases hX
  | succ n ih =>
    intro o0 o1 x2 h H locs ls wd hl hX
    have hx := cx.1.1
    have hb := cx.1.2.1
    rw [f_X7_copy_b13] at hX
    refine lv_iload_n hx hb dX7_copy_13 rfl (lv_at hl 2 rfl) ?_
    refine lv_bipush (v := 12) hx hb dX7_copy_14 (by decide) ?_
    refine lv_icmp_ge (tgt := 36) hx hb dX7_copy_16 rfl (fun hc => (fun hX => ?_) ((mh_if hX).1 hc)) (fun hc => (fun hX => ?_) ((mh_if hX).2 hc))
    · exact w_X7_copy_b36 cx hr  h _ _ ls wd (lv_sub hl [] rfl) hX
    · refine lv_aload_n hx hb dX7_copy_19 rfl (lv_at hl 0 rfl) ?_
      refine mh_getR cx wd fl_X7_18 dX7_copy_20 hX (fun a1 hX => ?_)
      refine lv_iload_n hx hb dX7_copy_23 rfl (lv_at hl 2 rfl) ?_
      refine lv_aload_n hx hb dX7_copy_24 rfl (lv_at hl 1 rfl) ?_
      refine lv_iload_n hx hb dX7_copy_25 rfl (lv_at hl 2 rfl) ?_
      refine mh_callVI cx wd [.int x2] (rfl : vwCl[7]? = some (RX7, TX7, 2)) yw_X7_often vw_X7_39 rfl hl.1 rfl (Nat.le_of_ble_eq_true rfl) dX7_copy_26 ⟨Nat.le_of_ble_eq_true rfl, Nat.le_of_ble_eq_true rfl⟩ ⟨Nat.le_refl _, Nat.le_refl _⟩ (fun _ _ q => c_X7_often q) hX (fun v3 h2 H locs wd hX => ?_)
      refine mh_iast cx wd dX7_copy_29 hX (fun h4 H locs wd hX => ?_)
      obtain ⟨v5, ev5, hX⟩ := mh_nmx hX
      refine lv_iinc (k := 2) (v := v5) (lv' := [(2, .int v5), (0, .ref o0), (1, .ref o1)]) hx hb dX7_copy_30 hl rfl ev5 (Nat.le_of_ble_eq_true rfl) rfl (fun ls hl => ?_)
      refine lv_goto (tgt := 13) hx hb dX7_copy_33 rfl ?_
      exact ih _ _ _ h4 _ _ ls wd (lv_sub hl [1, 2, 0] rfl) hX
set_option maxRecDepth 100000 in
set_option maxHeartbeats 4000000 in
theorem w_X7_copy_e {p : Program} {l : Launch} {e : Env} {s : State} {m : MethodId} {args : Array Value} {below : List Frame} {meth : Method} {c : Code} {D : va_G} {ks : Nat → ClassId} {L : List Nat} {h' : mh_H} (cx : mh_C p m c cX7_copy 3 s args RX7 meth D ks (mh_A L s.heap.size)) (hr : meth.sig.returnType = none) :
    ∀ (o0 : Nat) (o1 : Nat) (h : mh_H) (H : Heap) (locs : List Loc) (ls : Array Slot), mh_W D ks L (mh_A L s.heap.size) s.heap h H locs → lv_has ls 3 [(0, .ref o0), (1, .ref o1)] → f_X7_copy_e o0 o1 h = some h' → W p l e (mh_rm 2) s m args below meth c H locs 0 0 (MQ below (mh_Qv D ks L s.heap.size h') args s 0 0 (mh_A L s.heap.size)) (F0 m 0 ls []) := by
  intro o0 o1 h H locs ls wd hl hX
  have hx := cx.1.1
  have hb := cx.1.2.1
  unfold f_X7_copy_e at hX
  refine lv_aload_n hx hb dX7_copy_0 rfl (lv_at hl 0 rfl) ?_
  refine mh_getR cx wd fl_X7_12 dX7_copy_1 hX (fun a6 hX => ?_)
  refine lv_aload_n hx hb dX7_copy_4 rfl (lv_at hl 1 rfl) ?_
  refine mh_callVR cx wd [] (rfl : vwCl[7]? = some (RX7, TX7, 2)) yw_X7_coins vw_X7_36 rfl hl.1 rfl (Nat.le_of_ble_eq_true rfl) dX7_copy_5 ⟨Nat.le_of_ble_eq_true rfl, Nat.le_of_ble_eq_true rfl⟩ ⟨Nat.le_refl _, Nat.le_refl _⟩ (fun _ _ q => c_X7_coins q) hX (fun a8 h7 H locs wd hX => ?_)
  refine mh_callVV cx wd [.ref a8] (rfl : vwCl[1]? = some (RX1, TX1, 2)) yw_X1_copy vw_X7_26 rfl hl.1 rfl (Nat.le_of_ble_eq_true rfl) dX7_copy_8 ⟨Nat.le_of_ble_eq_true rfl, Nat.le_of_ble_eq_true rfl⟩ ⟨Nat.le_refl _, Nat.le_refl _⟩ (fun _ q => c_X1_copy q) hX (fun h9 H locs wd hX => ?_)
  refine lv_iconst (v := 0) hx hb dX7_copy_11 (by decide) ?_
  refine mh_topi hX (fun v10 hX => ?_)
  refine lv_istore_n (lv' := [(2, .int v10), (0, .ref o0), (1, .ref o1)]) hx hb dX7_copy_12 rfl hl (Nat.le_of_ble_eq_true rfl) rfl (fun ls hl => ?_)
  exact w_X7_copy_b13 cx hr mh_fu _ _ _ h9 _ _ ls wd (lv_sub hl [1, 2, 0] rfl) hX
set_option maxRecDepth 100000 in
theorem c_X7_copy {l : Launch} {L : List Nat} {h h' : mh_H} {o0 : Nat} {o1 : Nat} (hX : f_X7_copy_e o0 o1 h = some h') : mh_MV l yX7_copy (Cond.code yX7_copy cX7_copy 3 none :: mh_TB) (mh_rm 2) [.ref o0, .ref o1] L h h' :=
  mh_of (mc := 0) (ms := 0) (Qc := fun D ks sz => mh_Qv D ks L sz h') (plainFor_of_name (by decide)) (Nat.le_of_ble_eq_true rfl) (fun p e s m below meth c D ks ls hr cx wd hl => by
    have hl : lv_has ls 3 [(0, .ref o0), (1, .ref o1)] := hl
    exact w_X7_copy_e cx hr o0 o1 h _ _ ls wd hl hX)
def f_X3_begin_b62 (o0 : Nat) (x1 : Int32) (h : mh_H) : Option mh_H :=
  (mh_pI h o0 3 2 x1).bind fun h1 =>
  (mh_gI h1 o0 3 3).bind fun v2 =>
  (mh_pI h1 o0 3 3 (if (20 : Int32) < (v2 + (1 : Int32)) then (20 : Int32) else (v2 + (1 : Int32)))).bind fun h3 =>
  (mh_pI h3 o0 3 4 (0 : Int32)).bind fun h4 =>
  some h4
def f_X3_begin_b12 : Nat → Nat → Int32 → Int32 → mh_H → Option mh_H
  | 0, _, _, _, _ => none
  | n + 1, o0, x1, x2, h =>
    if (8 : Int32) ≤ x2 then (
    f_X3_begin_b62 o0 x1 h) else
    (mh_gR h o0 3 0).bind fun a5 =>
    (mh_aR h a5 3 ((x1 * (8 : Int32)) + x2)).bind fun a6 =>
    mh_b2 (mh_cal h o0 3 (f_X3_mint_e o0 x2 h)) fun a8 h7 =>
    (mh_cal h7 a6 1 (f_X1_copy_e a6 a8 h7)).bind fun h9 =>
    (mh_gR h9 o0 3 1).bind fun a10 =>
    (mh_aR h9 a10 4 ((x1 * (8 : Int32)) + x2)).bind fun a11 =>
    mh_b2 (mh_cal h9 o0 3 (f_X3_purse_e o0 x2 h9)) fun a13 h12 =>
    (mh_cal h12 a11 7 (f_X7_copy_e a11 a13 h12)).bind fun h14 =>
    mh_nm (x2 + Int32.ofInt (1)) fun v15 =>
    f_X3_begin_b12 n o0 x1 v15 h14
def f_X3_begin_e (o0 : Nat) (h : mh_H) : Option mh_H :=
  (mh_gI h o0 3 2).bind fun v16 =>
  mh_nz ((21 : Int32) = 0) <|
  mh_nm (mh_irem (v16 + (1 : Int32)) (21 : Int32)) fun v17 =>
  mh_nm (0 : Int32) fun v18 =>
  f_X3_begin_b12 mh_fu o0 v17 v18 h
set_option maxRecDepth 100000 in
set_option maxHeartbeats 4000000 in
theorem w_X3_begin_b62 {p : Program} {l : Launch} {e : Env} {s : State} {m : MethodId} {args : Array Value} {below : List Frame} {meth : Method} {c : Code} {D : va_G} {ks : Nat → ClassId} {L : List Nat} {h' : mh_H} (cx : mh_C p m c cX3_begin 3 s args RX3 meth D ks (mh_A L s.heap.size)) (hr : meth.sig.returnType = none) :
    ∀ (o0 : Nat) (x1 : Int32) (h : mh_H) (H : Heap) (locs : List Loc) (ls : Array Slot), mh_W D ks L (mh_A L s.heap.size) s.heap h H locs → lv_has ls 3 [(0, .ref o0), (1, .int x1)] → f_X3_begin_b62 o0 x1 h = some h' → W p l e (mh_rm 3) s m args below meth c H locs 0 0 (MQ below (mh_Qv D ks L s.heap.size h') args s 0 0 (mh_A L s.heap.size)) (F0 m 62 ls []) := by
  intro o0 x1 h H locs ls wd hl hX
  have hx := cx.1.1
  have hb := cx.1.2.1
  unfold f_X3_begin_b62 at hX
  refine lv_aload_n hx hb dX3_begin_62 rfl (lv_at hl 0 rfl) ?_
  refine lv_iload_n hx hb dX3_begin_63 rfl (lv_at hl 1 rfl) ?_
  refine mh_putI cx wd fp_X3_23 dX3_begin_64 hX (fun h1 H locs wd hX => ?_)
  refine lv_aload_n hx hb dX3_begin_67 rfl (lv_at hl 0 rfl) ?_
  refine lv_aload_n hx hb dX3_begin_68 rfl (lv_at hl 0 rfl) ?_
  refine mh_getI cx wd fl_X3_27 dX3_begin_69 hX (fun v2 hX => ?_)
  refine lv_iconst (v := 1) hx hb dX3_begin_72 (by decide) ?_
  refine lv_iadd hx hb dX3_begin_73 ?_
  refine lv_bipush (v := 20) hx hb dX3_begin_74 (by decide) ?_
  refine mh_mmin mh_Mok cx hl.1 km_X3_50 (Nat.le_of_ble_eq_true rfl) (Nat.le_of_ble_eq_true rfl) ⟨Nat.le_refl _, Nat.le_refl _⟩ dX3_begin_76 ?_
  refine mh_putI cx wd fp_X3_27 dX3_begin_79 hX (fun h3 H locs wd hX => ?_)
  refine lv_aload_n hx hb dX3_begin_82 rfl (lv_at hl 0 rfl) ?_
  refine lv_iconst (v := 0) hx hb dX3_begin_83 (by decide) ?_
  refine mh_putI cx wd fp_X3_30 dX3_begin_84 hX (fun h4 H locs wd hX => ?_)
  exact mh_vret cx wd hr hX dX3_begin_87
set_option maxRecDepth 100000 in
set_option maxHeartbeats 4000000 in
theorem w_X3_begin_b12 {p : Program} {l : Launch} {e : Env} {s : State} {m : MethodId} {args : Array Value} {below : List Frame} {meth : Method} {c : Code} {D : va_G} {ks : Nat → ClassId} {L : List Nat} {h' : mh_H} (cx : mh_C p m c cX3_begin 3 s args RX3 meth D ks (mh_A L s.heap.size)) (hr : meth.sig.returnType = none) :
    ∀ n : Nat, ∀ (o0 : Nat) (x1 : Int32) (x2 : Int32) (h : mh_H) (H : Heap) (locs : List Loc) (ls : Array Slot), mh_W D ks L (mh_A L s.heap.size) s.heap h H locs → lv_has ls 3 [(0, .ref o0), (1, .int x1), (2, .int x2)] → f_X3_begin_b12 n o0 x1 x2 h = some h' → W p l e (mh_rm 3) s m args below meth c H locs 0 0 (MQ below (mh_Qv D ks L s.heap.size h') args s 0 0 (mh_A L s.heap.size)) (F0 m 12 ls []) := by
  intro n
  induction n with
  | zero =>
    intro o0 x1 x2 h H locs ls wd hl hX
    cases hX
  | succ n ih =>
    intro o0 x1 x2 h H locs ls wd hl hX
    have hx := cx.1.1
    have hb := cx.1.2.1
    rw [f_X3_begin_b12] at hX
    refine lv_iload_n hx hb dX3_begin_12 rfl (lv_at hl 2 rfl) ?_
    refine lv_bipush (v := 8) hx hb dX3_begin_13 (by decide) ?_
    refine lv_icmp_ge (tgt := 62) hx hb dX3_begin_15 rfl (fun hc => (fun hX => ?_) ((mh_if hX).1 hc)) (fun hc => (fun hX => ?_) ((mh_if hX).2 hc))
    · exact w_X3_begin_b62 cx hr _ _ h _ _ ls wd (lv_sub hl [0, 1] rfl) hX
    · refine lv_aload_n hx hb dX3_begin_18 rfl (lv_at hl 0 rfl) ?_
      refine mh_getR cx wd fl_X3_13 dX3_begin_19 hX (fun a5 hX => ?_)
      refine lv_iload_n hx hb dX3_begin_22 rfl (lv_at hl 1 rfl) ?_
      refine lv_bipush (v := 8) hx hb dX3_begin_23 (by decide) ?_
      refine lv_imul hx hb dX3_begin_25 ?_
      refine lv_iload_n hx hb dX3_begin_26 rfl (lv_at hl 2 rfl) ?_
      refine lv_iadd hx hb dX3_begin_27 ?_
      refine mh_aald cx wd 3 rfl rfl dX3_begin_28 hX (fun a6 hX => ?_)
      refine lv_aload_n hx hb dX3_begin_29 rfl (lv_at hl 0 rfl) ?_
      refine lv_iload_n hx hb dX3_begin_30 rfl (lv_at hl 2 rfl) ?_
      refine mh_callVR cx wd [.int x2] (rfl : vwCl[3]? = some (RX3, TX3, 5)) yw_X3_mint vw_X3_35 rfl hl.1 rfl (Nat.le_of_ble_eq_true rfl) dX3_begin_31 ⟨Nat.le_of_ble_eq_true rfl, Nat.le_of_ble_eq_true rfl⟩ ⟨Nat.le_refl _, Nat.le_refl _⟩ (fun _ _ q => c_X3_mint q) hX (fun a8 h7 H locs wd hX => ?_)
      refine mh_callVV cx wd [.ref a8] (rfl : vwCl[1]? = some (RX1, TX1, 2)) yw_X1_copy vw_X3_39 rfl hl.1 rfl (Nat.le_of_ble_eq_true rfl) dX3_begin_34 ⟨Nat.le_of_ble_eq_true rfl, Nat.le_of_ble_eq_true rfl⟩ ⟨Nat.le_refl _, Nat.le_refl _⟩ (fun _ q => c_X1_copy q) hX (fun h9 H locs wd hX => ?_)
      refine lv_aload_n hx hb dX3_begin_37 rfl (lv_at hl 0 rfl) ?_
      refine mh_getR cx wd fl_X3_19 dX3_begin_38 hX (fun a10 hX => ?_)
      refine lv_iload_n hx hb dX3_begin_41 rfl (lv_at hl 1 rfl) ?_
      refine lv_bipush (v := 8) hx hb dX3_begin_42 (by decide) ?_
      refine lv_imul hx hb dX3_begin_44 ?_
      refine lv_iload_n hx hb dX3_begin_45 rfl (lv_at hl 2 rfl) ?_
      refine lv_iadd hx hb dX3_begin_46 ?_
      refine mh_aald cx wd 4 rfl rfl dX3_begin_47 hX (fun a11 hX => ?_)
      refine lv_aload_n hx hb dX3_begin_48 rfl (lv_at hl 0 rfl) ?_
      refine lv_iload_n hx hb dX3_begin_49 rfl (lv_at hl 2 rfl) ?_
      refine mh_callVR cx wd [.int x2] (rfl : vwCl[3]? = some (RX3, TX3, 5)) yw_X3_purse vw_X3_43 rfl hl.1 rfl (Nat.le_of_ble_eq_true rfl) dX3_begin_50 ⟨Nat.le_of_ble_eq_true rfl, Nat.le_of_ble_eq_true rfl⟩ ⟨Nat.le_refl _, Nat.le_refl _⟩ (fun _ _ q => c_X3_purse q) hX (fun a13 h12 H locs wd hX => ?_)
      refine mh_callVV cx wd [.ref a13] (rfl : vwCl[7]? = some (RX7, TX7, 2)) yw_X7_copy vw_X3_47 rfl hl.1 rfl (Nat.le_of_ble_eq_true rfl) dX3_begin_53 ⟨Nat.le_of_ble_eq_true rfl, Nat.le_of_ble_eq_true rfl⟩ ⟨Nat.le_refl _, Nat.le_refl _⟩ (fun _ q => c_X7_copy q) hX (fun h14 H locs wd hX => ?_)
      obtain ⟨v15, ev15, hX⟩ := mh_nmx hX
      refine lv_iinc (k := 2) (v := v15) (lv' := [(2, .int v15), (0, .ref o0), (1, .int x1)]) hx hb dX3_begin_56 hl rfl ev15 (Nat.le_of_ble_eq_true rfl) rfl (fun ls hl => ?_)
      refine lv_goto (tgt := 12) hx hb dX3_begin_59 rfl ?_
      exact ih _ _ _ h14 _ _ ls wd (lv_sub hl [1, 2, 0] rfl) hX
set_option maxRecDepth 100000 in
set_option maxHeartbeats 4000000 in
theorem w_X3_begin_e {p : Program} {l : Launch} {e : Env} {s : State} {m : MethodId} {args : Array Value} {below : List Frame} {meth : Method} {c : Code} {D : va_G} {ks : Nat → ClassId} {L : List Nat} {h' : mh_H} (cx : mh_C p m c cX3_begin 3 s args RX3 meth D ks (mh_A L s.heap.size)) (hr : meth.sig.returnType = none) :
    ∀ (o0 : Nat) (h : mh_H) (H : Heap) (locs : List Loc) (ls : Array Slot), mh_W D ks L (mh_A L s.heap.size) s.heap h H locs → lv_has ls 3 [(0, .ref o0)] → f_X3_begin_e o0 h = some h' → W p l e (mh_rm 3) s m args below meth c H locs 0 0 (MQ below (mh_Qv D ks L s.heap.size h') args s 0 0 (mh_A L s.heap.size)) (F0 m 0 ls []) := by
  intro o0 h H locs ls wd hl hX
  have hx := cx.1.1
  have hb := cx.1.2.1
  unfold f_X3_begin_e at hX
  refine lv_aload_n hx hb dX3_begin_0 rfl (lv_at hl 0 rfl) ?_
  refine mh_getI cx wd fl_X3_23 dX3_begin_1 hX (fun v16 hX => ?_)
  refine lv_iconst (v := 1) hx hb dX3_begin_4 (by decide) ?_
  refine lv_iadd hx hb dX3_begin_5 ?_
  refine lv_bipush (v := 21) hx hb dX3_begin_6 (by decide) ?_
  obtain ⟨hz, hX⟩ := mh_nzk hX
  refine lv_irem hx hb dX3_begin_8 hz ?_
  refine mh_topi hX (fun v17 hX => ?_)
  refine lv_istore_n (lv' := [(1, .int v17), (0, .ref o0)]) hx hb dX3_begin_9 rfl hl (Nat.le_of_ble_eq_true rfl) rfl (fun ls hl => ?_)
  refine lv_iconst (v := 0) hx hb dX3_begin_10 (by decide) ?_
  refine mh_topi hX (fun v18 hX => ?_)
  refine lv_istore_n (lv' := [(2, .int v18), (1, .int v17), (0, .ref o0)]) hx hb dX3_begin_11 rfl hl (Nat.le_of_ble_eq_true rfl) rfl (fun ls hl => ?_)
  exact w_X3_begin_b12 cx hr mh_fu _ _ _ h _ _ ls wd (lv_sub hl [2, 1, 0] rfl) hX
set_option maxRecDepth 100000 in
theorem c_X3_begin {l : Launch} {L : List Nat} {h h' : mh_H} {o0 : Nat} (hX : f_X3_begin_e o0 h = some h') : mh_MV l yX3_begin (Cond.code yX3_begin cX3_begin 3 none :: mh_TB) (mh_rm 3) [.ref o0] L h h' :=
  mh_of (mc := 0) (ms := 0) (Qc := fun D ks sz => mh_Qv D ks L sz h') (plainFor_of_name (by decide)) (Nat.le_of_ble_eq_true rfl) (fun p e s m below meth c D ks ls hr cx wd hl => by
    have hl : lv_has ls 3 [(0, .ref o0)] := hl
    exact w_X3_begin_e cx hr o0 h _ _ ls wd hl hX)
def f_X3_back_e (o0 : Nat) (h : mh_H) : Option (Int32 × mh_H) :=
  (mh_gI h o0 3 3).bind fun v1 =>
  if v1 = 0 then (
  mh_rz (0 : Int32) h) else
  (mh_gI h o0 3 2).bind fun v2 =>
  mh_nz ((21 : Int32) = 0) <|
  (mh_pI h o0 3 2 (mh_irem ((v2 + (21 : Int32)) - (1 : Int32)) (21 : Int32))).bind fun h3 =>
  (mh_gI h3 o0 3 3).bind fun v4 =>
  (mh_pI h3 o0 3 3 (v4 - (1 : Int32))).bind fun h5 =>
  (mh_gI h5 o0 3 4).bind fun v6 =>
  (mh_pI h5 o0 3 4 (v6 + (1 : Int32))).bind fun h7 =>
  mh_rz (1 : Int32) h7
set_option maxRecDepth 100000 in
set_option maxHeartbeats 4000000 in
theorem w_X3_back_e {p : Program} {l : Launch} {e : Env} {s : State} {m : MethodId} {args : Array Value} {below : List Frame} {meth : Method} {c : Code} {D : va_G} {ks : Nat → ClassId} {L : List Nat} {r : Int32} {h' : mh_H} (cx : mh_C p m c cX3_back 1 s args RX3 meth D ks (mh_A L s.heap.size)) (hr : meth.sig.returnType = (some .boolean)) :
    ∀ (o0 : Nat) (h : mh_H) (H : Heap) (locs : List Loc) (ls : Array Slot), mh_W D ks L (mh_A L s.heap.size) s.heap h H locs → lv_has ls 1 [(0, .ref o0)] → f_X3_back_e o0 h = some (r, h') → W p l e (mh_rm 0) s m args below meth c H locs 0 0 (MQ below (mh_Qi D ks L s.heap.size r h') args s 0 0 (mh_A L s.heap.size)) (F0 m 0 ls []) := by
  intro o0 h H locs ls wd hl hX
  have hx := cx.1.1
  have hb := cx.1.2.1
  unfold f_X3_back_e at hX
  refine lv_aload_n hx hb dX3_back_0 rfl (lv_at hl 0 rfl) ?_
  refine mh_getI cx wd fl_X3_27 dX3_back_1 hX (fun v1 hX => ?_)
  refine lv_if_ne (tgt := 9) hx hb dX3_back_4 rfl (fun hc => (fun hX => ?_) ((mh_if hX).2 hc)) (fun hc => (fun hX => ?_) ((mh_if hX).1 hc))
  · refine lv_aload_n hx hb dX3_back_9 rfl (lv_at hl 0 rfl) ?_
    refine lv_aload_n hx hb dX3_back_10 rfl (lv_at hl 0 rfl) ?_
    refine mh_getI cx wd fl_X3_23 dX3_back_11 hX (fun v2 hX => ?_)
    refine lv_bipush (v := 21) hx hb dX3_back_14 (by decide) ?_
    refine lv_iadd hx hb dX3_back_16 ?_
    refine lv_iconst (v := 1) hx hb dX3_back_17 (by decide) ?_
    refine lv_isub hx hb dX3_back_18 ?_
    refine lv_bipush (v := 21) hx hb dX3_back_19 (by decide) ?_
    obtain ⟨hz, hX⟩ := mh_nzk hX
    refine lv_irem hx hb dX3_back_21 hz ?_
    refine mh_putI cx wd fp_X3_23 dX3_back_22 hX (fun h3 H locs wd hX => ?_)
    refine lv_aload_n hx hb dX3_back_25 rfl (lv_at hl 0 rfl) ?_
    refine lv_dup hx hb dX3_back_26 rfl ?_
    refine mh_getI cx wd fl_X3_27 dX3_back_27 hX (fun v4 hX => ?_)
    refine lv_iconst (v := 1) hx hb dX3_back_30 (by decide) ?_
    refine lv_isub hx hb dX3_back_31 ?_
    refine mh_putI cx wd fp_X3_27 dX3_back_32 hX (fun h5 H locs wd hX => ?_)
    refine lv_aload_n hx hb dX3_back_35 rfl (lv_at hl 0 rfl) ?_
    refine lv_dup hx hb dX3_back_36 rfl ?_
    refine mh_getI cx wd fl_X3_30 dX3_back_37 hX (fun v6 hX => ?_)
    refine lv_iconst (v := 1) hx hb dX3_back_40 (by decide) ?_
    refine lv_iadd hx hb dX3_back_41 ?_
    refine mh_putI cx wd fp_X3_30 dX3_back_42 hX (fun h7 H locs wd hX => ?_)
    refine lv_iconst (v := 1) hx hb dX3_back_45 (by decide) ?_
    exact mh_zret cx wd hr hX dX3_back_46
  · refine lv_iconst (v := 0) hx hb dX3_back_7 (by decide) ?_
    exact mh_zret cx wd hr hX dX3_back_8
set_option maxRecDepth 100000 in
theorem c_X3_back {l : Launch} {L : List Nat} {h h' : mh_H} {r : Int32} {o0 : Nat} (hX : f_X3_back_e o0 h = some (r, h')) : mh_MI l yX3_back (Cond.code yX3_back cX3_back 1 (some .boolean) :: mh_TB) (mh_rm 0) [.ref o0] L h r h' :=
  mh_of (mc := 0) (ms := 0) (Qc := fun D ks sz => mh_Qi D ks L sz r h') (plainFor_of_name (by decide)) (Nat.le_of_ble_eq_true rfl) (fun p e s m below meth c D ks ls hr cx wd hl => by
    have hl : lv_has ls 1 [(0, .ref o0)] := hl
    exact w_X3_back_e cx hr o0 h _ _ ls wd hl hX)
def f_X3_forth_e (o0 : Nat) (h : mh_H) : Option (Int32 × mh_H) :=
  (mh_gI h o0 3 4).bind fun v1 =>
  if v1 = 0 then (
  mh_rz (0 : Int32) h) else
  (mh_gI h o0 3 2).bind fun v2 =>
  mh_nz ((21 : Int32) = 0) <|
  (mh_pI h o0 3 2 (mh_irem (v2 + (1 : Int32)) (21 : Int32))).bind fun h3 =>
  (mh_gI h3 o0 3 3).bind fun v4 =>
  (mh_pI h3 o0 3 3 (v4 + (1 : Int32))).bind fun h5 =>
  (mh_gI h5 o0 3 4).bind fun v6 =>
  (mh_pI h5 o0 3 4 (v6 - (1 : Int32))).bind fun h7 =>
  mh_rz (1 : Int32) h7
set_option maxRecDepth 100000 in
set_option maxHeartbeats 4000000 in
theorem w_X3_forth_e {p : Program} {l : Launch} {e : Env} {s : State} {m : MethodId} {args : Array Value} {below : List Frame} {meth : Method} {c : Code} {D : va_G} {ks : Nat → ClassId} {L : List Nat} {r : Int32} {h' : mh_H} (cx : mh_C p m c cX3_forth 1 s args RX3 meth D ks (mh_A L s.heap.size)) (hr : meth.sig.returnType = (some .boolean)) :
    ∀ (o0 : Nat) (h : mh_H) (H : Heap) (locs : List Loc) (ls : Array Slot), mh_W D ks L (mh_A L s.heap.size) s.heap h H locs → lv_has ls 1 [(0, .ref o0)] → f_X3_forth_e o0 h = some (r, h') → W p l e (mh_rm 0) s m args below meth c H locs 0 0 (MQ below (mh_Qi D ks L s.heap.size r h') args s 0 0 (mh_A L s.heap.size)) (F0 m 0 ls []) := by
  intro o0 h H locs ls wd hl hX
  have hx := cx.1.1
  have hb := cx.1.2.1
  unfold f_X3_forth_e at hX
  refine lv_aload_n hx hb dX3_forth_0 rfl (lv_at hl 0 rfl) ?_
  refine mh_getI cx wd fl_X3_30 dX3_forth_1 hX (fun v1 hX => ?_)
  refine lv_if_ne (tgt := 9) hx hb dX3_forth_4 rfl (fun hc => (fun hX => ?_) ((mh_if hX).2 hc)) (fun hc => (fun hX => ?_) ((mh_if hX).1 hc))
  · refine lv_aload_n hx hb dX3_forth_9 rfl (lv_at hl 0 rfl) ?_
    refine lv_aload_n hx hb dX3_forth_10 rfl (lv_at hl 0 rfl) ?_
    refine mh_getI cx wd fl_X3_23 dX3_forth_11 hX (fun v2 hX => ?_)
    refine lv_iconst (v := 1) hx hb dX3_forth_14 (by decide) ?_
    refine lv_iadd hx hb dX3_forth_15 ?_
    refine lv_bipush (v := 21) hx hb dX3_forth_16 (by decide) ?_
    obtain ⟨hz, hX⟩ := mh_nzk hX
    refine lv_irem hx hb dX3_forth_18 hz ?_
    refine mh_putI cx wd fp_X3_23 dX3_forth_19 hX (fun h3 H locs wd hX => ?_)
    refine lv_aload_n hx hb dX3_forth_22 rfl (lv_at hl 0 rfl) ?_
    refine lv_dup hx hb dX3_forth_23 rfl ?_
    refine mh_getI cx wd fl_X3_27 dX3_forth_24 hX (fun v4 hX => ?_)
    refine lv_iconst (v := 1) hx hb dX3_forth_27 (by decide) ?_
    refine lv_iadd hx hb dX3_forth_28 ?_
    refine mh_putI cx wd fp_X3_27 dX3_forth_29 hX (fun h5 H locs wd hX => ?_)
    refine lv_aload_n hx hb dX3_forth_32 rfl (lv_at hl 0 rfl) ?_
    refine lv_dup hx hb dX3_forth_33 rfl ?_
    refine mh_getI cx wd fl_X3_30 dX3_forth_34 hX (fun v6 hX => ?_)
    refine lv_iconst (v := 1) hx hb dX3_forth_37 (by decide) ?_
    refine lv_isub hx hb dX3_forth_38 ?_
    refine mh_putI cx wd fp_X3_30 dX3_forth_39 hX (fun h7 H locs wd hX => ?_)
    refine lv_iconst (v := 1) hx hb dX3_forth_42 (by decide) ?_
    exact mh_zret cx wd hr hX dX3_forth_43
  · refine lv_iconst (v := 0) hx hb dX3_forth_7 (by decide) ?_
    exact mh_zret cx wd hr hX dX3_forth_8
set_option maxRecDepth 100000 in
theorem c_X3_forth {l : Launch} {L : List Nat} {h h' : mh_H} {r : Int32} {o0 : Nat} (hX : f_X3_forth_e o0 h = some (r, h')) : mh_MI l yX3_forth (Cond.code yX3_forth cX3_forth 1 (some .boolean) :: mh_TB) (mh_rm 0) [.ref o0] L h r h' :=
  mh_of (mc := 0) (ms := 0) (Qc := fun D ks sz => mh_Qi D ks L sz r h') (plainFor_of_name (by decide)) (Nat.le_of_ble_eq_true rfl) (fun p e s m below meth c D ks ls hr cx wd hl => by
    have hl : lv_has ls 1 [(0, .ref o0)] := hl
    exact w_X3_forth_e cx hr o0 h _ _ ls wd hl hX)
def f_X4_take_b41 (h : mh_H) : Option mh_H :=
  some h
def f_X4_take_b10 : Nat → Nat → Nat → Int32 → mh_H → Option mh_H
  | 0, _, _, _, _ => none
  | n + 1, o0, o1, x3, h =>
    mh_b2 (mh_cal h o1 1 (f_X1_count_e o1 h)) fun v2 h1 =>
    if v2 ≤ x3 then (
    f_X4_take_b41 h1) else
    (mh_gR h1 o0 4 0).bind fun a3 =>
    mh_b2 (mh_cal h1 o1 1 (f_X1_value_e o1 x3 h1)) fun v5 h4 =>
    mh_b2 (mh_cal h4 o1 1 (f_X1_value_e o1 x3 h4)) fun v7 h6 =>
    (mh_cal h6 a3 0 (f_X0_allow_e a3 v5 v7 h6)).bind fun h8 =>
    mh_nm (x3 + Int32.ofInt (1)) fun v9 =>
    f_X4_take_b10 n o0 o1 v9 h8
def f_X4_take_e (o0 : Nat) (o1 : Nat) (x2 : Int32) (h : mh_H) : Option mh_H :=
  (mh_gR h o0 4 0).bind fun a10 =>
  (mh_cal h a10 0 (f_X0_start_e a10 x2 h)).bind fun h11 =>
  mh_nm (0 : Int32) fun v12 =>
  f_X4_take_b10 mh_fu o0 o1 v12 h11
set_option maxRecDepth 100000 in
set_option maxHeartbeats 4000000 in
theorem w_X4_take_b41 {p : Program} {l : Launch} {e : Env} {s : State} {m : MethodId} {args : Array Value} {below : List Frame} {meth : Method} {c : Code} {D : va_G} {ks : Nat → ClassId} {L : List Nat} {h' : mh_H} (cx : mh_C p m c cX4_take 4 s args RX4 meth D ks (mh_A L s.heap.size)) (hr : meth.sig.returnType = none) :
    ∀ (h : mh_H) (H : Heap) (locs : List Loc) (ls : Array Slot), mh_W D ks L (mh_A L s.heap.size) s.heap h H locs → lv_has ls 4 [] → f_X4_take_b41  h = some h' → W p l e (mh_rm 2) s m args below meth c H locs 0 0 (MQ below (mh_Qv D ks L s.heap.size h') args s 0 0 (mh_A L s.heap.size)) (F0 m 41 ls []) := by
  intro  h H locs ls wd hl hX
  have hx := cx.1.1
  have hb := cx.1.2.1
  unfold f_X4_take_b41 at hX
  exact mh_vret cx wd hr hX dX4_take_41
set_option maxRecDepth 100000 in
set_option maxHeartbeats 4000000 in
theorem w_X4_take_b10 {p : Program} {l : Launch} {e : Env} {s : State} {m : MethodId} {args : Array Value} {below : List Frame} {meth : Method} {c : Code} {D : va_G} {ks : Nat → ClassId} {L : List Nat} {h' : mh_H} (cx : mh_C p m c cX4_take 4 s args RX4 meth D ks (mh_A L s.heap.size)) (hr : meth.sig.returnType = none) :
    ∀ n : Nat, ∀ (o0 : Nat) (o1 : Nat) (x3 : Int32) (h : mh_H) (H : Heap) (locs : List Loc) (ls : Array Slot), mh_W D ks L (mh_A L s.heap.size) s.heap h H locs → lv_has ls 4 [(0, .ref o0), (1, .ref o1), (3, .int x3)] → f_X4_take_b10 n o0 o1 x3 h = some h' → W p l e (mh_rm 2) s m args below meth c H locs 0 0 (MQ below (mh_Qv D ks L s.heap.size h') args s 0 0 (mh_A L s.heap.size)) (F0 m 10 ls []) := by
  intro n
  induction n with
  | zero =>
    intro o0 o1 x3 h H locs ls wd hl hX
    cases hX
  | succ n ih =>
    intro o0 o1 x3 h H locs ls wd hl hX
    have hx := cx.1.1
    have hb := cx.1.2.1
    rw [f_X4_take_b10] at hX
    refine lv_iload_n hx hb dX4_take_10 rfl (lv_at hl 2 rfl) ?_
    refine lv_aload_n hx hb dX4_take_11 rfl (lv_at hl 1 rfl) ?_
    refine mh_callVI cx wd [] (rfl : vwCl[1]? = some (RX1, TX1, 2)) yw_X1_count vw_X4_20 rfl hl.1 rfl (Nat.le_of_ble_eq_true rfl) dX4_take_12 ⟨Nat.le_of_ble_eq_true rfl, Nat.le_of_ble_eq_true rfl⟩ ⟨Nat.le_refl _, Nat.le_refl _⟩ (fun _ _ q => c_X1_count q) hX (fun v2 h1 H locs wd hX => ?_)
    refine lv_icmp_ge (tgt := 41) hx hb dX4_take_15 rfl (fun hc => (fun hX => ?_) ((mh_if hX).1 hc)) (fun hc => (fun hX => ?_) ((mh_if hX).2 hc))
    · exact w_X4_take_b41 cx hr  h1 _ _ ls wd (lv_sub hl [] rfl) hX
    · refine lv_aload_n hx hb dX4_take_18 rfl (lv_at hl 0 rfl) ?_
      refine mh_getR cx wd fl_X4_10 dX4_take_19 hX (fun a3 hX => ?_)
      refine lv_aload_n hx hb dX4_take_22 rfl (lv_at hl 1 rfl) ?_
      refine lv_iload_n hx hb dX4_take_23 rfl (lv_at hl 2 rfl) ?_
      refine mh_callVI cx wd [.int x3] (rfl : vwCl[1]? = some (RX1, TX1, 2)) yw_X1_value vw_X4_26 rfl hl.1 rfl (Nat.le_of_ble_eq_true rfl) dX4_take_24 ⟨Nat.le_of_ble_eq_true rfl, Nat.le_of_ble_eq_true rfl⟩ ⟨Nat.le_refl _, Nat.le_refl _⟩ (fun _ _ q => c_X1_value q) hX (fun v5 h4 H locs wd hX => ?_)
      refine lv_aload_n hx hb dX4_take_27 rfl (lv_at hl 1 rfl) ?_
      refine lv_iload_n hx hb dX4_take_28 rfl (lv_at hl 2 rfl) ?_
      refine mh_callVI cx wd [.int x3] (rfl : vwCl[1]? = some (RX1, TX1, 2)) yw_X1_value vw_X4_26 rfl hl.1 rfl (Nat.le_of_ble_eq_true rfl) dX4_take_29 ⟨Nat.le_of_ble_eq_true rfl, Nat.le_of_ble_eq_true rfl⟩ ⟨Nat.le_refl _, Nat.le_refl _⟩ (fun _ _ q => c_X1_value q) hX (fun v7 h6 H locs wd hX => ?_)
      refine mh_callVV cx wd [.int v5, .int v7] (rfl : vwCl[0]? = some (RX0, TX0, 2)) yw_X0_allow vw_X4_30 rfl hl.1 rfl (Nat.le_of_ble_eq_true rfl) dX4_take_32 ⟨Nat.le_of_ble_eq_true rfl, Nat.le_of_ble_eq_true rfl⟩ ⟨Nat.le_refl _, Nat.le_refl _⟩ (fun _ q => c_X0_allow q) hX (fun h8 H locs wd hX => ?_)
      obtain ⟨v9, ev9, hX⟩ := mh_nmx hX
      refine lv_iinc (k := 2) (v := v9) (lv' := [(3, .int v9), (0, .ref o0), (1, .ref o1)]) hx hb dX4_take_35 hl rfl ev9 (Nat.le_of_ble_eq_true rfl) rfl (fun ls hl => ?_)
      refine lv_goto (tgt := 10) hx hb dX4_take_38 rfl ?_
      exact ih _ _ _ h8 _ _ ls wd (lv_sub hl [1, 2, 0] rfl) hX
set_option maxRecDepth 100000 in
set_option maxHeartbeats 4000000 in
theorem w_X4_take_e {p : Program} {l : Launch} {e : Env} {s : State} {m : MethodId} {args : Array Value} {below : List Frame} {meth : Method} {c : Code} {D : va_G} {ks : Nat → ClassId} {L : List Nat} {h' : mh_H} (cx : mh_C p m c cX4_take 4 s args RX4 meth D ks (mh_A L s.heap.size)) (hr : meth.sig.returnType = none) :
    ∀ (o0 : Nat) (o1 : Nat) (x2 : Int32) (h : mh_H) (H : Heap) (locs : List Loc) (ls : Array Slot), mh_W D ks L (mh_A L s.heap.size) s.heap h H locs → lv_has ls 4 [(0, .ref o0), (1, .ref o1), (2, .int x2)] → f_X4_take_e o0 o1 x2 h = some h' → W p l e (mh_rm 2) s m args below meth c H locs 0 0 (MQ below (mh_Qv D ks L s.heap.size h') args s 0 0 (mh_A L s.heap.size)) (F0 m 0 ls []) := by
  intro o0 o1 x2 h H locs ls wd hl hX
  have hx := cx.1.1
  have hb := cx.1.2.1
  unfold f_X4_take_e at hX
  refine lv_aload_n hx hb dX4_take_0 rfl (lv_at hl 0 rfl) ?_
  refine mh_getR cx wd fl_X4_10 dX4_take_1 hX (fun a10 hX => ?_)
  refine lv_iload_n hx hb dX4_take_4 rfl (lv_at hl 2 rfl) ?_
  refine mh_callVV cx wd [.int x2] (rfl : vwCl[0]? = some (RX0, TX0, 2)) yw_X0_start vw_X4_16 rfl hl.1 rfl (Nat.le_of_ble_eq_true rfl) dX4_take_5 ⟨Nat.le_of_ble_eq_true rfl, Nat.le_of_ble_eq_true rfl⟩ ⟨Nat.le_refl _, Nat.le_refl _⟩ (fun _ q => c_X0_start q) hX (fun h11 H locs wd hX => ?_)
  refine lv_iconst (v := 0) hx hb dX4_take_8 (by decide) ?_
  refine mh_topi hX (fun v12 hX => ?_)
  refine lv_istore_n (lv' := [(3, .int v12), (0, .ref o0), (1, .ref o1), (2, .int x2)]) hx hb dX4_take_9 rfl hl (Nat.le_of_ble_eq_true rfl) rfl (fun ls hl => ?_)
  exact w_X4_take_b10 cx hr mh_fu _ _ _ h11 _ _ ls wd (lv_sub hl [1, 2, 0] rfl) hX
set_option maxRecDepth 100000 in
theorem c_X4_take {l : Launch} {L : List Nat} {h h' : mh_H} {o0 : Nat} {o1 : Nat} {x2 : Int32} (hX : f_X4_take_e o0 o1 x2 h = some h') : mh_MV l yX4_take (Cond.code yX4_take cX4_take 4 none :: mh_TB) (mh_rm 2) [.ref o0, .ref o1, .int x2] L h h' :=
  mh_of (mc := 0) (ms := 0) (Qc := fun D ks sz => mh_Qv D ks L sz h') (plainFor_of_name (by decide)) (Nat.le_of_ble_eq_true rfl) (fun p e s m below meth c D ks ls hr cx wd hl => by
    have hl : lv_has ls 4 [(0, .ref o0), (1, .ref o1), (2, .int x2)] := hl
    exact w_X4_take_e cx hr o0 o1 x2 h _ _ ls wd hl hX)
def f_X4_least_e (o0 : Nat) (x1 : Int32) (h : mh_H) : Option (Int32 × mh_H) :=
  (mh_gR h o0 4 0).bind fun a1 =>
  mh_b2 (mh_cal h a1 0 (f_X0_weight_e a1 x1 h)) fun v3 h2 =>
  some (v3, h2)
set_option maxRecDepth 100000 in
set_option maxHeartbeats 4000000 in
theorem w_X4_least_e {p : Program} {l : Launch} {e : Env} {s : State} {m : MethodId} {args : Array Value} {below : List Frame} {meth : Method} {c : Code} {D : va_G} {ks : Nat → ClassId} {L : List Nat} {r : Int32} {h' : mh_H} (cx : mh_C p m c cX4_least 2 s args RX4 meth D ks (mh_A L s.heap.size)) (hr : meth.sig.returnType = (some .int)) :
    ∀ (o0 : Nat) (x1 : Int32) (h : mh_H) (H : Heap) (locs : List Loc) (ls : Array Slot), mh_W D ks L (mh_A L s.heap.size) s.heap h H locs → lv_has ls 2 [(0, .ref o0), (1, .int x1)] → f_X4_least_e o0 x1 h = some (r, h') → W p l e (mh_rm 1) s m args below meth c H locs 0 0 (MQ below (mh_Qi D ks L s.heap.size r h') args s 0 0 (mh_A L s.heap.size)) (F0 m 0 ls []) := by
  intro o0 x1 h H locs ls wd hl hX
  have hx := cx.1.1
  have hb := cx.1.2.1
  unfold f_X4_least_e at hX
  refine lv_aload_n hx hb dX4_least_0 rfl (lv_at hl 0 rfl) ?_
  refine mh_getR cx wd fl_X4_10 dX4_least_1 hX (fun a1 hX => ?_)
  refine lv_iload_n hx hb dX4_least_4 rfl (lv_at hl 1 rfl) ?_
  refine mh_callVI cx wd [.int x1] (rfl : vwCl[0]? = some (RX0, TX0, 2)) yw_X0_weight vw_X4_34 rfl hl.1 rfl (Nat.le_of_ble_eq_true rfl) dX4_least_5 ⟨Nat.le_of_ble_eq_true rfl, Nat.le_of_ble_eq_true rfl⟩ ⟨Nat.le_refl _, Nat.le_refl _⟩ (fun _ _ q => c_X0_weight q) hX (fun v3 h2 H locs wd hX => ?_)
  exact mh_iret cx wd hr hX dX4_least_8
set_option maxRecDepth 100000 in
theorem c_X4_least {l : Launch} {L : List Nat} {h h' : mh_H} {r : Int32} {o0 : Nat} {x1 : Int32} (hX : f_X4_least_e o0 x1 h = some (r, h')) : mh_MI l yX4_least (Cond.code yX4_least cX4_least 2 (some .int) :: mh_TB) (mh_rm 1) [.ref o0, .int x1] L h r h' :=
  mh_of (mc := 0) (ms := 0) (Qc := fun D ks sz => mh_Qi D ks L sz r h') (plainFor_of_name (by decide)) (Nat.le_of_ble_eq_true rfl) (fun p e s m below meth c D ks ls hr cx wd hl => by
    have hl : lv_has ls 2 [(0, .ref o0), (1, .int x1)] := hl
    exact w_X4_least_e cx hr o0 x1 h _ _ ls wd hl hX)
def f_X4_reaches_b26 (t0 : Int32) (h : mh_H) : Option (Int32 × mh_H) :=
  mh_rz t0 h
def f_X4_reaches_b25 (k26 : Int32 → mh_H → Option (Int32 × mh_H)) (h : mh_H) : Option (Int32 × mh_H) :=
  k26 (0 : Int32) h
def f_X4_reaches_e (o0 : Nat) (x1 : Int32) (h : mh_H) : Option (Int32 × mh_H) :=
  if x1 < 0 then (
  f_X4_reaches_b25 (f_X4_reaches_b26) h) else
  (mh_gR h o0 4 0).bind fun a1 =>
  mh_b2 (mh_cal h a1 0 (f_X0_modulus_e a1 h)) fun v3 h2 =>
  mh_nz (v3 = 0) <|
  mh_b2 (mh_cal h2 o0 4 (f_X4_least_e o0 (mh_irem x1 v3) h2)) fun v5 h4 =>
  if x1 < v5 then (
  f_X4_reaches_b25 (f_X4_reaches_b26) h4) else
  f_X4_reaches_b26 (1 : Int32) h4
set_option maxRecDepth 100000 in
set_option maxHeartbeats 4000000 in
theorem w_X4_reaches_b26 {p : Program} {l : Launch} {e : Env} {s : State} {m : MethodId} {args : Array Value} {below : List Frame} {meth : Method} {c : Code} {D : va_G} {ks : Nat → ClassId} {L : List Nat} {r : Int32} {h' : mh_H} (cx : mh_C p m c cX4_reaches 2 s args RX4 meth D ks (mh_A L s.heap.size)) (hr : meth.sig.returnType = (some .boolean)) :
    ∀ (t0 : Int32) (h : mh_H) (H : Heap) (locs : List Loc) (ls : Array Slot), mh_W D ks L (mh_A L s.heap.size) s.heap h H locs → lv_has ls 2 [] → f_X4_reaches_b26 t0 h = some (r, h') → W p l e (mh_rm 2) s m args below meth c H locs 0 0 (MQ below (mh_Qi D ks L s.heap.size r h') args s 0 0 (mh_A L s.heap.size)) (F0 m 26 ls [.int t0]) := by
  intro t0 h H locs ls wd hl hX
  have hx := cx.1.1
  have hb := cx.1.2.1
  unfold f_X4_reaches_b26 at hX
  exact mh_zret cx wd hr hX dX4_reaches_26
set_option maxRecDepth 100000 in
set_option maxHeartbeats 4000000 in
theorem w_X4_reaches_b25 {p : Program} {l : Launch} {e : Env} {s : State} {m : MethodId} {args : Array Value} {below : List Frame} {meth : Method} {c : Code} {D : va_G} {ks : Nat → ClassId} {L : List Nat} {r : Int32} {h' : mh_H} (k26 : Int32 → mh_H → Option (Int32 × mh_H)) (cx : mh_C p m c cX4_reaches 2 s args RX4 meth D ks (mh_A L s.heap.size)) (hr : meth.sig.returnType = (some .boolean))
    (hk26 : ∀ (t0 : Int32) (h : mh_H) (H : Heap) (locs : List Loc) (ls : Array Slot), mh_W D ks L (mh_A L s.heap.size) s.heap h H locs → lv_has ls 2 [] → k26 t0 h = some (r, h') → W p l e (mh_rm 2) s m args below meth c H locs 0 0 (MQ below (mh_Qi D ks L s.heap.size r h') args s 0 0 (mh_A L s.heap.size)) (F0 m 26 ls [.int t0])) :
    ∀ (h : mh_H) (H : Heap) (locs : List Loc) (ls : Array Slot), mh_W D ks L (mh_A L s.heap.size) s.heap h H locs → lv_has ls 2 [] → f_X4_reaches_b25 k26  h = some (r, h') → W p l e (mh_rm 2) s m args below meth c H locs 0 0 (MQ below (mh_Qi D ks L s.heap.size r h') args s 0 0 (mh_A L s.heap.size)) (F0 m 25 ls []) := by
  intro  h H locs ls wd hl hX
  have hx := cx.1.1
  have hb := cx.1.2.1
  unfold f_X4_reaches_b25 at hX
  refine lv_iconst (v := 0) hx hb dX4_reaches_25 (by decide) ?_
  exact hk26 _ h _ _ ls wd (lv_sub hl [] rfl) hX
set_option maxRecDepth 100000 in
set_option maxHeartbeats 4000000 in
theorem w_X4_reaches_e {p : Program} {l : Launch} {e : Env} {s : State} {m : MethodId} {args : Array Value} {below : List Frame} {meth : Method} {c : Code} {D : va_G} {ks : Nat → ClassId} {L : List Nat} {r : Int32} {h' : mh_H} (cx : mh_C p m c cX4_reaches 2 s args RX4 meth D ks (mh_A L s.heap.size)) (hr : meth.sig.returnType = (some .boolean)) :
    ∀ (o0 : Nat) (x1 : Int32) (h : mh_H) (H : Heap) (locs : List Loc) (ls : Array Slot), mh_W D ks L (mh_A L s.heap.size) s.heap h H locs → lv_has ls 2 [(0, .ref o0), (1, .int x1)] → f_X4_reaches_e o0 x1 h = some (r, h') → W p l e (mh_rm 2) s m args below meth c H locs 0 0 (MQ below (mh_Qi D ks L s.heap.size r h') args s 0 0 (mh_A L s.heap.size)) (F0 m 0 ls []) := by
  intro o0 x1 h H locs ls wd hl hX
  have hx := cx.1.1
  have hb := cx.1.2.1
  unfold f_X4_reaches_e at hX
  refine lv_iload_n hx hb dX4_reaches_0 rfl (lv_at hl 1 rfl) ?_
  refine lv_if_lt (tgt := 25) hx hb dX4_reaches_1 rfl (fun hc => (fun hX => ?_) ((mh_if hX).1 hc)) (fun hc => (fun hX => ?_) ((mh_if hX).2 hc))
  · exact w_X4_reaches_b25 (f_X4_reaches_b26) cx hr (w_X4_reaches_b26 cx hr)  h _ _ ls wd (lv_sub hl [] rfl) hX
  · refine lv_aload_n hx hb dX4_reaches_4 rfl (lv_at hl 0 rfl) ?_
    refine lv_iload_n hx hb dX4_reaches_5 rfl (lv_at hl 1 rfl) ?_
    refine lv_aload_n hx hb dX4_reaches_6 rfl (lv_at hl 0 rfl) ?_
    refine mh_getR cx wd fl_X4_10 dX4_reaches_7 hX (fun a1 hX => ?_)
    refine mh_callVI cx wd [] (rfl : vwCl[0]? = some (RX0, TX0, 2)) yw_X0_modulus vw_X4_37 rfl hl.1 rfl (Nat.le_of_ble_eq_true rfl) dX4_reaches_10 ⟨Nat.le_of_ble_eq_true rfl, Nat.le_of_ble_eq_true rfl⟩ ⟨Nat.le_refl _, Nat.le_refl _⟩ (fun _ _ q => c_X0_modulus q) hX (fun v3 h2 H locs wd hX => ?_)
    obtain ⟨hz, hX⟩ := mh_nzk hX
    refine lv_irem hx hb dX4_reaches_13 hz ?_
    refine mh_callVI cx wd [.int (mh_irem x1 v3)] (rfl : vwCl[4]? = some (RX4, TX4, 1)) yw_X4_least vw_X4_40 rfl hl.1 rfl (Nat.le_of_ble_eq_true rfl) dX4_reaches_14 ⟨Nat.le_of_ble_eq_true rfl, Nat.le_of_ble_eq_true rfl⟩ ⟨Nat.le_refl _, Nat.le_refl _⟩ (fun _ _ q => c_X4_least q) hX (fun v5 h4 H locs wd hX => ?_)
    refine lv_iload_n hx hb dX4_reaches_17 rfl (lv_at hl 1 rfl) ?_
    refine lv_icmp_gt (tgt := 25) hx hb dX4_reaches_18 rfl (fun hc => (fun hX => ?_) ((mh_if hX).1 hc)) (fun hc => (fun hX => ?_) ((mh_if hX).2 hc))
    · exact w_X4_reaches_b25 (f_X4_reaches_b26) cx hr (w_X4_reaches_b26 cx hr)  h4 _ _ ls wd (lv_sub hl [] rfl) hX
    · refine lv_iconst (v := 1) hx hb dX4_reaches_21 (by decide) ?_
      refine lv_goto (tgt := 26) hx hb dX4_reaches_22 rfl ?_
      exact w_X4_reaches_b26 cx hr _ h4 _ _ ls wd (lv_sub hl [] rfl) hX
set_option maxRecDepth 100000 in
theorem c_X4_reaches {l : Launch} {L : List Nat} {h h' : mh_H} {r : Int32} {o0 : Nat} {x1 : Int32} (hX : f_X4_reaches_e o0 x1 h = some (r, h')) : mh_MI l yX4_reaches (Cond.code yX4_reaches cX4_reaches 2 (some .boolean) :: mh_TB) (mh_rm 2) [.ref o0, .int x1] L h r h' :=
  mh_of (mc := 0) (ms := 0) (Qc := fun D ks sz => mh_Qi D ks L sz r h') (plainFor_of_name (by decide)) (Nat.le_of_ble_eq_true rfl) (fun p e s m below meth c D ks ls hr cx wd hl => by
    have hl : lv_has ls 2 [(0, .ref o0), (1, .int x1)] := hl
    exact w_X4_reaches_e cx hr o0 x1 h _ _ ls wd hl hX)
def f_X4_missing_b37 (x1 : Int32) (h : mh_H) : Option (Int32 × mh_H) :=
  some (x1, h)
def f_X4_missing_b4 : Nat → Nat → Int32 → Int32 → mh_H → Option (Int32 × mh_H)
  | 0, _, _, _, _ => none
  | n + 1, o0, x1, x2, h =>
    (mh_gR h o0 4 0).bind fun a1 =>
    mh_b2 (mh_cal h a1 0 (f_X0_modulus_e a1 h)) fun v3 h2 =>
    if v3 ≤ x2 then (
    f_X4_missing_b37 x1 h2) else
    mh_b2 (mh_cal h2 o0 4 (f_X4_least_e o0 x2 h2)) fun v5 h4 =>
    (mh_gR h4 o0 4 0).bind fun a6 =>
    mh_b2 (mh_cal h4 a6 0 (f_X0_modulus_e a6 h4)) fun v8 h7 =>
    mh_nz (v8 = 0) <|
    mh_nm (x1 + (v5 / v8)) fun v9 =>
    mh_nm (x2 + Int32.ofInt (1)) fun v10 =>
    f_X4_missing_b4 n o0 v9 v10 h7
def f_X4_missing_e (o0 : Nat) (h : mh_H) : Option (Int32 × mh_H) :=
  mh_nm (0 : Int32) fun v11 =>
  mh_nm (0 : Int32) fun v12 =>
  f_X4_missing_b4 mh_fu o0 v11 v12 h
set_option maxRecDepth 100000 in
set_option maxHeartbeats 4000000 in
theorem w_X4_missing_b37 {p : Program} {l : Launch} {e : Env} {s : State} {m : MethodId} {args : Array Value} {below : List Frame} {meth : Method} {c : Code} {D : va_G} {ks : Nat → ClassId} {L : List Nat} {r : Int32} {h' : mh_H} (cx : mh_C p m c cX4_missing 3 s args RX4 meth D ks (mh_A L s.heap.size)) (hr : meth.sig.returnType = (some .int)) :
    ∀ (x1 : Int32) (h : mh_H) (H : Heap) (locs : List Loc) (ls : Array Slot), mh_W D ks L (mh_A L s.heap.size) s.heap h H locs → lv_has ls 3 [(1, .int x1)] → f_X4_missing_b37 x1 h = some (r, h') → W p l e (mh_rm 2) s m args below meth c H locs 0 0 (MQ below (mh_Qi D ks L s.heap.size r h') args s 0 0 (mh_A L s.heap.size)) (F0 m 37 ls []) := by
  intro x1 h H locs ls wd hl hX
  have hx := cx.1.1
  have hb := cx.1.2.1
  unfold f_X4_missing_b37 at hX
  refine lv_iload_n hx hb dX4_missing_37 rfl (lv_at hl 0 rfl) ?_
  exact mh_iret cx wd hr hX dX4_missing_38
set_option maxRecDepth 100000 in
set_option maxHeartbeats 4000000 in
theorem w_X4_missing_b4 {p : Program} {l : Launch} {e : Env} {s : State} {m : MethodId} {args : Array Value} {below : List Frame} {meth : Method} {c : Code} {D : va_G} {ks : Nat → ClassId} {L : List Nat} {r : Int32} {h' : mh_H} (cx : mh_C p m c cX4_missing 3 s args RX4 meth D ks (mh_A L s.heap.size)) (hr : meth.sig.returnType = (some .int)) :
    ∀ n : Nat, ∀ (o0 : Nat) (x1 : Int32) (x2 : Int32) (h : mh_H) (H : Heap) (locs : List Loc) (ls : Array Slot), mh_W D ks L (mh_A L s.heap.size) s.heap h H locs → lv_has ls 3 [(0, .ref o0), (1, .int x1), (2, .int x2)] → f_X4_missing_b4 n o0 x1 x2 h = some (r, h') → W p l e (mh_rm 2) s m args below meth c H locs 0 0 (MQ below (mh_Qi D ks L s.heap.size r h') args s 0 0 (mh_A L s.heap.size)) (F0 m 4 ls []) := by
  intro n
  induction n with
  | zero =>
    intro o0 x1 x2 h H locs ls wd hl hX
    cases hX
  | succ n ih =>
    intro o0 x1 x2 h H locs ls wd hl hX
    have hx := cx.1.1
    have hb := cx.1.2.1
    rw [f_X4_missing_b4] at hX
    refine lv_iload_n hx hb dX4_missing_4 rfl (lv_at hl 2 rfl) ?_
    refine lv_aload_n hx hb dX4_missing_5 rfl (lv_at hl 0 rfl) ?_
    refine mh_getR cx wd fl_X4_10 dX4_missing_6 hX (fun a1 hX => ?_)
    refine mh_callVI cx wd [] (rfl : vwCl[0]? = some (RX0, TX0, 2)) yw_X0_modulus vw_X4_37 rfl hl.1 rfl (Nat.le_of_ble_eq_true rfl) dX4_missing_9 ⟨Nat.le_of_ble_eq_true rfl, Nat.le_of_ble_eq_true rfl⟩ ⟨Nat.le_refl _, Nat.le_refl _⟩ (fun _ _ q => c_X0_modulus q) hX (fun v3 h2 H locs wd hX => ?_)
    refine lv_icmp_ge (tgt := 37) hx hb dX4_missing_12 rfl (fun hc => (fun hX => ?_) ((mh_if hX).1 hc)) (fun hc => (fun hX => ?_) ((mh_if hX).2 hc))
    · exact w_X4_missing_b37 cx hr _ h2 _ _ ls wd (lv_sub hl [1] rfl) hX
    · refine lv_iload_n hx hb dX4_missing_15 rfl (lv_at hl 1 rfl) ?_
      refine lv_aload_n hx hb dX4_missing_16 rfl (lv_at hl 0 rfl) ?_
      refine lv_iload_n hx hb dX4_missing_17 rfl (lv_at hl 2 rfl) ?_
      refine mh_callVI cx wd [.int x2] (rfl : vwCl[4]? = some (RX4, TX4, 1)) yw_X4_least vw_X4_40 rfl hl.1 rfl (Nat.le_of_ble_eq_true rfl) dX4_missing_18 ⟨Nat.le_of_ble_eq_true rfl, Nat.le_of_ble_eq_true rfl⟩ ⟨Nat.le_refl _, Nat.le_refl _⟩ (fun _ _ q => c_X4_least q) hX (fun v5 h4 H locs wd hX => ?_)
      refine lv_aload_n hx hb dX4_missing_21 rfl (lv_at hl 0 rfl) ?_
      refine mh_getR cx wd fl_X4_10 dX4_missing_22 hX (fun a6 hX => ?_)
      refine mh_callVI cx wd [] (rfl : vwCl[0]? = some (RX0, TX0, 2)) yw_X0_modulus vw_X4_37 rfl hl.1 rfl (Nat.le_of_ble_eq_true rfl) dX4_missing_25 ⟨Nat.le_of_ble_eq_true rfl, Nat.le_of_ble_eq_true rfl⟩ ⟨Nat.le_refl _, Nat.le_refl _⟩ (fun _ _ q => c_X0_modulus q) hX (fun v8 h7 H locs wd hX => ?_)
      obtain ⟨hz, hX⟩ := mh_nzk hX
      refine lv_idiv hx hb dX4_missing_28 hz ?_
      refine lv_iadd hx hb dX4_missing_29 ?_
      refine mh_topi hX (fun v9 hX => ?_)
      refine lv_istore_n (lv' := [(1, .int v9), (0, .ref o0), (2, .int x2)]) hx hb dX4_missing_30 rfl hl (Nat.le_of_ble_eq_true rfl) rfl (fun ls hl => ?_)
      obtain ⟨v10, ev10, hX⟩ := mh_nmx hX
      refine lv_iinc (k := 2) (v := v10) (lv' := [(2, .int v10), (1, .int v9), (0, .ref o0)]) hx hb dX4_missing_31 hl rfl ev10 (Nat.le_of_ble_eq_true rfl) rfl (fun ls hl => ?_)
      refine lv_goto (tgt := 4) hx hb dX4_missing_34 rfl ?_
      exact ih _ _ _ h7 _ _ ls wd (lv_sub hl [2, 1, 0] rfl) hX
set_option maxRecDepth 100000 in
set_option maxHeartbeats 4000000 in
theorem w_X4_missing_e {p : Program} {l : Launch} {e : Env} {s : State} {m : MethodId} {args : Array Value} {below : List Frame} {meth : Method} {c : Code} {D : va_G} {ks : Nat → ClassId} {L : List Nat} {r : Int32} {h' : mh_H} (cx : mh_C p m c cX4_missing 3 s args RX4 meth D ks (mh_A L s.heap.size)) (hr : meth.sig.returnType = (some .int)) :
    ∀ (o0 : Nat) (h : mh_H) (H : Heap) (locs : List Loc) (ls : Array Slot), mh_W D ks L (mh_A L s.heap.size) s.heap h H locs → lv_has ls 3 [(0, .ref o0)] → f_X4_missing_e o0 h = some (r, h') → W p l e (mh_rm 2) s m args below meth c H locs 0 0 (MQ below (mh_Qi D ks L s.heap.size r h') args s 0 0 (mh_A L s.heap.size)) (F0 m 0 ls []) := by
  intro o0 h H locs ls wd hl hX
  have hx := cx.1.1
  have hb := cx.1.2.1
  unfold f_X4_missing_e at hX
  refine lv_iconst (v := 0) hx hb dX4_missing_0 (by decide) ?_
  refine mh_topi hX (fun v11 hX => ?_)
  refine lv_istore_n (lv' := [(1, .int v11), (0, .ref o0)]) hx hb dX4_missing_1 rfl hl (Nat.le_of_ble_eq_true rfl) rfl (fun ls hl => ?_)
  refine lv_iconst (v := 0) hx hb dX4_missing_2 (by decide) ?_
  refine mh_topi hX (fun v12 hX => ?_)
  refine lv_istore_n (lv' := [(2, .int v12), (1, .int v11), (0, .ref o0)]) hx hb dX4_missing_3 rfl hl (Nat.le_of_ble_eq_true rfl) rfl (fun ls hl => ?_)
  exact w_X4_missing_b4 cx hr mh_fu _ _ _ h _ _ ls wd (lv_sub hl [2, 1, 0] rfl) hX
set_option maxRecDepth 100000 in
theorem c_X4_missing {l : Launch} {L : List Nat} {h h' : mh_H} {r : Int32} {o0 : Nat} (hX : f_X4_missing_e o0 h = some (r, h')) : mh_MI l yX4_missing (Cond.code yX4_missing cX4_missing 3 (some .int) :: mh_TB) (mh_rm 2) [.ref o0] L h r h' :=
  mh_of (mc := 0) (ms := 0) (Qc := fun D ks sz => mh_Qi D ks L sz r h') (plainFor_of_name (by decide)) (Nat.le_of_ble_eq_true rfl) (fun p e s m below meth c D ks ls hr cx wd hl => by
    have hl : lv_has ls 3 [(0, .ref o0)] := hl
    exact w_X4_missing_e cx hr o0 h _ _ ls wd hl hX)
def f_X4_lastMissing_b31 (o0 : Nat) (x1 : Int32) (h : mh_H) : Option (Int32 × mh_H) :=
  (mh_gR h o0 4 0).bind fun a1 =>
  mh_b2 (mh_cal h a1 0 (f_X0_modulus_e a1 h)) fun v3 h2 =>
  some ((x1 - v3), h2)
def f_X4_lastMissing_b4 : Nat → Nat → Int32 → Int32 → mh_H → Option (Int32 × mh_H)
  | 0, _, _, _, _ => none
  | n + 1, o0, x1, x2, h =>
    (mh_gR h o0 4 0).bind fun a4 =>
    mh_b2 (mh_cal h a4 0 (f_X0_modulus_e a4 h)) fun v6 h5 =>
    if v6 ≤ x2 then (
    f_X4_lastMissing_b31 o0 x1 h5) else
    mh_b2 (mh_cal h5 o0 4 (f_X4_least_e o0 x2 h5)) fun v8 h7 =>
    mh_nm (if x1 < v8 then v8 else x1) fun v9 =>
    mh_nm (x2 + Int32.ofInt (1)) fun v10 =>
    f_X4_lastMissing_b4 n o0 v9 v10 h7
def f_X4_lastMissing_e (o0 : Nat) (h : mh_H) : Option (Int32 × mh_H) :=
  mh_nm (0 : Int32) fun v11 =>
  mh_nm (0 : Int32) fun v12 =>
  f_X4_lastMissing_b4 mh_fu o0 v11 v12 h
set_option maxRecDepth 100000 in
set_option maxHeartbeats 4000000 in
theorem w_X4_lastMissing_b31 {p : Program} {l : Launch} {e : Env} {s : State} {m : MethodId} {args : Array Value} {below : List Frame} {meth : Method} {c : Code} {D : va_G} {ks : Nat → ClassId} {L : List Nat} {r : Int32} {h' : mh_H} (cx : mh_C p m c cX4_lastMissing 3 s args RX4 meth D ks (mh_A L s.heap.size)) (hr : meth.sig.returnType = (some .int)) :
    ∀ (o0 : Nat) (x1 : Int32) (h : mh_H) (H : Heap) (locs : List Loc) (ls : Array Slot), mh_W D ks L (mh_A L s.heap.size) s.heap h H locs → lv_has ls 3 [(0, .ref o0), (1, .int x1)] → f_X4_lastMissing_b31 o0 x1 h = some (r, h') → W p l e (mh_rm 2) s m args below meth c H locs 0 0 (MQ below (mh_Qi D ks L s.heap.size r h') args s 0 0 (mh_A L s.heap.size)) (F0 m 31 ls []) := by
  intro o0 x1 h H locs ls wd hl hX
  have hx := cx.1.1
  have hb := cx.1.2.1
  unfold f_X4_lastMissing_b31 at hX
  refine lv_iload_n hx hb dX4_lastMissing_31 rfl (lv_at hl 1 rfl) ?_
  refine lv_aload_n hx hb dX4_lastMissing_32 rfl (lv_at hl 0 rfl) ?_
  refine mh_getR cx wd fl_X4_10 dX4_lastMissing_33 hX (fun a1 hX => ?_)
  refine mh_callVI cx wd [] (rfl : vwCl[0]? = some (RX0, TX0, 2)) yw_X0_modulus vw_X4_37 rfl hl.1 rfl (Nat.le_of_ble_eq_true rfl) dX4_lastMissing_36 ⟨Nat.le_of_ble_eq_true rfl, Nat.le_of_ble_eq_true rfl⟩ ⟨Nat.le_refl _, Nat.le_refl _⟩ (fun _ _ q => c_X0_modulus q) hX (fun v3 h2 H locs wd hX => ?_)
  refine lv_isub hx hb dX4_lastMissing_39 ?_
  exact mh_iret cx wd hr hX dX4_lastMissing_40
set_option maxRecDepth 100000 in
set_option maxHeartbeats 4000000 in
theorem w_X4_lastMissing_b4 {p : Program} {l : Launch} {e : Env} {s : State} {m : MethodId} {args : Array Value} {below : List Frame} {meth : Method} {c : Code} {D : va_G} {ks : Nat → ClassId} {L : List Nat} {r : Int32} {h' : mh_H} (cx : mh_C p m c cX4_lastMissing 3 s args RX4 meth D ks (mh_A L s.heap.size)) (hr : meth.sig.returnType = (some .int)) :
    ∀ n : Nat, ∀ (o0 : Nat) (x1 : Int32) (x2 : Int32) (h : mh_H) (H : Heap) (locs : List Loc) (ls : Array Slot), mh_W D ks L (mh_A L s.heap.size) s.heap h H locs → lv_has ls 3 [(0, .ref o0), (1, .int x1), (2, .int x2)] → f_X4_lastMissing_b4 n o0 x1 x2 h = some (r, h') → W p l e (mh_rm 2) s m args below meth c H locs 0 0 (MQ below (mh_Qi D ks L s.heap.size r h') args s 0 0 (mh_A L s.heap.size)) (F0 m 4 ls []) := by
  intro n
  induction n with
  | zero =>
    intro o0 x1 x2 h H locs ls wd hl hX
    cases hX
  | succ n ih =>
    intro o0 x1 x2 h H locs ls wd hl hX
    have hx := cx.1.1
    have hb := cx.1.2.1
    rw [f_X4_lastMissing_b4] at hX
    refine lv_iload_n hx hb dX4_lastMissing_4 rfl (lv_at hl 2 rfl) ?_
    refine lv_aload_n hx hb dX4_lastMissing_5 rfl (lv_at hl 0 rfl) ?_
    refine mh_getR cx wd fl_X4_10 dX4_lastMissing_6 hX (fun a4 hX => ?_)
    refine mh_callVI cx wd [] (rfl : vwCl[0]? = some (RX0, TX0, 2)) yw_X0_modulus vw_X4_37 rfl hl.1 rfl (Nat.le_of_ble_eq_true rfl) dX4_lastMissing_9 ⟨Nat.le_of_ble_eq_true rfl, Nat.le_of_ble_eq_true rfl⟩ ⟨Nat.le_refl _, Nat.le_refl _⟩ (fun _ _ q => c_X0_modulus q) hX (fun v6 h5 H locs wd hX => ?_)
    refine lv_icmp_ge (tgt := 31) hx hb dX4_lastMissing_12 rfl (fun hc => (fun hX => ?_) ((mh_if hX).1 hc)) (fun hc => (fun hX => ?_) ((mh_if hX).2 hc))
    · exact w_X4_lastMissing_b31 cx hr _ _ h5 _ _ ls wd (lv_sub hl [0, 1] rfl) hX
    · refine lv_iload_n hx hb dX4_lastMissing_15 rfl (lv_at hl 1 rfl) ?_
      refine lv_aload_n hx hb dX4_lastMissing_16 rfl (lv_at hl 0 rfl) ?_
      refine lv_iload_n hx hb dX4_lastMissing_17 rfl (lv_at hl 2 rfl) ?_
      refine mh_callVI cx wd [.int x2] (rfl : vwCl[4]? = some (RX4, TX4, 1)) yw_X4_least vw_X4_40 rfl hl.1 rfl (Nat.le_of_ble_eq_true rfl) dX4_lastMissing_18 ⟨Nat.le_of_ble_eq_true rfl, Nat.le_of_ble_eq_true rfl⟩ ⟨Nat.le_refl _, Nat.le_refl _⟩ (fun _ _ q => c_X4_least q) hX (fun v8 h7 H locs wd hX => ?_)
      refine mh_mmax mh_Mok cx hl.1 km_X4_43 (Nat.le_of_ble_eq_true rfl) (Nat.le_of_ble_eq_true rfl) ⟨Nat.le_refl _, Nat.le_refl _⟩ dX4_lastMissing_21 ?_
      refine mh_topi hX (fun v9 hX => ?_)
      refine lv_istore_n (lv' := [(1, .int v9), (0, .ref o0), (2, .int x2)]) hx hb dX4_lastMissing_24 rfl hl (Nat.le_of_ble_eq_true rfl) rfl (fun ls hl => ?_)
      obtain ⟨v10, ev10, hX⟩ := mh_nmx hX
      refine lv_iinc (k := 2) (v := v10) (lv' := [(2, .int v10), (1, .int v9), (0, .ref o0)]) hx hb dX4_lastMissing_25 hl rfl ev10 (Nat.le_of_ble_eq_true rfl) rfl (fun ls hl => ?_)
      refine lv_goto (tgt := 4) hx hb dX4_lastMissing_28 rfl ?_
      exact ih _ _ _ h7 _ _ ls wd (lv_sub hl [2, 1, 0] rfl) hX
set_option maxRecDepth 100000 in
set_option maxHeartbeats 4000000 in
theorem w_X4_lastMissing_e {p : Program} {l : Launch} {e : Env} {s : State} {m : MethodId} {args : Array Value} {below : List Frame} {meth : Method} {c : Code} {D : va_G} {ks : Nat → ClassId} {L : List Nat} {r : Int32} {h' : mh_H} (cx : mh_C p m c cX4_lastMissing 3 s args RX4 meth D ks (mh_A L s.heap.size)) (hr : meth.sig.returnType = (some .int)) :
    ∀ (o0 : Nat) (h : mh_H) (H : Heap) (locs : List Loc) (ls : Array Slot), mh_W D ks L (mh_A L s.heap.size) s.heap h H locs → lv_has ls 3 [(0, .ref o0)] → f_X4_lastMissing_e o0 h = some (r, h') → W p l e (mh_rm 2) s m args below meth c H locs 0 0 (MQ below (mh_Qi D ks L s.heap.size r h') args s 0 0 (mh_A L s.heap.size)) (F0 m 0 ls []) := by
  intro o0 h H locs ls wd hl hX
  have hx := cx.1.1
  have hb := cx.1.2.1
  unfold f_X4_lastMissing_e at hX
  refine lv_iconst (v := 0) hx hb dX4_lastMissing_0 (by decide) ?_
  refine mh_topi hX (fun v11 hX => ?_)
  refine lv_istore_n (lv' := [(1, .int v11), (0, .ref o0)]) hx hb dX4_lastMissing_1 rfl hl (Nat.le_of_ble_eq_true rfl) rfl (fun ls hl => ?_)
  refine lv_iconst (v := 0) hx hb dX4_lastMissing_2 (by decide) ?_
  refine mh_topi hX (fun v12 hX => ?_)
  refine lv_istore_n (lv' := [(2, .int v12), (1, .int v11), (0, .ref o0)]) hx hb dX4_lastMissing_3 rfl hl (Nat.le_of_ble_eq_true rfl) rfl (fun ls hl => ?_)
  exact w_X4_lastMissing_b4 cx hr mh_fu _ _ _ h _ _ ls wd (lv_sub hl [2, 1, 0] rfl) hX
set_option maxRecDepth 100000 in
theorem c_X4_lastMissing {l : Launch} {L : List Nat} {h h' : mh_H} {r : Int32} {o0 : Nat} (hX : f_X4_lastMissing_e o0 h = some (r, h')) : mh_MI l yX4_lastMissing (Cond.code yX4_lastMissing cX4_lastMissing 3 (some .int) :: mh_TB) (mh_rm 2) [.ref o0] L h r h' :=
  mh_of (mc := 0) (ms := 0) (Qc := fun D ks sz => mh_Qi D ks L sz r h') (plainFor_of_name (by decide)) (Nat.le_of_ble_eq_true rfl) (fun p e s m below meth c D ks ls hr cx wd hl => by
    have hl : lv_has ls 3 [(0, .ref o0)] := hl
    exact w_X4_lastMissing_e cx hr o0 h _ _ ls wd hl hX)
def f_X4_missingUpTo_b62 (x2 : Int32) (h : mh_H) : Option (Int32 × mh_H) :=
  some (x2, h)
def f_X4_missingUpTo_b4 : Nat → Nat → Int32 → Int32 → Int32 → mh_H → Option (Int32 × mh_H)
  | 0, _, _, _, _, _ => none
  | n + 1, o0, x1, x2, x3, h =>
    (mh_gR h o0 4 0).bind fun a1 =>
    mh_b2 (mh_cal h a1 0 (f_X0_modulus_e a1 h)) fun v3 h2 =>
    if v3 ≤ x3 then (
    f_X4_missingUpTo_b62 x2 h2) else
    if x1 < x3 then (
    f_X4_missingUpTo_b62 x2 h2) else
    (mh_gR h2 o0 4 0).bind fun a4 =>
    mh_b2 (mh_cal h2 a4 0 (f_X0_modulus_e a4 h2)) fun v6 h5 =>
    mh_nz (v6 = 0) <|
    mh_nm (((x1 - x3) / v6) + (1 : Int32)) fun v7 =>
    mh_b2 (mh_cal h5 o0 4 (f_X4_least_e o0 x3 h5)) fun v9 h8 =>
    (mh_gR h8 o0 4 0).bind fun a10 =>
    mh_b2 (mh_cal h8 a10 0 (f_X0_modulus_e a10 h8)) fun v12 h11 =>
    mh_nz (v12 = 0) <|
    mh_nm (x2 + (if (v9 / v12) < v7 then (v9 / v12) else v7)) fun v13 =>
    mh_nm (x3 + Int32.ofInt (1)) fun v14 =>
    f_X4_missingUpTo_b4 n o0 x1 v13 v14 h11
def f_X4_missingUpTo_e (o0 : Nat) (x1 : Int32) (h : mh_H) : Option (Int32 × mh_H) :=
  mh_nm (0 : Int32) fun v15 =>
  mh_nm (0 : Int32) fun v16 =>
  f_X4_missingUpTo_b4 mh_fu o0 x1 v15 v16 h
set_option maxRecDepth 100000 in
set_option maxHeartbeats 4000000 in
theorem w_X4_missingUpTo_b62 {p : Program} {l : Launch} {e : Env} {s : State} {m : MethodId} {args : Array Value} {below : List Frame} {meth : Method} {c : Code} {D : va_G} {ks : Nat → ClassId} {L : List Nat} {r : Int32} {h' : mh_H} (cx : mh_C p m c cX4_missingUpTo 5 s args RX4 meth D ks (mh_A L s.heap.size)) (hr : meth.sig.returnType = (some .int)) :
    ∀ (x2 : Int32) (h : mh_H) (H : Heap) (locs : List Loc) (ls : Array Slot), mh_W D ks L (mh_A L s.heap.size) s.heap h H locs → lv_has ls 5 [(2, .int x2)] → f_X4_missingUpTo_b62 x2 h = some (r, h') → W p l e (mh_rm 2) s m args below meth c H locs 0 0 (MQ below (mh_Qi D ks L s.heap.size r h') args s 0 0 (mh_A L s.heap.size)) (F0 m 62 ls []) := by
  intro x2 h H locs ls wd hl hX
  have hx := cx.1.1
  have hb := cx.1.2.1
  unfold f_X4_missingUpTo_b62 at hX
  refine lv_iload_n hx hb dX4_missingUpTo_62 rfl (lv_at hl 0 rfl) ?_
  exact mh_iret cx wd hr hX dX4_missingUpTo_63
set_option maxRecDepth 100000 in
set_option maxHeartbeats 4000000 in
theorem w_X4_missingUpTo_b4 {p : Program} {l : Launch} {e : Env} {s : State} {m : MethodId} {args : Array Value} {below : List Frame} {meth : Method} {c : Code} {D : va_G} {ks : Nat → ClassId} {L : List Nat} {r : Int32} {h' : mh_H} (cx : mh_C p m c cX4_missingUpTo 5 s args RX4 meth D ks (mh_A L s.heap.size)) (hr : meth.sig.returnType = (some .int)) :
    ∀ n : Nat, ∀ (o0 : Nat) (x1 : Int32) (x2 : Int32) (x3 : Int32) (h : mh_H) (H : Heap) (locs : List Loc) (ls : Array Slot), mh_W D ks L (mh_A L s.heap.size) s.heap h H locs → lv_has ls 5 [(0, .ref o0), (1, .int x1), (2, .int x2), (3, .int x3)] → f_X4_missingUpTo_b4 n o0 x1 x2 x3 h = some (r, h') → W p l e (mh_rm 2) s m args below meth c H locs 0 0 (MQ below (mh_Qi D ks L s.heap.size r h') args s 0 0 (mh_A L s.heap.size)) (F0 m 4 ls []) := by
  intro n
  induction n with
  | zero =>
    intro o0 x1 x2 x3 h H locs ls wd hl hX
    cases hX
  | succ n ih =>
    intro o0 x1 x2 x3 h H locs ls wd hl hX
    have hx := cx.1.1
    have hb := cx.1.2.1
    rw [f_X4_missingUpTo_b4] at hX
    refine lv_iload_n hx hb dX4_missingUpTo_4 rfl (lv_at hl 3 rfl) ?_
    refine lv_aload_n hx hb dX4_missingUpTo_5 rfl (lv_at hl 0 rfl) ?_
    refine mh_getR cx wd fl_X4_10 dX4_missingUpTo_6 hX (fun a1 hX => ?_)
    refine mh_callVI cx wd [] (rfl : vwCl[0]? = some (RX0, TX0, 2)) yw_X0_modulus vw_X4_37 rfl hl.1 rfl (Nat.le_of_ble_eq_true rfl) dX4_missingUpTo_9 ⟨Nat.le_of_ble_eq_true rfl, Nat.le_of_ble_eq_true rfl⟩ ⟨Nat.le_refl _, Nat.le_refl _⟩ (fun _ _ q => c_X0_modulus q) hX (fun v3 h2 H locs wd hX => ?_)
    refine lv_icmp_ge (tgt := 62) hx hb dX4_missingUpTo_12 rfl (fun hc => (fun hX => ?_) ((mh_if hX).1 hc)) (fun hc => (fun hX => ?_) ((mh_if hX).2 hc))
    · exact w_X4_missingUpTo_b62 cx hr _ h2 _ _ ls wd (lv_sub hl [2] rfl) hX
    · refine lv_iload_n hx hb dX4_missingUpTo_15 rfl (lv_at hl 3 rfl) ?_
      refine lv_iload_n hx hb dX4_missingUpTo_16 rfl (lv_at hl 1 rfl) ?_
      refine lv_icmp_gt (tgt := 62) hx hb dX4_missingUpTo_17 rfl (fun hc => (fun hX => ?_) ((mh_if hX).1 hc)) (fun hc => (fun hX => ?_) ((mh_if hX).2 hc))
      · exact w_X4_missingUpTo_b62 cx hr _ h2 _ _ ls wd (lv_sub hl [2] rfl) hX
      · refine lv_iload_n hx hb dX4_missingUpTo_20 rfl (lv_at hl 1 rfl) ?_
        refine lv_iload_n hx hb dX4_missingUpTo_21 rfl (lv_at hl 3 rfl) ?_
        refine lv_isub hx hb dX4_missingUpTo_22 ?_
        refine lv_aload_n hx hb dX4_missingUpTo_23 rfl (lv_at hl 0 rfl) ?_
        refine mh_getR cx wd fl_X4_10 dX4_missingUpTo_24 hX (fun a4 hX => ?_)
        refine mh_callVI cx wd [] (rfl : vwCl[0]? = some (RX0, TX0, 2)) yw_X0_modulus vw_X4_37 rfl hl.1 rfl (Nat.le_of_ble_eq_true rfl) dX4_missingUpTo_27 ⟨Nat.le_of_ble_eq_true rfl, Nat.le_of_ble_eq_true rfl⟩ ⟨Nat.le_refl _, Nat.le_refl _⟩ (fun _ _ q => c_X0_modulus q) hX (fun v6 h5 H locs wd hX => ?_)
        obtain ⟨hz, hX⟩ := mh_nzk hX
        refine lv_idiv hx hb dX4_missingUpTo_30 hz ?_
        refine lv_iconst (v := 1) hx hb dX4_missingUpTo_31 (by decide) ?_
        refine lv_iadd hx hb dX4_missingUpTo_32 ?_
        refine mh_topi hX (fun v7 hX => ?_)
        refine lv_istore (lv' := [(4, .int v7), (0, .ref o0), (1, .int x1), (2, .int x2), (3, .int x3)]) hx hb dX4_missingUpTo_33 hl (Nat.le_of_ble_eq_true rfl) rfl (fun ls hl => ?_)
        refine lv_iload_n hx hb dX4_missingUpTo_35 rfl (lv_at hl 3 rfl) ?_
        refine lv_iload hx hb dX4_missingUpTo_36 (lv_at hl 0 rfl) ?_
        refine lv_aload_n hx hb dX4_missingUpTo_38 rfl (lv_at hl 1 rfl) ?_
        refine lv_iload_n hx hb dX4_missingUpTo_39 rfl (lv_at hl 4 rfl) ?_
        refine mh_callVI cx wd [.int x3] (rfl : vwCl[4]? = some (RX4, TX4, 1)) yw_X4_least vw_X4_40 rfl hl.1 rfl (Nat.le_of_ble_eq_true rfl) dX4_missingUpTo_40 ⟨Nat.le_of_ble_eq_true rfl, Nat.le_of_ble_eq_true rfl⟩ ⟨Nat.le_refl _, Nat.le_refl _⟩ (fun _ _ q => c_X4_least q) hX (fun v9 h8 H locs wd hX => ?_)
        refine lv_aload_n hx hb dX4_missingUpTo_43 rfl (lv_at hl 1 rfl) ?_
        refine mh_getR cx wd fl_X4_10 dX4_missingUpTo_44 hX (fun a10 hX => ?_)
        refine mh_callVI cx wd [] (rfl : vwCl[0]? = some (RX0, TX0, 2)) yw_X0_modulus vw_X4_37 rfl hl.1 rfl (Nat.le_of_ble_eq_true rfl) dX4_missingUpTo_47 ⟨Nat.le_of_ble_eq_true rfl, Nat.le_of_ble_eq_true rfl⟩ ⟨Nat.le_refl _, Nat.le_refl _⟩ (fun _ _ q => c_X0_modulus q) hX (fun v12 h11 H locs wd hX => ?_)
        obtain ⟨hz, hX⟩ := mh_nzk hX
        refine lv_idiv hx hb dX4_missingUpTo_50 hz ?_
        refine mh_mmin mh_Mok cx hl.1 km_X4_52 (Nat.le_of_ble_eq_true rfl) (Nat.le_of_ble_eq_true rfl) ⟨Nat.le_refl _, Nat.le_refl _⟩ dX4_missingUpTo_51 ?_
        refine lv_iadd hx hb dX4_missingUpTo_54 ?_
        refine mh_topi hX (fun v13 hX => ?_)
        refine lv_istore_n (lv' := [(2, .int v13), (4, .int v7), (0, .ref o0), (1, .int x1), (3, .int x3)]) hx hb dX4_missingUpTo_55 rfl hl (Nat.le_of_ble_eq_true rfl) rfl (fun ls hl => ?_)
        obtain ⟨v14, ev14, hX⟩ := mh_nmx hX
        refine lv_iinc (k := 4) (v := v14) (lv' := [(3, .int v14), (2, .int v13), (4, .int v7), (0, .ref o0), (1, .int x1)]) hx hb dX4_missingUpTo_56 hl rfl ev14 (Nat.le_of_ble_eq_true rfl) rfl (fun ls hl => ?_)
        refine lv_goto (tgt := 4) hx hb dX4_missingUpTo_59 rfl ?_
        exact ih _ _ _ _ h11 _ _ ls wd (lv_sub hl [3, 4, 1, 0] rfl) hX
set_option maxRecDepth 100000 in
set_option maxHeartbeats 4000000 in
theorem w_X4_missingUpTo_e {p : Program} {l : Launch} {e : Env} {s : State} {m : MethodId} {args : Array Value} {below : List Frame} {meth : Method} {c : Code} {D : va_G} {ks : Nat → ClassId} {L : List Nat} {r : Int32} {h' : mh_H} (cx : mh_C p m c cX4_missingUpTo 5 s args RX4 meth D ks (mh_A L s.heap.size)) (hr : meth.sig.returnType = (some .int)) :
    ∀ (o0 : Nat) (x1 : Int32) (h : mh_H) (H : Heap) (locs : List Loc) (ls : Array Slot), mh_W D ks L (mh_A L s.heap.size) s.heap h H locs → lv_has ls 5 [(0, .ref o0), (1, .int x1)] → f_X4_missingUpTo_e o0 x1 h = some (r, h') → W p l e (mh_rm 2) s m args below meth c H locs 0 0 (MQ below (mh_Qi D ks L s.heap.size r h') args s 0 0 (mh_A L s.heap.size)) (F0 m 0 ls []) := by
  intro o0 x1 h H locs ls wd hl hX
  have hx := cx.1.1
  have hb := cx.1.2.1
  unfold f_X4_missingUpTo_e at hX
  refine lv_iconst (v := 0) hx hb dX4_missingUpTo_0 (by decide) ?_
  refine mh_topi hX (fun v15 hX => ?_)
  refine lv_istore_n (lv' := [(2, .int v15), (0, .ref o0), (1, .int x1)]) hx hb dX4_missingUpTo_1 rfl hl (Nat.le_of_ble_eq_true rfl) rfl (fun ls hl => ?_)
  refine lv_iconst (v := 0) hx hb dX4_missingUpTo_2 (by decide) ?_
  refine mh_topi hX (fun v16 hX => ?_)
  refine lv_istore_n (lv' := [(3, .int v16), (2, .int v15), (0, .ref o0), (1, .int x1)]) hx hb dX4_missingUpTo_3 rfl hl (Nat.le_of_ble_eq_true rfl) rfl (fun ls hl => ?_)
  exact w_X4_missingUpTo_b4 cx hr mh_fu _ _ _ _ h _ _ ls wd (lv_sub hl [2, 3, 1, 0] rfl) hX
set_option maxRecDepth 100000 in
theorem c_X4_missingUpTo {l : Launch} {L : List Nat} {h h' : mh_H} {r : Int32} {o0 : Nat} {x1 : Int32} (hX : f_X4_missingUpTo_e o0 x1 h = some (r, h')) : mh_MI l yX4_missingUpTo (Cond.code yX4_missingUpTo cX4_missingUpTo 5 (some .int) :: mh_TB) (mh_rm 2) [.ref o0, .int x1] L h r h' :=
  mh_of (mc := 0) (ms := 0) (Qc := fun D ks sz => mh_Qi D ks L sz r h') (plainFor_of_name (by decide)) (Nat.le_of_ble_eq_true rfl) (fun p e s m below meth c D ks ls hr cx wd hl => by
    have hl : lv_has ls 5 [(0, .ref o0), (1, .int x1)] := hl
    exact w_X4_missingUpTo_e cx hr o0 x1 h _ _ ls wd hl hX)
def f_X4_missingAt_b51 (k8 : Nat → Int32 → Int32 → Int32 → Int32 → mh_H → Option (Int32 × mh_H)) (o0 : Nat) (x1 : Int32) (x3 : Int32) (x4 : Int32) (x5 : Int32) (h : mh_H) : Option (Int32 × mh_H) :=
  mh_nm (x5 + Int32.ofInt (1)) fun v1 =>
  k8 o0 x1 x3 x4 v1 h
def f_X4_missingAt_b57 (x3 : Int32) (h : mh_H) : Option (Int32 × mh_H) :=
  some (x3, h)
def f_X4_missingAt_b8 : Nat → Nat → Int32 → Int32 → Int32 → Int32 → mh_H → Option (Int32 × mh_H)
  | 0, _, _, _, _, _, _ => none
  | n + 1, o0, x1, x3, x4, x5, h =>
    if (32 : Int32) ≤ x5 then (
    f_X4_missingAt_b57 x3 h) else
    if x4 ≤ x3 then (
    f_X4_missingAt_b57 x3 h) else
    mh_nz ((2 : Int32) = 0) <|
    mh_nm ((x3 + x4) / (2 : Int32)) fun v2 =>
    mh_b2 (mh_cal h o0 4 (f_X4_missingUpTo_e o0 v2 h)) fun v4 h3 =>
    if v4 ≤ x1 then (
    mh_nm (v2 + (1 : Int32)) fun v5 =>
    f_X4_missingAt_b51 (f_X4_missingAt_b8 n) o0 x1 v5 x4 x5 h3) else
    f_X4_missingAt_b51 (f_X4_missingAt_b8 n) o0 x1 x3 v2 x5 h3
def f_X4_missingAt_e (o0 : Nat) (x1 : Int32) (x2 : Int32) (h : mh_H) : Option (Int32 × mh_H) :=
  mh_nm (0 : Int32) fun v6 =>
  mh_nm (0 : Int32) fun v7 =>
  f_X4_missingAt_b8 mh_fu o0 x1 v6 x2 v7 h
set_option maxRecDepth 100000 in
set_option maxHeartbeats 4000000 in
theorem w_X4_missingAt_b51 {p : Program} {l : Launch} {e : Env} {s : State} {m : MethodId} {args : Array Value} {below : List Frame} {meth : Method} {c : Code} {D : va_G} {ks : Nat → ClassId} {L : List Nat} {r : Int32} {h' : mh_H} (k8 : Nat → Int32 → Int32 → Int32 → Int32 → mh_H → Option (Int32 × mh_H)) (cx : mh_C p m c cX4_missingAt 7 s args RX4 meth D ks (mh_A L s.heap.size)) (hr : meth.sig.returnType = (some .int))
    (hk8 : ∀ (o0 : Nat) (x1 : Int32) (x3 : Int32) (x4 : Int32) (x5 : Int32) (h : mh_H) (H : Heap) (locs : List Loc) (ls : Array Slot), mh_W D ks L (mh_A L s.heap.size) s.heap h H locs → lv_has ls 7 [(0, .ref o0), (1, .int x1), (3, .int x3), (4, .int x4), (5, .int x5)] → k8 o0 x1 x3 x4 x5 h = some (r, h') → W p l e (mh_rm 3) s m args below meth c H locs 0 0 (MQ below (mh_Qi D ks L s.heap.size r h') args s 0 0 (mh_A L s.heap.size)) (F0 m 8 ls [])) :
    ∀ (o0 : Nat) (x1 : Int32) (x3 : Int32) (x4 : Int32) (x5 : Int32) (h : mh_H) (H : Heap) (locs : List Loc) (ls : Array Slot), mh_W D ks L (mh_A L s.heap.size) s.heap h H locs → lv_has ls 7 [(0, .ref o0), (1, .int x1), (3, .int x3), (4, .int x4), (5, .int x5)] → f_X4_missingAt_b51 k8 o0 x1 x3 x4 x5 h = some (r, h') → W p l e (mh_rm 3) s m args below meth c H locs 0 0 (MQ below (mh_Qi D ks L s.heap.size r h') args s 0 0 (mh_A L s.heap.size)) (F0 m 51 ls []) := by
  intro o0 x1 x3 x4 x5 h H locs ls wd hl hX
  have hx := cx.1.1
  have hb := cx.1.2.1
  unfold f_X4_missingAt_b51 at hX
  obtain ⟨v1, ev1, hX⟩ := mh_nmx hX
  refine lv_iinc (k := 4) (v := v1) (lv' := [(5, .int v1), (0, .ref o0), (1, .int x1), (3, .int x3), (4, .int x4)]) hx hb dX4_missingAt_51 hl rfl ev1 (Nat.le_of_ble_eq_true rfl) rfl (fun ls hl => ?_)
  refine lv_goto (tgt := 8) hx hb dX4_missingAt_54 rfl ?_
  exact hk8 _ _ _ _ _ h _ _ ls wd (lv_sub hl [1, 2, 3, 4, 0] rfl) hX
set_option maxRecDepth 100000 in
set_option maxHeartbeats 4000000 in
theorem w_X4_missingAt_b57 {p : Program} {l : Launch} {e : Env} {s : State} {m : MethodId} {args : Array Value} {below : List Frame} {meth : Method} {c : Code} {D : va_G} {ks : Nat → ClassId} {L : List Nat} {r : Int32} {h' : mh_H} (cx : mh_C p m c cX4_missingAt 7 s args RX4 meth D ks (mh_A L s.heap.size)) (hr : meth.sig.returnType = (some .int)) :
    ∀ (x3 : Int32) (h : mh_H) (H : Heap) (locs : List Loc) (ls : Array Slot), mh_W D ks L (mh_A L s.heap.size) s.heap h H locs → lv_has ls 7 [(3, .int x3)] → f_X4_missingAt_b57 x3 h = some (r, h') → W p l e (mh_rm 3) s m args below meth c H locs 0 0 (MQ below (mh_Qi D ks L s.heap.size r h') args s 0 0 (mh_A L s.heap.size)) (F0 m 57 ls []) := by
  intro x3 h H locs ls wd hl hX
  have hx := cx.1.1
  have hb := cx.1.2.1
  unfold f_X4_missingAt_b57 at hX
  refine lv_iload_n hx hb dX4_missingAt_57 rfl (lv_at hl 0 rfl) ?_
  exact mh_iret cx wd hr hX dX4_missingAt_58
set_option maxRecDepth 100000 in
set_option maxHeartbeats 4000000 in
theorem w_X4_missingAt_b8 {p : Program} {l : Launch} {e : Env} {s : State} {m : MethodId} {args : Array Value} {below : List Frame} {meth : Method} {c : Code} {D : va_G} {ks : Nat → ClassId} {L : List Nat} {r : Int32} {h' : mh_H} (cx : mh_C p m c cX4_missingAt 7 s args RX4 meth D ks (mh_A L s.heap.size)) (hr : meth.sig.returnType = (some .int)) :
    ∀ n : Nat, ∀ (o0 : Nat) (x1 : Int32) (x3 : Int32) (x4 : Int32) (x5 : Int32) (h : mh_H) (H : Heap) (locs : List Loc) (ls : Array Slot), mh_W D ks L (mh_A L s.heap.size) s.heap h H locs → lv_has ls 7 [(0, .ref o0), (1, .int x1), (3, .int x3), (4, .int x4), (5, .int x5)] → f_X4_missingAt_b8 n o0 x1 x3 x4 x5 h = some (r, h') → W p l e (mh_rm 3) s m args below meth c H locs 0 0 (MQ below (mh_Qi D ks L s.heap.size r h') args s 0 0 (mh_A L s.heap.size)) (F0 m 8 ls []) := by
  intro n
  induction n with
  | zero =>
    intro o0 x1 x3 x4 x5 h H locs ls wd hl hX
    cases hX
  | succ n ih =>
    intro o0 x1 x3 x4 x5 h H locs ls wd hl hX
    have hx := cx.1.1
    have hb := cx.1.2.1
    rw [f_X4_missingAt_b8] at hX
    refine lv_iload hx hb dX4_missingAt_8 (lv_at hl 4 rfl) ?_
    refine lv_bipush (v := 32) hx hb dX4_missingAt_10 (by decide) ?_
    refine lv_icmp_ge (tgt := 57) hx hb dX4_missingAt_12 rfl (fun hc => (fun hX => ?_) ((mh_if hX).1 hc)) (fun hc => (fun hX => ?_) ((mh_if hX).2 hc))
    · exact w_X4_missingAt_b57 cx hr _ h _ _ ls wd (lv_sub hl [2] rfl) hX
    · refine lv_iload_n hx hb dX4_missingAt_15 rfl (lv_at hl 2 rfl) ?_
      refine lv_iload hx hb dX4_missingAt_16 (lv_at hl 3 rfl) ?_
      refine lv_icmp_ge (tgt := 57) hx hb dX4_missingAt_18 rfl (fun hc => (fun hX => ?_) ((mh_if hX).1 hc)) (fun hc => (fun hX => ?_) ((mh_if hX).2 hc))
      · exact w_X4_missingAt_b57 cx hr _ h _ _ ls wd (lv_sub hl [2] rfl) hX
      · refine lv_iload_n hx hb dX4_missingAt_21 rfl (lv_at hl 2 rfl) ?_
        refine lv_iload hx hb dX4_missingAt_22 (lv_at hl 3 rfl) ?_
        refine lv_iadd hx hb dX4_missingAt_24 ?_
        refine lv_iconst (v := 2) hx hb dX4_missingAt_25 (by decide) ?_
        obtain ⟨hz, hX⟩ := mh_nzk hX
        refine lv_idiv hx hb dX4_missingAt_26 hz ?_
        refine mh_topi hX (fun v2 hX => ?_)
        refine lv_istore (lv' := [(6, .int v2), (0, .ref o0), (1, .int x1), (3, .int x3), (4, .int x4), (5, .int x5)]) hx hb dX4_missingAt_27 hl (Nat.le_of_ble_eq_true rfl) rfl (fun ls hl => ?_)
        refine lv_aload_n hx hb dX4_missingAt_29 rfl (lv_at hl 1 rfl) ?_
        refine lv_iload hx hb dX4_missingAt_30 (lv_at hl 0 rfl) ?_
        refine mh_callVI cx wd [.int v2] (rfl : vwCl[4]? = some (RX4, TX4, 1)) yw_X4_missingUpTo vw_X4_49 rfl hl.1 rfl (Nat.le_of_ble_eq_true rfl) dX4_missingAt_32 ⟨Nat.le_of_ble_eq_true rfl, Nat.le_of_ble_eq_true rfl⟩ ⟨Nat.le_refl _, Nat.le_refl _⟩ (fun _ _ q => c_X4_missingUpTo q) hX (fun v4 h3 H locs wd hX => ?_)
        refine lv_iload_n hx hb dX4_missingAt_35 rfl (lv_at hl 2 rfl) ?_
        refine lv_icmp_le (tgt := 46) hx hb dX4_missingAt_36 rfl (fun hc => (fun hX => ?_) ((mh_if hX).1 hc)) (fun hc => (fun hX => ?_) ((mh_if hX).2 hc))
        · refine lv_iload hx hb dX4_missingAt_46 (lv_at hl 0 rfl) ?_
          refine lv_iconst (v := 1) hx hb dX4_missingAt_48 (by decide) ?_
          refine lv_iadd hx hb dX4_missingAt_49 ?_
          refine mh_topi hX (fun v5 hX => ?_)
          refine lv_istore_n (lv' := [(3, .int v5), (6, .int v2), (0, .ref o0), (1, .int x1), (4, .int x4), (5, .int x5)]) hx hb dX4_missingAt_50 rfl hl (Nat.le_of_ble_eq_true rfl) rfl (fun ls hl => ?_)
          exact w_X4_missingAt_b51 (f_X4_missingAt_b8 n) cx hr ih _ _ _ _ _ h3 _ _ ls wd (lv_sub hl [2, 3, 0, 4, 5] rfl) hX
        · refine lv_iload hx hb dX4_missingAt_39 (lv_at hl 0 rfl) ?_
          refine lv_istore (lv' := [(4, .int v2), (6, .int v2), (0, .ref o0), (1, .int x1), (3, .int x3), (5, .int x5)]) hx hb dX4_missingAt_41 hl (Nat.le_of_ble_eq_true rfl) rfl (fun ls hl => ?_)
          refine lv_goto (tgt := 51) hx hb dX4_missingAt_43 rfl ?_
          exact w_X4_missingAt_b51 (f_X4_missingAt_b8 n) cx hr ih _ _ _ _ _ h3 _ _ ls wd (lv_sub hl [2, 3, 4, 0, 5] rfl) hX
set_option maxRecDepth 100000 in
set_option maxHeartbeats 4000000 in
theorem w_X4_missingAt_e {p : Program} {l : Launch} {e : Env} {s : State} {m : MethodId} {args : Array Value} {below : List Frame} {meth : Method} {c : Code} {D : va_G} {ks : Nat → ClassId} {L : List Nat} {r : Int32} {h' : mh_H} (cx : mh_C p m c cX4_missingAt 7 s args RX4 meth D ks (mh_A L s.heap.size)) (hr : meth.sig.returnType = (some .int)) :
    ∀ (o0 : Nat) (x1 : Int32) (x2 : Int32) (h : mh_H) (H : Heap) (locs : List Loc) (ls : Array Slot), mh_W D ks L (mh_A L s.heap.size) s.heap h H locs → lv_has ls 7 [(0, .ref o0), (1, .int x1), (2, .int x2)] → f_X4_missingAt_e o0 x1 x2 h = some (r, h') → W p l e (mh_rm 3) s m args below meth c H locs 0 0 (MQ below (mh_Qi D ks L s.heap.size r h') args s 0 0 (mh_A L s.heap.size)) (F0 m 0 ls []) := by
  intro o0 x1 x2 h H locs ls wd hl hX
  have hx := cx.1.1
  have hb := cx.1.2.1
  unfold f_X4_missingAt_e at hX
  refine lv_iconst (v := 0) hx hb dX4_missingAt_0 (by decide) ?_
  refine mh_topi hX (fun v6 hX => ?_)
  refine lv_istore_n (lv' := [(3, .int v6), (0, .ref o0), (1, .int x1), (2, .int x2)]) hx hb dX4_missingAt_1 rfl hl (Nat.le_of_ble_eq_true rfl) rfl (fun ls hl => ?_)
  refine lv_iload_n hx hb dX4_missingAt_2 rfl (lv_at hl 3 rfl) ?_
  refine lv_istore (lv' := [(4, .int x2), (3, .int v6), (0, .ref o0), (1, .int x1), (2, .int x2)]) hx hb dX4_missingAt_3 hl (Nat.le_of_ble_eq_true rfl) rfl (fun ls hl => ?_)
  refine lv_iconst (v := 0) hx hb dX4_missingAt_5 (by decide) ?_
  refine mh_topi hX (fun v7 hX => ?_)
  refine lv_istore (lv' := [(5, .int v7), (4, .int x2), (3, .int v6), (0, .ref o0), (1, .int x1), (2, .int x2)]) hx hb dX4_missingAt_6 hl (Nat.le_of_ble_eq_true rfl) rfl (fun ls hl => ?_)
  exact w_X4_missingAt_b8 cx hr mh_fu _ _ _ _ _ h _ _ ls wd (lv_sub hl [3, 4, 2, 1, 0] rfl) hX
set_option maxRecDepth 100000 in
theorem c_X4_missingAt {l : Launch} {L : List Nat} {h h' : mh_H} {r : Int32} {o0 : Nat} {x1 : Int32} {x2 : Int32} (hX : f_X4_missingAt_e o0 x1 x2 h = some (r, h')) : mh_MI l yX4_missingAt (Cond.code yX4_missingAt cX4_missingAt 7 (some .int) :: mh_TB) (mh_rm 3) [.ref o0, .int x1, .int x2] L h r h' :=
  mh_of (mc := 0) (ms := 0) (Qc := fun D ks sz => mh_Qi D ks L sz r h') (plainFor_of_name (by decide)) (Nat.le_of_ble_eq_true rfl) (fun p e s m below meth c D ks ls hr cx wd hl => by
    have hl : lv_has ls 7 [(0, .ref o0), (1, .int x1), (2, .int x2)] := hl
    exact w_X4_missingAt_e cx hr o0 x1 x2 h _ _ ls wd hl hX)
def f_X5_picked_e (o0 : Nat) (h : mh_H) : Option (Nat × mh_H) :=
  (mh_gR h o0 5 2).bind fun a1 =>
  some (a1, h)
set_option maxRecDepth 100000 in
set_option maxHeartbeats 4000000 in
theorem w_X5_picked_e {p : Program} {l : Launch} {e : Env} {s : State} {m : MethodId} {args : Array Value} {below : List Frame} {meth : Method} {c : Code} {D : va_G} {ks : Nat → ClassId} {L : List Nat} {r : Nat} {h' : mh_H} (cx : mh_C p m c cX5_picked 1 s args RX5 meth D ks (mh_A L s.heap.size)) (hr : meth.sig.returnType = (some (.object "MintHouse$Coins"))) :
    ∀ (o0 : Nat) (h : mh_H) (H : Heap) (locs : List Loc) (ls : Array Slot), mh_W D ks L (mh_A L s.heap.size) s.heap h H locs → lv_has ls 1 [(0, .ref o0)] → f_X5_picked_e o0 h = some (r, h') → W p l e (mh_rm 0) s m args below meth c H locs 0 0 (MQ below (mh_Qr D ks L s.heap.size r h') args s 0 0 (mh_A L s.heap.size)) (F0 m 0 ls []) := by
  intro o0 h H locs ls wd hl hX
  have hx := cx.1.1
  have hb := cx.1.2.1
  unfold f_X5_picked_e at hX
  refine lv_aload_n hx hb dX5_picked_0 rfl (lv_at hl 0 rfl) ?_
  refine mh_getR cx wd fl_X5_21 dX5_picked_1 hX (fun a1 hX => ?_)
  exact mh_aret cx wd hr (Or.inl ⟨_, rfl⟩) hX dX5_picked_4
set_option maxRecDepth 100000 in
theorem c_X5_picked {l : Launch} {L : List Nat} {h h' : mh_H} {r : Nat} {o0 : Nat} (hX : f_X5_picked_e o0 h = some (r, h')) : mh_MR l yX5_picked (Cond.code yX5_picked cX5_picked 1 (some (.object "MintHouse$Coins")) :: mh_TB) (mh_rm 0) [.ref o0] L h r h' :=
  mh_of (mc := 0) (ms := 0) (Qc := fun D ks sz => mh_Qr D ks L sz r h') (plainFor_of_name (by decide)) (Nat.le_of_ble_eq_true rfl) (fun p e s m below meth c D ks ls hr cx wd hl => by
    have hl : lv_has ls 1 [(0, .ref o0)] := hl
    exact w_X5_picked_e cx hr o0 h _ _ ls wd hl hX)
def f_X5_clear_b22 (h : mh_H) : Option mh_H :=
  some h
def f_X5_clear_b2 : Nat → Nat → Int32 → mh_H → Option mh_H
  | 0, _, _, _ => none
  | n + 1, o0, x1, h =>
    if (300 : Int32) < x1 then (
    f_X5_clear_b22 h) else
    (mh_gR h o0 5 0).bind fun a1 =>
    (mh_sZ h a1 x1 (0 : Int32)).bind fun h2 =>
    mh_nm (x1 + Int32.ofInt (1)) fun v3 =>
    f_X5_clear_b2 n o0 v3 h2
def f_X5_clear_e (o0 : Nat) (h : mh_H) : Option mh_H :=
  mh_nm (0 : Int32) fun v4 =>
  f_X5_clear_b2 mh_fu o0 v4 h
set_option maxRecDepth 100000 in
set_option maxHeartbeats 4000000 in
theorem w_X5_clear_b22 {p : Program} {l : Launch} {e : Env} {s : State} {m : MethodId} {args : Array Value} {below : List Frame} {meth : Method} {c : Code} {D : va_G} {ks : Nat → ClassId} {L : List Nat} {h' : mh_H} (cx : mh_C p m c cX5_clear 2 s args RX5 meth D ks (mh_A L s.heap.size)) (hr : meth.sig.returnType = none) :
    ∀ (h : mh_H) (H : Heap) (locs : List Loc) (ls : Array Slot), mh_W D ks L (mh_A L s.heap.size) s.heap h H locs → lv_has ls 2 [] → f_X5_clear_b22  h = some h' → W p l e (mh_rm 0) s m args below meth c H locs 0 0 (MQ below (mh_Qv D ks L s.heap.size h') args s 0 0 (mh_A L s.heap.size)) (F0 m 22 ls []) := by
  intro  h H locs ls wd hl hX
  have hx := cx.1.1
  have hb := cx.1.2.1
  unfold f_X5_clear_b22 at hX
  exact mh_vret cx wd hr hX dX5_clear_22
set_option maxRecDepth 100000 in
set_option maxHeartbeats 4000000 in
theorem w_X5_clear_b2 {p : Program} {l : Launch} {e : Env} {s : State} {m : MethodId} {args : Array Value} {below : List Frame} {meth : Method} {c : Code} {D : va_G} {ks : Nat → ClassId} {L : List Nat} {h' : mh_H} (cx : mh_C p m c cX5_clear 2 s args RX5 meth D ks (mh_A L s.heap.size)) (hr : meth.sig.returnType = none) :
    ∀ n : Nat, ∀ (o0 : Nat) (x1 : Int32) (h : mh_H) (H : Heap) (locs : List Loc) (ls : Array Slot), mh_W D ks L (mh_A L s.heap.size) s.heap h H locs → lv_has ls 2 [(0, .ref o0), (1, .int x1)] → f_X5_clear_b2 n o0 x1 h = some h' → W p l e (mh_rm 0) s m args below meth c H locs 0 0 (MQ below (mh_Qv D ks L s.heap.size h') args s 0 0 (mh_A L s.heap.size)) (F0 m 2 ls []) := by
  intro n
  induction n with
  | zero =>
    intro o0 x1 h H locs ls wd hl hX
    cases hX
  | succ n ih =>
    intro o0 x1 h H locs ls wd hl hX
    have hx := cx.1.1
    have hb := cx.1.2.1
    rw [f_X5_clear_b2] at hX
    refine lv_iload_n hx hb dX5_clear_2 rfl (lv_at hl 1 rfl) ?_
    refine lv_sipush (v := 300) hx hb dX5_clear_3 (by decide) ?_
    refine lv_icmp_gt (tgt := 22) hx hb dX5_clear_6 rfl (fun hc => (fun hX => ?_) ((mh_if hX).1 hc)) (fun hc => (fun hX => ?_) ((mh_if hX).2 hc))
    · exact w_X5_clear_b22 cx hr  h _ _ ls wd (lv_sub hl [] rfl) hX
    · refine lv_aload_n hx hb dX5_clear_9 rfl (lv_at hl 0 rfl) ?_
      refine mh_getR cx wd fl_X5_9 dX5_clear_10 hX (fun a1 hX => ?_)
      refine lv_iload_n hx hb dX5_clear_13 rfl (lv_at hl 1 rfl) ?_
      refine lv_iconst (v := 0) hx hb dX5_clear_14 (by decide) ?_
      refine mh_zast cx wd dX5_clear_15 hX (fun h2 H locs wd hX => ?_)
      obtain ⟨v3, ev3, hX⟩ := mh_nmx hX
      refine lv_iinc (k := 1) (v := v3) (lv' := [(1, .int v3), (0, .ref o0)]) hx hb dX5_clear_16 hl rfl ev3 (Nat.le_of_ble_eq_true rfl) rfl (fun ls hl => ?_)
      refine lv_goto (tgt := 2) hx hb dX5_clear_19 rfl ?_
      exact ih _ _ h2 _ _ ls wd (lv_sub hl [1, 0] rfl) hX
set_option maxRecDepth 100000 in
set_option maxHeartbeats 4000000 in
theorem w_X5_clear_e {p : Program} {l : Launch} {e : Env} {s : State} {m : MethodId} {args : Array Value} {below : List Frame} {meth : Method} {c : Code} {D : va_G} {ks : Nat → ClassId} {L : List Nat} {h' : mh_H} (cx : mh_C p m c cX5_clear 2 s args RX5 meth D ks (mh_A L s.heap.size)) (hr : meth.sig.returnType = none) :
    ∀ (o0 : Nat) (h : mh_H) (H : Heap) (locs : List Loc) (ls : Array Slot), mh_W D ks L (mh_A L s.heap.size) s.heap h H locs → lv_has ls 2 [(0, .ref o0)] → f_X5_clear_e o0 h = some h' → W p l e (mh_rm 0) s m args below meth c H locs 0 0 (MQ below (mh_Qv D ks L s.heap.size h') args s 0 0 (mh_A L s.heap.size)) (F0 m 0 ls []) := by
  intro o0 h H locs ls wd hl hX
  have hx := cx.1.1
  have hb := cx.1.2.1
  unfold f_X5_clear_e at hX
  refine lv_iconst (v := 0) hx hb dX5_clear_0 (by decide) ?_
  refine mh_topi hX (fun v4 hX => ?_)
  refine lv_istore_n (lv' := [(1, .int v4), (0, .ref o0)]) hx hb dX5_clear_1 rfl hl (Nat.le_of_ble_eq_true rfl) rfl (fun ls hl => ?_)
  exact w_X5_clear_b2 cx hr mh_fu _ _ h _ _ ls wd (lv_sub hl [1, 0] rfl) hX
set_option maxRecDepth 100000 in
theorem c_X5_clear {l : Launch} {L : List Nat} {h h' : mh_H} {o0 : Nat} (hX : f_X5_clear_e o0 h = some h') : mh_MV l yX5_clear (Cond.code yX5_clear cX5_clear 2 none :: mh_TB) (mh_rm 0) [.ref o0] L h h' :=
  mh_of (mc := 0) (ms := 0) (Qc := fun D ks sz => mh_Qv D ks L sz h') (plainFor_of_name (by decide)) (Nat.le_of_ble_eq_true rfl) (fun p e s m below meth c D ks ls hr cx wd hl => by
    have hl : lv_has ls 2 [(0, .ref o0)] := hl
    exact w_X5_clear_e cx hr o0 h _ _ ls wd hl hX)
def f_X5_offer_b19 (h : mh_H) : Option mh_H :=
  some h
def f_X5_offer_e (o0 : Nat) (x1 : Int32) (h : mh_H) : Option mh_H :=
  if x1 < (1 : Int32) then (
  f_X5_offer_b19 h) else
  if (300 : Int32) < x1 then (
  f_X5_offer_b19 h) else
  (mh_gR h o0 5 0).bind fun a1 =>
  (mh_sZ h a1 x1 (1 : Int32)).bind fun h2 =>
  f_X5_offer_b19 h2
set_option maxRecDepth 100000 in
set_option maxHeartbeats 4000000 in
theorem w_X5_offer_b19 {p : Program} {l : Launch} {e : Env} {s : State} {m : MethodId} {args : Array Value} {below : List Frame} {meth : Method} {c : Code} {D : va_G} {ks : Nat → ClassId} {L : List Nat} {h' : mh_H} (cx : mh_C p m c cX5_offer 2 s args RX5 meth D ks (mh_A L s.heap.size)) (hr : meth.sig.returnType = none) :
    ∀ (h : mh_H) (H : Heap) (locs : List Loc) (ls : Array Slot), mh_W D ks L (mh_A L s.heap.size) s.heap h H locs → lv_has ls 2 [] → f_X5_offer_b19  h = some h' → W p l e (mh_rm 0) s m args below meth c H locs 0 0 (MQ below (mh_Qv D ks L s.heap.size h') args s 0 0 (mh_A L s.heap.size)) (F0 m 19 ls []) := by
  intro  h H locs ls wd hl hX
  have hx := cx.1.1
  have hb := cx.1.2.1
  unfold f_X5_offer_b19 at hX
  exact mh_vret cx wd hr hX dX5_offer_19
set_option maxRecDepth 100000 in
set_option maxHeartbeats 4000000 in
theorem w_X5_offer_e {p : Program} {l : Launch} {e : Env} {s : State} {m : MethodId} {args : Array Value} {below : List Frame} {meth : Method} {c : Code} {D : va_G} {ks : Nat → ClassId} {L : List Nat} {h' : mh_H} (cx : mh_C p m c cX5_offer 2 s args RX5 meth D ks (mh_A L s.heap.size)) (hr : meth.sig.returnType = none) :
    ∀ (o0 : Nat) (x1 : Int32) (h : mh_H) (H : Heap) (locs : List Loc) (ls : Array Slot), mh_W D ks L (mh_A L s.heap.size) s.heap h H locs → lv_has ls 2 [(0, .ref o0), (1, .int x1)] → f_X5_offer_e o0 x1 h = some h' → W p l e (mh_rm 0) s m args below meth c H locs 0 0 (MQ below (mh_Qv D ks L s.heap.size h') args s 0 0 (mh_A L s.heap.size)) (F0 m 0 ls []) := by
  intro o0 x1 h H locs ls wd hl hX
  have hx := cx.1.1
  have hb := cx.1.2.1
  unfold f_X5_offer_e at hX
  refine lv_iload_n hx hb dX5_offer_0 rfl (lv_at hl 1 rfl) ?_
  refine lv_iconst (v := 1) hx hb dX5_offer_1 (by decide) ?_
  refine lv_icmp_lt (tgt := 19) hx hb dX5_offer_2 rfl (fun hc => (fun hX => ?_) ((mh_if hX).1 hc)) (fun hc => (fun hX => ?_) ((mh_if hX).2 hc))
  · exact w_X5_offer_b19 cx hr  h _ _ ls wd (lv_sub hl [] rfl) hX
  · refine lv_iload_n hx hb dX5_offer_5 rfl (lv_at hl 1 rfl) ?_
    refine lv_sipush (v := 300) hx hb dX5_offer_6 (by decide) ?_
    refine lv_icmp_gt (tgt := 19) hx hb dX5_offer_9 rfl (fun hc => (fun hX => ?_) ((mh_if hX).1 hc)) (fun hc => (fun hX => ?_) ((mh_if hX).2 hc))
    · exact w_X5_offer_b19 cx hr  h _ _ ls wd (lv_sub hl [] rfl) hX
    · refine lv_aload_n hx hb dX5_offer_12 rfl (lv_at hl 0 rfl) ?_
      refine mh_getR cx wd fl_X5_9 dX5_offer_13 hX (fun a1 hX => ?_)
      refine lv_iload_n hx hb dX5_offer_16 rfl (lv_at hl 1 rfl) ?_
      refine lv_iconst (v := 1) hx hb dX5_offer_17 (by decide) ?_
      refine mh_zast cx wd dX5_offer_18 hX (fun h2 H locs wd hX => ?_)
      exact w_X5_offer_b19 cx hr  h2 _ _ ls wd (lv_sub hl [] rfl) hX
set_option maxRecDepth 100000 in
theorem c_X5_offer {l : Launch} {L : List Nat} {h h' : mh_H} {o0 : Nat} {x1 : Int32} (hX : f_X5_offer_e o0 x1 h = some h') : mh_MV l yX5_offer (Cond.code yX5_offer cX5_offer 2 none :: mh_TB) (mh_rm 0) [.ref o0, .int x1] L h h' :=
  mh_of (mc := 0) (ms := 0) (Qc := fun D ks sz => mh_Qv D ks L sz h') (plainFor_of_name (by decide)) (Nat.le_of_ble_eq_true rfl) (fun p e s m below meth c D ks ls hr cx wd hl => by
    have hl : lv_has ls 2 [(0, .ref o0), (1, .int x1)] := hl
    exact w_X5_offer_e cx hr o0 x1 h _ _ ls wd hl hX)
def f_X5_offerAll_b25 (h : mh_H) : Option mh_H :=
  some h
def f_X5_offerAll_b2 : Nat → Nat → Nat → Int32 → mh_H → Option mh_H
  | 0, _, _, _, _ => none
  | n + 1, o0, o1, x2, h =>
    mh_b2 (mh_cal h o1 1 (f_X1_count_e o1 h)) fun v2 h1 =>
    if v2 ≤ x2 then (
    f_X5_offerAll_b25 h1) else
    mh_b2 (mh_cal h1 o1 1 (f_X1_value_e o1 x2 h1)) fun v4 h3 =>
    (mh_cal h3 o0 5 (f_X5_offer_e o0 v4 h3)).bind fun h5 =>
    mh_nm (x2 + Int32.ofInt (1)) fun v6 =>
    f_X5_offerAll_b2 n o0 o1 v6 h5
def f_X5_offerAll_e (o0 : Nat) (o1 : Nat) (h : mh_H) : Option mh_H :=
  mh_nm (0 : Int32) fun v7 =>
  f_X5_offerAll_b2 mh_fu o0 o1 v7 h
set_option maxRecDepth 100000 in
set_option maxHeartbeats 4000000 in
theorem w_X5_offerAll_b25 {p : Program} {l : Launch} {e : Env} {s : State} {m : MethodId} {args : Array Value} {below : List Frame} {meth : Method} {c : Code} {D : va_G} {ks : Nat → ClassId} {L : List Nat} {h' : mh_H} (cx : mh_C p m c cX5_offerAll 3 s args RX5 meth D ks (mh_A L s.heap.size)) (hr : meth.sig.returnType = none) :
    ∀ (h : mh_H) (H : Heap) (locs : List Loc) (ls : Array Slot), mh_W D ks L (mh_A L s.heap.size) s.heap h H locs → lv_has ls 3 [] → f_X5_offerAll_b25  h = some h' → W p l e (mh_rm 1) s m args below meth c H locs 0 0 (MQ below (mh_Qv D ks L s.heap.size h') args s 0 0 (mh_A L s.heap.size)) (F0 m 25 ls []) := by
  intro  h H locs ls wd hl hX
  have hx := cx.1.1
  have hb := cx.1.2.1
  unfold f_X5_offerAll_b25 at hX
  exact mh_vret cx wd hr hX dX5_offerAll_25
set_option maxRecDepth 100000 in
set_option maxHeartbeats 4000000 in
theorem w_X5_offerAll_b2 {p : Program} {l : Launch} {e : Env} {s : State} {m : MethodId} {args : Array Value} {below : List Frame} {meth : Method} {c : Code} {D : va_G} {ks : Nat → ClassId} {L : List Nat} {h' : mh_H} (cx : mh_C p m c cX5_offerAll 3 s args RX5 meth D ks (mh_A L s.heap.size)) (hr : meth.sig.returnType = none) :
    ∀ n : Nat, ∀ (o0 : Nat) (o1 : Nat) (x2 : Int32) (h : mh_H) (H : Heap) (locs : List Loc) (ls : Array Slot), mh_W D ks L (mh_A L s.heap.size) s.heap h H locs → lv_has ls 3 [(0, .ref o0), (1, .ref o1), (2, .int x2)] → f_X5_offerAll_b2 n o0 o1 x2 h = some h' → W p l e (mh_rm 1) s m args below meth c H locs 0 0 (MQ below (mh_Qv D ks L s.heap.size h') args s 0 0 (mh_A L s.heap.size)) (F0 m 2 ls []) := by
  intro n
  induction n with
  | zero =>
    intro o0 o1 x2 h H locs ls wd hl hX
    cases hX
  | succ n ih =>
    intro o0 o1 x2 h H locs ls wd hl hX
    have hx := cx.1.1
    have hb := cx.1.2.1
    rw [f_X5_offerAll_b2] at hX
    refine lv_iload_n hx hb dX5_offerAll_2 rfl (lv_at hl 2 rfl) ?_
    refine lv_aload_n hx hb dX5_offerAll_3 rfl (lv_at hl 1 rfl) ?_
    refine mh_callVI cx wd [] (rfl : vwCl[1]? = some (RX1, TX1, 2)) yw_X1_count vw_X5_25 rfl hl.1 rfl (Nat.le_of_ble_eq_true rfl) dX5_offerAll_4 ⟨Nat.le_of_ble_eq_true rfl, Nat.le_of_ble_eq_true rfl⟩ ⟨Nat.le_refl _, Nat.le_refl _⟩ (fun _ _ q => c_X1_count q) hX (fun v2 h1 H locs wd hX => ?_)
    refine lv_icmp_ge (tgt := 25) hx hb dX5_offerAll_7 rfl (fun hc => (fun hX => ?_) ((mh_if hX).1 hc)) (fun hc => (fun hX => ?_) ((mh_if hX).2 hc))
    · exact w_X5_offerAll_b25 cx hr  h1 _ _ ls wd (lv_sub hl [] rfl) hX
    · refine lv_aload_n hx hb dX5_offerAll_10 rfl (lv_at hl 0 rfl) ?_
      refine lv_aload_n hx hb dX5_offerAll_11 rfl (lv_at hl 1 rfl) ?_
      refine lv_iload_n hx hb dX5_offerAll_12 rfl (lv_at hl 2 rfl) ?_
      refine mh_callVI cx wd [.int x2] (rfl : vwCl[1]? = some (RX1, TX1, 2)) yw_X1_value vw_X5_29 rfl hl.1 rfl (Nat.le_of_ble_eq_true rfl) dX5_offerAll_13 ⟨Nat.le_of_ble_eq_true rfl, Nat.le_of_ble_eq_true rfl⟩ ⟨Nat.le_refl _, Nat.le_refl _⟩ (fun _ _ q => c_X1_value q) hX (fun v4 h3 H locs wd hX => ?_)
      refine mh_callVV cx wd [.int v4] (rfl : vwCl[5]? = some (RX5, TX5, 3)) yw_X5_offer vw_X5_33 rfl hl.1 rfl (Nat.le_of_ble_eq_true rfl) dX5_offerAll_16 ⟨Nat.le_of_ble_eq_true rfl, Nat.le_of_ble_eq_true rfl⟩ ⟨Nat.le_refl _, Nat.le_refl _⟩ (fun _ q => c_X5_offer q) hX (fun h5 H locs wd hX => ?_)
      obtain ⟨v6, ev6, hX⟩ := mh_nmx hX
      refine lv_iinc (k := 2) (v := v6) (lv' := [(2, .int v6), (0, .ref o0), (1, .ref o1)]) hx hb dX5_offerAll_19 hl rfl ev6 (Nat.le_of_ble_eq_true rfl) rfl (fun ls hl => ?_)
      refine lv_goto (tgt := 2) hx hb dX5_offerAll_22 rfl ?_
      exact ih _ _ _ h5 _ _ ls wd (lv_sub hl [1, 2, 0] rfl) hX
set_option maxRecDepth 100000 in
set_option maxHeartbeats 4000000 in
theorem w_X5_offerAll_e {p : Program} {l : Launch} {e : Env} {s : State} {m : MethodId} {args : Array Value} {below : List Frame} {meth : Method} {c : Code} {D : va_G} {ks : Nat → ClassId} {L : List Nat} {h' : mh_H} (cx : mh_C p m c cX5_offerAll 3 s args RX5 meth D ks (mh_A L s.heap.size)) (hr : meth.sig.returnType = none) :
    ∀ (o0 : Nat) (o1 : Nat) (h : mh_H) (H : Heap) (locs : List Loc) (ls : Array Slot), mh_W D ks L (mh_A L s.heap.size) s.heap h H locs → lv_has ls 3 [(0, .ref o0), (1, .ref o1)] → f_X5_offerAll_e o0 o1 h = some h' → W p l e (mh_rm 1) s m args below meth c H locs 0 0 (MQ below (mh_Qv D ks L s.heap.size h') args s 0 0 (mh_A L s.heap.size)) (F0 m 0 ls []) := by
  intro o0 o1 h H locs ls wd hl hX
  have hx := cx.1.1
  have hb := cx.1.2.1
  unfold f_X5_offerAll_e at hX
  refine lv_iconst (v := 0) hx hb dX5_offerAll_0 (by decide) ?_
  refine mh_topi hX (fun v7 hX => ?_)
  refine lv_istore_n (lv' := [(2, .int v7), (0, .ref o0), (1, .ref o1)]) hx hb dX5_offerAll_1 rfl hl (Nat.le_of_ble_eq_true rfl) rfl (fun ls hl => ?_)
  exact w_X5_offerAll_b2 cx hr mh_fu _ _ _ h _ _ ls wd (lv_sub hl [1, 2, 0] rfl) hX
set_option maxRecDepth 100000 in
theorem c_X5_offerAll {l : Launch} {L : List Nat} {h h' : mh_H} {o0 : Nat} {o1 : Nat} (hX : f_X5_offerAll_e o0 o1 h = some h') : mh_MV l yX5_offerAll (Cond.code yX5_offerAll cX5_offerAll 3 none :: mh_TB) (mh_rm 1) [.ref o0, .ref o1] L h h' :=
  mh_of (mc := 0) (ms := 0) (Qc := fun D ks sz => mh_Qv D ks L sz h') (plainFor_of_name (by decide)) (Nat.le_of_ble_eq_true rfl) (fun p e s m below meth c D ks ls hr cx wd hl => by
    have hl : lv_has ls 3 [(0, .ref o0), (1, .ref o1)] := hl
    exact w_X5_offerAll_e cx hr o0 o1 h _ _ ls wd hl hX)
def f_X5_payWith_b39 (k2 : Nat → Int32 → Int32 → mh_H → Option mh_H) (o0 : Nat) (x1 : Int32) (x2 : Int32) (t0 : Nat) (t1 : Int32) (t2 : Int32) (h : mh_H) : Option mh_H :=
  (mh_sZ h t0 t1 t2).bind fun h1 =>
  mh_nm (x2 + Int32.ofInt (1)) fun v2 =>
  k2 o0 x1 v2 h1
def f_X5_payWith_b34 (k39 : Nat → Int32 → Int32 → Nat → Int32 → Int32 → mh_H → Option mh_H) (o0 : Nat) (x1 : Int32) (x2 : Int32) (t0 : Nat) (t1 : Int32) (h : mh_H) : Option mh_H :=
  k39 o0 x1 x2 t0 t1 (1 : Int32) h
def f_X5_payWith_b46 (h : mh_H) : Option mh_H :=
  some h
def f_X5_payWith_b2 : Nat → Nat → Int32 → Int32 → mh_H → Option mh_H
  | 0, _, _, _, _ => none
  | n + 1, o0, x1, x2, h =>
    if (300 : Int32) < x2 then (
    f_X5_payWith_b46 h) else
    (mh_gR h o0 5 1).bind fun a3 =>
    (mh_gR h o0 5 1).bind fun a4 =>
    (mh_aI h a4 2 x2).bind fun v5 =>
    if v5 = 0 then (
    (mh_gR h o0 5 1).bind fun a6 =>
    (mh_aI h a6 2 (x2 - x1)).bind fun v7 =>
    if v7 = 0 then (
    f_X5_payWith_b39 (f_X5_payWith_b2 n) o0 x1 x2 a3 x2 (0 : Int32) h) else
    f_X5_payWith_b34 (f_X5_payWith_b39 (f_X5_payWith_b2 n)) o0 x1 x2 a3 x2 h) else
    f_X5_payWith_b34 (f_X5_payWith_b39 (f_X5_payWith_b2 n)) o0 x1 x2 a3 x2 h
def f_X5_payWith_e (o0 : Nat) (x1 : Int32) (h : mh_H) : Option mh_H :=
  f_X5_payWith_b2 mh_fu o0 x1 x1 h
set_option maxRecDepth 100000 in
set_option maxHeartbeats 4000000 in
theorem w_X5_payWith_b39 {p : Program} {l : Launch} {e : Env} {s : State} {m : MethodId} {args : Array Value} {below : List Frame} {meth : Method} {c : Code} {D : va_G} {ks : Nat → ClassId} {L : List Nat} {h' : mh_H} (k2 : Nat → Int32 → Int32 → mh_H → Option mh_H) (cx : mh_C p m c cX5_payWith 3 s args RX5 meth D ks (mh_A L s.heap.size)) (hr : meth.sig.returnType = none)
    (hk2 : ∀ (o0 : Nat) (x1 : Int32) (x2 : Int32) (h : mh_H) (H : Heap) (locs : List Loc) (ls : Array Slot), mh_W D ks L (mh_A L s.heap.size) s.heap h H locs → lv_has ls 3 [(0, .ref o0), (1, .int x1), (2, .int x2)] → k2 o0 x1 x2 h = some h' → W p l e (mh_rm 0) s m args below meth c H locs 0 0 (MQ below (mh_Qv D ks L s.heap.size h') args s 0 0 (mh_A L s.heap.size)) (F0 m 2 ls [])) :
    ∀ (o0 : Nat) (x1 : Int32) (x2 : Int32) (t0 : Nat) (t1 : Int32) (t2 : Int32) (h : mh_H) (H : Heap) (locs : List Loc) (ls : Array Slot), mh_W D ks L (mh_A L s.heap.size) s.heap h H locs → lv_has ls 3 [(0, .ref o0), (1, .int x1), (2, .int x2)] → f_X5_payWith_b39 k2 o0 x1 x2 t0 t1 t2 h = some h' → W p l e (mh_rm 0) s m args below meth c H locs 0 0 (MQ below (mh_Qv D ks L s.heap.size h') args s 0 0 (mh_A L s.heap.size)) (F0 m 39 ls [.int t2, .int t1, .ref t0]) := by
  intro o0 x1 x2 t0 t1 t2 h H locs ls wd hl hX
  have hx := cx.1.1
  have hb := cx.1.2.1
  unfold f_X5_payWith_b39 at hX
  refine mh_zast cx wd dX5_payWith_39 hX (fun h1 H locs wd hX => ?_)
  obtain ⟨v2, ev2, hX⟩ := mh_nmx hX
  refine lv_iinc (k := 2) (v := v2) (lv' := [(2, .int v2), (0, .ref o0), (1, .int x1)]) hx hb dX5_payWith_40 hl rfl ev2 (Nat.le_of_ble_eq_true rfl) rfl (fun ls hl => ?_)
  refine lv_goto (tgt := 2) hx hb dX5_payWith_43 rfl ?_
  exact hk2 _ _ _ h1 _ _ ls wd (lv_sub hl [1, 2, 0] rfl) hX
set_option maxRecDepth 100000 in
set_option maxHeartbeats 4000000 in
theorem w_X5_payWith_b34 {p : Program} {l : Launch} {e : Env} {s : State} {m : MethodId} {args : Array Value} {below : List Frame} {meth : Method} {c : Code} {D : va_G} {ks : Nat → ClassId} {L : List Nat} {h' : mh_H} (k39 : Nat → Int32 → Int32 → Nat → Int32 → Int32 → mh_H → Option mh_H) (cx : mh_C p m c cX5_payWith 3 s args RX5 meth D ks (mh_A L s.heap.size)) (hr : meth.sig.returnType = none)
    (hk39 : ∀ (o0 : Nat) (x1 : Int32) (x2 : Int32) (t0 : Nat) (t1 : Int32) (t2 : Int32) (h : mh_H) (H : Heap) (locs : List Loc) (ls : Array Slot), mh_W D ks L (mh_A L s.heap.size) s.heap h H locs → lv_has ls 3 [(0, .ref o0), (1, .int x1), (2, .int x2)] → k39 o0 x1 x2 t0 t1 t2 h = some h' → W p l e (mh_rm 0) s m args below meth c H locs 0 0 (MQ below (mh_Qv D ks L s.heap.size h') args s 0 0 (mh_A L s.heap.size)) (F0 m 39 ls [.int t2, .int t1, .ref t0])) :
    ∀ (o0 : Nat) (x1 : Int32) (x2 : Int32) (t0 : Nat) (t1 : Int32) (h : mh_H) (H : Heap) (locs : List Loc) (ls : Array Slot), mh_W D ks L (mh_A L s.heap.size) s.heap h H locs → lv_has ls 3 [(0, .ref o0), (1, .int x1), (2, .int x2)] → f_X5_payWith_b34 k39 o0 x1 x2 t0 t1 h = some h' → W p l e (mh_rm 0) s m args below meth c H locs 0 0 (MQ below (mh_Qv D ks L s.heap.size h') args s 0 0 (mh_A L s.heap.size)) (F0 m 34 ls [.int t1, .ref t0]) := by
  intro o0 x1 x2 t0 t1 h H locs ls wd hl hX
  have hx := cx.1.1
  have hb := cx.1.2.1
  unfold f_X5_payWith_b34 at hX
  refine lv_iconst (v := 1) hx hb dX5_payWith_34 (by decide) ?_
  refine lv_goto (tgt := 39) hx hb dX5_payWith_35 rfl ?_
  exact hk39 _ _ _ _ _ _ h _ _ ls wd (lv_sub hl [0, 1, 2] rfl) hX
set_option maxRecDepth 100000 in
set_option maxHeartbeats 4000000 in
theorem w_X5_payWith_b46 {p : Program} {l : Launch} {e : Env} {s : State} {m : MethodId} {args : Array Value} {below : List Frame} {meth : Method} {c : Code} {D : va_G} {ks : Nat → ClassId} {L : List Nat} {h' : mh_H} (cx : mh_C p m c cX5_payWith 3 s args RX5 meth D ks (mh_A L s.heap.size)) (hr : meth.sig.returnType = none) :
    ∀ (h : mh_H) (H : Heap) (locs : List Loc) (ls : Array Slot), mh_W D ks L (mh_A L s.heap.size) s.heap h H locs → lv_has ls 3 [] → f_X5_payWith_b46  h = some h' → W p l e (mh_rm 0) s m args below meth c H locs 0 0 (MQ below (mh_Qv D ks L s.heap.size h') args s 0 0 (mh_A L s.heap.size)) (F0 m 46 ls []) := by
  intro  h H locs ls wd hl hX
  have hx := cx.1.1
  have hb := cx.1.2.1
  unfold f_X5_payWith_b46 at hX
  exact mh_vret cx wd hr hX dX5_payWith_46
set_option maxRecDepth 100000 in
set_option maxHeartbeats 4000000 in
theorem w_X5_payWith_b2 {p : Program} {l : Launch} {e : Env} {s : State} {m : MethodId} {args : Array Value} {below : List Frame} {meth : Method} {c : Code} {D : va_G} {ks : Nat → ClassId} {L : List Nat} {h' : mh_H} (cx : mh_C p m c cX5_payWith 3 s args RX5 meth D ks (mh_A L s.heap.size)) (hr : meth.sig.returnType = none) :
    ∀ n : Nat, ∀ (o0 : Nat) (x1 : Int32) (x2 : Int32) (h : mh_H) (H : Heap) (locs : List Loc) (ls : Array Slot), mh_W D ks L (mh_A L s.heap.size) s.heap h H locs → lv_has ls 3 [(0, .ref o0), (1, .int x1), (2, .int x2)] → f_X5_payWith_b2 n o0 x1 x2 h = some h' → W p l e (mh_rm 0) s m args below meth c H locs 0 0 (MQ below (mh_Qv D ks L s.heap.size h') args s 0 0 (mh_A L s.heap.size)) (F0 m 2 ls []) := by
  intro n
  induction n with
  | zero =>
    intro o0 x1 x2 h H locs ls wd hl hX
    cases hX
  | succ n ih =>
    intro o0 x1 x2 h H locs ls wd hl hX
    have hx := cx.1.1
    have hb := cx.1.2.1
    rw [f_X5_payWith_b2] at hX
    refine lv_iload_n hx hb dX5_payWith_2 rfl (lv_at hl 2 rfl) ?_
    refine lv_sipush (v := 300) hx hb dX5_payWith_3 (by decide) ?_
    refine lv_icmp_gt (tgt := 46) hx hb dX5_payWith_6 rfl (fun hc => (fun hX => ?_) ((mh_if hX).1 hc)) (fun hc => (fun hX => ?_) ((mh_if hX).2 hc))
    · exact w_X5_payWith_b46 cx hr  h _ _ ls wd (lv_sub hl [] rfl) hX
    · refine lv_aload_n hx hb dX5_payWith_9 rfl (lv_at hl 0 rfl) ?_
      refine mh_getR cx wd fl_X5_15 dX5_payWith_10 hX (fun a3 hX => ?_)
      refine lv_iload_n hx hb dX5_payWith_13 rfl (lv_at hl 2 rfl) ?_
      refine lv_aload_n hx hb dX5_payWith_14 rfl (lv_at hl 0 rfl) ?_
      refine mh_getR cx wd fl_X5_15 dX5_payWith_15 hX (fun a4 hX => ?_)
      refine lv_iload_n hx hb dX5_payWith_18 rfl (lv_at hl 2 rfl) ?_
      refine mh_zald cx wd dX5_payWith_19 hX (fun v5 hX => ?_)
      refine lv_if_ne (tgt := 34) hx hb dX5_payWith_20 rfl (fun hc => (fun hX => ?_) ((mh_if hX).2 hc)) (fun hc => (fun hX => ?_) ((mh_if hX).1 hc))
      · exact w_X5_payWith_b34 (f_X5_payWith_b39 (f_X5_payWith_b2 n)) cx hr (w_X5_payWith_b39 (f_X5_payWith_b2 n) cx hr ih) _ _ _ _ _ h _ _ ls wd (lv_sub hl [0, 1, 2] rfl) hX
      · refine lv_aload_n hx hb dX5_payWith_23 rfl (lv_at hl 0 rfl) ?_
        refine mh_getR cx wd fl_X5_15 dX5_payWith_24 hX (fun a6 hX => ?_)
        refine lv_iload_n hx hb dX5_payWith_27 rfl (lv_at hl 2 rfl) ?_
        refine lv_iload_n hx hb dX5_payWith_28 rfl (lv_at hl 1 rfl) ?_
        refine lv_isub hx hb dX5_payWith_29 ?_
        refine mh_zald cx wd dX5_payWith_30 hX (fun v7 hX => ?_)
        refine lv_if_eq (tgt := 38) hx hb dX5_payWith_31 rfl (fun hc => (fun hX => ?_) ((mh_if hX).1 hc)) (fun hc => (fun hX => ?_) ((mh_if hX).2 hc))
        · refine lv_iconst (v := 0) hx hb dX5_payWith_38 (by decide) ?_
          exact w_X5_payWith_b39 (f_X5_payWith_b2 n) cx hr ih _ _ _ _ _ _ h _ _ ls wd (lv_sub hl [0, 1, 2] rfl) hX
        · exact w_X5_payWith_b34 (f_X5_payWith_b39 (f_X5_payWith_b2 n)) cx hr (w_X5_payWith_b39 (f_X5_payWith_b2 n) cx hr ih) _ _ _ _ _ h _ _ ls wd (lv_sub hl [0, 1, 2] rfl) hX
set_option maxRecDepth 100000 in
set_option maxHeartbeats 4000000 in
theorem w_X5_payWith_e {p : Program} {l : Launch} {e : Env} {s : State} {m : MethodId} {args : Array Value} {below : List Frame} {meth : Method} {c : Code} {D : va_G} {ks : Nat → ClassId} {L : List Nat} {h' : mh_H} (cx : mh_C p m c cX5_payWith 3 s args RX5 meth D ks (mh_A L s.heap.size)) (hr : meth.sig.returnType = none) :
    ∀ (o0 : Nat) (x1 : Int32) (h : mh_H) (H : Heap) (locs : List Loc) (ls : Array Slot), mh_W D ks L (mh_A L s.heap.size) s.heap h H locs → lv_has ls 3 [(0, .ref o0), (1, .int x1)] → f_X5_payWith_e o0 x1 h = some h' → W p l e (mh_rm 0) s m args below meth c H locs 0 0 (MQ below (mh_Qv D ks L s.heap.size h') args s 0 0 (mh_A L s.heap.size)) (F0 m 0 ls []) := by
  intro o0 x1 h H locs ls wd hl hX
  have hx := cx.1.1
  have hb := cx.1.2.1
  unfold f_X5_payWith_e at hX
  refine lv_iload_n hx hb dX5_payWith_0 rfl (lv_at hl 1 rfl) ?_
  refine lv_istore_n (lv' := [(2, .int x1), (0, .ref o0), (1, .int x1)]) hx hb dX5_payWith_1 rfl hl (Nat.le_of_ble_eq_true rfl) rfl (fun ls hl => ?_)
  exact w_X5_payWith_b2 cx hr mh_fu _ _ _ h _ _ ls wd (lv_sub hl [1, 2, 0] rfl) hX
set_option maxRecDepth 100000 in
theorem c_X5_payWith {l : Launch} {L : List Nat} {h h' : mh_H} {o0 : Nat} {x1 : Int32} (hX : f_X5_payWith_e o0 x1 h = some h') : mh_MV l yX5_payWith (Cond.code yX5_payWith cX5_payWith 3 none :: mh_TB) (mh_rm 0) [.ref o0, .int x1] L h h' :=
  mh_of (mc := 0) (ms := 0) (Qc := fun D ks sz => mh_Qv D ks L sz h') (plainFor_of_name (by decide)) (Nat.le_of_ble_eq_true rfl) (fun p e s m below meth c D ks ls hr cx wd hl => by
    have hl : lv_has ls 3 [(0, .ref o0), (1, .int x1)] := hl
    exact w_X5_payWith_e cx hr o0 x1 h _ _ ls wd hl hX)
def f_X5_pick_b30 (k9 : Nat → Int32 → mh_H → Option (Int32 × mh_H)) (o0 : Nat) (x1 : Int32) (t0 : Nat) (t1 : Int32) (t2 : Int32) (h : mh_H) : Option (Int32 × mh_H) :=
  (mh_sZ h t0 t1 t2).bind fun h1 =>
  mh_nm (x1 + Int32.ofInt (1)) fun v2 =>
  k9 o0 v2 h1
def f_X5_pick_b75 (h : mh_H) : Option (Int32 × mh_H) :=
  mh_rz (0 : Int32) h
def f_X5_pick_b82 (k39 : Nat → Int32 → mh_H → Option (Int32 × mh_H)) (o0 : Nat) (x1 : Int32) (h : mh_H) : Option (Int32 × mh_H) :=
  mh_nm (x1 + Int32.ofInt (1)) fun v3 =>
  k39 o0 v3 h
def f_X5_pick_b88 (h : mh_H) : Option (Int32 × mh_H) :=
  mh_rz (1 : Int32) h
def f_X5_pick_b39 : Nat → Nat → Int32 → mh_H → Option (Int32 × mh_H)
  | 0, _, _, _ => none
  | n + 1, o0, x1, h =>
    if (300 : Int32) < x1 then (
    f_X5_pick_b88 h) else
    (mh_gR h o0 5 0).bind fun a4 =>
    (mh_aI h a4 2 x1).bind fun v5 =>
    if v5 = 0 then (
    f_X5_pick_b82 (f_X5_pick_b39 n) o0 x1 h) else
    (mh_gR h o0 5 1).bind fun a6 =>
    (mh_aI h a6 2 x1).bind fun v7 =>
    if v7 = 0 then (
    (mh_gR h o0 5 2).bind fun a8 =>
    mh_b2 (mh_cal h a8 1 (f_X1_insert_e a8 x1 h)) fun v10 h9 =>
    if v10 = 0 then (
    f_X5_pick_b75 h9) else
    (mh_cal h9 o0 5 (f_X5_payWith_e o0 x1 h9)).bind fun h11 =>
    f_X5_pick_b82 (f_X5_pick_b39 n) o0 x1 h11) else
    f_X5_pick_b82 (f_X5_pick_b39 n) o0 x1 h
def f_X5_pick_b37 (o0 : Nat) (h : mh_H) : Option (Int32 × mh_H) :=
  mh_nm (1 : Int32) fun v12 =>
  f_X5_pick_b39 mh_fu o0 v12 h
def f_X5_pick_b9 : Nat → Nat → Int32 → mh_H → Option (Int32 × mh_H)
  | 0, _, _, _ => none
  | n + 1, o0, x1, h =>
    if (300 : Int32) < x1 then (
    f_X5_pick_b37 o0 h) else
    (mh_gR h o0 5 1).bind fun a13 =>
    if x1 = 0 then (
    f_X5_pick_b30 (f_X5_pick_b9 n) o0 x1 a13 x1 (1 : Int32) h) else
    f_X5_pick_b30 (f_X5_pick_b9 n) o0 x1 a13 x1 (0 : Int32) h
def f_X5_pick_e (o0 : Nat) (h : mh_H) : Option (Int32 × mh_H) :=
  (mh_gR h o0 5 2).bind fun a14 =>
  (mh_cal h a14 1 (f_X1_clear_e a14 h)).bind fun h15 =>
  mh_nm (0 : Int32) fun v16 =>
  f_X5_pick_b9 mh_fu o0 v16 h15
set_option maxRecDepth 100000 in
set_option maxHeartbeats 4000000 in
theorem w_X5_pick_b30 {p : Program} {l : Launch} {e : Env} {s : State} {m : MethodId} {args : Array Value} {below : List Frame} {meth : Method} {c : Code} {D : va_G} {ks : Nat → ClassId} {L : List Nat} {r : Int32} {h' : mh_H} (k9 : Nat → Int32 → mh_H → Option (Int32 × mh_H)) (cx : mh_C p m c cX5_pick 2 s args RX5 meth D ks (mh_A L s.heap.size)) (hr : meth.sig.returnType = (some .boolean))
    (hk9 : ∀ (o0 : Nat) (x1 : Int32) (h : mh_H) (H : Heap) (locs : List Loc) (ls : Array Slot), mh_W D ks L (mh_A L s.heap.size) s.heap h H locs → lv_has ls 2 [(0, .ref o0), (1, .int x1)] → k9 o0 x1 h = some (r, h') → W p l e (mh_rm 3) s m args below meth c H locs 0 0 (MQ below (mh_Qi D ks L s.heap.size r h') args s 0 0 (mh_A L s.heap.size)) (F0 m 9 ls [])) :
    ∀ (o0 : Nat) (x1 : Int32) (t0 : Nat) (t1 : Int32) (t2 : Int32) (h : mh_H) (H : Heap) (locs : List Loc) (ls : Array Slot), mh_W D ks L (mh_A L s.heap.size) s.heap h H locs → lv_has ls 2 [(0, .ref o0), (1, .int x1)] → f_X5_pick_b30 k9 o0 x1 t0 t1 t2 h = some (r, h') → W p l e (mh_rm 3) s m args below meth c H locs 0 0 (MQ below (mh_Qi D ks L s.heap.size r h') args s 0 0 (mh_A L s.heap.size)) (F0 m 30 ls [.int t2, .int t1, .ref t0]) := by
  intro o0 x1 t0 t1 t2 h H locs ls wd hl hX
  have hx := cx.1.1
  have hb := cx.1.2.1
  unfold f_X5_pick_b30 at hX
  refine mh_zast cx wd dX5_pick_30 hX (fun h1 H locs wd hX => ?_)
  obtain ⟨v2, ev2, hX⟩ := mh_nmx hX
  refine lv_iinc (k := 1) (v := v2) (lv' := [(1, .int v2), (0, .ref o0)]) hx hb dX5_pick_31 hl rfl ev2 (Nat.le_of_ble_eq_true rfl) rfl (fun ls hl => ?_)
  refine lv_goto (tgt := 9) hx hb dX5_pick_34 rfl ?_
  exact hk9 _ _ h1 _ _ ls wd (lv_sub hl [1, 0] rfl) hX
set_option maxRecDepth 100000 in
set_option maxHeartbeats 4000000 in
theorem w_X5_pick_b75 {p : Program} {l : Launch} {e : Env} {s : State} {m : MethodId} {args : Array Value} {below : List Frame} {meth : Method} {c : Code} {D : va_G} {ks : Nat → ClassId} {L : List Nat} {r : Int32} {h' : mh_H} (cx : mh_C p m c cX5_pick 2 s args RX5 meth D ks (mh_A L s.heap.size)) (hr : meth.sig.returnType = (some .boolean)) :
    ∀ (h : mh_H) (H : Heap) (locs : List Loc) (ls : Array Slot), mh_W D ks L (mh_A L s.heap.size) s.heap h H locs → lv_has ls 2 [] → f_X5_pick_b75  h = some (r, h') → W p l e (mh_rm 3) s m args below meth c H locs 0 0 (MQ below (mh_Qi D ks L s.heap.size r h') args s 0 0 (mh_A L s.heap.size)) (F0 m 75 ls []) := by
  intro  h H locs ls wd hl hX
  have hx := cx.1.1
  have hb := cx.1.2.1
  unfold f_X5_pick_b75 at hX
  refine lv_iconst (v := 0) hx hb dX5_pick_75 (by decide) ?_
  exact mh_zret cx wd hr hX dX5_pick_76
set_option maxRecDepth 100000 in
set_option maxHeartbeats 4000000 in
theorem w_X5_pick_b82 {p : Program} {l : Launch} {e : Env} {s : State} {m : MethodId} {args : Array Value} {below : List Frame} {meth : Method} {c : Code} {D : va_G} {ks : Nat → ClassId} {L : List Nat} {r : Int32} {h' : mh_H} (k39 : Nat → Int32 → mh_H → Option (Int32 × mh_H)) (cx : mh_C p m c cX5_pick 2 s args RX5 meth D ks (mh_A L s.heap.size)) (hr : meth.sig.returnType = (some .boolean))
    (hk39 : ∀ (o0 : Nat) (x1 : Int32) (h : mh_H) (H : Heap) (locs : List Loc) (ls : Array Slot), mh_W D ks L (mh_A L s.heap.size) s.heap h H locs → lv_has ls 2 [(0, .ref o0), (1, .int x1)] → k39 o0 x1 h = some (r, h') → W p l e (mh_rm 3) s m args below meth c H locs 0 0 (MQ below (mh_Qi D ks L s.heap.size r h') args s 0 0 (mh_A L s.heap.size)) (F0 m 39 ls [])) :
    ∀ (o0 : Nat) (x1 : Int32) (h : mh_H) (H : Heap) (locs : List Loc) (ls : Array Slot), mh_W D ks L (mh_A L s.heap.size) s.heap h H locs → lv_has ls 2 [(0, .ref o0), (1, .int x1)] → f_X5_pick_b82 k39 o0 x1 h = some (r, h') → W p l e (mh_rm 3) s m args below meth c H locs 0 0 (MQ below (mh_Qi D ks L s.heap.size r h') args s 0 0 (mh_A L s.heap.size)) (F0 m 82 ls []) := by
  intro o0 x1 h H locs ls wd hl hX
  have hx := cx.1.1
  have hb := cx.1.2.1
  unfold f_X5_pick_b82 at hX
  obtain ⟨v3, ev3, hX⟩ := mh_nmx hX
  refine lv_iinc (k := 1) (v := v3) (lv' := [(1, .int v3), (0, .ref o0)]) hx hb dX5_pick_82 hl rfl ev3 (Nat.le_of_ble_eq_true rfl) rfl (fun ls hl => ?_)
  refine lv_goto (tgt := 39) hx hb dX5_pick_85 rfl ?_
  exact hk39 _ _ h _ _ ls wd (lv_sub hl [1, 0] rfl) hX
set_option maxRecDepth 100000 in
set_option maxHeartbeats 4000000 in
theorem w_X5_pick_b88 {p : Program} {l : Launch} {e : Env} {s : State} {m : MethodId} {args : Array Value} {below : List Frame} {meth : Method} {c : Code} {D : va_G} {ks : Nat → ClassId} {L : List Nat} {r : Int32} {h' : mh_H} (cx : mh_C p m c cX5_pick 2 s args RX5 meth D ks (mh_A L s.heap.size)) (hr : meth.sig.returnType = (some .boolean)) :
    ∀ (h : mh_H) (H : Heap) (locs : List Loc) (ls : Array Slot), mh_W D ks L (mh_A L s.heap.size) s.heap h H locs → lv_has ls 2 [] → f_X5_pick_b88  h = some (r, h') → W p l e (mh_rm 3) s m args below meth c H locs 0 0 (MQ below (mh_Qi D ks L s.heap.size r h') args s 0 0 (mh_A L s.heap.size)) (F0 m 88 ls []) := by
  intro  h H locs ls wd hl hX
  have hx := cx.1.1
  have hb := cx.1.2.1
  unfold f_X5_pick_b88 at hX
  refine lv_iconst (v := 1) hx hb dX5_pick_88 (by decide) ?_
  exact mh_zret cx wd hr hX dX5_pick_89
set_option maxRecDepth 100000 in
set_option maxHeartbeats 4000000 in
theorem w_X5_pick_b39 {p : Program} {l : Launch} {e : Env} {s : State} {m : MethodId} {args : Array Value} {below : List Frame} {meth : Method} {c : Code} {D : va_G} {ks : Nat → ClassId} {L : List Nat} {r : Int32} {h' : mh_H} (cx : mh_C p m c cX5_pick 2 s args RX5 meth D ks (mh_A L s.heap.size)) (hr : meth.sig.returnType = (some .boolean)) :
    ∀ n : Nat, ∀ (o0 : Nat) (x1 : Int32) (h : mh_H) (H : Heap) (locs : List Loc) (ls : Array Slot), mh_W D ks L (mh_A L s.heap.size) s.heap h H locs → lv_has ls 2 [(0, .ref o0), (1, .int x1)] → f_X5_pick_b39 n o0 x1 h = some (r, h') → W p l e (mh_rm 3) s m args below meth c H locs 0 0 (MQ below (mh_Qi D ks L s.heap.size r h') args s 0 0 (mh_A L s.heap.size)) (F0 m 39 ls []) := by
  intro n
  induction n with
  | zero =>
    intro o0 x1 h H locs ls wd hl hX
    cases hX
  | succ n ih =>
    intro o0 x1 h H locs ls wd hl hX
    have hx := cx.1.1
    have hb := cx.1.2.1
    rw [f_X5_pick_b39] at hX
    refine lv_iload_n hx hb dX5_pick_39 rfl (lv_at hl 1 rfl) ?_
    refine lv_sipush (v := 300) hx hb dX5_pick_40 (by decide) ?_
    refine lv_icmp_gt (tgt := 88) hx hb dX5_pick_43 rfl (fun hc => (fun hX => ?_) ((mh_if hX).1 hc)) (fun hc => (fun hX => ?_) ((mh_if hX).2 hc))
    · exact w_X5_pick_b88 cx hr  h _ _ ls wd (lv_sub hl [] rfl) hX
    · refine lv_aload_n hx hb dX5_pick_46 rfl (lv_at hl 0 rfl) ?_
      refine mh_getR cx wd fl_X5_9 dX5_pick_47 hX (fun a4 hX => ?_)
      refine lv_iload_n hx hb dX5_pick_50 rfl (lv_at hl 1 rfl) ?_
      refine mh_zald cx wd dX5_pick_51 hX (fun v5 hX => ?_)
      refine lv_if_eq (tgt := 82) hx hb dX5_pick_52 rfl (fun hc => (fun hX => ?_) ((mh_if hX).1 hc)) (fun hc => (fun hX => ?_) ((mh_if hX).2 hc))
      · exact w_X5_pick_b82 (f_X5_pick_b39 n) cx hr ih _ _ h _ _ ls wd (lv_sub hl [0, 1] rfl) hX
      · refine lv_aload_n hx hb dX5_pick_55 rfl (lv_at hl 0 rfl) ?_
        refine mh_getR cx wd fl_X5_15 dX5_pick_56 hX (fun a6 hX => ?_)
        refine lv_iload_n hx hb dX5_pick_59 rfl (lv_at hl 1 rfl) ?_
        refine mh_zald cx wd dX5_pick_60 hX (fun v7 hX => ?_)
        refine lv_if_ne (tgt := 82) hx hb dX5_pick_61 rfl (fun hc => (fun hX => ?_) ((mh_if hX).2 hc)) (fun hc => (fun hX => ?_) ((mh_if hX).1 hc))
        · exact w_X5_pick_b82 (f_X5_pick_b39 n) cx hr ih _ _ h _ _ ls wd (lv_sub hl [0, 1] rfl) hX
        · refine lv_aload_n hx hb dX5_pick_64 rfl (lv_at hl 0 rfl) ?_
          refine mh_getR cx wd fl_X5_21 dX5_pick_65 hX (fun a8 hX => ?_)
          refine lv_iload_n hx hb dX5_pick_68 rfl (lv_at hl 1 rfl) ?_
          refine mh_callVI cx wd [.int x1] (rfl : vwCl[1]? = some (RX1, TX1, 2)) yw_X1_insert vw_X5_40 rfl hl.1 rfl (Nat.le_of_ble_eq_true rfl) dX5_pick_69 ⟨Nat.le_of_ble_eq_true rfl, Nat.le_of_ble_eq_true rfl⟩ ⟨Nat.le_refl _, Nat.le_refl _⟩ (fun _ _ q => c_X1_insert q) hX (fun v10 h9 H locs wd hX => ?_)
          refine lv_if_ne (tgt := 77) hx hb dX5_pick_72 rfl (fun hc => (fun hX => ?_) ((mh_if hX).2 hc)) (fun hc => (fun hX => ?_) ((mh_if hX).1 hc))
          · refine lv_aload_n hx hb dX5_pick_77 rfl (lv_at hl 0 rfl) ?_
            refine lv_iload_n hx hb dX5_pick_78 rfl (lv_at hl 1 rfl) ?_
            refine mh_callVV cx wd [.int x1] (rfl : vwCl[5]? = some (RX5, TX5, 3)) yw_X5_payWith vw_X5_44 rfl hl.1 rfl (Nat.le_of_ble_eq_true rfl) dX5_pick_79 ⟨Nat.le_of_ble_eq_true rfl, Nat.le_of_ble_eq_true rfl⟩ ⟨Nat.le_refl _, Nat.le_refl _⟩ (fun _ q => c_X5_payWith q) hX (fun h11 H locs wd hX => ?_)
            exact w_X5_pick_b82 (f_X5_pick_b39 n) cx hr ih _ _ h11 _ _ ls wd (lv_sub hl [0, 1] rfl) hX
          · exact w_X5_pick_b75 cx hr  h9 _ _ ls wd (lv_sub hl [] rfl) hX
set_option maxRecDepth 100000 in
set_option maxHeartbeats 4000000 in
theorem w_X5_pick_b37 {p : Program} {l : Launch} {e : Env} {s : State} {m : MethodId} {args : Array Value} {below : List Frame} {meth : Method} {c : Code} {D : va_G} {ks : Nat → ClassId} {L : List Nat} {r : Int32} {h' : mh_H} (cx : mh_C p m c cX5_pick 2 s args RX5 meth D ks (mh_A L s.heap.size)) (hr : meth.sig.returnType = (some .boolean)) :
    ∀ (o0 : Nat) (h : mh_H) (H : Heap) (locs : List Loc) (ls : Array Slot), mh_W D ks L (mh_A L s.heap.size) s.heap h H locs → lv_has ls 2 [(0, .ref o0)] → f_X5_pick_b37 o0 h = some (r, h') → W p l e (mh_rm 3) s m args below meth c H locs 0 0 (MQ below (mh_Qi D ks L s.heap.size r h') args s 0 0 (mh_A L s.heap.size)) (F0 m 37 ls []) := by
  intro o0 h H locs ls wd hl hX
  have hx := cx.1.1
  have hb := cx.1.2.1
  unfold f_X5_pick_b37 at hX
  refine lv_iconst (v := 1) hx hb dX5_pick_37 (by decide) ?_
  refine mh_topi hX (fun v12 hX => ?_)
  refine lv_istore_n (lv' := [(1, .int v12), (0, .ref o0)]) hx hb dX5_pick_38 rfl hl (Nat.le_of_ble_eq_true rfl) rfl (fun ls hl => ?_)
  exact w_X5_pick_b39 cx hr mh_fu _ _ h _ _ ls wd (lv_sub hl [1, 0] rfl) hX
set_option maxRecDepth 100000 in
set_option maxHeartbeats 4000000 in
theorem w_X5_pick_b9 {p : Program} {l : Launch} {e : Env} {s : State} {m : MethodId} {args : Array Value} {below : List Frame} {meth : Method} {c : Code} {D : va_G} {ks : Nat → ClassId} {L : List Nat} {r : Int32} {h' : mh_H} (cx : mh_C p m c cX5_pick 2 s args RX5 meth D ks (mh_A L s.heap.size)) (hr : meth.sig.returnType = (some .boolean)) :
    ∀ n : Nat, ∀ (o0 : Nat) (x1 : Int32) (h : mh_H) (H : Heap) (locs : List Loc) (ls : Array Slot), mh_W D ks L (mh_A L s.heap.size) s.heap h H locs → lv_has ls 2 [(0, .ref o0), (1, .int x1)] → f_X5_pick_b9 n o0 x1 h = some (r, h') → W p l e (mh_rm 3) s m args below meth c H locs 0 0 (MQ below (mh_Qi D ks L s.heap.size r h') args s 0 0 (mh_A L s.heap.size)) (F0 m 9 ls []) := by
  intro n
  induction n with
  | zero =>
    intro o0 x1 h H locs ls wd hl hX
    cases hX
  | succ n ih =>
    intro o0 x1 h H locs ls wd hl hX
    have hx := cx.1.1
    have hb := cx.1.2.1
    rw [f_X5_pick_b9] at hX
    refine lv_iload_n hx hb dX5_pick_9 rfl (lv_at hl 1 rfl) ?_
    refine lv_sipush (v := 300) hx hb dX5_pick_10 (by decide) ?_
    refine lv_icmp_gt (tgt := 37) hx hb dX5_pick_13 rfl (fun hc => (fun hX => ?_) ((mh_if hX).1 hc)) (fun hc => (fun hX => ?_) ((mh_if hX).2 hc))
    · exact w_X5_pick_b37 cx hr _ h _ _ ls wd (lv_sub hl [0] rfl) hX
    · refine lv_aload_n hx hb dX5_pick_16 rfl (lv_at hl 0 rfl) ?_
      refine mh_getR cx wd fl_X5_15 dX5_pick_17 hX (fun a13 hX => ?_)
      refine lv_iload_n hx hb dX5_pick_20 rfl (lv_at hl 1 rfl) ?_
      refine lv_iload_n hx hb dX5_pick_21 rfl (lv_at hl 1 rfl) ?_
      refine lv_if_ne (tgt := 29) hx hb dX5_pick_22 rfl (fun hc => (fun hX => ?_) ((mh_if hX).2 hc)) (fun hc => (fun hX => ?_) ((mh_if hX).1 hc))
      · refine lv_iconst (v := 0) hx hb dX5_pick_29 (by decide) ?_
        exact w_X5_pick_b30 (f_X5_pick_b9 n) cx hr ih _ _ _ _ _ h _ _ ls wd (lv_sub hl [0, 1] rfl) hX
      · refine lv_iconst (v := 1) hx hb dX5_pick_25 (by decide) ?_
        refine lv_goto (tgt := 30) hx hb dX5_pick_26 rfl ?_
        exact w_X5_pick_b30 (f_X5_pick_b9 n) cx hr ih _ _ _ _ _ h _ _ ls wd (lv_sub hl [0, 1] rfl) hX
set_option maxRecDepth 100000 in
set_option maxHeartbeats 4000000 in
theorem w_X5_pick_e {p : Program} {l : Launch} {e : Env} {s : State} {m : MethodId} {args : Array Value} {below : List Frame} {meth : Method} {c : Code} {D : va_G} {ks : Nat → ClassId} {L : List Nat} {r : Int32} {h' : mh_H} (cx : mh_C p m c cX5_pick 2 s args RX5 meth D ks (mh_A L s.heap.size)) (hr : meth.sig.returnType = (some .boolean)) :
    ∀ (o0 : Nat) (h : mh_H) (H : Heap) (locs : List Loc) (ls : Array Slot), mh_W D ks L (mh_A L s.heap.size) s.heap h H locs → lv_has ls 2 [(0, .ref o0)] → f_X5_pick_e o0 h = some (r, h') → W p l e (mh_rm 3) s m args below meth c H locs 0 0 (MQ below (mh_Qi D ks L s.heap.size r h') args s 0 0 (mh_A L s.heap.size)) (F0 m 0 ls []) := by
  intro o0 h H locs ls wd hl hX
  have hx := cx.1.1
  have hb := cx.1.2.1
  unfold f_X5_pick_e at hX
  refine lv_aload_n hx hb dX5_pick_0 rfl (lv_at hl 0 rfl) ?_
  refine mh_getR cx wd fl_X5_21 dX5_pick_1 hX (fun a14 hX => ?_)
  refine mh_callVV cx wd [] (rfl : vwCl[1]? = some (RX1, TX1, 2)) yw_X1_clear vw_X5_37 rfl hl.1 rfl (Nat.le_of_ble_eq_true rfl) dX5_pick_4 ⟨Nat.le_of_ble_eq_true rfl, Nat.le_of_ble_eq_true rfl⟩ ⟨Nat.le_refl _, Nat.le_refl _⟩ (fun _ q => c_X1_clear q) hX (fun h15 H locs wd hX => ?_)
  refine lv_iconst (v := 0) hx hb dX5_pick_7 (by decide) ?_
  refine mh_topi hX (fun v16 hX => ?_)
  refine lv_istore_n (lv' := [(1, .int v16), (0, .ref o0)]) hx hb dX5_pick_8 rfl hl (Nat.le_of_ble_eq_true rfl) rfl (fun ls hl => ?_)
  exact w_X5_pick_b9 cx hr mh_fu _ _ h15 _ _ ls wd (lv_sub hl [1, 0] rfl) hX
set_option maxRecDepth 100000 in
theorem c_X5_pick {l : Launch} {L : List Nat} {h h' : mh_H} {r : Int32} {o0 : Nat} (hX : f_X5_pick_e o0 h = some (r, h')) : mh_MI l yX5_pick (Cond.code yX5_pick cX5_pick 2 (some .boolean) :: mh_TB) (mh_rm 3) [.ref o0] L h r h' :=
  mh_of (mc := 0) (ms := 0) (Qc := fun D ks sz => mh_Qi D ks L sz r h') (plainFor_of_name (by decide)) (Nat.le_of_ble_eq_true rfl) (fun p e s m below meth c D ks ls hr cx wd hl => by
    have hl : lv_has ls 2 [(0, .ref o0)] := hl
    exact w_X5_pick_e cx hr o0 h _ _ ls wd hl hX)
def f_X10_coins_e (o0 : Nat) (h : mh_H) : Option (Nat × mh_H) :=
  (mh_gR h o0 10 0).bind fun a1 =>
  some (a1, h)
set_option maxRecDepth 100000 in
set_option maxHeartbeats 4000000 in
theorem w_X10_coins_e {p : Program} {l : Launch} {e : Env} {s : State} {m : MethodId} {args : Array Value} {below : List Frame} {meth : Method} {c : Code} {D : va_G} {ks : Nat → ClassId} {L : List Nat} {r : Nat} {h' : mh_H} (cx : mh_C p m c cX10_coins 1 s args RX10 meth D ks (mh_A L s.heap.size)) (hr : meth.sig.returnType = (some (.object "MintHouse$Coins"))) :
    ∀ (o0 : Nat) (h : mh_H) (H : Heap) (locs : List Loc) (ls : Array Slot), mh_W D ks L (mh_A L s.heap.size) s.heap h H locs → lv_has ls 1 [(0, .ref o0)] → f_X10_coins_e o0 h = some (r, h') → W p l e (mh_rm 0) s m args below meth c H locs 0 0 (MQ below (mh_Qr D ks L s.heap.size r h') args s 0 0 (mh_A L s.heap.size)) (F0 m 0 ls []) := by
  intro o0 h H locs ls wd hl hX
  have hx := cx.1.1
  have hb := cx.1.2.1
  unfold f_X10_coins_e at hX
  refine lv_aload_n hx hb dX10_coins_0 rfl (lv_at hl 0 rfl) ?_
  refine mh_getR cx wd fl_X10_12 dX10_coins_1 hX (fun a1 hX => ?_)
  exact mh_aret cx wd hr (Or.inl ⟨_, rfl⟩) hX dX10_coins_4
set_option maxRecDepth 100000 in
theorem c_X10_coins {l : Launch} {L : List Nat} {h h' : mh_H} {r : Nat} {o0 : Nat} (hX : f_X10_coins_e o0 h = some (r, h')) : mh_MR l yX10_coins (Cond.code yX10_coins cX10_coins 1 (some (.object "MintHouse$Coins")) :: mh_TB) (mh_rm 0) [.ref o0] L h r h' :=
  mh_of (mc := 0) (ms := 0) (Qc := fun D ks sz => mh_Qr D ks L sz r h') (plainFor_of_name (by decide)) (Nat.le_of_ble_eq_true rfl) (fun p e s m below meth c D ks ls hr cx wd hl => by
    have hl : lv_has ls 1 [(0, .ref o0)] := hl
    exact w_X10_coins_e cx hr o0 h _ _ ls wd hl hX)
def f_X10_reckon_b59 (k19 : Nat → Int32 → Int32 → mh_H → Option mh_H) (o0 : Nat) (x1 : Int32) (x2 : Int32) (t0 : Int64) (h : mh_H) : Option mh_H :=
  (mh_gR h o0 10 1).bind fun a1 =>
  (mh_aR h a1 6 (x2 + (1 : Int32))).bind fun a2 =>
  (mh_gR h o0 10 1).bind fun a3 =>
  (mh_aR h a3 6 x2).bind fun a4 =>
  (mh_aJ h a4 x1).bind fun w5 =>
  (mh_sJ h a2 x1 (if (4000000000000000001 : Int64) < (w5 + t0) then (4000000000000000001 : Int64) else (w5 + t0))).bind fun h6 =>
  mh_nm (x2 + Int32.ofInt (1)) fun v7 =>
  k19 o0 x1 v7 h6
def f_X10_reckon_b94 (h : mh_H) : Option mh_H :=
  some h
def f_X10_reckon_b19 : Nat → Nat → Int32 → Int32 → mh_H → Option mh_H
  | 0, _, _, _, _ => none
  | n + 1, o0, x1, x2, h =>
    (mh_gR h o0 10 0).bind fun a8 =>
    mh_b2 (mh_cal h a8 1 (f_X1_count_e a8 h)) fun v10 h9 =>
    if v10 ≤ x2 then (
    f_X10_reckon_b94 h9) else
    (mh_gR h9 o0 10 0).bind fun a11 =>
    mh_b2 (mh_cal h9 a11 1 (f_X1_value_e a11 x2 h9)) fun v13 h12 =>
    mh_nm (x1 - v13) fun v14 =>
    if v14 < 0 then (
    f_X10_reckon_b59 (f_X10_reckon_b19 n) o0 x1 x2 (0 : Int64) h12) else
    (mh_gR h12 o0 10 1).bind fun a15 =>
    (mh_aR h12 a15 6 (x2 + (1 : Int32))).bind fun a16 =>
    (mh_aJ h12 a16 v14).bind fun w17 =>
    f_X10_reckon_b59 (f_X10_reckon_b19 n) o0 x1 x2 w17 h12
def f_X10_reckon_b16 (o0 : Nat) (x1 : Int32) (t0 : Nat) (t1 : Int32) (t2 : Int64) (h : mh_H) : Option mh_H :=
  (mh_sJ h t0 t1 t2).bind fun h18 =>
  mh_nm (0 : Int32) fun v19 =>
  f_X10_reckon_b19 mh_fu o0 x1 v19 h18
def f_X10_reckon_e (o0 : Nat) (x1 : Int32) (h : mh_H) : Option mh_H :=
  (mh_gR h o0 10 1).bind fun a20 =>
  (mh_aR h a20 6 (0 : Int32)).bind fun a21 =>
  if x1 = 0 then (
  f_X10_reckon_b16 o0 x1 a21 x1 (1 : Int64) h) else
  f_X10_reckon_b16 o0 x1 a21 x1 (0 : Int64) h
set_option maxRecDepth 100000 in
set_option maxHeartbeats 4000000 in
theorem w_X10_reckon_b59 {p : Program} {l : Launch} {e : Env} {s : State} {m : MethodId} {args : Array Value} {below : List Frame} {meth : Method} {c : Code} {D : va_G} {ks : Nat → ClassId} {L : List Nat} {h' : mh_H} (k19 : Nat → Int32 → Int32 → mh_H → Option mh_H) (cx : mh_C p m c cX10_reckon 6 s args RX10 meth D ks (mh_A L s.heap.size)) (hr : meth.sig.returnType = none)
    (hk19 : ∀ (o0 : Nat) (x1 : Int32) (x2 : Int32) (h : mh_H) (H : Heap) (locs : List Loc) (ls : Array Slot), mh_W D ks L (mh_A L s.heap.size) s.heap h H locs → lv_has ls 6 [(0, .ref o0), (1, .int x1), (2, .int x2)] → k19 o0 x1 x2 h = some h' → W p l e (mh_rm 1) s m args below meth c H locs 0 0 (MQ below (mh_Qv D ks L s.heap.size h') args s 0 0 (mh_A L s.heap.size)) (F0 m 19 ls [])) :
    ∀ (o0 : Nat) (x1 : Int32) (x2 : Int32) (t0 : Int64) (h : mh_H) (H : Heap) (locs : List Loc) (ls : Array Slot), mh_W D ks L (mh_A L s.heap.size) s.heap h H locs → lv_has ls 6 [(0, .ref o0), (1, .int x1), (2, .int x2)] → f_X10_reckon_b59 k19 o0 x1 x2 t0 h = some h' → W p l e (mh_rm 1) s m args below meth c H locs 0 0 (MQ below (mh_Qv D ks L s.heap.size h') args s 0 0 (mh_A L s.heap.size)) (F0 m 59 ls [.long t0]) := by
  intro o0 x1 x2 t0 h H locs ls wd hl hX
  have hx := cx.1.1
  have hb := cx.1.2.1
  unfold f_X10_reckon_b59 at hX
  refine lv_lstore (lv' := [(4, .long t0), (0, .ref o0), (1, .int x1), (2, .int x2)]) hx hb dX10_reckon_59 hl (Nat.le_of_ble_eq_true rfl) rfl (fun ls hl => ?_)
  refine lv_aload_n hx hb dX10_reckon_61 rfl (lv_at hl 1 rfl) ?_
  refine mh_getR cx wd fl_X10_20 dX10_reckon_62 hX (fun a1 hX => ?_)
  refine lv_iload_n hx hb dX10_reckon_65 rfl (lv_at hl 3 rfl) ?_
  refine lv_iconst (v := 1) hx hb dX10_reckon_66 (by decide) ?_
  refine lv_iadd hx hb dX10_reckon_67 ?_
  refine mh_aald cx wd 6 rfl rfl dX10_reckon_68 hX (fun a2 hX => ?_)
  refine lv_iload_n hx hb dX10_reckon_69 rfl (lv_at hl 2 rfl) ?_
  refine lv_aload_n hx hb dX10_reckon_70 rfl (lv_at hl 1 rfl) ?_
  refine mh_getR cx wd fl_X10_20 dX10_reckon_71 hX (fun a3 hX => ?_)
  refine lv_iload_n hx hb dX10_reckon_74 rfl (lv_at hl 3 rfl) ?_
  refine mh_aald cx wd 6 rfl rfl dX10_reckon_75 hX (fun a4 hX => ?_)
  refine lv_iload_n hx hb dX10_reckon_76 rfl (lv_at hl 2 rfl) ?_
  refine mh_lald cx wd dX10_reckon_77 hX (fun w5 hX => ?_)
  refine lv_lload hx hb dX10_reckon_78 (lv_at hl 0 rfl) ?_
  refine lv_ladd hx hb dX10_reckon_80 ?_
  refine mh_ldc2 cx kl_X10_51 dX10_reckon_81 ?_
  refine mh_mminl mh_Mok cx hl.1 km_X10_53 (Nat.le_of_ble_eq_true rfl) (Nat.le_of_ble_eq_true rfl) ⟨Nat.le_refl _, Nat.le_refl _⟩ dX10_reckon_84 ?_
  refine mh_last cx wd dX10_reckon_87 hX (fun h6 H locs wd hX => ?_)
  obtain ⟨v7, ev7, hX⟩ := mh_nmx hX
  refine lv_iinc (k := 3) (v := v7) (lv' := [(2, .int v7), (4, .long t0), (0, .ref o0), (1, .int x1)]) hx hb dX10_reckon_88 hl rfl ev7 (Nat.le_of_ble_eq_true rfl) rfl (fun ls hl => ?_)
  refine lv_goto (tgt := 19) hx hb dX10_reckon_91 rfl ?_
  exact hk19 _ _ _ h6 _ _ ls wd (lv_sub hl [2, 3, 0] rfl) hX
set_option maxRecDepth 100000 in
set_option maxHeartbeats 4000000 in
theorem w_X10_reckon_b94 {p : Program} {l : Launch} {e : Env} {s : State} {m : MethodId} {args : Array Value} {below : List Frame} {meth : Method} {c : Code} {D : va_G} {ks : Nat → ClassId} {L : List Nat} {h' : mh_H} (cx : mh_C p m c cX10_reckon 6 s args RX10 meth D ks (mh_A L s.heap.size)) (hr : meth.sig.returnType = none) :
    ∀ (h : mh_H) (H : Heap) (locs : List Loc) (ls : Array Slot), mh_W D ks L (mh_A L s.heap.size) s.heap h H locs → lv_has ls 6 [] → f_X10_reckon_b94  h = some h' → W p l e (mh_rm 1) s m args below meth c H locs 0 0 (MQ below (mh_Qv D ks L s.heap.size h') args s 0 0 (mh_A L s.heap.size)) (F0 m 94 ls []) := by
  intro  h H locs ls wd hl hX
  have hx := cx.1.1
  have hb := cx.1.2.1
  unfold f_X10_reckon_b94 at hX
  exact mh_vret cx wd hr hX dX10_reckon_94
set_option maxRecDepth 100000 in
set_option maxHeartbeats 4000000 in
theorem w_X10_reckon_b19 {p : Program} {l : Launch} {e : Env} {s : State} {m : MethodId} {args : Array Value} {below : List Frame} {meth : Method} {c : Code} {D : va_G} {ks : Nat → ClassId} {L : List Nat} {h' : mh_H} (cx : mh_C p m c cX10_reckon 6 s args RX10 meth D ks (mh_A L s.heap.size)) (hr : meth.sig.returnType = none) :
    ∀ n : Nat, ∀ (o0 : Nat) (x1 : Int32) (x2 : Int32) (h : mh_H) (H : Heap) (locs : List Loc) (ls : Array Slot), mh_W D ks L (mh_A L s.heap.size) s.heap h H locs → lv_has ls 6 [(0, .ref o0), (1, .int x1), (2, .int x2)] → f_X10_reckon_b19 n o0 x1 x2 h = some h' → W p l e (mh_rm 1) s m args below meth c H locs 0 0 (MQ below (mh_Qv D ks L s.heap.size h') args s 0 0 (mh_A L s.heap.size)) (F0 m 19 ls []) := by
  intro n
  induction n with
  | zero =>
    intro o0 x1 x2 h H locs ls wd hl hX
    cases hX
  | succ n ih =>
    intro o0 x1 x2 h H locs ls wd hl hX
    have hx := cx.1.1
    have hb := cx.1.2.1
    rw [f_X10_reckon_b19] at hX
    refine lv_iload_n hx hb dX10_reckon_19 rfl (lv_at hl 2 rfl) ?_
    refine lv_aload_n hx hb dX10_reckon_20 rfl (lv_at hl 0 rfl) ?_
    refine mh_getR cx wd fl_X10_12 dX10_reckon_21 hX (fun a8 hX => ?_)
    refine mh_callVI cx wd [] (rfl : vwCl[1]? = some (RX1, TX1, 2)) yw_X1_count vw_X10_35 rfl hl.1 rfl (Nat.le_of_ble_eq_true rfl) dX10_reckon_24 ⟨Nat.le_of_ble_eq_true rfl, Nat.le_of_ble_eq_true rfl⟩ ⟨Nat.le_refl _, Nat.le_refl _⟩ (fun _ _ q => c_X1_count q) hX (fun v10 h9 H locs wd hX => ?_)
    refine lv_icmp_ge (tgt := 94) hx hb dX10_reckon_27 rfl (fun hc => (fun hX => ?_) ((mh_if hX).1 hc)) (fun hc => (fun hX => ?_) ((mh_if hX).2 hc))
    · exact w_X10_reckon_b94 cx hr  h9 _ _ ls wd (lv_sub hl [] rfl) hX
    · refine lv_iload_n hx hb dX10_reckon_30 rfl (lv_at hl 1 rfl) ?_
      refine lv_aload_n hx hb dX10_reckon_31 rfl (lv_at hl 0 rfl) ?_
      refine mh_getR cx wd fl_X10_12 dX10_reckon_32 hX (fun a11 hX => ?_)
      refine lv_iload_n hx hb dX10_reckon_35 rfl (lv_at hl 2 rfl) ?_
      refine mh_callVI cx wd [.int x2] (rfl : vwCl[1]? = some (RX1, TX1, 2)) yw_X1_value vw_X10_47 rfl hl.1 rfl (Nat.le_of_ble_eq_true rfl) dX10_reckon_36 ⟨Nat.le_of_ble_eq_true rfl, Nat.le_of_ble_eq_true rfl⟩ ⟨Nat.le_refl _, Nat.le_refl _⟩ (fun _ _ q => c_X1_value q) hX (fun v13 h12 H locs wd hX => ?_)
      refine lv_isub hx hb dX10_reckon_39 ?_
      refine mh_topi hX (fun v14 hX => ?_)
      refine lv_istore_n (lv' := [(3, .int v14), (0, .ref o0), (1, .int x1), (2, .int x2)]) hx hb dX10_reckon_40 rfl hl (Nat.le_of_ble_eq_true rfl) rfl (fun ls hl => ?_)
      refine lv_iload_n hx hb dX10_reckon_41 rfl (lv_at hl 0 rfl) ?_
      refine lv_if_lt (tgt := 58) hx hb dX10_reckon_42 rfl (fun hc => (fun hX => ?_) ((mh_if hX).1 hc)) (fun hc => (fun hX => ?_) ((mh_if hX).2 hc))
      · refine lv_lconst (v := 0) hx hb dX10_reckon_58 (by decide) ?_
        exact w_X10_reckon_b59 (f_X10_reckon_b19 n) cx hr ih _ _ _ _ h12 _ _ ls wd (lv_sub hl [1, 2, 3] rfl) hX
      · refine lv_aload_n hx hb dX10_reckon_45 rfl (lv_at hl 1 rfl) ?_
        refine mh_getR cx wd fl_X10_20 dX10_reckon_46 hX (fun a15 hX => ?_)
        refine lv_iload_n hx hb dX10_reckon_49 rfl (lv_at hl 3 rfl) ?_
        refine lv_iconst (v := 1) hx hb dX10_reckon_50 (by decide) ?_
        refine lv_iadd hx hb dX10_reckon_51 ?_
        refine mh_aald cx wd 6 rfl rfl dX10_reckon_52 hX (fun a16 hX => ?_)
        refine lv_iload_n hx hb dX10_reckon_53 rfl (lv_at hl 0 rfl) ?_
        refine mh_lald cx wd dX10_reckon_54 hX (fun w17 hX => ?_)
        refine lv_goto (tgt := 59) hx hb dX10_reckon_55 rfl ?_
        exact w_X10_reckon_b59 (f_X10_reckon_b19 n) cx hr ih _ _ _ _ h12 _ _ ls wd (lv_sub hl [1, 2, 3] rfl) hX
set_option maxRecDepth 100000 in
set_option maxHeartbeats 4000000 in
theorem w_X10_reckon_b16 {p : Program} {l : Launch} {e : Env} {s : State} {m : MethodId} {args : Array Value} {below : List Frame} {meth : Method} {c : Code} {D : va_G} {ks : Nat → ClassId} {L : List Nat} {h' : mh_H} (cx : mh_C p m c cX10_reckon 6 s args RX10 meth D ks (mh_A L s.heap.size)) (hr : meth.sig.returnType = none) :
    ∀ (o0 : Nat) (x1 : Int32) (t0 : Nat) (t1 : Int32) (t2 : Int64) (h : mh_H) (H : Heap) (locs : List Loc) (ls : Array Slot), mh_W D ks L (mh_A L s.heap.size) s.heap h H locs → lv_has ls 6 [(0, .ref o0), (1, .int x1)] → f_X10_reckon_b16 o0 x1 t0 t1 t2 h = some h' → W p l e (mh_rm 1) s m args below meth c H locs 0 0 (MQ below (mh_Qv D ks L s.heap.size h') args s 0 0 (mh_A L s.heap.size)) (F0 m 16 ls [.long t2, .int t1, .ref t0]) := by
  intro o0 x1 t0 t1 t2 h H locs ls wd hl hX
  have hx := cx.1.1
  have hb := cx.1.2.1
  unfold f_X10_reckon_b16 at hX
  refine mh_last cx wd dX10_reckon_16 hX (fun h18 H locs wd hX => ?_)
  refine lv_iconst (v := 0) hx hb dX10_reckon_17 (by decide) ?_
  refine mh_topi hX (fun v19 hX => ?_)
  refine lv_istore_n (lv' := [(2, .int v19), (0, .ref o0), (1, .int x1)]) hx hb dX10_reckon_18 rfl hl (Nat.le_of_ble_eq_true rfl) rfl (fun ls hl => ?_)
  exact w_X10_reckon_b19 cx hr mh_fu _ _ _ h18 _ _ ls wd (lv_sub hl [1, 2, 0] rfl) hX
set_option maxRecDepth 100000 in
set_option maxHeartbeats 4000000 in
theorem w_X10_reckon_e {p : Program} {l : Launch} {e : Env} {s : State} {m : MethodId} {args : Array Value} {below : List Frame} {meth : Method} {c : Code} {D : va_G} {ks : Nat → ClassId} {L : List Nat} {h' : mh_H} (cx : mh_C p m c cX10_reckon 6 s args RX10 meth D ks (mh_A L s.heap.size)) (hr : meth.sig.returnType = none) :
    ∀ (o0 : Nat) (x1 : Int32) (h : mh_H) (H : Heap) (locs : List Loc) (ls : Array Slot), mh_W D ks L (mh_A L s.heap.size) s.heap h H locs → lv_has ls 6 [(0, .ref o0), (1, .int x1)] → f_X10_reckon_e o0 x1 h = some h' → W p l e (mh_rm 1) s m args below meth c H locs 0 0 (MQ below (mh_Qv D ks L s.heap.size h') args s 0 0 (mh_A L s.heap.size)) (F0 m 0 ls []) := by
  intro o0 x1 h H locs ls wd hl hX
  have hx := cx.1.1
  have hb := cx.1.2.1
  unfold f_X10_reckon_e at hX
  refine lv_aload_n hx hb dX10_reckon_0 rfl (lv_at hl 0 rfl) ?_
  refine mh_getR cx wd fl_X10_20 dX10_reckon_1 hX (fun a20 hX => ?_)
  refine lv_iconst (v := 0) hx hb dX10_reckon_4 (by decide) ?_
  refine mh_aald cx wd 6 rfl rfl dX10_reckon_5 hX (fun a21 hX => ?_)
  refine lv_iload_n hx hb dX10_reckon_6 rfl (lv_at hl 1 rfl) ?_
  refine lv_iload_n hx hb dX10_reckon_7 rfl (lv_at hl 1 rfl) ?_
  refine lv_if_ne (tgt := 15) hx hb dX10_reckon_8 rfl (fun hc => (fun hX => ?_) ((mh_if hX).2 hc)) (fun hc => (fun hX => ?_) ((mh_if hX).1 hc))
  · refine lv_lconst (v := 0) hx hb dX10_reckon_15 (by decide) ?_
    exact w_X10_reckon_b16 cx hr _ _ _ _ _ h _ _ ls wd (lv_sub hl [0, 1] rfl) hX
  · refine lv_lconst (v := 1) hx hb dX10_reckon_11 (by decide) ?_
    refine lv_goto (tgt := 16) hx hb dX10_reckon_12 rfl ?_
    exact w_X10_reckon_b16 cx hr _ _ _ _ _ h _ _ ls wd (lv_sub hl [0, 1] rfl) hX
set_option maxRecDepth 100000 in
theorem c_X10_reckon {l : Launch} {L : List Nat} {h h' : mh_H} {o0 : Nat} {x1 : Int32} (hX : f_X10_reckon_e o0 x1 h = some h') : mh_MV l yX10_reckon (Cond.code yX10_reckon cX10_reckon 6 none :: mh_TB) (mh_rm 1) [.ref o0, .int x1] L h h' :=
  mh_of (mc := 0) (ms := 0) (Qc := fun D ks sz => mh_Qv D ks L sz h') (plainFor_of_name (by decide)) (Nat.le_of_ble_eq_true rfl) (fun p e s m below meth c D ks ls hr cx wd hl => by
    have hl : lv_has ls 6 [(0, .ref o0), (1, .int x1)] := hl
    exact w_X10_reckon_e cx hr o0 x1 h _ _ ls wd hl hX)
