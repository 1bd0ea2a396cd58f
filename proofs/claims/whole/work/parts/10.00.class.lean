def f_J7_fill_53178_b20 (h : mh_H) : Option mh_H :=
  some h
def f_J7_fill_53178_b5 : Nat → Nat → Int32 → Int32 → Int32 → mh_H → Option mh_H
  | 0, _, _, _, _, _ => none
  | n + 1, o0, x1, x2, x3, h =>
    if x3 ≤ x2 then (
    f_J7_fill_53178_b20 h) else
    (mh_sI h o0 x2 x1).bind fun h1 =>
    mh_nm (x2 + Int32.ofInt (1)) fun v2 =>
    f_J7_fill_53178_b5 n o0 x1 v2 x3 h1
def f_J7_fill_53178_e (o0 : Nat) (x1 : Int32) (h : mh_H) : Option mh_H :=
  mh_nm (0 : Int32) fun v3 =>
  (mh_aL h o0 0).bind fun v4 =>
  f_J7_fill_53178_b5 mh_fu o0 x1 v3 v4 h
set_option maxRecDepth 100000 in
set_option maxHeartbeats 4000000 in
theorem w_J7_fill_53178_b20 {p : Program} {l : Launch} {e : Env} {s : State} {m : MethodId} {args : Array Value} {below : List Frame} {meth : Method} {c : Code} {D : va_G} {ks : Nat → ClassId} {L : List Nat} {h' : mh_H} (cx : mh_C p m c cJ7_fill_53178 4 s args RJ7 meth D ks (mh_A L s.heap.size)) (hr : meth.sig.returnType = none) :
    ∀ (h : mh_H) (H : Heap) (locs : List Loc) (ls : Array Slot), mh_W D ks L (mh_A L s.heap.size) s.heap h H locs → lv_has ls 4 [] → f_J7_fill_53178_b20  h = some h' → W p l e (mh_rm 0) s m args below meth c H locs 0 0 (MQ below (mh_Qv D ks L s.heap.size h') args s 0 0 (mh_A L s.heap.size)) (F0 m 20 ls []) := by
  intro  h H locs ls wd hl hX
  have hx := cx.1.1
  have hb := cx.1.2.1
  unfold f_J7_fill_53178_b20 at hX
  exact mh_vret cx wd hr hX dJ7_fill_53178_20
set_option maxRecDepth 100000 in
set_option maxHeartbeats 4000000 in
theorem w_J7_fill_53178_b5 {p : Program} {l : Launch} {e : Env} {s : State} {m : MethodId} {args : Array Value} {below : List Frame} {meth : Method} {c : Code} {D : va_G} {ks : Nat → ClassId} {L : List Nat} {h' : mh_H} (cx : mh_C p m c cJ7_fill_53178 4 s args RJ7 meth D ks (mh_A L s.heap.size)) (hr : meth.sig.returnType = none) :
    ∀ n : Nat, ∀ (o0 : Nat) (x1 : Int32) (x2 : Int32) (x3 : Int32) (h : mh_H) (H : Heap) (locs : List Loc) (ls : Array Slot), mh_W D ks L (mh_A L s.heap.size) s.heap h H locs → lv_has ls 4 [(0, .ref o0), (1, .int x1), (2, .int x2), (3, .int x3)] → f_J7_fill_53178_b5 n o0 x1 x2 x3 h = some h' → W p l e (mh_rm 0) s m args below meth c H locs 0 0 (MQ below (mh_Qv D ks L s.heap.size h') args s 0 0 (mh_A L s.heap.size)) (F0 m 5 ls []) := by
  intro n
  induction n with
  | zero =>
    intro o0 x1 x2 x3 h H locs ls wd hl hX
    cases hX
  | succ n ih =>
    intro o0 x1 x2 x3 h H locs ls wd hl hX
    have hx := cx.1.1
    have hb := cx.1.2.1
    rw [f_J7_fill_53178_b5] at hX
    refine lv_iload_n hx hb dJ7_fill_53178_5 rfl (lv_at hl 2 rfl) ?_
    refine lv_iload_n hx hb dJ7_fill_53178_6 rfl (lv_at hl 3 rfl) ?_
    refine lv_icmp_ge (tgt := 20) hx hb dJ7_fill_53178_7 rfl (fun hc => (fun hX => ?_) ((mh_if hX).1 hc)) (fun hc => (fun hX => ?_) ((mh_if hX).2 hc))
    · exact w_J7_fill_53178_b20 cx hr  h _ _ ls wd (lv_sub hl [] rfl) hX
    · refine lv_aload_n hx hb dJ7_fill_53178_10 rfl (lv_at hl 0 rfl) ?_
      refine lv_iload_n hx hb dJ7_fill_53178_11 rfl (lv_at hl 2 rfl) ?_
      refine lv_iload_n hx hb dJ7_fill_53178_12 rfl (lv_at hl 1 rfl) ?_
      refine mh_iast cx wd dJ7_fill_53178_13 hX (fun h1 H locs wd hX => ?_)
      obtain ⟨v2, ev2, hX⟩ := mh_nmx hX
      refine lv_iinc (k := 2) (v := v2) (lv' := [(2, .int v2), (0, .ref o0), (1, .int x1), (3, .int x3)]) hx hb dJ7_fill_53178_14 hl rfl ev2 (Nat.le_of_ble_eq_true rfl) rfl (fun ls hl => ?_)
      refine lv_goto (tgt := 5) hx hb dJ7_fill_53178_17 rfl ?_
      exact ih _ _ _ _ h1 _ _ ls wd (lv_sub hl [1, 2, 0, 3] rfl) hX
set_option maxRecDepth 100000 in
set_option maxHeartbeats 4000000 in
theorem w_J7_fill_53178_e {p : Program} {l : Launch} {e : Env} {s : State} {m : MethodId} {args : Array Value} {below : List Frame} {meth : Method} {c : Code} {D : va_G} {ks : Nat → ClassId} {L : List Nat} {h' : mh_H} (cx : mh_C p m c cJ7_fill_53178 4 s args RJ7 meth D ks (mh_A L s.heap.size)) (hr : meth.sig.returnType = none) :
    ∀ (o0 : Nat) (x1 : Int32) (h : mh_H) (H : Heap) (locs : List Loc) (ls : Array Slot), mh_W D ks L (mh_A L s.heap.size) s.heap h H locs → lv_has ls 4 [(0, .ref o0), (1, .int x1)] → f_J7_fill_53178_e o0 x1 h = some h' → W p l e (mh_rm 0) s m args below meth c H locs 0 0 (MQ below (mh_Qv D ks L s.heap.size h') args s 0 0 (mh_A L s.heap.size)) (F0 m 0 ls []) := by
  intro o0 x1 h H locs ls wd hl hX
  have hx := cx.1.1
  have hb := cx.1.2.1
  unfold f_J7_fill_53178_e at hX
  refine lv_iconst (v := 0) hx hb dJ7_fill_53178_0 (by decide) ?_
  refine mh_topi hX (fun v3 hX => ?_)
  refine lv_istore_n (lv' := [(2, .int v3), (0, .ref o0), (1, .int x1)]) hx hb dJ7_fill_53178_1 rfl hl (Nat.le_of_ble_eq_true rfl) rfl (fun ls hl => ?_)
  refine lv_aload_n hx hb dJ7_fill_53178_2 rfl (lv_at hl 1 rfl) ?_
  refine mh_alen cx wd 0 rfl dJ7_fill_53178_3 hX (fun v4 hX => ?_)
  refine lv_istore_n (lv' := [(3, .int v4), (2, .int v3), (0, .ref o0), (1, .int x1)]) hx hb dJ7_fill_53178_4 rfl hl (Nat.le_of_ble_eq_true rfl) rfl (fun ls hl => ?_)
  exact w_J7_fill_53178_b5 cx hr mh_fu _ _ _ _ h _ _ ls wd (lv_sub hl [2, 3, 1, 0] rfl) hX
set_option maxRecDepth 100000 in
theorem c_J7_fill_53178 {l : Launch} {L : List Nat} {h h' : mh_H} {o0 : Nat} {x1 : Int32} (hX : f_J7_fill_53178_e o0 x1 h = some h') : mh_MV l yJ7_fill_53178 (Cond.code yJ7_fill_53178 cJ7_fill_53178 4 none :: mh_TB) (mh_rm 0) [.ref o0, .int x1] L h h' :=
  mh_of (mc := 0) (ms := 0) (Qc := fun D ks sz => mh_Qv D ks L sz h') (plainFor_of_name (by decide)) (Nat.le_of_ble_eq_true rfl) (fun p e s m below meth c D ks ls hr cx wd hl => by
    have hl : lv_has ls 4 [(0, .ref o0), (1, .int x1)] := hl
    exact w_J7_fill_53178_e cx hr o0 x1 h _ _ ls wd hl hX)
def f_X0_start_e (o0 : Nat) (x1 : Int32) (h : mh_H) : Option mh_H :=
  (mh_pI h o0 0 1 (if (1 : Int32) < (if (300 : Int32) < x1 then (300 : Int32) else x1) then (if (300 : Int32) < x1 then (300 : Int32) else x1) else (1 : Int32))).bind fun h1 =>
  (mh_gR h1 o0 0 0).bind fun a2 =>
  (f_J7_fill_53178_e a2 (2147483647 : Int32) h1).bind fun h3 =>
  (mh_gR h3 o0 0 0).bind fun a4 =>
  (mh_sI h3 a4 (0 : Int32) (0 : Int32)).bind fun h5 =>
  some h5
set_option maxRecDepth 100000 in
set_option maxHeartbeats 4000000 in
theorem w_X0_start_e {p : Program} {l : Launch} {e : Env} {s : State} {m : MethodId} {args : Array Value} {below : List Frame} {meth : Method} {c : Code} {D : va_G} {ks : Nat → ClassId} {L : List Nat} {h' : mh_H} (cx : mh_C p m c cX0_start 2 s args RX0 meth D ks (mh_A L s.heap.size)) (hr : meth.sig.returnType = none) :
    ∀ (o0 : Nat) (x1 : Int32) (h : mh_H) (H : Heap) (locs : List Loc) (ls : Array Slot), mh_W D ks L (mh_A L s.heap.size) s.heap h H locs → lv_has ls 2 [(0, .ref o0), (1, .int x1)] → f_X0_start_e o0 x1 h = some h' → W p l e (mh_rm 1) s m args below meth c H locs 0 0 (MQ below (mh_Qv D ks L s.heap.size h') args s 0 0 (mh_A L s.heap.size)) (F0 m 0 ls []) := by
  intro o0 x1 h H locs ls wd hl hX
  have hx := cx.1.1
  have hb := cx.1.2.1
  unfold f_X0_start_e at hX
  refine lv_aload_n hx hb dX0_start_0 rfl (lv_at hl 0 rfl) ?_
  refine lv_iconst (v := 1) hx hb dX0_start_1 (by decide) ?_
  refine lv_iload_n hx hb dX0_start_2 rfl (lv_at hl 1 rfl) ?_
  refine lv_sipush (v := 300) hx hb dX0_start_3 (by decide) ?_
  refine mh_mmin mh_Mok cx hl.1 km_X0_19 (Nat.le_of_ble_eq_true rfl) (Nat.le_of_ble_eq_true rfl) ⟨Nat.le_refl _, Nat.le_refl _⟩ dX0_start_6 ?_
  refine mh_mmax mh_Mok cx hl.1 km_X0_25 (Nat.le_of_ble_eq_true rfl) (Nat.le_of_ble_eq_true rfl) ⟨Nat.le_refl _, Nat.le_refl _⟩ dX0_start_9 ?_
  refine mh_putI cx wd fp_X0_15 dX0_start_12 hX (fun h1 H locs wd hX => ?_)
  refine lv_aload_n hx hb dX0_start_15 rfl (lv_at hl 0 rfl) ?_
  refine mh_getR cx wd fl_X0_9 dX0_start_16 hX (fun a2 hX => ?_)
  refine mh_ldc cx kc_X0_28 dX0_start_19 ?_
  refine mh_callSV cx wd [.ref a2, .int (2147483647 : Int32)] yw_J7_fill_53178 sw_X0_29 rfl hl.1 rfl (Nat.le_of_ble_eq_true rfl) dX0_start_21 ⟨Nat.le_of_ble_eq_true rfl, Nat.le_of_ble_eq_true rfl⟩ ⟨Nat.le_refl _, Nat.le_refl _⟩ (fun _ q => c_J7_fill_53178 q) hX (fun h3 H locs wd hX => ?_)
  refine lv_aload_n hx hb dX0_start_24 rfl (lv_at hl 0 rfl) ?_
  refine mh_getR cx wd fl_X0_9 dX0_start_25 hX (fun a4 hX => ?_)
  refine lv_iconst (v := 0) hx hb dX0_start_28 (by decide) ?_
  refine lv_iconst (v := 0) hx hb dX0_start_29 (by decide) ?_
  refine mh_iast cx wd dX0_start_30 hX (fun h5 H locs wd hX => ?_)
  exact mh_vret cx wd hr hX dX0_start_31
set_option maxRecDepth 100000 in
theorem c_X0_start {l : Launch} {L : List Nat} {h h' : mh_H} {o0 : Nat} {x1 : Int32} (hX : f_X0_start_e o0 x1 h = some h') : mh_MV l yX0_start (Cond.code yX0_start cX0_start 2 none :: mh_TB) (mh_rm 1) [.ref o0, .int x1] L h h' :=
  mh_of (mc := 0) (ms := 0) (Qc := fun D ks sz => mh_Qv D ks L sz h') (plainFor_of_name (by decide)) (Nat.le_of_ble_eq_true rfl) (fun p e s m below meth c D ks ls hr cx wd hl => by
    have hl : lv_has ls 2 [(0, .ref o0), (1, .int x1)] := hl
    exact w_X0_start_e cx hr o0 x1 h _ _ ls wd hl hX)
def f_X0_modulus_e (o0 : Nat) (h : mh_H) : Option (Int32 × mh_H) :=
  (mh_gI h o0 0 1).bind fun v1 =>
  some (v1, h)
set_option maxRecDepth 100000 in
set_option maxHeartbeats 4000000 in
theorem w_X0_modulus_e {p : Program} {l : Launch} {e : Env} {s : State} {m : MethodId} {args : Array Value} {below : List Frame} {meth : Method} {c : Code} {D : va_G} {ks : Nat → ClassId} {L : List Nat} {r : Int32} {h' : mh_H} (cx : mh_C p m c cX0_modulus 1 s args RX0 meth D ks (mh_A L s.heap.size)) (hr : meth.sig.returnType = (some .int)) :
    ∀ (o0 : Nat) (h : mh_H) (H : Heap) (locs : List Loc) (ls : Array Slot), mh_W D ks L (mh_A L s.heap.size) s.heap h H locs → lv_has ls 1 [(0, .ref o0)] → f_X0_modulus_e o0 h = some (r, h') → W p l e (mh_rm 0) s m args below meth c H locs 0 0 (MQ below (mh_Qi D ks L s.heap.size r h') args s 0 0 (mh_A L s.heap.size)) (F0 m 0 ls []) := by
  intro o0 h H locs ls wd hl hX
  have hx := cx.1.1
  have hb := cx.1.2.1
  unfold f_X0_modulus_e at hX
  refine lv_aload_n hx hb dX0_modulus_0 rfl (lv_at hl 0 rfl) ?_
  refine mh_getI cx wd fl_X0_15 dX0_modulus_1 hX (fun v1 hX => ?_)
  exact mh_iret cx wd hr hX dX0_modulus_4
set_option maxRecDepth 100000 in
theorem c_X0_modulus {l : Launch} {L : List Nat} {h h' : mh_H} {r : Int32} {o0 : Nat} (hX : f_X0_modulus_e o0 h = some (r, h')) : mh_MI l yX0_modulus (Cond.code yX0_modulus cX0_modulus 1 (some .int) :: mh_TB) (mh_rm 0) [.ref o0] L h r h' :=
  mh_of (mc := 0) (ms := 0) (Qc := fun D ks sz => mh_Qi D ks L sz r h') (plainFor_of_name (by decide)) (Nat.le_of_ble_eq_true rfl) (fun p e s m below meth c D ks ls hr cx wd hl => by
    have hl : lv_has ls 1 [(0, .ref o0)] := hl
    exact w_X0_modulus_e cx hr o0 h _ _ ls wd hl hX)
def f_X11_greatestCommon_b34 (x2 : Int32) (h : mh_H) : Option (Int32 × mh_H) :=
  some (x2, h)
def f_X11_greatestCommon_b7 : Nat → Int32 → Int32 → Int32 → mh_H → Option (Int32 × mh_H)
  | 0, _, _, _, _ => none
  | n + 1, x2, x3, x4, h =>
    if (64 : Int32) ≤ x4 then (
    f_X11_greatestCommon_b34 x2 h) else
    if x3 = 0 then (
    f_X11_greatestCommon_b34 x2 h) else
    mh_nz (x3 = 0) <|
    mh_nm (mh_irem x2 x3) fun v1 =>
    mh_nm (x4 + Int32.ofInt (1)) fun v2 =>
    f_X11_greatestCommon_b7 n x3 v1 v2 h
def f_X11_greatestCommon_e (x0 : Int32) (x1 : Int32) (h : mh_H) : Option (Int32 × mh_H) :=
  mh_nm (0 : Int32) fun v3 =>
  f_X11_greatestCommon_b7 mh_fu x0 x1 v3 h
set_option maxRecDepth 100000 in
set_option maxHeartbeats 4000000 in
theorem w_X11_greatestCommon_b34 {p : Program} {l : Launch} {e : Env} {s : State} {m : MethodId} {args : Array Value} {below : List Frame} {meth : Method} {c : Code} {D : va_G} {ks : Nat → ClassId} {L : List Nat} {r : Int32} {h' : mh_H} (cx : mh_C p m c cX11_greatestCommon 6 s args RX11 meth D ks (mh_A L s.heap.size)) (hr : meth.sig.returnType = (some .int)) :
    ∀ (x2 : Int32) (h : mh_H) (H : Heap) (locs : List Loc) (ls : Array Slot), mh_W D ks L (mh_A L s.heap.size) s.heap h H locs → lv_has ls 6 [(2, .int x2)] → f_X11_greatestCommon_b34 x2 h = some (r, h') → W p l e (mh_rm 0) s m args below meth c H locs 0 0 (MQ below (mh_Qi D ks L s.heap.size r h') args s 0 0 (mh_A L s.heap.size)) (F0 m 34 ls []) := by
  intro x2 h H locs ls wd hl hX
  have hx := cx.1.1
  have hb := cx.1.2.1
  unfold f_X11_greatestCommon_b34 at hX
  refine lv_iload_n hx hb dX11_greatestCommon_34 rfl (lv_at hl 0 rfl) ?_
  exact mh_iret cx wd hr hX dX11_greatestCommon_35
set_option maxRecDepth 100000 in
set_option maxHeartbeats 4000000 in
theorem w_X11_greatestCommon_b7 {p : Program} {l : Launch} {e : Env} {s : State} {m : MethodId} {args : Array Value} {below : List Frame} {meth : Method} {c : Code} {D : va_G} {ks : Nat → ClassId} {L : List Nat} {r : Int32} {h' : mh_H} (cx : mh_C p m c cX11_greatestCommon 6 s args RX11 meth D ks (mh_A L s.heap.size)) (hr : meth.sig.returnType = (some .int)) :
    ∀ n : Nat, ∀ (x2 : Int32) (x3 : Int32) (x4 : Int32) (h : mh_H) (H : Heap) (locs : List Loc) (ls : Array Slot), mh_W D ks L (mh_A L s.heap.size) s.heap h H locs → lv_has ls 6 [(2, .int x2), (3, .int x3), (4, .int x4)] → f_X11_greatestCommon_b7 n x2 x3 x4 h = some (r, h') → W p l e (mh_rm 0) s m args below meth c H locs 0 0 (MQ below (mh_Qi D ks L s.heap.size r h') args s 0 0 (mh_A L s.heap.size)) (F0 m 7 ls []) := by
  intro n
  induction n with
  | zero =>
    intro x2 x3 x4 h H locs ls wd hl hX
    cases hX
  | succ n ih =>
    intro x2 x3 x4 h H locs ls wd hl hX
    have hx := cx.1.1
    have hb := cx.1.2.1
    rw [f_X11_greatestCommon_b7] at hX
    refine lv_iload hx hb dX11_greatestCommon_7 (lv_at hl 2 rfl) ?_
    refine lv_bipush (v := 64) hx hb dX11_greatestCommon_9 (by decide) ?_
    refine lv_icmp_ge (tgt := 34) hx hb dX11_greatestCommon_11 rfl (fun hc => (fun hX => ?_) ((mh_if hX).1 hc)) (fun hc => (fun hX => ?_) ((mh_if hX).2 hc))
    · exact w_X11_greatestCommon_b34 cx hr _ h _ _ ls wd (lv_sub hl [0] rfl) hX
    · refine lv_iload_n hx hb dX11_greatestCommon_14 rfl (lv_at hl 1 rfl) ?_
      refine lv_if_eq (tgt := 34) hx hb dX11_greatestCommon_15 rfl (fun hc => (fun hX => ?_) ((mh_if hX).1 hc)) (fun hc => (fun hX => ?_) ((mh_if hX).2 hc))
      · exact w_X11_greatestCommon_b34 cx hr _ h _ _ ls wd (lv_sub hl [0] rfl) hX
      · refine lv_iload_n hx hb dX11_greatestCommon_18 rfl (lv_at hl 0 rfl) ?_
        refine lv_iload_n hx hb dX11_greatestCommon_19 rfl (lv_at hl 1 rfl) ?_
        obtain ⟨hz, hX⟩ := mh_nzk hX
        refine lv_irem hx hb dX11_greatestCommon_20 hz ?_
        refine mh_topi hX (fun v1 hX => ?_)
        refine lv_istore (lv' := [(5, .int v1), (2, .int x2), (3, .int x3), (4, .int x4)]) hx hb dX11_greatestCommon_21 hl (Nat.le_of_ble_eq_true rfl) rfl (fun ls hl => ?_)
        refine lv_iload_n hx hb dX11_greatestCommon_23 rfl (lv_at hl 2 rfl) ?_
        refine lv_istore_n (lv' := [(2, .int x3), (5, .int v1), (3, .int x3), (4, .int x4)]) hx hb dX11_greatestCommon_24 rfl hl (Nat.le_of_ble_eq_true rfl) rfl (fun ls hl => ?_)
        refine lv_iload hx hb dX11_greatestCommon_25 (lv_at hl 1 rfl) ?_
        refine lv_istore_n (lv' := [(3, .int v1), (2, .int x3), (5, .int v1), (4, .int x4)]) hx hb dX11_greatestCommon_27 rfl hl (Nat.le_of_ble_eq_true rfl) rfl (fun ls hl => ?_)
        obtain ⟨v2, ev2, hX⟩ := mh_nmx hX
        refine lv_iinc (k := 3) (v := v2) (lv' := [(4, .int v2), (3, .int v1), (2, .int x3), (5, .int v1)]) hx hb dX11_greatestCommon_28 hl rfl ev2 (Nat.le_of_ble_eq_true rfl) rfl (fun ls hl => ?_)
        refine lv_goto (tgt := 7) hx hb dX11_greatestCommon_31 rfl ?_
        exact ih _ _ _ h _ _ ls wd (lv_sub hl [2, 1, 0] rfl) hX
set_option maxRecDepth 100000 in
set_option maxHeartbeats 4000000 in
theorem w_X11_greatestCommon_e {p : Program} {l : Launch} {e : Env} {s : State} {m : MethodId} {args : Array Value} {below : List Frame} {meth : Method} {c : Code} {D : va_G} {ks : Nat → ClassId} {L : List Nat} {r : Int32} {h' : mh_H} (cx : mh_C p m c cX11_greatestCommon 6 s args RX11 meth D ks (mh_A L s.heap.size)) (hr : meth.sig.returnType = (some .int)) :
    ∀ (x0 : Int32) (x1 : Int32) (h : mh_H) (H : Heap) (locs : List Loc) (ls : Array Slot), mh_W D ks L (mh_A L s.heap.size) s.heap h H locs → lv_has ls 6 [(0, .int x0), (1, .int x1)] → f_X11_greatestCommon_e x0 x1 h = some (r, h') → W p l e (mh_rm 0) s m args below meth c H locs 0 0 (MQ below (mh_Qi D ks L s.heap.size r h') args s 0 0 (mh_A L s.heap.size)) (F0 m 0 ls []) := by
  intro x0 x1 h H locs ls wd hl hX
  have hx := cx.1.1
  have hb := cx.1.2.1
  unfold f_X11_greatestCommon_e at hX
  refine lv_iload_n hx hb dX11_greatestCommon_0 rfl (lv_at hl 0 rfl) ?_
  refine lv_istore_n (lv' := [(2, .int x0), (0, .int x0), (1, .int x1)]) hx hb dX11_greatestCommon_1 rfl hl (Nat.le_of_ble_eq_true rfl) rfl (fun ls hl => ?_)
  refine lv_iload_n hx hb dX11_greatestCommon_2 rfl (lv_at hl 2 rfl) ?_
  refine lv_istore_n (lv' := [(3, .int x1), (2, .int x0), (0, .int x0), (1, .int x1)]) hx hb dX11_greatestCommon_3 rfl hl (Nat.le_of_ble_eq_true rfl) rfl (fun ls hl => ?_)
  refine lv_iconst (v := 0) hx hb dX11_greatestCommon_4 (by decide) ?_
  refine mh_topi hX (fun v3 hX => ?_)
  refine lv_istore (lv' := [(4, .int v3), (3, .int x1), (2, .int x0), (0, .int x0), (1, .int x1)]) hx hb dX11_greatestCommon_5 hl (Nat.le_of_ble_eq_true rfl) rfl (fun ls hl => ?_)
  exact w_X11_greatestCommon_b7 cx hr mh_fu _ _ _ h _ _ ls wd (lv_sub hl [2, 1, 0] rfl) hX
set_option maxRecDepth 100000 in
theorem c_X11_greatestCommon {l : Launch} {L : List Nat} {h h' : mh_H} {r : Int32} {x0 : Int32} {x1 : Int32} (hX : f_X11_greatestCommon_e x0 x1 h = some (r, h')) : mh_MI l yX11_greatestCommon (Cond.code yX11_greatestCommon cX11_greatestCommon 6 (some .int) :: mh_TB) (mh_rm 0) [.int x0, .int x1] L h r h' :=
  mh_of (mc := 0) (ms := 0) (Qc := fun D ks sz => mh_Qi D ks L sz r h') (plainFor_of_name (by decide)) (Nat.le_of_ble_eq_true rfl) (fun p e s m below meth c D ks ls hr cx wd hl => by
    have hl : lv_has ls 6 [(0, .int x0), (1, .int x1)] := hl
    exact w_X11_greatestCommon_e cx hr x0 x1 h _ _ ls wd hl hX)
def f_X0_allow_b113 (k48 : Nat → Int32 → Int32 → Int32 → Int32 → Int32 → Int32 → Int32 → mh_H → Option mh_H) (o0 : Nat) (x1 : Int32) (x2 : Int32) (x3 : Int32) (x4 : Int32) (x5 : Int32) (x7 : Int32) (x8 : Int32) (h : mh_H) : Option mh_H :=
  mh_nm (x7 + Int32.ofInt (1)) fun v1 =>
  k48 o0 x1 x2 x3 x4 x5 x8 v1 h
def f_X0_allow_b123 (k35 : Nat → Int32 → Int32 → Int32 → Int32 → Int32 → mh_H → Option mh_H) (o0 : Nat) (x1 : Int32) (x2 : Int32) (x3 : Int32) (x4 : Int32) (x5 : Int32) (h : mh_H) : Option mh_H :=
  mh_nm (x5 + Int32.ofInt (1)) fun v2 =>
  k35 o0 x1 x2 x3 x4 v2 h
def f_X0_allow_b48 (k35 : Nat → Int32 → Int32 → Int32 → Int32 → Int32 → mh_H → Option mh_H) : Nat → Nat → Int32 → Int32 → Int32 → Int32 → Int32 → Int32 → Int32 → mh_H → Option mh_H
  | 0, _, _, _, _, _, _, _, _, _ => none
  | n + 1, o0, x1, x2, x3, x4, x5, x6, x7, h =>
    if x4 ≤ x7 then (
    f_X0_allow_b123 k35 o0 x1 x2 x3 x4 x5 h) else
    (mh_gI h o0 0 1).bind fun v3 =>
    mh_nz (v3 = 0) <|
    mh_nm (mh_irem (x6 + x1) v3) fun v4 =>
    (mh_gR h o0 0 0).bind fun a5 =>
    (mh_aI h a5 0 x6).bind fun v6 =>
    if v6 = (2147483647 : Int32) then (
    f_X0_allow_b113 (f_X0_allow_b48 k35 n) o0 x1 x2 x3 x4 x5 x7 v4 h) else
    (mh_gR h o0 0 0).bind fun a7 =>
    (mh_aI h a7 0 x6).bind fun v8 =>
    (mh_gR h o0 0 0).bind fun a9 =>
    (mh_aI h a9 0 v4).bind fun v10 =>
    if v10 ≤ (v8 + x2) then (
    f_X0_allow_b113 (f_X0_allow_b48 k35 n) o0 x1 x2 x3 x4 x5 x7 v4 h) else
    (mh_gR h o0 0 0).bind fun a11 =>
    (mh_gR h o0 0 0).bind fun a12 =>
    (mh_aI h a12 0 x6).bind fun v13 =>
    (mh_sI h a11 v4 (v13 + x2)).bind fun h14 =>
    f_X0_allow_b113 (f_X0_allow_b48 k35 n) o0 x1 x2 x3 x4 x5 x7 v4 h14
def f_X0_allow_b129 (h : mh_H) : Option mh_H :=
  some h
def f_X0_allow_b35 : Nat → Nat → Int32 → Int32 → Int32 → Int32 → Int32 → mh_H → Option mh_H
  | 0, _, _, _, _, _, _, _ => none
  | n + 1, o0, x1, x2, x3, x4, x5, h =>
    if x3 ≤ x5 then (
    f_X0_allow_b129 h) else
    mh_nm (0 : Int32) fun v15 =>
    f_X0_allow_b48 (f_X0_allow_b35 n) mh_fu o0 x1 x2 x3 x4 x5 x5 v15 h
def f_X0_allow_b30 (o0 : Nat) (x1 : Int32) (x2 : Int32) (x3 : Int32) (t0 : Int32) (h : mh_H) : Option mh_H :=
  mh_nm (0 : Int32) fun v16 =>
  f_X0_allow_b35 mh_fu o0 x1 x2 x3 t0 v16 h
def f_X0_allow_e (o0 : Nat) (x1 : Int32) (x2 : Int32) (h : mh_H) : Option mh_H :=
  (mh_gI h o0 0 1).bind fun v17 =>
  mh_nz (v17 = 0) <|
  (mh_gI h o0 0 1).bind fun v18 =>
  mh_b2 (f_X11_greatestCommon_e (mh_irem x1 v17) v18 h) fun v20 h19 =>
  if v20 ≤ 0 then (
  f_X0_allow_b30 o0 x1 x2 v20 (0 : Int32) h19) else
  (mh_gI h19 o0 0 1).bind fun v21 =>
  mh_nz (v20 = 0) <|
  f_X0_allow_b30 o0 x1 x2 v20 ((2 : Int32) * (v21 / v20)) h19
set_option maxRecDepth 100000 in
set_option maxHeartbeats 4000000 in
theorem w_X0_allow_b113 {p : Program} {l : Launch} {e : Env} {s : State} {m : MethodId} {args : Array Value} {below : List Frame} {meth : Method} {c : Code} {D : va_G} {ks : Nat → ClassId} {L : List Nat} {h' : mh_H} (k48 : Nat → Int32 → Int32 → Int32 → Int32 → Int32 → Int32 → Int32 → mh_H → Option mh_H) (cx : mh_C p m c cX0_allow 9 s args RX0 meth D ks (mh_A L s.heap.size)) (hr : meth.sig.returnType = none)
    (hk48 : ∀ (o0 : Nat) (x1 : Int32) (x2 : Int32) (x3 : Int32) (x4 : Int32) (x5 : Int32) (x6 : Int32) (x7 : Int32) (h : mh_H) (H : Heap) (locs : List Loc) (ls : Array Slot), mh_W D ks L (mh_A L s.heap.size) s.heap h H locs → lv_has ls 9 [(0, .ref o0), (1, .int x1), (2, .int x2), (3, .int x3), (4, .int x4), (5, .int x5), (6, .int x6), (7, .int x7)] → k48 o0 x1 x2 x3 x4 x5 x6 x7 h = some h' → W p l e (mh_rm 1) s m args below meth c H locs 0 0 (MQ below (mh_Qv D ks L s.heap.size h') args s 0 0 (mh_A L s.heap.size)) (F0 m 48 ls [])) :
    ∀ (o0 : Nat) (x1 : Int32) (x2 : Int32) (x3 : Int32) (x4 : Int32) (x5 : Int32) (x7 : Int32) (x8 : Int32) (h : mh_H) (H : Heap) (locs : List Loc) (ls : Array Slot), mh_W D ks L (mh_A L s.heap.size) s.heap h H locs → lv_has ls 9 [(0, .ref o0), (1, .int x1), (2, .int x2), (3, .int x3), (4, .int x4), (5, .int x5), (7, .int x7), (8, .int x8)] → f_X0_allow_b113 k48 o0 x1 x2 x3 x4 x5 x7 x8 h = some h' → W p l e (mh_rm 1) s m args below meth c H locs 0 0 (MQ below (mh_Qv D ks L s.heap.size h') args s 0 0 (mh_A L s.heap.size)) (F0 m 113 ls []) := by
  intro o0 x1 x2 x3 x4 x5 x7 x8 h H locs ls wd hl hX
  have hx := cx.1.1
  have hb := cx.1.2.1
  unfold f_X0_allow_b113 at hX
  refine lv_iload hx hb dX0_allow_113 (lv_at hl 7 rfl) ?_
  refine lv_istore (lv' := [(6, .int x8), (0, .ref o0), (1, .int x1), (2, .int x2), (3, .int x3), (4, .int x4), (5, .int x5), (7, .int x7), (8, .int x8)]) hx hb dX0_allow_115 hl (Nat.le_of_ble_eq_true rfl) rfl (fun ls hl => ?_)
  obtain ⟨v1, ev1, hX⟩ := mh_nmx hX
  refine lv_iinc (k := 7) (v := v1) (lv' := [(7, .int v1), (6, .int x8), (0, .ref o0), (1, .int x1), (2, .int x2), (3, .int x3), (4, .int x4), (5, .int x5), (8, .int x8)]) hx hb dX0_allow_117 hl rfl ev1 (Nat.le_of_ble_eq_true rfl) rfl (fun ls hl => ?_)
  refine lv_goto (tgt := 48) hx hb dX0_allow_120 rfl ?_
  exact hk48 _ _ _ _ _ _ _ _ h _ _ ls wd (lv_sub hl [2, 3, 4, 5, 6, 7, 1, 0] rfl) hX
set_option maxRecDepth 100000 in
set_option maxHeartbeats 4000000 in
theorem w_X0_allow_b123 {p : Program} {l : Launch} {e : Env} {s : State} {m : MethodId} {args : Array Value} {below : List Frame} {meth : Method} {c : Code} {D : va_G} {ks : Nat → ClassId} {L : List Nat} {h' : mh_H} (k35 : Nat → Int32 → Int32 → Int32 → Int32 → Int32 → mh_H → Option mh_H) (cx : mh_C p m c cX0_allow 9 s args RX0 meth D ks (mh_A L s.heap.size)) (hr : meth.sig.returnType = none)
    (hk35 : ∀ (o0 : Nat) (x1 : Int32) (x2 : Int32) (x3 : Int32) (x4 : Int32) (x5 : Int32) (h : mh_H) (H : Heap) (locs : List Loc) (ls : Array Slot), mh_W D ks L (mh_A L s.heap.size) s.heap h H locs → lv_has ls 9 [(0, .ref o0), (1, .int x1), (2, .int x2), (3, .int x3), (4, .int x4), (5, .int x5)] → k35 o0 x1 x2 x3 x4 x5 h = some h' → W p l e (mh_rm 1) s m args below meth c H locs 0 0 (MQ below (mh_Qv D ks L s.heap.size h') args s 0 0 (mh_A L s.heap.size)) (F0 m 35 ls [])) :
    ∀ (o0 : Nat) (x1 : Int32) (x2 : Int32) (x3 : Int32) (x4 : Int32) (x5 : Int32) (h : mh_H) (H : Heap) (locs : List Loc) (ls : Array Slot), mh_W D ks L (mh_A L s.heap.size) s.heap h H locs → lv_has ls 9 [(0, .ref o0), (1, .int x1), (2, .int x2), (3, .int x3), (4, .int x4), (5, .int x5)] → f_X0_allow_b123 k35 o0 x1 x2 x3 x4 x5 h = some h' → W p l e (mh_rm 1) s m args below meth c H locs 0 0 (MQ below (mh_Qv D ks L s.heap.size h') args s 0 0 (mh_A L s.heap.size)) (F0 m 123 ls []) := by
  intro o0 x1 x2 x3 x4 x5 h H locs ls wd hl hX
  have hx := cx.1.1
  have hb := cx.1.2.1
  unfold f_X0_allow_b123 at hX
  obtain ⟨v2, ev2, hX⟩ := mh_nmx hX
  refine lv_iinc (k := 5) (v := v2) (lv' := [(5, .int v2), (0, .ref o0), (1, .int x1), (2, .int x2), (3, .int x3), (4, .int x4)]) hx hb dX0_allow_123 hl rfl ev2 (Nat.le_of_ble_eq_true rfl) rfl (fun ls hl => ?_)
  refine lv_goto (tgt := 35) hx hb dX0_allow_126 rfl ?_
  exact hk35 _ _ _ _ _ _ h _ _ ls wd (lv_sub hl [1, 2, 3, 4, 5, 0] rfl) hX
set_option maxRecDepth 100000 in
set_option maxHeartbeats 4000000 in
theorem w_X0_allow_b48 {p : Program} {l : Launch} {e : Env} {s : State} {m : MethodId} {args : Array Value} {below : List Frame} {meth : Method} {c : Code} {D : va_G} {ks : Nat → ClassId} {L : List Nat} {h' : mh_H} (k35 : Nat → Int32 → Int32 → Int32 → Int32 → Int32 → mh_H → Option mh_H) (cx : mh_C p m c cX0_allow 9 s args RX0 meth D ks (mh_A L s.heap.size)) (hr : meth.sig.returnType = none)
    (hk35 : ∀ (o0 : Nat) (x1 : Int32) (x2 : Int32) (x3 : Int32) (x4 : Int32) (x5 : Int32) (h : mh_H) (H : Heap) (locs : List Loc) (ls : Array Slot), mh_W D ks L (mh_A L s.heap.size) s.heap h H locs → lv_has ls 9 [(0, .ref o0), (1, .int x1), (2, .int x2), (3, .int x3), (4, .int x4), (5, .int x5)] → k35 o0 x1 x2 x3 x4 x5 h = some h' → W p l e (mh_rm 1) s m args below meth c H locs 0 0 (MQ below (mh_Qv D ks L s.heap.size h') args s 0 0 (mh_A L s.heap.size)) (F0 m 35 ls [])) :
    ∀ n : Nat, ∀ (o0 : Nat) (x1 : Int32) (x2 : Int32) (x3 : Int32) (x4 : Int32) (x5 : Int32) (x6 : Int32) (x7 : Int32) (h : mh_H) (H : Heap) (locs : List Loc) (ls : Array Slot), mh_W D ks L (mh_A L s.heap.size) s.heap h H locs → lv_has ls 9 [(0, .ref o0), (1, .int x1), (2, .int x2), (3, .int x3), (4, .int x4), (5, .int x5), (6, .int x6), (7, .int x7)] → f_X0_allow_b48 k35 n o0 x1 x2 x3 x4 x5 x6 x7 h = some h' → W p l e (mh_rm 1) s m args below meth c H locs 0 0 (MQ below (mh_Qv D ks L s.heap.size h') args s 0 0 (mh_A L s.heap.size)) (F0 m 48 ls []) := by
  intro n
  induction n with
  | zero =>
    intro o0 x1 x2 x3 x4 x5 x6 x7 h H locs ls wd hl hX
    cases hX
  | succ n ih =>
    intro o0 x1 x2 x3 x4 x5 x6 x7 h H locs ls wd hl hX
    have hx := cx.1.1
    have hb := cx.1.2.1
    rw [f_X0_allow_b48] at hX
    refine lv_iload hx hb dX0_allow_48 (lv_at hl 7 rfl) ?_
    refine lv_iload hx hb dX0_allow_50 (lv_at hl 4 rfl) ?_
    refine lv_icmp_ge (tgt := 123) hx hb dX0_allow_52 rfl (fun hc => (fun hX => ?_) ((mh_if hX).1 hc)) (fun hc => (fun hX => ?_) ((mh_if hX).2 hc))
    · exact w_X0_allow_b123 k35 cx hr hk35 _ _ _ _ _ _ h _ _ ls wd (lv_sub hl [0, 1, 2, 3, 4, 5] rfl) hX
    · refine lv_iload hx hb dX0_allow_55 (lv_at hl 6 rfl) ?_
      refine lv_iload_n hx hb dX0_allow_57 rfl (lv_at hl 1 rfl) ?_
      refine lv_iadd hx hb dX0_allow_58 ?_
      refine lv_aload_n hx hb dX0_allow_59 rfl (lv_at hl 0 rfl) ?_
      refine mh_getI cx wd fl_X0_15 dX0_allow_60 hX (fun v3 hX => ?_)
      obtain ⟨hz, hX⟩ := mh_nzk hX
      refine lv_irem hx hb dX0_allow_63 hz ?_
      refine mh_topi hX (fun v4 hX => ?_)
      refine lv_istore (lv' := [(8, .int v4), (0, .ref o0), (1, .int x1), (2, .int x2), (3, .int x3), (4, .int x4), (5, .int x5), (6, .int x6), (7, .int x7)]) hx hb dX0_allow_64 hl (Nat.le_of_ble_eq_true rfl) rfl (fun ls hl => ?_)
      refine lv_aload_n hx hb dX0_allow_66 rfl (lv_at hl 1 rfl) ?_
      refine mh_getR cx wd fl_X0_9 dX0_allow_67 hX (fun a5 hX => ?_)
      refine lv_iload hx hb dX0_allow_70 (lv_at hl 7 rfl) ?_
      refine mh_iald cx wd dX0_allow_72 hX (fun v6 hX => ?_)
      refine mh_ldc cx kc_X0_28 dX0_allow_73 ?_
      refine lv_icmp_eq (tgt := 113) hx hb dX0_allow_75 rfl (fun hc => (fun hX => ?_) ((mh_if hX).1 hc)) (fun hc => (fun hX => ?_) ((mh_if hX).2 hc))
      · exact w_X0_allow_b113 (f_X0_allow_b48 k35 n) cx hr ih _ _ _ _ _ _ _ _ h _ _ ls wd (lv_sub hl [1, 2, 3, 4, 5, 6, 8, 0] rfl) hX
      · refine lv_aload_n hx hb dX0_allow_78 rfl (lv_at hl 1 rfl) ?_
        refine mh_getR cx wd fl_X0_9 dX0_allow_79 hX (fun a7 hX => ?_)
        refine lv_iload hx hb dX0_allow_82 (lv_at hl 7 rfl) ?_
        refine mh_iald cx wd dX0_allow_84 hX (fun v8 hX => ?_)
        refine lv_iload_n hx hb dX0_allow_85 rfl (lv_at hl 3 rfl) ?_
        refine lv_iadd hx hb dX0_allow_86 ?_
        refine lv_aload_n hx hb dX0_allow_87 rfl (lv_at hl 1 rfl) ?_
        refine mh_getR cx wd fl_X0_9 dX0_allow_88 hX (fun a9 hX => ?_)
        refine lv_iload hx hb dX0_allow_91 (lv_at hl 0 rfl) ?_
        refine mh_iald cx wd dX0_allow_93 hX (fun v10 hX => ?_)
        refine lv_icmp_ge (tgt := 113) hx hb dX0_allow_94 rfl (fun hc => (fun hX => ?_) ((mh_if hX).1 hc)) (fun hc => (fun hX => ?_) ((mh_if hX).2 hc))
        · exact w_X0_allow_b113 (f_X0_allow_b48 k35 n) cx hr ih _ _ _ _ _ _ _ _ h _ _ ls wd (lv_sub hl [1, 2, 3, 4, 5, 6, 8, 0] rfl) hX
        · refine lv_aload_n hx hb dX0_allow_97 rfl (lv_at hl 1 rfl) ?_
          refine mh_getR cx wd fl_X0_9 dX0_allow_98 hX (fun a11 hX => ?_)
          refine lv_iload hx hb dX0_allow_101 (lv_at hl 0 rfl) ?_
          refine lv_aload_n hx hb dX0_allow_103 rfl (lv_at hl 1 rfl) ?_
          refine mh_getR cx wd fl_X0_9 dX0_allow_104 hX (fun a12 hX => ?_)
          refine lv_iload hx hb dX0_allow_107 (lv_at hl 7 rfl) ?_
          refine mh_iald cx wd dX0_allow_109 hX (fun v13 hX => ?_)
          refine lv_iload_n hx hb dX0_allow_110 rfl (lv_at hl 3 rfl) ?_
          refine lv_iadd hx hb dX0_allow_111 ?_
          refine mh_iast cx wd dX0_allow_112 hX (fun h14 H locs wd hX => ?_)
          exact w_X0_allow_b113 (f_X0_allow_b48 k35 n) cx hr ih _ _ _ _ _ _ _ _ h14 _ _ ls wd (lv_sub hl [1, 2, 3, 4, 5, 6, 8, 0] rfl) hX
set_option maxRecDepth 100000 in
set_option maxHeartbeats 4000000 in
theorem w_X0_allow_b129 {p : Program} {l : Launch} {e : Env} {s : State} {m : MethodId} {args : Array Value} {below : List Frame} {meth : Method} {c : Code} {D : va_G} {ks : Nat → ClassId} {L : List Nat} {h' : mh_H} (cx : mh_C p m c cX0_allow 9 s args RX0 meth D ks (mh_A L s.heap.size)) (hr : meth.sig.returnType = none) :
    ∀ (h : mh_H) (H : Heap) (locs : List Loc) (ls : Array Slot), mh_W D ks L (mh_A L s.heap.size) s.heap h H locs → lv_has ls 9 [] → f_X0_allow_b129  h = some h' → W p l e (mh_rm 1) s m args below meth c H locs 0 0 (MQ below (mh_Qv D ks L s.heap.size h') args s 0 0 (mh_A L s.heap.size)) (F0 m 129 ls []) := by
  intro  h H locs ls wd hl hX
  have hx := cx.1.1
  have hb := cx.1.2.1
  unfold f_X0_allow_b129 at hX
  exact mh_vret cx wd hr hX dX0_allow_129
set_option maxRecDepth 100000 in
set_option maxHeartbeats 4000000 in
theorem w_X0_allow_b35 {p : Program} {l : Launch} {e : Env} {s : State} {m : MethodId} {args : Array Value} {below : List Frame} {meth : Method} {c : Code} {D : va_G} {ks : Nat → ClassId} {L : List Nat} {h' : mh_H} (cx : mh_C p m c cX0_allow 9 s args RX0 meth D ks (mh_A L s.heap.size)) (hr : meth.sig.returnType = none) :
    ∀ n : Nat, ∀ (o0 : Nat) (x1 : Int32) (x2 : Int32) (x3 : Int32) (x4 : Int32) (x5 : Int32) (h : mh_H) (H : Heap) (locs : List Loc) (ls : Array Slot), mh_W D ks L (mh_A L s.heap.size) s.heap h H locs → lv_has ls 9 [(0, .ref o0), (1, .int x1), (2, .int x2), (3, .int x3), (4, .int x4), (5, .int x5)] → f_X0_allow_b35 n o0 x1 x2 x3 x4 x5 h = some h' → W p l e (mh_rm 1) s m args below meth c H locs 0 0 (MQ below (mh_Qv D ks L s.heap.size h') args s 0 0 (mh_A L s.heap.size)) (F0 m 35 ls []) := by
  intro n
  induction n with
  | zero =>
    intro o0 x1 x2 x3 x4 x5 h H locs ls wd hl hX
    cases hX
  | succ n ih =>
    intro o0 x1 x2 x3 x4 x5 h H locs ls wd hl hX
    have hx := cx.1.1
    have hb := cx.1.2.1
    rw [f_X0_allow_b35] at hX
    refine lv_iload hx hb dX0_allow_35 (lv_at hl 5 rfl) ?_
    refine lv_iload_n hx hb dX0_allow_37 rfl (lv_at hl 3 rfl) ?_
    refine lv_icmp_ge (tgt := 129) hx hb dX0_allow_38 rfl (fun hc => (fun hX => ?_) ((mh_if hX).1 hc)) (fun hc => (fun hX => ?_) ((mh_if hX).2 hc))
    · exact w_X0_allow_b129 cx hr  h _ _ ls wd (lv_sub hl [] rfl) hX
    · refine lv_iload hx hb dX0_allow_41 (lv_at hl 5 rfl) ?_
      refine lv_istore (lv' := [(6, .int x5), (0, .ref o0), (1, .int x1), (2, .int x2), (3, .int x3), (4, .int x4), (5, .int x5)]) hx hb dX0_allow_43 hl (Nat.le_of_ble_eq_true rfl) rfl (fun ls hl => ?_)
      refine lv_iconst (v := 0) hx hb dX0_allow_45 (by decide) ?_
      refine mh_topi hX (fun v15 hX => ?_)
      refine lv_istore (lv' := [(7, .int v15), (6, .int x5), (0, .ref o0), (1, .int x1), (2, .int x2), (3, .int x3), (4, .int x4), (5, .int x5)]) hx hb dX0_allow_46 hl (Nat.le_of_ble_eq_true rfl) rfl (fun ls hl => ?_)
      exact w_X0_allow_b48 (f_X0_allow_b35 n) cx hr ih mh_fu _ _ _ _ _ _ _ _ h _ _ ls wd (lv_sub hl [2, 3, 4, 5, 6, 7, 1, 0] rfl) hX
set_option maxRecDepth 100000 in
set_option maxHeartbeats 4000000 in
theorem w_X0_allow_b30 {p : Program} {l : Launch} {e : Env} {s : State} {m : MethodId} {args : Array Value} {below : List Frame} {meth : Method} {c : Code} {D : va_G} {ks : Nat → ClassId} {L : List Nat} {h' : mh_H} (cx : mh_C p m c cX0_allow 9 s args RX0 meth D ks (mh_A L s.heap.size)) (hr : meth.sig.returnType = none) :
    ∀ (o0 : Nat) (x1 : Int32) (x2 : Int32) (x3 : Int32) (t0 : Int32) (h : mh_H) (H : Heap) (locs : List Loc) (ls : Array Slot), mh_W D ks L (mh_A L s.heap.size) s.heap h H locs → lv_has ls 9 [(0, .ref o0), (1, .int x1), (2, .int x2), (3, .int x3)] → f_X0_allow_b30 o0 x1 x2 x3 t0 h = some h' → W p l e (mh_rm 1) s m args below meth c H locs 0 0 (MQ below (mh_Qv D ks L s.heap.size h') args s 0 0 (mh_A L s.heap.size)) (F0 m 30 ls [.int t0]) := by
  intro o0 x1 x2 x3 t0 h H locs ls wd hl hX
  have hx := cx.1.1
  have hb := cx.1.2.1
  unfold f_X0_allow_b30 at hX
  refine lv_istore (lv' := [(4, .int t0), (0, .ref o0), (1, .int x1), (2, .int x2), (3, .int x3)]) hx hb dX0_allow_30 hl (Nat.le_of_ble_eq_true rfl) rfl (fun ls hl => ?_)
  refine lv_iconst (v := 0) hx hb dX0_allow_32 (by decide) ?_
  refine mh_topi hX (fun v16 hX => ?_)
  refine lv_istore (lv' := [(5, .int v16), (4, .int t0), (0, .ref o0), (1, .int x1), (2, .int x2), (3, .int x3)]) hx hb dX0_allow_33 hl (Nat.le_of_ble_eq_true rfl) rfl (fun ls hl => ?_)
  exact w_X0_allow_b35 cx hr mh_fu _ _ _ _ _ _ h _ _ ls wd (lv_sub hl [2, 3, 4, 5, 1, 0] rfl) hX
set_option maxRecDepth 100000 in
set_option maxHeartbeats 4000000 in
theorem w_X0_allow_e {p : Program} {l : Launch} {e : Env} {s : State} {m : MethodId} {args : Array Value} {below : List Frame} {meth : Method} {c : Code} {D : va_G} {ks : Nat → ClassId} {L : List Nat} {h' : mh_H} (cx : mh_C p m c cX0_allow 9 s args RX0 meth D ks (mh_A L s.heap.size)) (hr : meth.sig.returnType = none) :
    ∀ (o0 : Nat) (x1 : Int32) (x2 : Int32) (h : mh_H) (H : Heap) (locs : List Loc) (ls : Array Slot), mh_W D ks L (mh_A L s.heap.size) s.heap h H locs → lv_has ls 9 [(0, .ref o0), (1, .int x1), (2, .int x2)] → f_X0_allow_e o0 x1 x2 h = some h' → W p l e (mh_rm 1) s m args below meth c H locs 0 0 (MQ below (mh_Qv D ks L s.heap.size h') args s 0 0 (mh_A L s.heap.size)) (F0 m 0 ls []) := by
  intro o0 x1 x2 h H locs ls wd hl hX
  have hx := cx.1.1
  have hb := cx.1.2.1
  unfold f_X0_allow_e at hX
  refine lv_iload_n hx hb dX0_allow_0 rfl (lv_at hl 1 rfl) ?_
  refine lv_aload_n hx hb dX0_allow_1 rfl (lv_at hl 0 rfl) ?_
  refine mh_getI cx wd fl_X0_15 dX0_allow_2 hX (fun v17 hX => ?_)
  obtain ⟨hz, hX⟩ := mh_nzk hX
  refine lv_irem hx hb dX0_allow_5 hz ?_
  refine lv_aload_n hx hb dX0_allow_6 rfl (lv_at hl 0 rfl) ?_
  refine mh_getI cx wd fl_X0_15 dX0_allow_7 hX (fun v18 hX => ?_)
  refine mh_callNI cx wd [.int (mh_irem x1 v17), .int v18] yw_X11_greatestCommon nw_X0_35 rfl hl.1 rfl (Nat.le_of_ble_eq_true rfl) dX0_allow_10 ⟨Nat.le_of_ble_eq_true rfl, Nat.le_of_ble_eq_true rfl⟩ ⟨Nat.le_refl _, Nat.le_refl _⟩ (fun _ _ q => c_X11_greatestCommon q) hX (fun v20 h19 H locs wd hX => ?_)
  refine lv_istore_n (lv' := [(3, .int v20), (0, .ref o0), (1, .int x1), (2, .int x2)]) hx hb dX0_allow_13 rfl hl (Nat.le_of_ble_eq_true rfl) rfl (fun ls hl => ?_)
  refine lv_iload_n hx hb dX0_allow_14 rfl (lv_at hl 0 rfl) ?_
  refine lv_if_le (tgt := 29) hx hb dX0_allow_15 rfl (fun hc => (fun hX => ?_) ((mh_if hX).1 hc)) (fun hc => (fun hX => ?_) ((mh_if hX).2 hc))
  · refine lv_iconst (v := 0) hx hb dX0_allow_29 (by decide) ?_
    exact w_X0_allow_b30 cx hr _ _ _ _ _ h19 _ _ ls wd (lv_sub hl [1, 2, 3, 0] rfl) hX
  · refine lv_iconst (v := 2) hx hb dX0_allow_18 (by decide) ?_
    refine lv_aload_n hx hb dX0_allow_19 rfl (lv_at hl 1 rfl) ?_
    refine mh_getI cx wd fl_X0_15 dX0_allow_20 hX (fun v21 hX => ?_)
    refine lv_iload_n hx hb dX0_allow_23 rfl (lv_at hl 0 rfl) ?_
    obtain ⟨hz, hX⟩ := mh_nzk hX
    refine lv_idiv hx hb dX0_allow_24 hz ?_
    refine lv_imul hx hb dX0_allow_25 ?_
    refine lv_goto (tgt := 30) hx hb dX0_allow_26 rfl ?_
    exact w_X0_allow_b30 cx hr _ _ _ _ _ h19 _ _ ls wd (lv_sub hl [1, 2, 3, 0] rfl) hX
set_option maxRecDepth 100000 in
theorem c_X0_allow {l : Launch} {L : List Nat} {h h' : mh_H} {o0 : Nat} {x1 : Int32} {x2 : Int32} (hX : f_X0_allow_e o0 x1 x2 h = some h') : mh_MV l yX0_allow (Cond.code yX0_allow cX0_allow 9 none :: mh_TB) (mh_rm 1) [.ref o0, .int x1, .int x2] L h h' :=
  mh_of (mc := 0) (ms := 0) (Qc := fun D ks sz => mh_Qv D ks L sz h') (plainFor_of_name (by decide)) (Nat.le_of_ble_eq_true rfl) (fun p e s m below meth c D ks ls hr cx wd hl => by
    have hl : lv_has ls 9 [(0, .ref o0), (1, .int x1), (2, .int x2)] := hl
    exact w_X0_allow_e cx hr o0 x1 x2 h _ _ ls wd hl hX)
def f_X0_weight_b23 (t0 : Int32) (h : mh_H) : Option (Int32 × mh_H) :=
  some (t0, h)
def f_X0_weight_b21 (k23 : Int32 → mh_H → Option (Int32 × mh_H)) (h : mh_H) : Option (Int32 × mh_H) :=
  k23 (2147483647 : Int32) h
def f_X0_weight_e (o0 : Nat) (x1 : Int32) (h : mh_H) : Option (Int32 × mh_H) :=
  if x1 < 0 then (
  f_X0_weight_b21 (f_X0_weight_b23) h) else
  (mh_gI h o0 0 1).bind fun v1 =>
  if v1 ≤ x1 then (
  f_X0_weight_b21 (f_X0_weight_b23) h) else
  (mh_gR h o0 0 0).bind fun a2 =>
  (mh_aI h a2 0 x1).bind fun v3 =>
  f_X0_weight_b23 v3 h
set_option maxRecDepth 100000 in
set_option maxHeartbeats 4000000 in
theorem w_X0_weight_b23 {p : Program} {l : Launch} {e : Env} {s : State} {m : MethodId} {args : Array Value} {below : List Frame} {meth : Method} {c : Code} {D : va_G} {ks : Nat → ClassId} {L : List Nat} {r : Int32} {h' : mh_H} (cx : mh_C p m c cX0_weight 2 s args RX0 meth D ks (mh_A L s.heap.size)) (hr : meth.sig.returnType = (some .int)) :
    ∀ (t0 : Int32) (h : mh_H) (H : Heap) (locs : List Loc) (ls : Array Slot), mh_W D ks L (mh_A L s.heap.size) s.heap h H locs → lv_has ls 2 [] → f_X0_weight_b23 t0 h = some (r, h') → W p l e (mh_rm 0) s m args below meth c H locs 0 0 (MQ below (mh_Qi D ks L s.heap.size r h') args s 0 0 (mh_A L s.heap.size)) (F0 m 23 ls [.int t0]) := by
  intro t0 h H locs ls wd hl hX
  have hx := cx.1.1
  have hb := cx.1.2.1
  unfold f_X0_weight_b23 at hX
  exact mh_iret cx wd hr hX dX0_weight_23
set_option maxRecDepth 100000 in
set_option maxHeartbeats 4000000 in
theorem w_X0_weight_b21 {p : Program} {l : Launch} {e : Env} {s : State} {m : MethodId} {args : Array Value} {below : List Frame} {meth : Method} {c : Code} {D : va_G} {ks : Nat → ClassId} {L : List Nat} {r : Int32} {h' : mh_H} (k23 : Int32 → mh_H → Option (Int32 × mh_H)) (cx : mh_C p m c cX0_weight 2 s args RX0 meth D ks (mh_A L s.heap.size)) (hr : meth.sig.returnType = (some .int))
    (hk23 : ∀ (t0 : Int32) (h : mh_H) (H : Heap) (locs : List Loc) (ls : Array Slot), mh_W D ks L (mh_A L s.heap.size) s.heap h H locs → lv_has ls 2 [] → k23 t0 h = some (r, h') → W p l e (mh_rm 0) s m args below meth c H locs 0 0 (MQ below (mh_Qi D ks L s.heap.size r h') args s 0 0 (mh_A L s.heap.size)) (F0 m 23 ls [.int t0])) :
    ∀ (h : mh_H) (H : Heap) (locs : List Loc) (ls : Array Slot), mh_W D ks L (mh_A L s.heap.size) s.heap h H locs → lv_has ls 2 [] → f_X0_weight_b21 k23  h = some (r, h') → W p l e (mh_rm 0) s m args below meth c H locs 0 0 (MQ below (mh_Qi D ks L s.heap.size r h') args s 0 0 (mh_A L s.heap.size)) (F0 m 21 ls []) := by
  intro  h H locs ls wd hl hX
  have hx := cx.1.1
  have hb := cx.1.2.1
  unfold f_X0_weight_b21 at hX
  refine mh_ldc cx kc_X0_28 dX0_weight_21 ?_
  exact hk23 _ h _ _ ls wd (lv_sub hl [] rfl) hX
set_option maxRecDepth 100000 in
set_option maxHeartbeats 4000000 in
theorem w_X0_weight_e {p : Program} {l : Launch} {e : Env} {s : State} {m : MethodId} {args : Array Value} {below : List Frame} {meth : Method} {c : Code} {D : va_G} {ks : Nat → ClassId} {L : List Nat} {r : Int32} {h' : mh_H} (cx : mh_C p m c cX0_weight 2 s args RX0 meth D ks (mh_A L s.heap.size)) (hr : meth.sig.returnType = (some .int)) :
    ∀ (o0 : Nat) (x1 : Int32) (h : mh_H) (H : Heap) (locs : List Loc) (ls : Array Slot), mh_W D ks L (mh_A L s.heap.size) s.heap h H locs → lv_has ls 2 [(0, .ref o0), (1, .int x1)] → f_X0_weight_e o0 x1 h = some (r, h') → W p l e (mh_rm 0) s m args below meth c H locs 0 0 (MQ below (mh_Qi D ks L s.heap.size r h') args s 0 0 (mh_A L s.heap.size)) (F0 m 0 ls []) := by
  intro o0 x1 h H locs ls wd hl hX
  have hx := cx.1.1
  have hb := cx.1.2.1
  unfold f_X0_weight_e at hX
  refine lv_iload_n hx hb dX0_weight_0 rfl (lv_at hl 1 rfl) ?_
  refine lv_if_lt (tgt := 21) hx hb dX0_weight_1 rfl (fun hc => (fun hX => ?_) ((mh_if hX).1 hc)) (fun hc => (fun hX => ?_) ((mh_if hX).2 hc))
  · exact w_X0_weight_b21 (f_X0_weight_b23) cx hr (w_X0_weight_b23 cx hr)  h _ _ ls wd (lv_sub hl [] rfl) hX
  · refine lv_iload_n hx hb dX0_weight_4 rfl (lv_at hl 1 rfl) ?_
    refine lv_aload_n hx hb dX0_weight_5 rfl (lv_at hl 0 rfl) ?_
    refine mh_getI cx wd fl_X0_15 dX0_weight_6 hX (fun v1 hX => ?_)
    refine lv_icmp_ge (tgt := 21) hx hb dX0_weight_9 rfl (fun hc => (fun hX => ?_) ((mh_if hX).1 hc)) (fun hc => (fun hX => ?_) ((mh_if hX).2 hc))
    · exact w_X0_weight_b21 (f_X0_weight_b23) cx hr (w_X0_weight_b23 cx hr)  h _ _ ls wd (lv_sub hl [] rfl) hX
    · refine lv_aload_n hx hb dX0_weight_12 rfl (lv_at hl 0 rfl) ?_
      refine mh_getR cx wd fl_X0_9 dX0_weight_13 hX (fun a2 hX => ?_)
      refine lv_iload_n hx hb dX0_weight_16 rfl (lv_at hl 1 rfl) ?_
      refine mh_iald cx wd dX0_weight_17 hX (fun v3 hX => ?_)
      refine lv_goto (tgt := 23) hx hb dX0_weight_18 rfl ?_
      exact w_X0_weight_b23 cx hr _ h _ _ ls wd (lv_sub hl [] rfl) hX
set_option maxRecDepth 100000 in
theorem c_X0_weight {l : Launch} {L : List Nat} {h h' : mh_H} {r : Int32} {o0 : Nat} {x1 : Int32} (hX : f_X0_weight_e o0 x1 h = some (r, h')) : mh_MI l yX0_weight (Cond.code yX0_weight cX0_weight 2 (some .int) :: mh_TB) (mh_rm 0) [.ref o0, .int x1] L h r h' :=
  mh_of (mc := 0) (ms := 0) (Qc := fun D ks sz => mh_Qi D ks L sz r h') (plainFor_of_name (by decide)) (Nat.le_of_ble_eq_true rfl) (fun p e s m below meth c D ks ls hr cx wd hl => by
    have hl : lv_has ls 2 [(0, .ref o0), (1, .int x1)] := hl
    exact w_X0_weight_e cx hr o0 x1 h _ _ ls wd hl hX)
def f_X1_count_e (o0 : Nat) (h : mh_H) : Option (Int32 × mh_H) :=
  (mh_gI h o0 1 1).bind fun v1 =>
  some (v1, h)
set_option maxRecDepth 100000 in
set_option maxHeartbeats 4000000 in
theorem w_X1_count_e {p : Program} {l : Launch} {e : Env} {s : State} {m : MethodId} {args : Array Value} {below : List Frame} {meth : Method} {c : Code} {D : va_G} {ks : Nat → ClassId} {L : List Nat} {r : Int32} {h' : mh_H} (cx : mh_C p m c cX1_count 1 s args RX1 meth D ks (mh_A L s.heap.size)) (hr : meth.sig.returnType = (some .int)) :
    ∀ (o0 : Nat) (h : mh_H) (H : Heap) (locs : List Loc) (ls : Array Slot), mh_W D ks L (mh_A L s.heap.size) s.heap h H locs → lv_has ls 1 [(0, .ref o0)] → f_X1_count_e o0 h = some (r, h') → W p l e (mh_rm 0) s m args below meth c H locs 0 0 (MQ below (mh_Qi D ks L s.heap.size r h') args s 0 0 (mh_A L s.heap.size)) (F0 m 0 ls []) := by
  intro o0 h H locs ls wd hl hX
  have hx := cx.1.1
  have hb := cx.1.2.1
  unfold f_X1_count_e at hX
  refine lv_aload_n hx hb dX1_count_0 rfl (lv_at hl 0 rfl) ?_
  refine mh_getI cx wd fl_X1_15 dX1_count_1 hX (fun v1 hX => ?_)
  exact mh_iret cx wd hr hX dX1_count_4
set_option maxRecDepth 100000 in
theorem c_X1_count {l : Launch} {L : List Nat} {h h' : mh_H} {r : Int32} {o0 : Nat} (hX : f_X1_count_e o0 h = some (r, h')) : mh_MI l yX1_count (Cond.code yX1_count cX1_count 1 (some .int) :: mh_TB) (mh_rm 0) [.ref o0] L h r h' :=
  mh_of (mc := 0) (ms := 0) (Qc := fun D ks sz => mh_Qi D ks L sz r h') (plainFor_of_name (by decide)) (Nat.le_of_ble_eq_true rfl) (fun p e s m below meth c D ks ls hr cx wd hl => by
    have hl : lv_has ls 1 [(0, .ref o0)] := hl
    exact w_X1_count_e cx hr o0 h _ _ ls wd hl hX)
def f_X1_isFull_b14 (t0 : Int32) (h : mh_H) : Option (Int32 × mh_H) :=
  mh_rz t0 h
def f_X1_isFull_e (o0 : Nat) (h : mh_H) : Option (Int32 × mh_H) :=
  (mh_gI h o0 1 1).bind fun v1 =>
  if v1 < (12 : Int32) then (
  f_X1_isFull_b14 (0 : Int32) h) else
  f_X1_isFull_b14 (1 : Int32) h
set_option maxRecDepth 100000 in
set_option maxHeartbeats 4000000 in
theorem w_X1_isFull_b14 {p : Program} {l : Launch} {e : Env} {s : State} {m : MethodId} {args : Array Value} {below : List Frame} {meth : Method} {c : Code} {D : va_G} {ks : Nat → ClassId} {L : List Nat} {r : Int32} {h' : mh_H} (cx : mh_C p m c cX1_isFull 1 s args RX1 meth D ks (mh_A L s.heap.size)) (hr : meth.sig.returnType = (some .boolean)) :
    ∀ (t0 : Int32) (h : mh_H) (H : Heap) (locs : List Loc) (ls : Array Slot), mh_W D ks L (mh_A L s.heap.size) s.heap h H locs → lv_has ls 1 [] → f_X1_isFull_b14 t0 h = some (r, h') → W p l e (mh_rm 0) s m args below meth c H locs 0 0 (MQ below (mh_Qi D ks L s.heap.size r h') args s 0 0 (mh_A L s.heap.size)) (F0 m 14 ls [.int t0]) := by
  intro t0 h H locs ls wd hl hX
  have hx := cx.1.1
  have hb := cx.1.2.1
  unfold f_X1_isFull_b14 at hX
  exact mh_zret cx wd hr hX dX1_isFull_14
set_option maxRecDepth 100000 in
set_option maxHeartbeats 4000000 in
theorem w_X1_isFull_e {p : Program} {l : Launch} {e : Env} {s : State} {m : MethodId} {args : Array Value} {below : List Frame} {meth : Method} {c : Code} {D : va_G} {ks : Nat → ClassId} {L : List Nat} {r : Int32} {h' : mh_H} (cx : mh_C p m c cX1_isFull 1 s args RX1 meth D ks (mh_A L s.heap.size)) (hr : meth.sig.returnType = (some .boolean)) :
    ∀ (o0 : Nat) (h : mh_H) (H : Heap) (locs : List Loc) (ls : Array Slot), mh_W D ks L (mh_A L s.heap.size) s.heap h H locs → lv_has ls 1 [(0, .ref o0)] → f_X1_isFull_e o0 h = some (r, h') → W p l e (mh_rm 0) s m args below meth c H locs 0 0 (MQ below (mh_Qi D ks L s.heap.size r h') args s 0 0 (mh_A L s.heap.size)) (F0 m 0 ls []) := by
  intro o0 h H locs ls wd hl hX
  have hx := cx.1.1
  have hb := cx.1.2.1
  unfold f_X1_isFull_e at hX
  refine lv_aload_n hx hb dX1_isFull_0 rfl (lv_at hl 0 rfl) ?_
  refine mh_getI cx wd fl_X1_15 dX1_isFull_1 hX (fun v1 hX => ?_)
  refine lv_bipush (v := 12) hx hb dX1_isFull_4 (by decide) ?_
  refine lv_icmp_lt (tgt := 13) hx hb dX1_isFull_6 rfl (fun hc => (fun hX => ?_) ((mh_if hX).1 hc)) (fun hc => (fun hX => ?_) ((mh_if hX).2 hc))
  · refine lv_iconst (v := 0) hx hb dX1_isFull_13 (by decide) ?_
    exact w_X1_isFull_b14 cx hr _ h _ _ ls wd (lv_sub hl [] rfl) hX
  · refine lv_iconst (v := 1) hx hb dX1_isFull_9 (by decide) ?_
    refine lv_goto (tgt := 14) hx hb dX1_isFull_10 rfl ?_
    exact w_X1_isFull_b14 cx hr _ h _ _ ls wd (lv_sub hl [] rfl) hX
set_option maxRecDepth 100000 in
theorem c_X1_isFull {l : Launch} {L : List Nat} {h h' : mh_H} {r : Int32} {o0 : Nat} (hX : f_X1_isFull_e o0 h = some (r, h')) : mh_MI l yX1_isFull (Cond.code yX1_isFull cX1_isFull 1 (some .boolean) :: mh_TB) (mh_rm 0) [.ref o0] L h r h' :=
  mh_of (mc := 0) (ms := 0) (Qc := fun D ks sz => mh_Qi D ks L sz r h') (plainFor_of_name (by decide)) (Nat.le_of_ble_eq_true rfl) (fun p e s m below meth c D ks ls hr cx wd hl => by
    have hl : lv_has ls 1 [(0, .ref o0)] := hl
    exact w_X1_isFull_e cx hr o0 h _ _ ls wd hl hX)
def f_X1_value_b22 (t0 : Int32) (h : mh_H) : Option (Int32 × mh_H) :=
  some (t0, h)
def f_X1_value_b21 (k22 : Int32 → mh_H → Option (Int32 × mh_H)) (h : mh_H) : Option (Int32 × mh_H) :=
  k22 (0 : Int32) h
def f_X1_value_e (o0 : Nat) (x1 : Int32) (h : mh_H) : Option (Int32 × mh_H) :=
  if x1 < 0 then (
  f_X1_value_b21 (f_X1_value_b22) h) else
  (mh_gI h o0 1 1).bind fun v1 =>
  if v1 ≤ x1 then (
  f_X1_value_b21 (f_X1_value_b22) h) else
  (mh_gR h o0 1 0).bind fun a2 =>
  (mh_aI h a2 0 x1).bind fun v3 =>
  f_X1_value_b22 v3 h
set_option maxRecDepth 100000 in
set_option maxHeartbeats 4000000 in
theorem w_X1_value_b22 {p : Program} {l : Launch} {e : Env} {s : State} {m : MethodId} {args : Array Value} {below : List Frame} {meth : Method} {c : Code} {D : va_G} {ks : Nat → ClassId} {L : List Nat} {r : Int32} {h' : mh_H} (cx : mh_C p m c cX1_value 2 s args RX1 meth D ks (mh_A L s.heap.size)) (hr : meth.sig.returnType = (some .int)) :
    ∀ (t0 : Int32) (h : mh_H) (H : Heap) (locs : List Loc) (ls : Array Slot), mh_W D ks L (mh_A L s.heap.size) s.heap h H locs → lv_has ls 2 [] → f_X1_value_b22 t0 h = some (r, h') → W p l e (mh_rm 0) s m args below meth c H locs 0 0 (MQ below (mh_Qi D ks L s.heap.size r h') args s 0 0 (mh_A L s.heap.size)) (F0 m 22 ls [.int t0]) := by
  intro t0 h H locs ls wd hl hX
  have hx := cx.1.1
  have hb := cx.1.2.1
  unfold f_X1_value_b22 at hX
  exact mh_iret cx wd hr hX dX1_value_22
set_option maxRecDepth 100000 in
set_option maxHeartbeats 4000000 in
theorem w_X1_value_b21 {p : Program} {l : Launch} {e : Env} {s : State} {m : MethodId} {args : Array Value} {below : List Frame} {meth : Method} {c : Code} {D : va_G} {ks : Nat → ClassId} {L : List Nat} {r : Int32} {h' : mh_H} (k22 : Int32 → mh_H → Option (Int32 × mh_H)) (cx : mh_C p m c cX1_value 2 s args RX1 meth D ks (mh_A L s.heap.size)) (hr : meth.sig.returnType = (some .int))
    (hk22 : ∀ (t0 : Int32) (h : mh_H) (H : Heap) (locs : List Loc) (ls : Array Slot), mh_W D ks L (mh_A L s.heap.size) s.heap h H locs → lv_has ls 2 [] → k22 t0 h = some (r, h') → W p l e (mh_rm 0) s m args below meth c H locs 0 0 (MQ below (mh_Qi D ks L s.heap.size r h') args s 0 0 (mh_A L s.heap.size)) (F0 m 22 ls [.int t0])) :
    ∀ (h : mh_H) (H : Heap) (locs : List Loc) (ls : Array Slot), mh_W D ks L (mh_A L s.heap.size) s.heap h H locs → lv_has ls 2 [] → f_X1_value_b21 k22  h = some (r, h') → W p l e (mh_rm 0) s m args below meth c H locs 0 0 (MQ below (mh_Qi D ks L s.heap.size r h') args s 0 0 (mh_A L s.heap.size)) (F0 m 21 ls []) := by
  intro  h H locs ls wd hl hX
  have hx := cx.1.1
  have hb := cx.1.2.1
  unfold f_X1_value_b21 at hX
  refine lv_iconst (v := 0) hx hb dX1_value_21 (by decide) ?_
  exact hk22 _ h _ _ ls wd (lv_sub hl [] rfl) hX
set_option maxRecDepth 100000 in
set_option maxHeartbeats 4000000 in
theorem w_X1_value_e {p : Program} {l : Launch} {e : Env} {s : State} {m : MethodId} {args : Array Value} {below : List Frame} {meth : Method} {c : Code} {D : va_G} {ks : Nat → ClassId} {L : List Nat} {r : Int32} {h' : mh_H} (cx : mh_C p m c cX1_value 2 s args RX1 meth D ks (mh_A L s.heap.size)) (hr : meth.sig.returnType = (some .int)) :
    ∀ (o0 : Nat) (x1 : Int32) (h : mh_H) (H : Heap) (locs : List Loc) (ls : Array Slot), mh_W D ks L (mh_A L s.heap.size) s.heap h H locs → lv_has ls 2 [(0, .ref o0), (1, .int x1)] → f_X1_value_e o0 x1 h = some (r, h') → W p l e (mh_rm 0) s m args below meth c H locs 0 0 (MQ below (mh_Qi D ks L s.heap.size r h') args s 0 0 (mh_A L s.heap.size)) (F0 m 0 ls []) := by
  intro o0 x1 h H locs ls wd hl hX
  have hx := cx.1.1
  have hb := cx.1.2.1
  unfold f_X1_value_e at hX
  refine lv_iload_n hx hb dX1_value_0 rfl (lv_at hl 1 rfl) ?_
  refine lv_if_lt (tgt := 21) hx hb dX1_value_1 rfl (fun hc => (fun hX => ?_) ((mh_if hX).1 hc)) (fun hc => (fun hX => ?_) ((mh_if hX).2 hc))
  · exact w_X1_value_b21 (f_X1_value_b22) cx hr (w_X1_value_b22 cx hr)  h _ _ ls wd (lv_sub hl [] rfl) hX
  · refine lv_iload_n hx hb dX1_value_4 rfl (lv_at hl 1 rfl) ?_
    refine lv_aload_n hx hb dX1_value_5 rfl (lv_at hl 0 rfl) ?_
    refine mh_getI cx wd fl_X1_15 dX1_value_6 hX (fun v1 hX => ?_)
    refine lv_icmp_ge (tgt := 21) hx hb dX1_value_9 rfl (fun hc => (fun hX => ?_) ((mh_if hX).1 hc)) (fun hc => (fun hX => ?_) ((mh_if hX).2 hc))
    · exact w_X1_value_b21 (f_X1_value_b22) cx hr (w_X1_value_b22 cx hr)  h _ _ ls wd (lv_sub hl [] rfl) hX
    · refine lv_aload_n hx hb dX1_value_12 rfl (lv_at hl 0 rfl) ?_
      refine mh_getR cx wd fl_X1_9 dX1_value_13 hX (fun a2 hX => ?_)
      refine lv_iload_n hx hb dX1_value_16 rfl (lv_at hl 1 rfl) ?_
      refine mh_iald cx wd dX1_value_17 hX (fun v3 hX => ?_)
      refine lv_goto (tgt := 22) hx hb dX1_value_18 rfl ?_
      exact w_X1_value_b22 cx hr _ h _ _ ls wd (lv_sub hl [] rfl) hX
set_option maxRecDepth 100000 in
theorem c_X1_value {l : Launch} {L : List Nat} {h h' : mh_H} {r : Int32} {o0 : Nat} {x1 : Int32} (hX : f_X1_value_e o0 x1 h = some (r, h')) : mh_MI l yX1_value (Cond.code yX1_value cX1_value 2 (some .int) :: mh_TB) (mh_rm 0) [.ref o0, .int x1] L h r h' :=
  mh_of (mc := 0) (ms := 0) (Qc := fun D ks sz => mh_Qi D ks L sz r h') (plainFor_of_name (by decide)) (Nat.le_of_ble_eq_true rfl) (fun p e s m below meth c D ks ls hr cx wd hl => by
    have hl : lv_has ls 2 [(0, .ref o0), (1, .int x1)] := hl
    exact w_X1_value_e cx hr o0 x1 h _ _ ls wd hl hX)
def f_X1_least_e (o0 : Nat) (h : mh_H) : Option (Int32 × mh_H) :=
  mh_b2 (mh_cal h o0 1 (f_X1_value_e o0 (0 : Int32) h)) fun v2 h1 =>
  some (v2, h1)
set_option maxRecDepth 100000 in
set_option maxHeartbeats 4000000 in
theorem w_X1_least_e {p : Program} {l : Launch} {e : Env} {s : State} {m : MethodId} {args : Array Value} {below : List Frame} {meth : Method} {c : Code} {D : va_G} {ks : Nat → ClassId} {L : List Nat} {r : Int32} {h' : mh_H} (cx : mh_C p m c cX1_least 1 s args RX1 meth D ks (mh_A L s.heap.size)) (hr : meth.sig.returnType = (some .int)) :
    ∀ (o0 : Nat) (h : mh_H) (H : Heap) (locs : List Loc) (ls : Array Slot), mh_W D ks L (mh_A L s.heap.size) s.heap h H locs → lv_has ls 1 [(0, .ref o0)] → f_X1_least_e o0 h = some (r, h') → W p l e (mh_rm 1) s m args below meth c H locs 0 0 (MQ below (mh_Qi D ks L s.heap.size r h') args s 0 0 (mh_A L s.heap.size)) (F0 m 0 ls []) := by
  intro o0 h H locs ls wd hl hX
  have hx := cx.1.1
  have hb := cx.1.2.1
  unfold f_X1_least_e at hX
  refine lv_aload_n hx hb dX1_least_0 rfl (lv_at hl 0 rfl) ?_
  refine lv_iconst (v := 0) hx hb dX1_least_1 (by decide) ?_
  refine mh_callVI cx wd [.int (0 : Int32)] (rfl : vwCl[1]? = some (RX1, TX1, 2)) yw_X1_value vw_X1_19 rfl hl.1 rfl (Nat.le_of_ble_eq_true rfl) dX1_least_2 ⟨Nat.le_of_ble_eq_true rfl, Nat.le_of_ble_eq_true rfl⟩ ⟨Nat.le_refl _, Nat.le_refl _⟩ (fun _ _ q => c_X1_value q) hX (fun v2 h1 H locs wd hX => ?_)
  exact mh_iret cx wd hr hX dX1_least_5
set_option maxRecDepth 100000 in
theorem c_X1_least {l : Launch} {L : List Nat} {h h' : mh_H} {r : Int32} {o0 : Nat} (hX : f_X1_least_e o0 h = some (r, h')) : mh_MI l yX1_least (Cond.code yX1_least cX1_least 1 (some .int) :: mh_TB) (mh_rm 1) [.ref o0] L h r h' :=
  mh_of (mc := 0) (ms := 0) (Qc := fun D ks sz => mh_Qi D ks L sz r h') (plainFor_of_name (by decide)) (Nat.le_of_ble_eq_true rfl) (fun p e s m below meth c D ks ls hr cx wd hl => by
    have hl : lv_has ls 1 [(0, .ref o0)] := hl
    exact w_X1_least_e cx hr o0 h _ _ ls wd hl hX)
def f_X1_greatest_e (o0 : Nat) (h : mh_H) : Option (Int32 × mh_H) :=
  (mh_gI h o0 1 1).bind fun v1 =>
  mh_b2 (mh_cal h o0 1 (f_X1_value_e o0 (v1 - (1 : Int32)) h)) fun v3 h2 =>
  some (v3, h2)
set_option maxRecDepth 100000 in
set_option maxHeartbeats 4000000 in
theorem w_X1_greatest_e {p : Program} {l : Launch} {e : Env} {s : State} {m : MethodId} {args : Array Value} {below : List Frame} {meth : Method} {c : Code} {D : va_G} {ks : Nat → ClassId} {L : List Nat} {r : Int32} {h' : mh_H} (cx : mh_C p m c cX1_greatest 1 s args RX1 meth D ks (mh_A L s.heap.size)) (hr : meth.sig.returnType = (some .int)) :
    ∀ (o0 : Nat) (h : mh_H) (H : Heap) (locs : List Loc) (ls : Array Slot), mh_W D ks L (mh_A L s.heap.size) s.heap h H locs → lv_has ls 1 [(0, .ref o0)] → f_X1_greatest_e o0 h = some (r, h') → W p l e (mh_rm 1) s m args below meth c H locs 0 0 (MQ below (mh_Qi D ks L s.heap.size r h') args s 0 0 (mh_A L s.heap.size)) (F0 m 0 ls []) := by
  intro o0 h H locs ls wd hl hX
  have hx := cx.1.1
  have hb := cx.1.2.1
  unfold f_X1_greatest_e at hX
  refine lv_aload_n hx hb dX1_greatest_0 rfl (lv_at hl 0 rfl) ?_
  refine lv_aload_n hx hb dX1_greatest_1 rfl (lv_at hl 0 rfl) ?_
  refine mh_getI cx wd fl_X1_15 dX1_greatest_2 hX (fun v1 hX => ?_)
  refine lv_iconst (v := 1) hx hb dX1_greatest_5 (by decide) ?_
  refine lv_isub hx hb dX1_greatest_6 ?_
  refine mh_callVI cx wd [.int (v1 - (1 : Int32))] (rfl : vwCl[1]? = some (RX1, TX1, 2)) yw_X1_value vw_X1_19 rfl hl.1 rfl (Nat.le_of_ble_eq_true rfl) dX1_greatest_7 ⟨Nat.le_of_ble_eq_true rfl, Nat.le_of_ble_eq_true rfl⟩ ⟨Nat.le_refl _, Nat.le_refl _⟩ (fun _ _ q => c_X1_value q) hX (fun v3 h2 H locs wd hX => ?_)
  exact mh_iret cx wd hr hX dX1_greatest_10
set_option maxRecDepth 100000 in
theorem c_X1_greatest {l : Launch} {L : List Nat} {h h' : mh_H} {r : Int32} {o0 : Nat} (hX : f_X1_greatest_e o0 h = some (r, h')) : mh_MI l yX1_greatest (Cond.code yX1_greatest cX1_greatest 1 (some .int) :: mh_TB) (mh_rm 1) [.ref o0] L h r h' :=
  mh_of (mc := 0) (ms := 0) (Qc := fun D ks sz => mh_Qi D ks L sz r h') (plainFor_of_name (by decide)) (Nat.le_of_ble_eq_true rfl) (fun p e s m below meth c D ks ls hr cx wd hl => by
    have hl : lv_has ls 1 [(0, .ref o0)] := hl
    exact w_X1_greatest_e cx hr o0 h _ _ ls wd hl hX)
def f_X1_placeFor_b26 (x2 : Int32) (h : mh_H) : Option (Int32 × mh_H) :=
  some (x2, h)
def f_X1_placeFor_b2 : Nat → Nat → Int32 → Int32 → mh_H → Option (Int32 × mh_H)
  | 0, _, _, _, _ => none
  | n + 1, o0, x1, x2, h =>
    (mh_gI h o0 1 1).bind fun v1 =>
    if v1 ≤ x2 then (
    f_X1_placeFor_b26 x2 h) else
    (mh_gR h o0 1 0).bind fun a2 =>
    (mh_aI h a2 0 x2).bind fun v3 =>
    if x1 ≤ v3 then (
    f_X1_placeFor_b26 x2 h) else
    mh_nm (x2 + Int32.ofInt (1)) fun v4 =>
    f_X1_placeFor_b2 n o0 x1 v4 h
def f_X1_placeFor_e (o0 : Nat) (x1 : Int32) (h : mh_H) : Option (Int32 × mh_H) :=
  mh_nm (0 : Int32) fun v5 =>
  f_X1_placeFor_b2 mh_fu o0 x1 v5 h
set_option maxRecDepth 100000 in
set_option maxHeartbeats 4000000 in
theorem w_X1_placeFor_b26 {p : Program} {l : Launch} {e : Env} {s : State} {m : MethodId} {args : Array Value} {below : List Frame} {meth : Method} {c : Code} {D : va_G} {ks : Nat → ClassId} {L : List Nat} {r : Int32} {h' : mh_H} (cx : mh_C p m c cX1_placeFor 3 s args RX1 meth D ks (mh_A L s.heap.size)) (hr : meth.sig.returnType = (some .int)) :
    ∀ (x2 : Int32) (h : mh_H) (H : Heap) (locs : List Loc) (ls : Array Slot), mh_W D ks L (mh_A L s.heap.size) s.heap h H locs → lv_has ls 3 [(2, .int x2)] → f_X1_placeFor_b26 x2 h = some (r, h') → W p l e (mh_rm 0) s m args below meth c H locs 0 0 (MQ below (mh_Qi D ks L s.heap.size r h') args s 0 0 (mh_A L s.heap.size)) (F0 m 26 ls []) := by
  intro x2 h H locs ls wd hl hX
  have hx := cx.1.1
  have hb := cx.1.2.1
  unfold f_X1_placeFor_b26 at hX
  refine lv_iload_n hx hb dX1_placeFor_26 rfl (lv_at hl 0 rfl) ?_
  exact mh_iret cx wd hr hX dX1_placeFor_27
set_option maxRecDepth 100000 in
set_option maxHeartbeats 4000000 in
theorem w_X1_placeFor_b2 {p : Program} {l : Launch} {e : Env} {s : State} {m : MethodId} {args : Array Value} {below : List Frame} {meth : Method} {c : Code} {D : va_G} {ks : Nat → ClassId} {L : List Nat} {r : Int32} {h' : mh_H} (cx : mh_C p m c cX1_placeFor 3 s args RX1 meth D ks (mh_A L s.heap.size)) (hr : meth.sig.returnType = (some .int)) :
    ∀ n : Nat, ∀ (o0 : Nat) (x1 : Int32) (x2 : Int32) (h : mh_H) (H : Heap) (locs : List Loc) (ls : Array Slot), mh_W D ks L (mh_A L s.heap.size) s.heap h H locs → lv_has ls 3 [(0, .ref o0), (1, .int x1), (2, .int x2)] → f_X1_placeFor_b2 n o0 x1 x2 h = some (r, h') → W p l e (mh_rm 0) s m args below meth c H locs 0 0 (MQ below (mh_Qi D ks L s.heap.size r h') args s 0 0 (mh_A L s.heap.size)) (F0 m 2 ls []) := by
  intro n
  induction n with
  | zero =>
    intro o0 x1 x2 h H locs ls wd hl hX
    cases hX
  | succ n ih =>
    intro o0 x1 x2 h H locs ls wd hl hX
    have hx := cx.1.1
    have hb := cx.1.2.1
    rw [f_X1_placeFor_b2] at hX
    refine lv_iload_n hx hb dX1_placeFor_2 rfl (lv_at hl 2 rfl) ?_
    refine lv_aload_n hx hb dX1_placeFor_3 rfl (lv_at hl 0 rfl) ?_
    refine mh_getI cx wd fl_X1_15 dX1_placeFor_4 hX (fun v1 hX => ?_)
    refine lv_icmp_ge (tgt := 26) hx hb dX1_placeFor_7 rfl (fun hc => (fun hX => ?_) ((mh_if hX).1 hc)) (fun hc => (fun hX => ?_) ((mh_if hX).2 hc))
    · exact w_X1_placeFor_b26 cx hr _ h _ _ ls wd (lv_sub hl [2] rfl) hX
    · refine lv_aload_n hx hb dX1_placeFor_10 rfl (lv_at hl 0 rfl) ?_
      refine mh_getR cx wd fl_X1_9 dX1_placeFor_11 hX (fun a2 hX => ?_)
      refine lv_iload_n hx hb dX1_placeFor_14 rfl (lv_at hl 2 rfl) ?_
      refine mh_iald cx wd dX1_placeFor_15 hX (fun v3 hX => ?_)
      refine lv_iload_n hx hb dX1_placeFor_16 rfl (lv_at hl 1 rfl) ?_
      refine lv_icmp_ge (tgt := 26) hx hb dX1_placeFor_17 rfl (fun hc => (fun hX => ?_) ((mh_if hX).1 hc)) (fun hc => (fun hX => ?_) ((mh_if hX).2 hc))
      · exact w_X1_placeFor_b26 cx hr _ h _ _ ls wd (lv_sub hl [2] rfl) hX
      · obtain ⟨v4, ev4, hX⟩ := mh_nmx hX
        refine lv_iinc (k := 2) (v := v4) (lv' := [(2, .int v4), (0, .ref o0), (1, .int x1)]) hx hb dX1_placeFor_20 hl rfl ev4 (Nat.le_of_ble_eq_true rfl) rfl (fun ls hl => ?_)
        refine lv_goto (tgt := 2) hx hb dX1_placeFor_23 rfl ?_
        exact ih _ _ _ h _ _ ls wd (lv_sub hl [1, 2, 0] rfl) hX
set_option maxRecDepth 100000 in
set_option maxHeartbeats 4000000 in
theorem w_X1_placeFor_e {p : Program} {l : Launch} {e : Env} {s : State} {m : MethodId} {args : Array Value} {below : List Frame} {meth : Method} {c : Code} {D : va_G} {ks : Nat → ClassId} {L : List Nat} {r : Int32} {h' : mh_H} (cx : mh_C p m c cX1_placeFor 3 s args RX1 meth D ks (mh_A L s.heap.size)) (hr : meth.sig.returnType = (some .int)) :
    ∀ (o0 : Nat) (x1 : Int32) (h : mh_H) (H : Heap) (locs : List Loc) (ls : Array Slot), mh_W D ks L (mh_A L s.heap.size) s.heap h H locs → lv_has ls 3 [(0, .ref o0), (1, .int x1)] → f_X1_placeFor_e o0 x1 h = some (r, h') → W p l e (mh_rm 0) s m args below meth c H locs 0 0 (MQ below (mh_Qi D ks L s.heap.size r h') args s 0 0 (mh_A L s.heap.size)) (F0 m 0 ls []) := by
  intro o0 x1 h H locs ls wd hl hX
  have hx := cx.1.1
  have hb := cx.1.2.1
  unfold f_X1_placeFor_e at hX
  refine lv_iconst (v := 0) hx hb dX1_placeFor_0 (by decide) ?_
  refine mh_topi hX (fun v5 hX => ?_)
  refine lv_istore_n (lv' := [(2, .int v5), (0, .ref o0), (1, .int x1)]) hx hb dX1_placeFor_1 rfl hl (Nat.le_of_ble_eq_true rfl) rfl (fun ls hl => ?_)
  exact w_X1_placeFor_b2 cx hr mh_fu _ _ _ h _ _ ls wd (lv_sub hl [1, 2, 0] rfl) hX
set_option maxRecDepth 100000 in
theorem c_X1_placeFor {l : Launch} {L : List Nat} {h h' : mh_H} {r : Int32} {o0 : Nat} {x1 : Int32} (hX : f_X1_placeFor_e o0 x1 h = some (r, h')) : mh_MI l yX1_placeFor (Cond.code yX1_placeFor cX1_placeFor 3 (some .int) :: mh_TB) (mh_rm 0) [.ref o0, .int x1] L h r h' :=
  mh_of (mc := 0) (ms := 0) (Qc := fun D ks sz => mh_Qi D ks L sz r h') (plainFor_of_name (by decide)) (Nat.le_of_ble_eq_true rfl) (fun p e s m below meth c D ks ls hr cx wd hl => by
    have hl : lv_has ls 3 [(0, .ref o0), (1, .int x1)] := hl
    exact w_X1_placeFor_e cx hr o0 x1 h _ _ ls wd hl hX)
def f_X1_holds_b29 (t0 : Int32) (h : mh_H) : Option (Int32 × mh_H) :=
  mh_rz t0 h
def f_X1_holds_b28 (k29 : Int32 → mh_H → Option (Int32 × mh_H)) (h : mh_H) : Option (Int32 × mh_H) :=
  k29 (0 : Int32) h
def f_X1_holds_e (o0 : Nat) (x1 : Int32) (h : mh_H) : Option (Int32 × mh_H) :=
  mh_b2 (mh_cal h o0 1 (f_X1_placeFor_e o0 x1 h)) fun v2 h1 =>
  (mh_gI h1 o0 1 1).bind fun v3 =>
  if v3 ≤ v2 then (
  f_X1_holds_b28 (f_X1_holds_b29) h1) else
  (mh_gR h1 o0 1 0).bind fun a4 =>
  (mh_aI h1 a4 0 v2).bind fun v5 =>
  if v5 = x1 then (
  f_X1_holds_b29 (1 : Int32) h1) else
  f_X1_holds_b28 (f_X1_holds_b29) h1
set_option maxRecDepth 100000 in
set_option maxHeartbeats 4000000 in
theorem w_X1_holds_b29 {p : Program} {l : Launch} {e : Env} {s : State} {m : MethodId} {args : Array Value} {below : List Frame} {meth : Method} {c : Code} {D : va_G} {ks : Nat → ClassId} {L : List Nat} {r : Int32} {h' : mh_H} (cx : mh_C p m c cX1_holds 3 s args RX1 meth D ks (mh_A L s.heap.size)) (hr : meth.sig.returnType = (some .boolean)) :
    ∀ (t0 : Int32) (h : mh_H) (H : Heap) (locs : List Loc) (ls : Array Slot), mh_W D ks L (mh_A L s.heap.size) s.heap h H locs → lv_has ls 3 [] → f_X1_holds_b29 t0 h = some (r, h') → W p l e (mh_rm 1) s m args below meth c H locs 0 0 (MQ below (mh_Qi D ks L s.heap.size r h') args s 0 0 (mh_A L s.heap.size)) (F0 m 29 ls [.int t0]) := by
  intro t0 h H locs ls wd hl hX
  have hx := cx.1.1
  have hb := cx.1.2.1
  unfold f_X1_holds_b29 at hX
  exact mh_zret cx wd hr hX dX1_holds_29
set_option maxRecDepth 100000 in
set_option maxHeartbeats 4000000 in
theorem w_X1_holds_b28 {p : Program} {l : Launch} {e : Env} {s : State} {m : MethodId} {args : Array Value} {below : List Frame} {meth : Method} {c : Code} {D : va_G} {ks : Nat → ClassId} {L : List Nat} {r : Int32} {h' : mh_H} (k29 : Int32 → mh_H → Option (Int32 × mh_H)) (cx : mh_C p m c cX1_holds 3 s args RX1 meth D ks (mh_A L s.heap.size)) (hr : meth.sig.returnType = (some .boolean))
    (hk29 : ∀ (t0 : Int32) (h : mh_H) (H : Heap) (locs : List Loc) (ls : Array Slot), mh_W D ks L (mh_A L s.heap.size) s.heap h H locs → lv_has ls 3 [] → k29 t0 h = some (r, h') → W p l e (mh_rm 1) s m args below meth c H locs 0 0 (MQ below (mh_Qi D ks L s.heap.size r h') args s 0 0 (mh_A L s.heap.size)) (F0 m 29 ls [.int t0])) :
    ∀ (h : mh_H) (H : Heap) (locs : List Loc) (ls : Array Slot), mh_W D ks L (mh_A L s.heap.size) s.heap h H locs → lv_has ls 3 [] → f_X1_holds_b28 k29  h = some (r, h') → W p l e (mh_rm 1) s m args below meth c H locs 0 0 (MQ below (mh_Qi D ks L s.heap.size r h') args s 0 0 (mh_A L s.heap.size)) (F0 m 28 ls []) := by
  intro  h H locs ls wd hl hX
  have hx := cx.1.1
  have hb := cx.1.2.1
  unfold f_X1_holds_b28 at hX
  refine lv_iconst (v := 0) hx hb dX1_holds_28 (by decide) ?_
  exact hk29 _ h _ _ ls wd (lv_sub hl [] rfl) hX
set_option maxRecDepth 100000 in
set_option maxHeartbeats 4000000 in
theorem w_X1_holds_e {p : Program} {l : Launch} {e : Env} {s : State} {m : MethodId} {args : Array Value} {below : List Frame} {meth : Method} {c : Code} {D : va_G} {ks : Nat → ClassId} {L : List Nat} {r : Int32} {h' : mh_H} (cx : mh_C p m c cX1_holds 3 s args RX1 meth D ks (mh_A L s.heap.size)) (hr : meth.sig.returnType = (some .boolean)) :
    ∀ (o0 : Nat) (x1 : Int32) (h : mh_H) (H : Heap) (locs : List Loc) (ls : Array Slot), mh_W D ks L (mh_A L s.heap.size) s.heap h H locs → lv_has ls 3 [(0, .ref o0), (1, .int x1)] → f_X1_holds_e o0 x1 h = some (r, h') → W p l e (mh_rm 1) s m args below meth c H locs 0 0 (MQ below (mh_Qi D ks L s.heap.size r h') args s 0 0 (mh_A L s.heap.size)) (F0 m 0 ls []) := by
  intro o0 x1 h H locs ls wd hl hX
  have hx := cx.1.1
  have hb := cx.1.2.1
  unfold f_X1_holds_e at hX
  refine lv_aload_n hx hb dX1_holds_0 rfl (lv_at hl 0 rfl) ?_
  refine lv_iload_n hx hb dX1_holds_1 rfl (lv_at hl 1 rfl) ?_
  refine mh_callVI cx wd [.int x1] (rfl : vwCl[1]? = some (RX1, TX1, 2)) yw_X1_placeFor vw_X1_23 rfl hl.1 rfl (Nat.le_of_ble_eq_true rfl) dX1_holds_2 ⟨Nat.le_of_ble_eq_true rfl, Nat.le_of_ble_eq_true rfl⟩ ⟨Nat.le_refl _, Nat.le_refl _⟩ (fun _ _ q => c_X1_placeFor q) hX (fun v2 h1 H locs wd hX => ?_)
  refine lv_istore_n (lv' := [(2, .int v2), (0, .ref o0), (1, .int x1)]) hx hb dX1_holds_5 rfl hl (Nat.le_of_ble_eq_true rfl) rfl (fun ls hl => ?_)
  refine lv_iload_n hx hb dX1_holds_6 rfl (lv_at hl 0 rfl) ?_
  refine lv_aload_n hx hb dX1_holds_7 rfl (lv_at hl 1 rfl) ?_
  refine mh_getI cx wd fl_X1_15 dX1_holds_8 hX (fun v3 hX => ?_)
  refine lv_icmp_ge (tgt := 28) hx hb dX1_holds_11 rfl (fun hc => (fun hX => ?_) ((mh_if hX).1 hc)) (fun hc => (fun hX => ?_) ((mh_if hX).2 hc))
  · exact w_X1_holds_b28 (f_X1_holds_b29) cx hr (w_X1_holds_b29 cx hr)  h1 _ _ ls wd (lv_sub hl [] rfl) hX
  · refine lv_aload_n hx hb dX1_holds_14 rfl (lv_at hl 1 rfl) ?_
    refine mh_getR cx wd fl_X1_9 dX1_holds_15 hX (fun a4 hX => ?_)
    refine lv_iload_n hx hb dX1_holds_18 rfl (lv_at hl 0 rfl) ?_
    refine mh_iald cx wd dX1_holds_19 hX (fun v5 hX => ?_)
    refine lv_iload_n hx hb dX1_holds_20 rfl (lv_at hl 2 rfl) ?_
    refine lv_icmp_ne (tgt := 28) hx hb dX1_holds_21 rfl (fun hc => (fun hX => ?_) ((mh_if hX).2 hc)) (fun hc => (fun hX => ?_) ((mh_if hX).1 hc))
    · exact w_X1_holds_b28 (f_X1_holds_b29) cx hr (w_X1_holds_b29 cx hr)  h1 _ _ ls wd (lv_sub hl [] rfl) hX
    · refine lv_iconst (v := 1) hx hb dX1_holds_24 (by decide) ?_
      refine lv_goto (tgt := 29) hx hb dX1_holds_25 rfl ?_
      exact w_X1_holds_b29 cx hr _ h1 _ _ ls wd (lv_sub hl [] rfl) hX
set_option maxRecDepth 100000 in
theorem c_X1_holds {l : Launch} {L : List Nat} {h h' : mh_H} {r : Int32} {o0 : Nat} {x1 : Int32} (hX : f_X1_holds_e o0 x1 h = some (r, h')) : mh_MI l yX1_holds (Cond.code yX1_holds cX1_holds 3 (some .boolean) :: mh_TB) (mh_rm 1) [.ref o0, .int x1] L h r h' :=
  mh_of (mc := 0) (ms := 0) (Qc := fun D ks sz => mh_Qi D ks L sz r h') (plainFor_of_name (by decide)) (Nat.le_of_ble_eq_true rfl) (fun p e s m below meth c D ks ls hr cx wd hl => by
    have hl : lv_has ls 3 [(0, .ref o0), (1, .int x1)] := hl
    exact w_X1_holds_e cx hr o0 x1 h _ _ ls wd hl hX)
def f_X1_insert_b15 (h : mh_H) : Option (Int32 × mh_H) :=
  mh_rz (0 : Int32) h
def f_X1_insert_b53 (o0 : Nat) (x1 : Int32) (x2 : Int32) (h : mh_H) : Option (Int32 × mh_H) :=
  (mh_gR h o0 1 0).bind fun a1 =>
  (mh_sI h a1 x2 x1).bind fun h2 =>
  (mh_gI h2 o0 1 1).bind fun v3 =>
  (mh_pI h2 o0 1 1 (v3 + (1 : Int32))).bind fun h4 =>
  mh_rz (1 : Int32) h4
def f_X1_insert_b28 : Nat → Nat → Int32 → Int32 → Int32 → mh_H → Option (Int32 × mh_H)
  | 0, _, _, _, _, _ => none
  | n + 1, o0, x1, x2, x3, h =>
    if x3 ≤ x2 then (
    f_X1_insert_b53 o0 x1 x2 h) else
    (mh_gR h o0 1 0).bind fun a5 =>
    (mh_gR h o0 1 0).bind fun a6 =>
    (mh_aI h a6 0 (x3 - (1 : Int32))).bind fun v7 =>
    (mh_sI h a5 x3 v7).bind fun h8 =>
    mh_nm (x3 + Int32.ofInt (-1)) fun v9 =>
    f_X1_insert_b28 n o0 x1 x2 v9 h8
def f_X1_insert_e (o0 : Nat) (x1 : Int32) (h : mh_H) : Option (Int32 × mh_H) :=
  mh_b2 (mh_cal h o0 1 (f_X1_isFull_e o0 h)) fun v11 h10 =>
  if v11 = 0 then (
  mh_b2 (mh_cal h10 o0 1 (f_X1_holds_e o0 x1 h10)) fun v13 h12 =>
  if v13 = 0 then (
  mh_b2 (mh_cal h12 o0 1 (f_X1_placeFor_e o0 x1 h12)) fun v15 h14 =>
  (mh_gI h14 o0 1 1).bind fun v16 =>
  f_X1_insert_b28 mh_fu o0 x1 v15 v16 h14) else
  f_X1_insert_b15 h12) else
  f_X1_insert_b15 h10
set_option maxRecDepth 100000 in
set_option maxHeartbeats 4000000 in
theorem w_X1_insert_b15 {p : Program} {l : Launch} {e : Env} {s : State} {m : MethodId} {args : Array Value} {below : List Frame} {meth : Method} {c : Code} {D : va_G} {ks : Nat → ClassId} {L : List Nat} {r : Int32} {h' : mh_H} (cx : mh_C p m c cX1_insert 4 s args RX1 meth D ks (mh_A L s.heap.size)) (hr : meth.sig.returnType = (some .boolean)) :
    ∀ (h : mh_H) (H : Heap) (locs : List Loc) (ls : Array Slot), mh_W D ks L (mh_A L s.heap.size) s.heap h H locs → lv_has ls 4 [] → f_X1_insert_b15  h = some (r, h') → W p l e (mh_rm 2) s m args below meth c H locs 0 0 (MQ below (mh_Qi D ks L s.heap.size r h') args s 0 0 (mh_A L s.heap.size)) (F0 m 15 ls []) := by
  intro  h H locs ls wd hl hX
  have hx := cx.1.1
  have hb := cx.1.2.1
  unfold f_X1_insert_b15 at hX
  refine lv_iconst (v := 0) hx hb dX1_insert_15 (by decide) ?_
  exact mh_zret cx wd hr hX dX1_insert_16
set_option maxRecDepth 100000 in
set_option maxHeartbeats 4000000 in
theorem w_X1_insert_b53 {p : Program} {l : Launch} {e : Env} {s : State} {m : MethodId} {args : Array Value} {below : List Frame} {meth : Method} {c : Code} {D : va_G} {ks : Nat → ClassId} {L : List Nat} {r : Int32} {h' : mh_H} (cx : mh_C p m c cX1_insert 4 s args RX1 meth D ks (mh_A L s.heap.size)) (hr : meth.sig.returnType = (some .boolean)) :
    ∀ (o0 : Nat) (x1 : Int32) (x2 : Int32) (h : mh_H) (H : Heap) (locs : List Loc) (ls : Array Slot), mh_W D ks L (mh_A L s.heap.size) s.heap h H locs → lv_has ls 4 [(0, .ref o0), (1, .int x1), (2, .int x2)] → f_X1_insert_b53 o0 x1 x2 h = some (r, h') → W p l e (mh_rm 2) s m args below meth c H locs 0 0 (MQ below (mh_Qi D ks L s.heap.size r h') args s 0 0 (mh_A L s.heap.size)) (F0 m 53 ls []) := by
  intro o0 x1 x2 h H locs ls wd hl hX
  have hx := cx.1.1
  have hb := cx.1.2.1
  unfold f_X1_insert_b53 at hX
  refine lv_aload_n hx hb dX1_insert_53 rfl (lv_at hl 0 rfl) ?_
  refine mh_getR cx wd fl_X1_9 dX1_insert_54 hX (fun a1 hX => ?_)
  refine lv_iload_n hx hb dX1_insert_57 rfl (lv_at hl 2 rfl) ?_
  refine lv_iload_n hx hb dX1_insert_58 rfl (lv_at hl 1 rfl) ?_
  refine mh_iast cx wd dX1_insert_59 hX (fun h2 H locs wd hX => ?_)
  refine lv_aload_n hx hb dX1_insert_60 rfl (lv_at hl 0 rfl) ?_
  refine lv_dup hx hb dX1_insert_61 rfl ?_
  refine mh_getI cx wd fl_X1_15 dX1_insert_62 hX (fun v3 hX => ?_)
  refine lv_iconst (v := 1) hx hb dX1_insert_65 (by decide) ?_
  refine lv_iadd hx hb dX1_insert_66 ?_
  refine mh_putI cx wd fp_X1_15 dX1_insert_67 hX (fun h4 H locs wd hX => ?_)
  refine lv_iconst (v := 1) hx hb dX1_insert_70 (by decide) ?_
  exact mh_zret cx wd hr hX dX1_insert_71
set_option maxRecDepth 100000 in
set_option maxHeartbeats 4000000 in
theorem w_X1_insert_b28 {p : Program} {l : Launch} {e : Env} {s : State} {m : MethodId} {args : Array Value} {below : List Frame} {meth : Method} {c : Code} {D : va_G} {ks : Nat → ClassId} {L : List Nat} {r : Int32} {h' : mh_H} (cx : mh_C p m c cX1_insert 4 s args RX1 meth D ks (mh_A L s.heap.size)) (hr : meth.sig.returnType = (some .boolean)) :
    ∀ n : Nat, ∀ (o0 : Nat) (x1 : Int32) (x2 : Int32) (x3 : Int32) (h : mh_H) (H : Heap) (locs : List Loc) (ls : Array Slot), mh_W D ks L (mh_A L s.heap.size) s.heap h H locs → lv_has ls 4 [(0, .ref o0), (1, .int x1), (2, .int x2), (3, .int x3)] → f_X1_insert_b28 n o0 x1 x2 x3 h = some (r, h') → W p l e (mh_rm 2) s m args below meth c H locs 0 0 (MQ below (mh_Qi D ks L s.heap.size r h') args s 0 0 (mh_A L s.heap.size)) (F0 m 28 ls []) := by
  intro n
  induction n with
  | zero =>
    intro o0 x1 x2 x3 h H locs ls wd hl hX
    cases hX
  | succ n ih =>
    intro o0 x1 x2 x3 h H locs ls wd hl hX
    have hx := cx.1.1
    have hb := cx.1.2.1
    rw [f_X1_insert_b28] at hX
    refine lv_iload_n hx hb dX1_insert_28 rfl (lv_at hl 3 rfl) ?_
    refine lv_iload_n hx hb dX1_insert_29 rfl (lv_at hl 2 rfl) ?_
    refine lv_icmp_le (tgt := 53) hx hb dX1_insert_30 rfl (fun hc => (fun hX => ?_) ((mh_if hX).1 hc)) (fun hc => (fun hX => ?_) ((mh_if hX).2 hc))
    · exact w_X1_insert_b53 cx hr _ _ _ h _ _ ls wd (lv_sub hl [0, 1, 2] rfl) hX
    · refine lv_aload_n hx hb dX1_insert_33 rfl (lv_at hl 0 rfl) ?_
      refine mh_getR cx wd fl_X1_9 dX1_insert_34 hX (fun a5 hX => ?_)
      refine lv_iload_n hx hb dX1_insert_37 rfl (lv_at hl 3 rfl) ?_
      refine lv_aload_n hx hb dX1_insert_38 rfl (lv_at hl 0 rfl) ?_
      refine mh_getR cx wd fl_X1_9 dX1_insert_39 hX (fun a6 hX => ?_)
      refine lv_iload_n hx hb dX1_insert_42 rfl (lv_at hl 3 rfl) ?_
      refine lv_iconst (v := 1) hx hb dX1_insert_43 (by decide) ?_
      refine lv_isub hx hb dX1_insert_44 ?_
      refine mh_iald cx wd dX1_insert_45 hX (fun v7 hX => ?_)
      refine mh_iast cx wd dX1_insert_46 hX (fun h8 H locs wd hX => ?_)
      obtain ⟨v9, ev9, hX⟩ := mh_nmx hX
      refine lv_iinc (k := 3) (v := v9) (lv' := [(3, .int v9), (0, .ref o0), (1, .int x1), (2, .int x2)]) hx hb dX1_insert_47 hl rfl ev9 (Nat.le_of_ble_eq_true rfl) rfl (fun ls hl => ?_)
      refine lv_goto (tgt := 28) hx hb dX1_insert_50 rfl ?_
      exact ih _ _ _ _ h8 _ _ ls wd (lv_sub hl [1, 2, 3, 0] rfl) hX
set_option maxRecDepth 100000 in
set_option maxHeartbeats 4000000 in
theorem w_X1_insert_e {p : Program} {l : Launch} {e : Env} {s : State} {m : MethodId} {args : Array Value} {below : List Frame} {meth : Method} {c : Code} {D : va_G} {ks : Nat → ClassId} {L : List Nat} {r : Int32} {h' : mh_H} (cx : mh_C p m c cX1_insert 4 s args RX1 meth D ks (mh_A L s.heap.size)) (hr : meth.sig.returnType = (some .boolean)) :
    ∀ (o0 : Nat) (x1 : Int32) (h : mh_H) (H : Heap) (locs : List Loc) (ls : Array Slot), mh_W D ks L (mh_A L s.heap.size) s.heap h H locs → lv_has ls 4 [(0, .ref o0), (1, .int x1)] → f_X1_insert_e o0 x1 h = some (r, h') → W p l e (mh_rm 2) s m args below meth c H locs 0 0 (MQ below (mh_Qi D ks L s.heap.size r h') args s 0 0 (mh_A L s.heap.size)) (F0 m 0 ls []) := by
  intro o0 x1 h H locs ls wd hl hX
  have hx := cx.1.1
  have hb := cx.1.2.1
  unfold f_X1_insert_e at hX
  refine lv_aload_n hx hb dX1_insert_0 rfl (lv_at hl 0 rfl) ?_
  refine mh_callVI cx wd [] (rfl : vwCl[1]? = some (RX1, TX1, 2)) yw_X1_isFull vw_X1_26 rfl hl.1 rfl (Nat.le_of_ble_eq_true rfl) dX1_insert_1 ⟨Nat.le_of_ble_eq_true rfl, Nat.le_of_ble_eq_true rfl⟩ ⟨Nat.le_refl _, Nat.le_refl _⟩ (fun _ _ q => c_X1_isFull q) hX (fun v11 h10 H locs wd hX => ?_)
  refine lv_if_ne (tgt := 15) hx hb dX1_insert_4 rfl (fun hc => (fun hX => ?_) ((mh_if hX).2 hc)) (fun hc => (fun hX => ?_) ((mh_if hX).1 hc))
  · exact w_X1_insert_b15 cx hr  h10 _ _ ls wd (lv_sub hl [] rfl) hX
  · refine lv_aload_n hx hb dX1_insert_7 rfl (lv_at hl 0 rfl) ?_
    refine lv_iload_n hx hb dX1_insert_8 rfl (lv_at hl 1 rfl) ?_
    refine mh_callVI cx wd [.int x1] (rfl : vwCl[1]? = some (RX1, TX1, 2)) yw_X1_holds vw_X1_30 rfl hl.1 rfl (Nat.le_of_ble_eq_true rfl) dX1_insert_9 ⟨Nat.le_of_ble_eq_true rfl, Nat.le_of_ble_eq_true rfl⟩ ⟨Nat.le_refl _, Nat.le_refl _⟩ (fun _ _ q => c_X1_holds q) hX (fun v13 h12 H locs wd hX => ?_)
    refine lv_if_eq (tgt := 17) hx hb dX1_insert_12 rfl (fun hc => (fun hX => ?_) ((mh_if hX).1 hc)) (fun hc => (fun hX => ?_) ((mh_if hX).2 hc))
    · refine lv_aload_n hx hb dX1_insert_17 rfl (lv_at hl 0 rfl) ?_
      refine lv_iload_n hx hb dX1_insert_18 rfl (lv_at hl 1 rfl) ?_
      refine mh_callVI cx wd [.int x1] (rfl : vwCl[1]? = some (RX1, TX1, 2)) yw_X1_placeFor vw_X1_23 rfl hl.1 rfl (Nat.le_of_ble_eq_true rfl) dX1_insert_19 ⟨Nat.le_of_ble_eq_true rfl, Nat.le_of_ble_eq_true rfl⟩ ⟨Nat.le_refl _, Nat.le_refl _⟩ (fun _ _ q => c_X1_placeFor q) hX (fun v15 h14 H locs wd hX => ?_)
      refine lv_istore_n (lv' := [(2, .int v15), (0, .ref o0), (1, .int x1)]) hx hb dX1_insert_22 rfl hl (Nat.le_of_ble_eq_true rfl) rfl (fun ls hl => ?_)
      refine lv_aload_n hx hb dX1_insert_23 rfl (lv_at hl 1 rfl) ?_
      refine mh_getI cx wd fl_X1_15 dX1_insert_24 hX (fun v16 hX => ?_)
      refine lv_istore_n (lv' := [(3, .int v16), (2, .int v15), (0, .ref o0), (1, .int x1)]) hx hb dX1_insert_27 rfl hl (Nat.le_of_ble_eq_true rfl) rfl (fun ls hl => ?_)
      exact w_X1_insert_b28 cx hr mh_fu _ _ _ _ h14 _ _ ls wd (lv_sub hl [2, 3, 1, 0] rfl) hX
    · exact w_X1_insert_b15 cx hr  h12 _ _ ls wd (lv_sub hl [] rfl) hX
set_option maxRecDepth 100000 in
theorem c_X1_insert {l : Launch} {L : List Nat} {h h' : mh_H} {r : Int32} {o0 : Nat} {x1 : Int32} (hX : f_X1_insert_e o0 x1 h = some (r, h')) : mh_MI l yX1_insert (Cond.code yX1_insert cX1_insert 4 (some .boolean) :: mh_TB) (mh_rm 2) [.ref o0, .int x1] L h r h' :=
  mh_of (mc := 0) (ms := 0) (Qc := fun D ks sz => mh_Qi D ks L sz r h') (plainFor_of_name (by decide)) (Nat.le_of_ble_eq_true rfl) (fun p e s m below meth c D ks ls hr cx wd hl => by
    have hl : lv_has ls 4 [(0, .ref o0), (1, .int x1)] := hl
    exact w_X1_insert_e cx hr o0 x1 h _ _ ls wd hl hX)
def f_X1_remove_b45 (o0 : Nat) (h : mh_H) : Option mh_H :=
  (mh_gI h o0 1 1).bind fun v1 =>
  (mh_pI h o0 1 1 (v1 - (1 : Int32))).bind fun h2 =>
  some h2
def f_X1_remove_b15 : Nat → Nat → Int32 → mh_H → Option mh_H
  | 0, _, _, _ => none
  | n + 1, o0, x2, h =>
    (mh_gI h o0 1 1).bind fun v3 =>
    if (v3 - (1 : Int32)) ≤ x2 then (
    f_X1_remove_b45 o0 h) else
    (mh_gR h o0 1 0).bind fun a4 =>
    (mh_gR h o0 1 0).bind fun a5 =>
    (mh_aI h a5 0 (x2 + (1 : Int32))).bind fun v6 =>
    (mh_sI h a4 x2 v6).bind fun h7 =>
    mh_nm (x2 + Int32.ofInt (1)) fun v8 =>
    f_X1_remove_b15 n o0 v8 h7
def f_X1_remove_e (o0 : Nat) (x1 : Int32) (h : mh_H) : Option mh_H :=
  mh_b2 (mh_cal h o0 1 (f_X1_holds_e o0 x1 h)) fun v10 h9 =>
  if v10 = 0 then (
  some h9) else
  mh_b2 (mh_cal h9 o0 1 (f_X1_placeFor_e o0 x1 h9)) fun v12 h11 =>
  f_X1_remove_b15 mh_fu o0 v12 h11
set_option maxRecDepth 100000 in
set_option maxHeartbeats 4000000 in
theorem w_X1_remove_b45 {p : Program} {l : Launch} {e : Env} {s : State} {m : MethodId} {args : Array Value} {below : List Frame} {meth : Method} {c : Code} {D : va_G} {ks : Nat → ClassId} {L : List Nat} {h' : mh_H} (cx : mh_C p m c cX1_remove 3 s args RX1 meth D ks (mh_A L s.heap.size)) (hr : meth.sig.returnType = none) :
    ∀ (o0 : Nat) (h : mh_H) (H : Heap) (locs : List Loc) (ls : Array Slot), mh_W D ks L (mh_A L s.heap.size) s.heap h H locs → lv_has ls 3 [(0, .ref o0)] → f_X1_remove_b45 o0 h = some h' → W p l e (mh_rm 2) s m args below meth c H locs 0 0 (MQ below (mh_Qv D ks L s.heap.size h') args s 0 0 (mh_A L s.heap.size)) (F0 m 45 ls []) := by
  intro o0 h H locs ls wd hl hX
  have hx := cx.1.1
  have hb := cx.1.2.1
  unfold f_X1_remove_b45 at hX
  refine lv_aload_n hx hb dX1_remove_45 rfl (lv_at hl 0 rfl) ?_
  refine lv_dup hx hb dX1_remove_46 rfl ?_
  refine mh_getI cx wd fl_X1_15 dX1_remove_47 hX (fun v1 hX => ?_)
  refine lv_iconst (v := 1) hx hb dX1_remove_50 (by decide) ?_
  refine lv_isub hx hb dX1_remove_51 ?_
  refine mh_putI cx wd fp_X1_15 dX1_remove_52 hX (fun h2 H locs wd hX => ?_)
  exact mh_vret cx wd hr hX dX1_remove_55
set_option maxRecDepth 100000 in
set_option maxHeartbeats 4000000 in
theorem w_X1_remove_b15 {p : Program} {l : Launch} {e : Env} {s : State} {m : MethodId} {args : Array Value} {below : List Frame} {meth : Method} {c : Code} {D : va_G} {ks : Nat → ClassId} {L : List Nat} {h' : mh_H} (cx : mh_C p m c cX1_remove 3 s args RX1 meth D ks (mh_A L s.heap.size)) (hr : meth.sig.returnType = none) :
    ∀ n : Nat, ∀ (o0 : Nat) (x2 : Int32) (h : mh_H) (H : Heap) (locs : List Loc) (ls : Array Slot), mh_W D ks L (mh_A L s.heap.size) s.heap h H locs → lv_has ls 3 [(0, .ref o0), (2, .int x2)] → f_X1_remove_b15 n o0 x2 h = some h' → W p l e (mh_rm 2) s m args below meth c H locs 0 0 (MQ below (mh_Qv D ks L s.heap.size h') args s 0 0 (mh_A L s.heap.size)) (F0 m 15 ls []) := by
  intro n
  induction n with
  | zero =>
    intro o0 x2 h H locs ls wd hl hX
    cases hX
  | succ n ih =>
    intro o0 x2 h H locs ls wd hl hX
    have hx := cx.1.1
    have hb := cx.1.2.1
    rw [f_X1_remove_b15] at hX
    refine lv_iload_n hx hb dX1_remove_15 rfl (lv_at hl 1 rfl) ?_
    refine lv_aload_n hx hb dX1_remove_16 rfl (lv_at hl 0 rfl) ?_
    refine mh_getI cx wd fl_X1_15 dX1_remove_17 hX (fun v3 hX => ?_)
    refine lv_iconst (v := 1) hx hb dX1_remove_20 (by decide) ?_
    refine lv_isub hx hb dX1_remove_21 ?_
    refine lv_icmp_ge (tgt := 45) hx hb dX1_remove_22 rfl (fun hc => (fun hX => ?_) ((mh_if hX).1 hc)) (fun hc => (fun hX => ?_) ((mh_if hX).2 hc))
    · exact w_X1_remove_b45 cx hr _ h _ _ ls wd (lv_sub hl [0] rfl) hX
    · refine lv_aload_n hx hb dX1_remove_25 rfl (lv_at hl 0 rfl) ?_
      refine mh_getR cx wd fl_X1_9 dX1_remove_26 hX (fun a4 hX => ?_)
      refine lv_iload_n hx hb dX1_remove_29 rfl (lv_at hl 1 rfl) ?_
      refine lv_aload_n hx hb dX1_remove_30 rfl (lv_at hl 0 rfl) ?_
      refine mh_getR cx wd fl_X1_9 dX1_remove_31 hX (fun a5 hX => ?_)
      refine lv_iload_n hx hb dX1_remove_34 rfl (lv_at hl 1 rfl) ?_
      refine lv_iconst (v := 1) hx hb dX1_remove_35 (by decide) ?_
      refine lv_iadd hx hb dX1_remove_36 ?_
      refine mh_iald cx wd dX1_remove_37 hX (fun v6 hX => ?_)
      refine mh_iast cx wd dX1_remove_38 hX (fun h7 H locs wd hX => ?_)
      obtain ⟨v8, ev8, hX⟩ := mh_nmx hX
      refine lv_iinc (k := 1) (v := v8) (lv' := [(2, .int v8), (0, .ref o0)]) hx hb dX1_remove_39 hl rfl ev8 (Nat.le_of_ble_eq_true rfl) rfl (fun ls hl => ?_)
      refine lv_goto (tgt := 15) hx hb dX1_remove_42 rfl ?_
      exact ih _ _ h7 _ _ ls wd (lv_sub hl [1, 0] rfl) hX
set_option maxRecDepth 100000 in
set_option maxHeartbeats 4000000 in
theorem w_X1_remove_e {p : Program} {l : Launch} {e : Env} {s : State} {m : MethodId} {args : Array Value} {below : List Frame} {meth : Method} {c : Code} {D : va_G} {ks : Nat → ClassId} {L : List Nat} {h' : mh_H} (cx : mh_C p m c cX1_remove 3 s args RX1 meth D ks (mh_A L s.heap.size)) (hr : meth.sig.returnType = none) :
    ∀ (o0 : Nat) (x1 : Int32) (h : mh_H) (H : Heap) (locs : List Loc) (ls : Array Slot), mh_W D ks L (mh_A L s.heap.size) s.heap h H locs → lv_has ls 3 [(0, .ref o0), (1, .int x1)] → f_X1_remove_e o0 x1 h = some h' → W p l e (mh_rm 2) s m args below meth c H locs 0 0 (MQ below (mh_Qv D ks L s.heap.size h') args s 0 0 (mh_A L s.heap.size)) (F0 m 0 ls []) := by
  intro o0 x1 h H locs ls wd hl hX
  have hx := cx.1.1
  have hb := cx.1.2.1
  unfold f_X1_remove_e at hX
  refine lv_aload_n hx hb dX1_remove_0 rfl (lv_at hl 0 rfl) ?_
  refine lv_iload_n hx hb dX1_remove_1 rfl (lv_at hl 1 rfl) ?_
  refine mh_callVI cx wd [.int x1] (rfl : vwCl[1]? = some (RX1, TX1, 2)) yw_X1_holds vw_X1_30 rfl hl.1 rfl (Nat.le_of_ble_eq_true rfl) dX1_remove_2 ⟨Nat.le_of_ble_eq_true rfl, Nat.le_of_ble_eq_true rfl⟩ ⟨Nat.le_refl _, Nat.le_refl _⟩ (fun _ _ q => c_X1_holds q) hX (fun v10 h9 H locs wd hX => ?_)
  refine lv_if_ne (tgt := 9) hx hb dX1_remove_5 rfl (fun hc => (fun hX => ?_) ((mh_if hX).2 hc)) (fun hc => (fun hX => ?_) ((mh_if hX).1 hc))
  · refine lv_aload_n hx hb dX1_remove_9 rfl (lv_at hl 0 rfl) ?_
    refine lv_iload_n hx hb dX1_remove_10 rfl (lv_at hl 1 rfl) ?_
    refine mh_callVI cx wd [.int x1] (rfl : vwCl[1]? = some (RX1, TX1, 2)) yw_X1_placeFor vw_X1_23 rfl hl.1 rfl (Nat.le_of_ble_eq_true rfl) dX1_remove_11 ⟨Nat.le_of_ble_eq_true rfl, Nat.le_of_ble_eq_true rfl⟩ ⟨Nat.le_refl _, Nat.le_refl _⟩ (fun _ _ q => c_X1_placeFor q) hX (fun v12 h11 H locs wd hX => ?_)
    refine lv_istore_n (lv' := [(2, .int v12), (0, .ref o0), (1, .int x1)]) hx hb dX1_remove_14 rfl hl (Nat.le_of_ble_eq_true rfl) rfl (fun ls hl => ?_)
    exact w_X1_remove_b15 cx hr mh_fu _ _ h11 _ _ ls wd (lv_sub hl [1, 0] rfl) hX
  · exact mh_vret cx wd hr hX dX1_remove_8
set_option maxRecDepth 100000 in
theorem c_X1_remove {l : Launch} {L : List Nat} {h h' : mh_H} {o0 : Nat} {x1 : Int32} (hX : f_X1_remove_e o0 x1 h = some h') : mh_MV l yX1_remove (Cond.code yX1_remove cX1_remove 3 none :: mh_TB) (mh_rm 2) [.ref o0, .int x1] L h h' :=
  mh_of (mc := 0) (ms := 0) (Qc := fun D ks sz => mh_Qv D ks L sz h') (plainFor_of_name (by decide)) (Nat.le_of_ble_eq_true rfl) (fun p e s m below meth c D ks ls hr cx wd hl => by
    have hl : lv_has ls 3 [(0, .ref o0), (1, .int x1)] := hl
    exact w_X1_remove_e cx hr o0 x1 h _ _ ls wd hl hX)
def f_X1_clear_e (o0 : Nat) (h : mh_H) : Option mh_H :=
  (mh_pI h o0 1 1 (0 : Int32)).bind fun h1 =>
  some h1
set_option maxRecDepth 100000 in
set_option maxHeartbeats 4000000 in
theorem w_X1_clear_e {p : Program} {l : Launch} {e : Env} {s : State} {m : MethodId} {args : Array Value} {below : List Frame} {meth : Method} {c : Code} {D : va_G} {ks : Nat → ClassId} {L : List Nat} {h' : mh_H} (cx : mh_C p m c cX1_clear 1 s args RX1 meth D ks (mh_A L s.heap.size)) (hr : meth.sig.returnType = none) :
    ∀ (o0 : Nat) (h : mh_H) (H : Heap) (locs : List Loc) (ls : Array Slot), mh_W D ks L (mh_A L s.heap.size) s.heap h H locs → lv_has ls 1 [(0, .ref o0)] → f_X1_clear_e o0 h = some h' → W p l e (mh_rm 0) s m args below meth c H locs 0 0 (MQ below (mh_Qv D ks L s.heap.size h') args s 0 0 (mh_A L s.heap.size)) (F0 m 0 ls []) := by
  intro o0 h H locs ls wd hl hX
  have hx := cx.1.1
  have hb := cx.1.2.1
  unfold f_X1_clear_e at hX
  refine lv_aload_n hx hb dX1_clear_0 rfl (lv_at hl 0 rfl) ?_
  refine lv_iconst (v := 0) hx hb dX1_clear_1 (by decide) ?_
  refine mh_putI cx wd fp_X1_15 dX1_clear_2 hX (fun h1 H locs wd hX => ?_)
  exact mh_vret cx wd hr hX dX1_clear_5
set_option maxRecDepth 100000 in
theorem c_X1_clear {l : Launch} {L : List Nat} {h h' : mh_H} {o0 : Nat} (hX : f_X1_clear_e o0 h = some h') : mh_MV l yX1_clear (Cond.code yX1_clear cX1_clear 1 none :: mh_TB) (mh_rm 0) [.ref o0] L h h' :=
  mh_of (mc := 0) (ms := 0) (Qc := fun D ks sz => mh_Qv D ks L sz h') (plainFor_of_name (by decide)) (Nat.le_of_ble_eq_true rfl) (fun p e s m below meth c D ks ls hr cx wd hl => by
    have hl : lv_has ls 1 [(0, .ref o0)] := hl
    exact w_X1_clear_e cx hr o0 h _ _ ls wd hl hX)
def f_X1_copy_b35 (h : mh_H) : Option mh_H :=
  some h
def f_X1_copy_b10 : Nat → Nat → Nat → Int32 → mh_H → Option mh_H
  | 0, _, _, _, _ => none
  | n + 1, o0, o1, x2, h =>
    (mh_gI h o0 1 1).bind fun v1 =>
    if v1 ≤ x2 then (
    f_X1_copy_b35 h) else
    (mh_gR h o0 1 0).bind fun a2 =>
    mh_b2 (mh_cal h o1 1 (f_X1_value_e o1 x2 h)) fun v4 h3 =>
    (mh_sI h3 a2 x2 v4).bind fun h5 =>
    mh_nm (x2 + Int32.ofInt (1)) fun v6 =>
    f_X1_copy_b10 n o0 o1 v6 h5
def f_X1_copy_e (o0 : Nat) (o1 : Nat) (h : mh_H) : Option mh_H :=
  mh_b2 (mh_cal h o1 1 (f_X1_count_e o1 h)) fun v8 h7 =>
  (mh_pI h7 o0 1 1 v8).bind fun h9 =>
  mh_nm (0 : Int32) fun v10 =>
  f_X1_copy_b10 mh_fu o0 o1 v10 h9
set_option maxRecDepth 100000 in
set_option maxHeartbeats 4000000 in
theorem w_X1_copy_b35 {p : Program} {l : Launch} {e : Env} {s : State} {m : MethodId} {args : Array Value} {below : List Frame} {meth : Method} {c : Code} {D : va_G} {ks : Nat → ClassId} {L : List Nat} {h' : mh_H} (cx : mh_C p m c cX1_copy 3 s args RX1 meth D ks (mh_A L s.heap.size)) (hr : meth.sig.returnType = none) :
    ∀ (h : mh_H) (H : Heap) (locs : List Loc) (ls : Array Slot), mh_W D ks L (mh_A L s.heap.size) s.heap h H locs → lv_has ls 3 [] → f_X1_copy_b35  h = some h' → W p l e (mh_rm 1) s m args below meth c H locs 0 0 (MQ below (mh_Qv D ks L s.heap.size h') args s 0 0 (mh_A L s.heap.size)) (F0 m 35 ls []) := by
  intro  h H locs ls wd hl hX
  have hx := cx.1.1
  have hb := cx.1.2.1
  unfold f_X1_copy_b35 at hX
  exact mh_vret cx wd hr hX dX1_copy_35
set_option maxRecDepth 100000 in
set_option maxHeartbeats 4000000 in
theorem w_X1_copy_b10 {p : Program} {l : Launch} {e : Env} {s : State} {m : MethodId} {args : Array Value} {below : List Frame} {meth : Method} {c : Code} {D : va_G} {ks : Nat → ClassId} {L : List Nat} {h' : mh_H} (cx : mh_C p m c cX1_copy 3 s args RX1 meth D ks (mh_A L s.heap.size)) (hr : meth.sig.returnType = none) :
    ∀ n : Nat, ∀ (o0 : Nat) (o1 : Nat) (x2 : Int32) (h : mh_H) (H : Heap) (locs : List Loc) (ls : Array Slot), mh_W D ks L (mh_A L s.heap.size) s.heap h H locs → lv_has ls 3 [(0, .ref o0), (1, .ref o1), (2, .int x2)] → f_X1_copy_b10 n o0 o1 x2 h = some h' → W p l e (mh_rm 1) s m args below meth c H locs 0 0 (MQ below (mh_Qv D ks L s.heap.size h') args s 0 0 (mh_A L s.heap.size)) (F0 m 10 ls []) := by
  intro n
  induction n with
  | zero =>
    intro o0 o1 x2 h H locs ls wd hl hX
    cases hX
  | succ n ih =>
    intro o0 o1 x2 h H locs ls wd hl hX
    have hx := cx.1.1
    have hb := cx.1.2.1
    rw [f_X1_copy_b10] at hX
    refine lv_iload_n hx hb dX1_copy_10 rfl (lv_at hl 2 rfl) ?_
    refine lv_aload_n hx hb dX1_copy_11 rfl (lv_at hl 0 rfl) ?_
    refine mh_getI cx wd fl_X1_15 dX1_copy_12 hX (fun v1 hX => ?_)
    refine lv_icmp_ge (tgt := 35) hx hb dX1_copy_15 rfl (fun hc => (fun hX => ?_) ((mh_if hX).1 hc)) (fun hc => (fun hX => ?_) ((mh_if hX).2 hc))
    · exact w_X1_copy_b35 cx hr  h _ _ ls wd (lv_sub hl [] rfl) hX
    · refine lv_aload_n hx hb dX1_copy_18 rfl (lv_at hl 0 rfl) ?_
      refine mh_getR cx wd fl_X1_9 dX1_copy_19 hX (fun a2 hX => ?_)
      refine lv_iload_n hx hb dX1_copy_22 rfl (lv_at hl 2 rfl) ?_
      refine lv_aload_n hx hb dX1_copy_23 rfl (lv_at hl 1 rfl) ?_
      refine lv_iload_n hx hb dX1_copy_24 rfl (lv_at hl 2 rfl) ?_
      refine mh_callVI cx wd [.int x2] (rfl : vwCl[1]? = some (RX1, TX1, 2)) yw_X1_value vw_X1_19 rfl hl.1 rfl (Nat.le_of_ble_eq_true rfl) dX1_copy_25 ⟨Nat.le_of_ble_eq_true rfl, Nat.le_of_ble_eq_true rfl⟩ ⟨Nat.le_refl _, Nat.le_refl _⟩ (fun _ _ q => c_X1_value q) hX (fun v4 h3 H locs wd hX => ?_)
      refine mh_iast cx wd dX1_copy_28 hX (fun h5 H locs wd hX => ?_)
      obtain ⟨v6, ev6, hX⟩ := mh_nmx hX
      refine lv_iinc (k := 2) (v := v6) (lv' := [(2, .int v6), (0, .ref o0), (1, .ref o1)]) hx hb dX1_copy_29 hl rfl ev6 (Nat.le_of_ble_eq_true rfl) rfl (fun ls hl => ?_)
      refine lv_goto (tgt := 10) hx hb dX1_copy_32 rfl ?_
      exact ih _ _ _ h5 _ _ ls wd (lv_sub hl [1, 2, 0] rfl) hX
set_option maxRecDepth 100000 in
set_option maxHeartbeats 4000000 in
theorem w_X1_copy_e {p : Program} {l : Launch} {e : Env} {s : State} {m : MethodId} {args : Array Value} {below : List Frame} {meth : Method} {c : Code} {D : va_G} {ks : Nat → ClassId} {L : List Nat} {h' : mh_H} (cx : mh_C p m c cX1_copy 3 s args RX1 meth D ks (mh_A L s.heap.size)) (hr : meth.sig.returnType = none) :
    ∀ (o0 : Nat) (o1 : Nat) (h : mh_H) (H : Heap) (locs : List Loc) (ls : Array Slot), mh_W D ks L (mh_A L s.heap.size) s.heap h H locs → lv_has ls 3 [(0, .ref o0), (1, .ref o1)] → f_X1_copy_e o0 o1 h = some h' → W p l e (mh_rm 1) s m args below meth c H locs 0 0 (MQ below (mh_Qv D ks L s.heap.size h') args s 0 0 (mh_A L s.heap.size)) (F0 m 0 ls []) := by
  intro o0 o1 h H locs ls wd hl hX
  have hx := cx.1.1
  have hb := cx.1.2.1
  unfold f_X1_copy_e at hX
  refine lv_aload_n hx hb dX1_copy_0 rfl (lv_at hl 0 rfl) ?_
  refine lv_aload_n hx hb dX1_copy_1 rfl (lv_at hl 1 rfl) ?_
  refine mh_callVI cx wd [] (rfl : vwCl[1]? = some (RX1, TX1, 2)) yw_X1_count vw_X1_34 rfl hl.1 rfl (Nat.le_of_ble_eq_true rfl) dX1_copy_2 ⟨Nat.le_of_ble_eq_true rfl, Nat.le_of_ble_eq_true rfl⟩ ⟨Nat.le_refl _, Nat.le_refl _⟩ (fun _ _ q => c_X1_count q) hX (fun v8 h7 H locs wd hX => ?_)
  refine mh_putI cx wd fp_X1_15 dX1_copy_5 hX (fun h9 H locs wd hX => ?_)
  refine lv_iconst (v := 0) hx hb dX1_copy_8 (by decide) ?_
  refine mh_topi hX (fun v10 hX => ?_)
  refine lv_istore_n (lv' := [(2, .int v10), (0, .ref o0), (1, .ref o1)]) hx hb dX1_copy_9 rfl hl (Nat.le_of_ble_eq_true rfl) rfl (fun ls hl => ?_)
  exact w_X1_copy_b10 cx hr mh_fu _ _ _ h9 _ _ ls wd (lv_sub hl [1, 2, 0] rfl) hX
set_option maxRecDepth 100000 in
theorem c_X1_copy {l : Launch} {L : List Nat} {h h' : mh_H} {o0 : Nat} {o1 : Nat} (hX : f_X1_copy_e o0 o1 h = some h') : mh_MV l yX1_copy (Cond.code yX1_copy cX1_copy 3 none :: mh_TB) (mh_rm 1) [.ref o0, .ref o1] L h h' :=
  mh_of (mc := 0) (ms := 0) (Qc := fun D ks sz => mh_Qv D ks L sz h') (plainFor_of_name (by decide)) (Nat.le_of_ble_eq_true rfl) (fun p e s m below meth c D ks ls hr cx wd hl => by
    have hl : lv_has ls 3 [(0, .ref o0), (1, .ref o1)] := hl
    exact w_X1_copy_e cx hr o0 o1 h _ _ ls wd hl hX)
def f_X1_alike_b37 (h : mh_H) : Option (Int32 × mh_H) :=
  mh_rz (0 : Int32) h
def f_X1_alike_b45 (h : mh_H) : Option (Int32 × mh_H) :=
  mh_rz (1 : Int32) h
def f_X1_alike_b15 : Nat → Nat → Nat → Int32 → mh_H → Option (Int32 × mh_H)
  | 0, _, _, _, _ => none
  | n + 1, o0, o1, x2, h =>
    (mh_gI h o0 1 1).bind fun v1 =>
    if v1 ≤ x2 then (
    f_X1_alike_b45 h) else
    (mh_gR h o0 1 0).bind fun a2 =>
    (mh_aI h a2 0 x2).bind fun v3 =>
    mh_b2 (mh_cal h o1 1 (f_X1_value_e o1 x2 h)) fun v5 h4 =>
    if v3 = v5 then (
    mh_nm (x2 + Int32.ofInt (1)) fun v6 =>
    f_X1_alike_b15 n o0 o1 v6 h4) else
    f_X1_alike_b37 h4
def f_X1_alike_e (o0 : Nat) (o1 : Nat) (h : mh_H) : Option (Int32 × mh_H) :=
  (mh_gI h o0 1 1).bind fun v7 =>
  mh_b2 (mh_cal h o1 1 (f_X1_count_e o1 h)) fun v9 h8 =>
  if v7 = v9 then (
  mh_nm (0 : Int32) fun v10 =>
  f_X1_alike_b15 mh_fu o0 o1 v10 h8) else
  mh_rz (0 : Int32) h8
set_option maxRecDepth 100000 in
set_option maxHeartbeats 4000000 in
theorem w_X1_alike_b37 {p : Program} {l : Launch} {e : Env} {s : State} {m : MethodId} {args : Array Value} {below : List Frame} {meth : Method} {c : Code} {D : va_G} {ks : Nat → ClassId} {L : List Nat} {r : Int32} {h' : mh_H} (cx : mh_C p m c cX1_alike 3 s args RX1 meth D ks (mh_A L s.heap.size)) (hr : meth.sig.returnType = (some .boolean)) :
    ∀ (h : mh_H) (H : Heap) (locs : List Loc) (ls : Array Slot), mh_W D ks L (mh_A L s.heap.size) s.heap h H locs → lv_has ls 3 [] → f_X1_alike_b37  h = some (r, h') → W p l e (mh_rm 1) s m args below meth c H locs 0 0 (MQ below (mh_Qi D ks L s.heap.size r h') args s 0 0 (mh_A L s.heap.size)) (F0 m 37 ls []) := by
  intro  h H locs ls wd hl hX
  have hx := cx.1.1
  have hb := cx.1.2.1
  unfold f_X1_alike_b37 at hX
  refine lv_iconst (v := 0) hx hb dX1_alike_37 (by decide) ?_
  exact mh_zret cx wd hr hX dX1_alike_38
set_option maxRecDepth 100000 in
set_option maxHeartbeats 4000000 in
theorem w_X1_alike_b45 {p : Program} {l : Launch} {e : Env} {s : State} {m : MethodId} {args : Array Value} {below : List Frame} {meth : Method} {c : Code} {D : va_G} {ks : Nat → ClassId} {L : List Nat} {r : Int32} {h' : mh_H} (cx : mh_C p m c cX1_alike 3 s args RX1 meth D ks (mh_A L s.heap.size)) (hr : meth.sig.returnType = (some .boolean)) :
    ∀ (h : mh_H) (H : Heap) (locs : List Loc) (ls : Array Slot), mh_W D ks L (mh_A L s.heap.size) s.heap h H locs → lv_has ls 3 [] → f_X1_alike_b45  h = some (r, h') → W p l e (mh_rm 1) s m args below meth c H locs 0 0 (MQ below (mh_Qi D ks L s.heap.size r h') args s 0 0 (mh_A L s.heap.size)) (F0 m 45 ls []) := by
  intro  h H locs ls wd hl hX
  have hx := cx.1.1
  have hb := cx.1.2.1
  unfold f_X1_alike_b45 at hX
  refine lv_iconst (v := 1) hx hb dX1_alike_45 (by decide) ?_
  exact mh_zret cx wd hr hX dX1_alike_46
set_option maxRecDepth 100000 in
set_option maxHeartbeats 4000000 in
theorem w_X1_alike_b15 {p : Program} {l : Launch} {e : Env} {s : State} {m : MethodId} {args : Array Value} {below : List Frame} {meth : Method} {c : Code} {D : va_G} {ks : Nat → ClassId} {L : List Nat} {r : Int32} {h' : mh_H} (cx : mh_C p m c cX1_alike 3 s args RX1 meth D ks (mh_A L s.heap.size)) (hr : meth.sig.returnType = (some .boolean)) :
    ∀ n : Nat, ∀ (o0 : Nat) (o1 : Nat) (x2 : Int32) (h : mh_H) (H : Heap) (locs : List Loc) (ls : Array Slot), mh_W D ks L (mh_A L s.heap.size) s.heap h H locs → lv_has ls 3 [(0, .ref o0), (1, .ref o1), (2, .int x2)] → f_X1_alike_b15 n o0 o1 x2 h = some (r, h') → W p l e (mh_rm 1) s m args below meth c H locs 0 0 (MQ below (mh_Qi D ks L s.heap.size r h') args s 0 0 (mh_A L s.heap.size)) (F0 m 15 ls []) := by
  intro n
  induction n with
  | zero =>
    intro o0 o1 x2 h H locs ls wd hl hX
    cases hX
  | succ n ih =>
    intro o0 o1 x2 h H locs ls wd hl hX
    have hx := cx.1.1
    have hb := cx.1.2.1
    rw [f_X1_alike_b15] at hX
    refine lv_iload_n hx hb dX1_alike_15 rfl (lv_at hl 2 rfl) ?_
    refine lv_aload_n hx hb dX1_alike_16 rfl (lv_at hl 0 rfl) ?_
    refine mh_getI cx wd fl_X1_15 dX1_alike_17 hX (fun v1 hX => ?_)
    refine lv_icmp_ge (tgt := 45) hx hb dX1_alike_20 rfl (fun hc => (fun hX => ?_) ((mh_if hX).1 hc)) (fun hc => (fun hX => ?_) ((mh_if hX).2 hc))
    · exact w_X1_alike_b45 cx hr  h _ _ ls wd (lv_sub hl [] rfl) hX
    · refine lv_aload_n hx hb dX1_alike_23 rfl (lv_at hl 0 rfl) ?_
      refine mh_getR cx wd fl_X1_9 dX1_alike_24 hX (fun a2 hX => ?_)
      refine lv_iload_n hx hb dX1_alike_27 rfl (lv_at hl 2 rfl) ?_
      refine mh_iald cx wd dX1_alike_28 hX (fun v3 hX => ?_)
      refine lv_aload_n hx hb dX1_alike_29 rfl (lv_at hl 1 rfl) ?_
      refine lv_iload_n hx hb dX1_alike_30 rfl (lv_at hl 2 rfl) ?_
      refine mh_callVI cx wd [.int x2] (rfl : vwCl[1]? = some (RX1, TX1, 2)) yw_X1_value vw_X1_19 rfl hl.1 rfl (Nat.le_of_ble_eq_true rfl) dX1_alike_31 ⟨Nat.le_of_ble_eq_true rfl, Nat.le_of_ble_eq_true rfl⟩ ⟨Nat.le_refl _, Nat.le_refl _⟩ (fun _ _ q => c_X1_value q) hX (fun v5 h4 H locs wd hX => ?_)
      refine lv_icmp_eq (tgt := 39) hx hb dX1_alike_34 rfl (fun hc => (fun hX => ?_) ((mh_if hX).1 hc)) (fun hc => (fun hX => ?_) ((mh_if hX).2 hc))
      · obtain ⟨v6, ev6, hX⟩ := mh_nmx hX
        refine lv_iinc (k := 2) (v := v6) (lv' := [(2, .int v6), (0, .ref o0), (1, .ref o1)]) hx hb dX1_alike_39 hl rfl ev6 (Nat.le_of_ble_eq_true rfl) rfl (fun ls hl => ?_)
        refine lv_goto (tgt := 15) hx hb dX1_alike_42 rfl ?_
        exact ih _ _ _ h4 _ _ ls wd (lv_sub hl [1, 2, 0] rfl) hX
      · exact w_X1_alike_b37 cx hr  h4 _ _ ls wd (lv_sub hl [] rfl) hX
set_option maxRecDepth 100000 in
set_option maxHeartbeats 4000000 in
theorem w_X1_alike_e {p : Program} {l : Launch} {e : Env} {s : State} {m : MethodId} {args : Array Value} {below : List Frame} {meth : Method} {c : Code} {D : va_G} {ks : Nat → ClassId} {L : List Nat} {r : Int32} {h' : mh_H} (cx : mh_C p m c cX1_alike 3 s args RX1 meth D ks (mh_A L s.heap.size)) (hr : meth.sig.returnType = (some .boolean)) :
    ∀ (o0 : Nat) (o1 : Nat) (h : mh_H) (H : Heap) (locs : List Loc) (ls : Array Slot), mh_W D ks L (mh_A L s.heap.size) s.heap h H locs → lv_has ls 3 [(0, .ref o0), (1, .ref o1)] → f_X1_alike_e o0 o1 h = some (r, h') → W p l e (mh_rm 1) s m args below meth c H locs 0 0 (MQ below (mh_Qi D ks L s.heap.size r h') args s 0 0 (mh_A L s.heap.size)) (F0 m 0 ls []) := by
  intro o0 o1 h H locs ls wd hl hX
  have hx := cx.1.1
  have hb := cx.1.2.1
  unfold f_X1_alike_e at hX
  refine lv_aload_n hx hb dX1_alike_0 rfl (lv_at hl 0 rfl) ?_
  refine mh_getI cx wd fl_X1_15 dX1_alike_1 hX (fun v7 hX => ?_)
  refine lv_aload_n hx hb dX1_alike_4 rfl (lv_at hl 1 rfl) ?_
  refine mh_callVI cx wd [] (rfl : vwCl[1]? = some (RX1, TX1, 2)) yw_X1_count vw_X1_34 rfl hl.1 rfl (Nat.le_of_ble_eq_true rfl) dX1_alike_5 ⟨Nat.le_of_ble_eq_true rfl, Nat.le_of_ble_eq_true rfl⟩ ⟨Nat.le_refl _, Nat.le_refl _⟩ (fun _ _ q => c_X1_count q) hX (fun v9 h8 H locs wd hX => ?_)
  refine lv_icmp_eq (tgt := 13) hx hb dX1_alike_8 rfl (fun hc => (fun hX => ?_) ((mh_if hX).1 hc)) (fun hc => (fun hX => ?_) ((mh_if hX).2 hc))
  · refine lv_iconst (v := 0) hx hb dX1_alike_13 (by decide) ?_
    refine mh_topi hX (fun v10 hX => ?_)
    refine lv_istore_n (lv' := [(2, .int v10), (0, .ref o0), (1, .ref o1)]) hx hb dX1_alike_14 rfl hl (Nat.le_of_ble_eq_true rfl) rfl (fun ls hl => ?_)
    exact w_X1_alike_b15 cx hr mh_fu _ _ _ h8 _ _ ls wd (lv_sub hl [1, 2, 0] rfl) hX
  · refine lv_iconst (v := 0) hx hb dX1_alike_11 (by decide) ?_
    exact mh_zret cx wd hr hX dX1_alike_12
set_option maxRecDepth 100000 in
theorem c_X1_alike {l : Launch} {L : List Nat} {h h' : mh_H} {r : Int32} {o0 : Nat} {o1 : Nat} (hX : f_X1_alike_e o0 o1 h = some (r, h')) : mh_MI l yX1_alike (Cond.code yX1_alike cX1_alike 3 (some .boolean) :: mh_TB) (mh_rm 1) [.ref o0, .ref o1] L h r h' :=
  mh_of (mc := 0) (ms := 0) (Qc := fun D ks sz => mh_Qi D ks L sz r h') (plainFor_of_name (by decide)) (Nat.le_of_ble_eq_true rfl) (fun p e s m below meth c D ks ls hr cx wd hl => by
    have hl : lv_has ls 3 [(0, .ref o0), (1, .ref o1)] := hl
    exact w_X1_alike_e cx hr o0 o1 h _ _ ls wd hl hX)
def f_X1_commonDivisor_b29 (x1 : Int32) (h : mh_H) : Option (Int32 × mh_H) :=
  some (x1, h)
def f_X1_commonDivisor_b4 : Nat → Nat → Int32 → Int32 → mh_H → Option (Int32 × mh_H)
  | 0, _, _, _, _ => none
  | n + 1, o0, x1, x2, h =>
    (mh_gI h o0 1 1).bind fun v1 =>
    if v1 ≤ x2 then (
    f_X1_commonDivisor_b29 x1 h) else
    (mh_gR h o0 1 0).bind fun a2 =>
    (mh_aI h a2 0 x2).bind fun v3 =>
    mh_b2 (f_X11_greatestCommon_e v3 x1 h) fun v5 h4 =>
    mh_nm (x2 + Int32.ofInt (1)) fun v6 =>
    f_X1_commonDivisor_b4 n o0 v5 v6 h4
def f_X1_commonDivisor_e (o0 : Nat) (h : mh_H) : Option (Int32 × mh_H) :=
  mh_nm (0 : Int32) fun v7 =>
  mh_nm (0 : Int32) fun v8 =>
  f_X1_commonDivisor_b4 mh_fu o0 v7 v8 h
set_option maxRecDepth 100000 in
set_option maxHeartbeats 4000000 in
theorem w_X1_commonDivisor_b29 {p : Program} {l : Launch} {e : Env} {s : State} {m : MethodId} {args : Array Value} {below : List Frame} {meth : Method} {c : Code} {D : va_G} {ks : Nat → ClassId} {L : List Nat} {r : Int32} {h' : mh_H} (cx : mh_C p m c cX1_commonDivisor 3 s args RX1 meth D ks (mh_A L s.heap.size)) (hr : meth.sig.returnType = (some .int)) :
    ∀ (x1 : Int32) (h : mh_H) (H : Heap) (locs : List Loc) (ls : Array Slot), mh_W D ks L (mh_A L s.heap.size) s.heap h H locs → lv_has ls 3 [(1, .int x1)] → f_X1_commonDivisor_b29 x1 h = some (r, h') → W p l e (mh_rm 1) s m args below meth c H locs 0 0 (MQ below (mh_Qi D ks L s.heap.size r h') args s 0 0 (mh_A L s.heap.size)) (F0 m 29 ls []) := by
  intro x1 h H locs ls wd hl hX
  have hx := cx.1.1
  have hb := cx.1.2.1
  unfold f_X1_commonDivisor_b29 at hX
  refine lv_iload_n hx hb dX1_commonDivisor_29 rfl (lv_at hl 0 rfl) ?_
  exact mh_iret cx wd hr hX dX1_commonDivisor_30
set_option maxRecDepth 100000 in
set_option maxHeartbeats 4000000 in
theorem w_X1_commonDivisor_b4 {p : Program} {l : Launch} {e : Env} {s : State} {m : MethodId} {args : Array Value} {below : List Frame} {meth : Method} {c : Code} {D : va_G} {ks : Nat → ClassId} {L : List Nat} {r : Int32} {h' : mh_H} (cx : mh_C p m c cX1_commonDivisor 3 s args RX1 meth D ks (mh_A L s.heap.size)) (hr : meth.sig.returnType = (some .int)) :
    ∀ n : Nat, ∀ (o0 : Nat) (x1 : Int32) (x2 : Int32) (h : mh_H) (H : Heap) (locs : List Loc) (ls : Array Slot), mh_W D ks L (mh_A L s.heap.size) s.heap h H locs → lv_has ls 3 [(0, .ref o0), (1, .int x1), (2, .int x2)] → f_X1_commonDivisor_b4 n o0 x1 x2 h = some (r, h') → W p l e (mh_rm 1) s m args below meth c H locs 0 0 (MQ below (mh_Qi D ks L s.heap.size r h') args s 0 0 (mh_A L s.heap.size)) (F0 m 4 ls []) := by
  intro n
  induction n with
  | zero =>
    intro o0 x1 x2 h H locs ls wd hl hX
    cases hX
  | succ n ih =>
    intro o0 x1 x2 h H locs ls wd hl hX
    have hx := cx.1.1
    have hb := cx.1.2.1
    rw [f_X1_commonDivisor_b4] at hX
    refine lv_iload_n hx hb dX1_commonDivisor_4 rfl (lv_at hl 2 rfl) ?_
    refine lv_aload_n hx hb dX1_commonDivisor_5 rfl (lv_at hl 0 rfl) ?_
    refine mh_getI cx wd fl_X1_15 dX1_commonDivisor_6 hX (fun v1 hX => ?_)
    refine lv_icmp_ge (tgt := 29) hx hb dX1_commonDivisor_9 rfl (fun hc => (fun hX => ?_) ((mh_if hX).1 hc)) (fun hc => (fun hX => ?_) ((mh_if hX).2 hc))
    · exact w_X1_commonDivisor_b29 cx hr _ h _ _ ls wd (lv_sub hl [1] rfl) hX
    · refine lv_aload_n hx hb dX1_commonDivisor_12 rfl (lv_at hl 0 rfl) ?_
      refine mh_getR cx wd fl_X1_9 dX1_commonDivisor_13 hX (fun a2 hX => ?_)
      refine lv_iload_n hx hb dX1_commonDivisor_16 rfl (lv_at hl 2 rfl) ?_
      refine mh_iald cx wd dX1_commonDivisor_17 hX (fun v3 hX => ?_)
      refine lv_iload_n hx hb dX1_commonDivisor_18 rfl (lv_at hl 1 rfl) ?_
      refine mh_callNI cx wd [.int v3, .int x1] yw_X11_greatestCommon nw_X1_37 rfl hl.1 rfl (Nat.le_of_ble_eq_true rfl) dX1_commonDivisor_19 ⟨Nat.le_of_ble_eq_true rfl, Nat.le_of_ble_eq_true rfl⟩ ⟨Nat.le_refl _, Nat.le_refl _⟩ (fun _ _ q => c_X11_greatestCommon q) hX (fun v5 h4 H locs wd hX => ?_)
      refine lv_istore_n (lv' := [(1, .int v5), (0, .ref o0), (2, .int x2)]) hx hb dX1_commonDivisor_22 rfl hl (Nat.le_of_ble_eq_true rfl) rfl (fun ls hl => ?_)
      obtain ⟨v6, ev6, hX⟩ := mh_nmx hX
      refine lv_iinc (k := 2) (v := v6) (lv' := [(2, .int v6), (1, .int v5), (0, .ref o0)]) hx hb dX1_commonDivisor_23 hl rfl ev6 (Nat.le_of_ble_eq_true rfl) rfl (fun ls hl => ?_)
      refine lv_goto (tgt := 4) hx hb dX1_commonDivisor_26 rfl ?_
      exact ih _ _ _ h4 _ _ ls wd (lv_sub hl [2, 1, 0] rfl) hX
set_option maxRecDepth 100000 in
set_option maxHeartbeats 4000000 in
theorem w_X1_commonDivisor_e {p : Program} {l : Launch} {e : Env} {s : State} {m : MethodId} {args : Array Value} {below : List Frame} {meth : Method} {c : Code} {D : va_G} {ks : Nat → ClassId} {L : List Nat} {r : Int32} {h' : mh_H} (cx : mh_C p m c cX1_commonDivisor 3 s args RX1 meth D ks (mh_A L s.heap.size)) (hr : meth.sig.returnType = (some .int)) :
    ∀ (o0 : Nat) (h : mh_H) (H : Heap) (locs : List Loc) (ls : Array Slot), mh_W D ks L (mh_A L s.heap.size) s.heap h H locs → lv_has ls 3 [(0, .ref o0)] → f_X1_commonDivisor_e o0 h = some (r, h') → W p l e (mh_rm 1) s m args below meth c H locs 0 0 (MQ below (mh_Qi D ks L s.heap.size r h') args s 0 0 (mh_A L s.heap.size)) (F0 m 0 ls []) := by
  intro o0 h H locs ls wd hl hX
  have hx := cx.1.1
  have hb := cx.1.2.1
  unfold f_X1_commonDivisor_e at hX
  refine lv_iconst (v := 0) hx hb dX1_commonDivisor_0 (by decide) ?_
  refine mh_topi hX (fun v7 hX => ?_)
  refine lv_istore_n (lv' := [(1, .int v7), (0, .ref o0)]) hx hb dX1_commonDivisor_1 rfl hl (Nat.le_of_ble_eq_true rfl) rfl (fun ls hl => ?_)
  refine lv_iconst (v := 0) hx hb dX1_commonDivisor_2 (by decide) ?_
  refine mh_topi hX (fun v8 hX => ?_)
  refine lv_istore_n (lv' := [(2, .int v8), (1, .int v7), (0, .ref o0)]) hx hb dX1_commonDivisor_3 rfl hl (Nat.le_of_ble_eq_true rfl) rfl (fun ls hl => ?_)
  exact w_X1_commonDivisor_b4 cx hr mh_fu _ _ _ h _ _ ls wd (lv_sub hl [2, 1, 0] rfl) hX
set_option maxRecDepth 100000 in
theorem c_X1_commonDivisor {l : Launch} {L : List Nat} {h h' : mh_H} {r : Int32} {o0 : Nat} (hX : f_X1_commonDivisor_e o0 h = some (r, h')) : mh_MI l yX1_commonDivisor (Cond.code yX1_commonDivisor cX1_commonDivisor 3 (some .int) :: mh_TB) (mh_rm 1) [.ref o0] L h r h' :=
  mh_of (mc := 0) (ms := 0) (Qc := fun D ks sz => mh_Qi D ks L sz r h') (plainFor_of_name (by decide)) (Nat.le_of_ble_eq_true rfl) (fun p e s m below meth c D ks ls hr cx wd hl => by
    have hl : lv_has ls 3 [(0, .ref o0)] := hl
    exact w_X1_commonDivisor_e cx hr o0 h _ _ ls wd hl hX)
def f_X1_greatestFirst_b48 (k13 : Nat → Int64 → Int64 → Int32 → mh_H → Option (Int64 × mh_H)) (o0 : Nat) (y3 : Int64) (y5 : Int64) (x7 : Int32) (h : mh_H) : Option (Int64 × mh_H) :=
  mh_nm (x7 + Int32.ofInt (-1)) fun v1 =>
  k13 o0 y3 y5 v1 h
def f_X1_greatestFirst_b68 (t0 : Int64) (h : mh_H) : Option (Int64 × mh_H) :=
  some (t0, h)
def f_X1_greatestFirst_b54 (y3 : Int64) (y5 : Int64) (h : mh_H) : Option (Int64 × mh_H) :=
  if (lg_cmp y3 (0 : Int64)) = 0 then (
  f_X1_greatestFirst_b68 y5 h) else
  f_X1_greatestFirst_b68 (-1 : Int64) h
def f_X1_greatestFirst_b13 : Nat → Nat → Int64 → Int64 → Int32 → mh_H → Option (Int64 × mh_H)
  | 0, _, _, _, _, _ => none
  | n + 1, o0, y3, y5, x7, h =>
    if x7 < 0 then (
    f_X1_greatestFirst_b54 y3 y5 h) else
    (mh_gR h o0 1 0).bind fun a2 =>
    (mh_aI h a2 0 x7).bind fun v3 =>
    if v3 ≤ 0 then (
    f_X1_greatestFirst_b48 (f_X1_greatestFirst_b13 n) o0 y3 y5 x7 h) else
    mh_nz ((v3).toInt64 = 0) <|
    mh_nm (y5 + (y3 / (v3).toInt64)) fun w4 =>
    mh_nz ((v3).toInt64 = 0) <|
    mh_nm (mh_lrem y3 ((v3).toInt64)) fun w5 =>
    f_X1_greatestFirst_b48 (f_X1_greatestFirst_b13 n) o0 w5 w4 x7 h
def f_X1_greatestFirst_e (o0 : Nat) (y1 : Int64) (h : mh_H) : Option (Int64 × mh_H) :=
  mh_nm (0 : Int64) fun w6 =>
  (mh_gI h o0 1 1).bind fun v7 =>
  mh_nm (v7 - (1 : Int32)) fun v8 =>
  f_X1_greatestFirst_b13 mh_fu o0 y1 w6 v8 h
set_option maxRecDepth 100000 in
set_option maxHeartbeats 4000000 in
theorem w_X1_greatestFirst_b48 {p : Program} {l : Launch} {e : Env} {s : State} {m : MethodId} {args : Array Value} {below : List Frame} {meth : Method} {c : Code} {D : va_G} {ks : Nat → ClassId} {L : List Nat} {r : Int64} {h' : mh_H} (k13 : Nat → Int64 → Int64 → Int32 → mh_H → Option (Int64 × mh_H)) (cx : mh_C p m c cX1_greatestFirst 9 s args RX1 meth D ks (mh_A L s.heap.size)) (hr : meth.sig.returnType = (some .long))
    (hk13 : ∀ (o0 : Nat) (y3 : Int64) (y5 : Int64) (x7 : Int32) (h : mh_H) (H : Heap) (locs : List Loc) (ls : Array Slot), mh_W D ks L (mh_A L s.heap.size) s.heap h H locs → lv_has ls 9 [(0, .ref o0), (3, .long y3), (5, .long y5), (7, .int x7)] → k13 o0 y3 y5 x7 h = some (r, h') → W p l e (mh_rm 0) s m args below meth c H locs 0 0 (MQ below (mh_Ql D ks L s.heap.size r h') args s 0 0 (mh_A L s.heap.size)) (F0 m 13 ls [])) :
    ∀ (o0 : Nat) (y3 : Int64) (y5 : Int64) (x7 : Int32) (h : mh_H) (H : Heap) (locs : List Loc) (ls : Array Slot), mh_W D ks L (mh_A L s.heap.size) s.heap h H locs → lv_has ls 9 [(0, .ref o0), (3, .long y3), (5, .long y5), (7, .int x7)] → f_X1_greatestFirst_b48 k13 o0 y3 y5 x7 h = some (r, h') → W p l e (mh_rm 0) s m args below meth c H locs 0 0 (MQ below (mh_Ql D ks L s.heap.size r h') args s 0 0 (mh_A L s.heap.size)) (F0 m 48 ls []) := by
  intro o0 y3 y5 x7 h H locs ls wd hl hX
  have hx := cx.1.1
  have hb := cx.1.2.1
  unfold f_X1_greatestFirst_b48 at hX
  obtain ⟨v1, ev1, hX⟩ := mh_nmx hX
  refine lv_iinc (k := 3) (v := v1) (lv' := [(7, .int v1), (0, .ref o0), (3, .long y3), (5, .long y5)]) hx hb dX1_greatestFirst_48 hl rfl ev1 (Nat.le_of_ble_eq_true rfl) rfl (fun ls hl => ?_)
  refine lv_goto (tgt := 13) hx hb dX1_greatestFirst_51 rfl ?_
  exact hk13 _ _ _ _ h _ _ ls wd (lv_sub hl [1, 2, 3, 0] rfl) hX
set_option maxRecDepth 100000 in
set_option maxHeartbeats 4000000 in
theorem w_X1_greatestFirst_b68 {p : Program} {l : Launch} {e : Env} {s : State} {m : MethodId} {args : Array Value} {below : List Frame} {meth : Method} {c : Code} {D : va_G} {ks : Nat → ClassId} {L : List Nat} {r : Int64} {h' : mh_H} (cx : mh_C p m c cX1_greatestFirst 9 s args RX1 meth D ks (mh_A L s.heap.size)) (hr : meth.sig.returnType = (some .long)) :
    ∀ (t0 : Int64) (h : mh_H) (H : Heap) (locs : List Loc) (ls : Array Slot), mh_W D ks L (mh_A L s.heap.size) s.heap h H locs → lv_has ls 9 [] → f_X1_greatestFirst_b68 t0 h = some (r, h') → W p l e (mh_rm 0) s m args below meth c H locs 0 0 (MQ below (mh_Ql D ks L s.heap.size r h') args s 0 0 (mh_A L s.heap.size)) (F0 m 68 ls [.long t0]) := by
  intro t0 h H locs ls wd hl hX
  have hx := cx.1.1
  have hb := cx.1.2.1
  unfold f_X1_greatestFirst_b68 at hX
  exact mh_lret cx wd hr hX dX1_greatestFirst_68
set_option maxRecDepth 100000 in
set_option maxHeartbeats 4000000 in
theorem w_X1_greatestFirst_b54 {p : Program} {l : Launch} {e : Env} {s : State} {m : MethodId} {args : Array Value} {below : List Frame} {meth : Method} {c : Code} {D : va_G} {ks : Nat → ClassId} {L : List Nat} {r : Int64} {h' : mh_H} (cx : mh_C p m c cX1_greatestFirst 9 s args RX1 meth D ks (mh_A L s.heap.size)) (hr : meth.sig.returnType = (some .long)) :
    ∀ (y3 : Int64) (y5 : Int64) (h : mh_H) (H : Heap) (locs : List Loc) (ls : Array Slot), mh_W D ks L (mh_A L s.heap.size) s.heap h H locs → lv_has ls 9 [(3, .long y3), (5, .long y5)] → f_X1_greatestFirst_b54 y3 y5 h = some (r, h') → W p l e (mh_rm 0) s m args below meth c H locs 0 0 (MQ below (mh_Ql D ks L s.heap.size r h') args s 0 0 (mh_A L s.heap.size)) (F0 m 54 ls []) := by
  intro y3 y5 h H locs ls wd hl hX
  have hx := cx.1.1
  have hb := cx.1.2.1
  unfold f_X1_greatestFirst_b54 at hX
  refine lv_lload_n hx hb dX1_greatestFirst_54 rfl (lv_at hl 0 rfl) ?_
  refine lv_lconst (v := 0) hx hb dX1_greatestFirst_55 (by decide) ?_
  refine W.lcmp hx hb dX1_greatestFirst_56 ?_
  refine lv_if_ne (tgt := 65) hx hb dX1_greatestFirst_57 rfl (fun hc => (fun hX => ?_) ((mh_if hX).2 hc)) (fun hc => (fun hX => ?_) ((mh_if hX).1 hc))
  · refine mh_ldc2 cx kl_X1_41 dX1_greatestFirst_65 ?_
    exact w_X1_greatestFirst_b68 cx hr _ h _ _ ls wd (lv_sub hl [] rfl) hX
  · refine lv_lload hx hb dX1_greatestFirst_60 (lv_at hl 1 rfl) ?_
    refine lv_goto (tgt := 68) hx hb dX1_greatestFirst_62 rfl ?_
    exact w_X1_greatestFirst_b68 cx hr _ h _ _ ls wd (lv_sub hl [] rfl) hX
set_option maxRecDepth 100000 in
set_option maxHeartbeats 4000000 in
theorem w_X1_greatestFirst_b13 {p : Program} {l : Launch} {e : Env} {s : State} {m : MethodId} {args : Array Value} {below : List Frame} {meth : Method} {c : Code} {D : va_G} {ks : Nat → ClassId} {L : List Nat} {r : Int64} {h' : mh_H} (cx : mh_C p m c cX1_greatestFirst 9 s args RX1 meth D ks (mh_A L s.heap.size)) (hr : meth.sig.returnType = (some .long)) :
    ∀ n : Nat, ∀ (o0 : Nat) (y3 : Int64) (y5 : Int64) (x7 : Int32) (h : mh_H) (H : Heap) (locs : List Loc) (ls : Array Slot), mh_W D ks L (mh_A L s.heap.size) s.heap h H locs → lv_has ls 9 [(0, .ref o0), (3, .long y3), (5, .long y5), (7, .int x7)] → f_X1_greatestFirst_b13 n o0 y3 y5 x7 h = some (r, h') → W p l e (mh_rm 0) s m args below meth c H locs 0 0 (MQ below (mh_Ql D ks L s.heap.size r h') args s 0 0 (mh_A L s.heap.size)) (F0 m 13 ls []) := by
  intro n
  induction n with
  | zero =>
    intro o0 y3 y5 x7 h H locs ls wd hl hX
    cases hX
  | succ n ih =>
    intro o0 y3 y5 x7 h H locs ls wd hl hX
    have hx := cx.1.1
    have hb := cx.1.2.1
    rw [f_X1_greatestFirst_b13] at hX
    refine lv_iload hx hb dX1_greatestFirst_13 (lv_at hl 3 rfl) ?_
    refine lv_if_lt (tgt := 54) hx hb dX1_greatestFirst_15 rfl (fun hc => (fun hX => ?_) ((mh_if hX).1 hc)) (fun hc => (fun hX => ?_) ((mh_if hX).2 hc))
    · exact w_X1_greatestFirst_b54 cx hr _ _ h _ _ ls wd (lv_sub hl [1, 2] rfl) hX
    · refine lv_aload_n hx hb dX1_greatestFirst_18 rfl (lv_at hl 0 rfl) ?_
      refine mh_getR cx wd fl_X1_9 dX1_greatestFirst_19 hX (fun a2 hX => ?_)
      refine lv_iload hx hb dX1_greatestFirst_22 (lv_at hl 3 rfl) ?_
      refine mh_iald cx wd dX1_greatestFirst_24 hX (fun v3 hX => ?_)
      refine lv_istore (lv' := [(8, .int v3), (0, .ref o0), (3, .long y3), (5, .long y5), (7, .int x7)]) hx hb dX1_greatestFirst_25 hl (Nat.le_of_ble_eq_true rfl) rfl (fun ls hl => ?_)
      refine lv_iload hx hb dX1_greatestFirst_27 (lv_at hl 0 rfl) ?_
      refine lv_if_le (tgt := 48) hx hb dX1_greatestFirst_29 rfl (fun hc => (fun hX => ?_) ((mh_if hX).1 hc)) (fun hc => (fun hX => ?_) ((mh_if hX).2 hc))
      · exact w_X1_greatestFirst_b48 (f_X1_greatestFirst_b13 n) cx hr ih _ _ _ _ h _ _ ls wd (lv_sub hl [1, 2, 3, 4] rfl) hX
      · refine lv_lload hx hb dX1_greatestFirst_32 (lv_at hl 3 rfl) ?_
        refine lv_lload_n hx hb dX1_greatestFirst_34 rfl (lv_at hl 2 rfl) ?_
        refine lv_iload hx hb dX1_greatestFirst_35 (lv_at hl 0 rfl) ?_
        refine lv_i2l hx hb dX1_greatestFirst_37 rfl ?_
        obtain ⟨hz, hX⟩ := mh_nzk hX
        refine lv_ldiv hx hb dX1_greatestFirst_38 hz ?_
        refine lv_ladd hx hb dX1_greatestFirst_39 ?_
        refine mh_topl hX (fun w4 hX => ?_)
        refine lv_lstore (lv' := [(5, .long w4), (8, .int v3), (0, .ref o0), (3, .long y3), (7, .int x7)]) hx hb dX1_greatestFirst_40 hl (Nat.le_of_ble_eq_true rfl) rfl (fun ls hl => ?_)
        refine lv_lload_n hx hb dX1_greatestFirst_42 rfl (lv_at hl 3 rfl) ?_
        refine lv_iload hx hb dX1_greatestFirst_43 (lv_at hl 1 rfl) ?_
        refine lv_i2l hx hb dX1_greatestFirst_45 rfl ?_
        obtain ⟨hz, hX⟩ := mh_nzk hX
        refine lv_lrem hx hb dX1_greatestFirst_46 hz ?_
        refine mh_topl hX (fun w5 hX => ?_)
        refine lv_lstore_n (lv' := [(3, .long w5), (5, .long w4), (8, .int v3), (0, .ref o0), (7, .int x7)]) hx hb dX1_greatestFirst_47 rfl hl (Nat.le_of_ble_eq_true rfl) rfl (fun ls hl => ?_)
        exact w_X1_greatestFirst_b48 (f_X1_greatestFirst_b13 n) cx hr ih _ _ _ _ h _ _ ls wd (lv_sub hl [3, 0, 1, 4] rfl) hX
set_option maxRecDepth 100000 in
set_option maxHeartbeats 4000000 in
theorem w_X1_greatestFirst_e {p : Program} {l : Launch} {e : Env} {s : State} {m : MethodId} {args : Array Value} {below : List Frame} {meth : Method} {c : Code} {D : va_G} {ks : Nat → ClassId} {L : List Nat} {r : Int64} {h' : mh_H} (cx : mh_C p m c cX1_greatestFirst 9 s args RX1 meth D ks (mh_A L s.heap.size)) (hr : meth.sig.returnType = (some .long)) :
    ∀ (o0 : Nat) (y1 : Int64) (h : mh_H) (H : Heap) (locs : List Loc) (ls : Array Slot), mh_W D ks L (mh_A L s.heap.size) s.heap h H locs → lv_has ls 9 [(0, .ref o0), (1, .long y1)] → f_X1_greatestFirst_e o0 y1 h = some (r, h') → W p l e (mh_rm 0) s m args below meth c H locs 0 0 (MQ below (mh_Ql D ks L s.heap.size r h') args s 0 0 (mh_A L s.heap.size)) (F0 m 0 ls []) := by
  intro o0 y1 h H locs ls wd hl hX
  have hx := cx.1.1
  have hb := cx.1.2.1
  unfold f_X1_greatestFirst_e at hX
  refine lv_lload_n hx hb dX1_greatestFirst_0 rfl (lv_at hl 1 rfl) ?_
  refine lv_lstore_n (lv' := [(3, .long y1), (0, .ref o0), (1, .long y1)]) hx hb dX1_greatestFirst_1 rfl hl (Nat.le_of_ble_eq_true rfl) rfl (fun ls hl => ?_)
  refine lv_lconst (v := 0) hx hb dX1_greatestFirst_2 (by decide) ?_
  refine mh_topl hX (fun w6 hX => ?_)
  refine lv_lstore (lv' := [(5, .long w6), (3, .long y1), (0, .ref o0), (1, .long y1)]) hx hb dX1_greatestFirst_3 hl (Nat.le_of_ble_eq_true rfl) rfl (fun ls hl => ?_)
  refine lv_aload_n hx hb dX1_greatestFirst_5 rfl (lv_at hl 2 rfl) ?_
  refine mh_getI cx wd fl_X1_15 dX1_greatestFirst_6 hX (fun v7 hX => ?_)
  refine lv_iconst (v := 1) hx hb dX1_greatestFirst_9 (by decide) ?_
  refine lv_isub hx hb dX1_greatestFirst_10 ?_
  refine mh_topi hX (fun v8 hX => ?_)
  refine lv_istore (lv' := [(7, .int v8), (5, .long w6), (3, .long y1), (0, .ref o0), (1, .long y1)]) hx hb dX1_greatestFirst_11 hl (Nat.le_of_ble_eq_true rfl) rfl (fun ls hl => ?_)
  exact w_X1_greatestFirst_b13 cx hr mh_fu _ _ _ _ h _ _ ls wd (lv_sub hl [3, 2, 1, 0] rfl) hX
set_option maxRecDepth 100000 in
theorem c_X1_greatestFirst {l : Launch} {L : List Nat} {h h' : mh_H} {r : Int64} {o0 : Nat} {y1 : Int64} (hX : f_X1_greatestFirst_e o0 y1 h = some (r, h')) : mh_MJ l yX1_greatestFirst (Cond.code yX1_greatestFirst cX1_greatestFirst 9 (some .long) :: mh_TB) (mh_rm 0) [.ref o0, .long y1] L h r h' :=
  mh_of (mc := 0) (ms := 0) (Qc := fun D ks sz => mh_Ql D ks L sz r h') (plainFor_of_name (by decide)) (Nat.le_of_ble_eq_true rfl) (fun p e s m below meth c D ks ls hr cx wd hl => by
    have hl : lv_has ls 9 [(0, .ref o0), (1, .long y1)] := hl
    exact w_X1_greatestFirst_e cx hr o0 y1 h _ _ ls wd hl hX)
def f_X2_take_b29 (h : mh_H) : Option mh_H :=
  some h
def f_X2_take_e (o0 : Nat) (o1 : Nat) (h : mh_H) : Option mh_H :=
  (mh_gR h o0 2 0).bind fun a1 =>
  mh_b2 (mh_cal h a1 1 (f_X1_alike_e a1 o1 h)) fun v3 h2 =>
  if v3 = 0 then (
  (mh_gR h2 o0 2 0).bind fun a4 =>
  (mh_cal h2 a4 1 (f_X1_copy_e a4 o1 h2)).bind fun h5 =>
  (mh_pI h5 o0 2 3 (0 : Int32)).bind fun h6 =>
  (mh_pZ h6 o0 2 4 (0 : Int32)).bind fun h7 =>
  f_X2_take_b29 h7) else
  f_X2_take_b29 h2
set_option maxRecDepth 100000 in
set_option maxHeartbeats 4000000 in
theorem w_X2_take_b29 {p : Program} {l : Launch} {e : Env} {s : State} {m : MethodId} {args : Array Value} {below : List Frame} {meth : Method} {c : Code} {D : va_G} {ks : Nat → ClassId} {L : List Nat} {h' : mh_H} (cx : mh_C p m c cX2_take 2 s args RX2 meth D ks (mh_A L s.heap.size)) (hr : meth.sig.returnType = none) :
    ∀ (h : mh_H) (H : Heap) (locs : List Loc) (ls : Array Slot), mh_W D ks L (mh_A L s.heap.size) s.heap h H locs → lv_has ls 2 [] → f_X2_take_b29  h = some h' → W p l e (mh_rm 2) s m args below meth c H locs 0 0 (MQ below (mh_Qv D ks L s.heap.size h') args s 0 0 (mh_A L s.heap.size)) (F0 m 29 ls []) := by
  intro  h H locs ls wd hl hX
  have hx := cx.1.1
  have hb := cx.1.2.1
  unfold f_X2_take_b29 at hX
  exact mh_vret cx wd hr hX dX2_take_29
set_option maxRecDepth 100000 in
set_option maxHeartbeats 4000000 in
theorem w_X2_take_e {p : Program} {l : Launch} {e : Env} {s : State} {m : MethodId} {args : Array Value} {below : List Frame} {meth : Method} {c : Code} {D : va_G} {ks : Nat → ClassId} {L : List Nat} {h' : mh_H} (cx : mh_C p m c cX2_take 2 s args RX2 meth D ks (mh_A L s.heap.size)) (hr : meth.sig.returnType = none) :
    ∀ (o0 : Nat) (o1 : Nat) (h : mh_H) (H : Heap) (locs : List Loc) (ls : Array Slot), mh_W D ks L (mh_A L s.heap.size) s.heap h H locs → lv_has ls 2 [(0, .ref o0), (1, .ref o1)] → f_X2_take_e o0 o1 h = some h' → W p l e (mh_rm 2) s m args below meth c H locs 0 0 (MQ below (mh_Qv D ks L s.heap.size h') args s 0 0 (mh_A L s.heap.size)) (F0 m 0 ls []) := by
  intro o0 o1 h H locs ls wd hl hX
  have hx := cx.1.1
  have hb := cx.1.2.1
  unfold f_X2_take_e at hX
  refine lv_aload_n hx hb dX2_take_0 rfl (lv_at hl 0 rfl) ?_
  refine mh_getR cx wd fl_X2_12 dX2_take_1 hX (fun a1 hX => ?_)
  refine lv_aload_n hx hb dX2_take_4 rfl (lv_at hl 1 rfl) ?_
  refine mh_callVI cx wd [.ref o1] (rfl : vwCl[1]? = some (RX1, TX1, 2)) yw_X1_alike vw_X2_38 rfl hl.1 rfl (Nat.le_of_ble_eq_true rfl) dX2_take_5 ⟨Nat.le_of_ble_eq_true rfl, Nat.le_of_ble_eq_true rfl⟩ ⟨Nat.le_refl _, Nat.le_refl _⟩ (fun _ _ q => c_X1_alike q) hX (fun v3 h2 H locs wd hX => ?_)
  refine lv_if_ne (tgt := 29) hx hb dX2_take_8 rfl (fun hc => (fun hX => ?_) ((mh_if hX).2 hc)) (fun hc => (fun hX => ?_) ((mh_if hX).1 hc))
  · exact w_X2_take_b29 cx hr  h2 _ _ ls wd (lv_sub hl [] rfl) hX
  · refine lv_aload_n hx hb dX2_take_11 rfl (lv_at hl 0 rfl) ?_
    refine mh_getR cx wd fl_X2_12 dX2_take_12 hX (fun a4 hX => ?_)
    refine lv_aload_n hx hb dX2_take_15 rfl (lv_at hl 1 rfl) ?_
    refine mh_callVV cx wd [.ref o1] (rfl : vwCl[1]? = some (RX1, TX1, 2)) yw_X1_copy vw_X2_42 rfl hl.1 rfl (Nat.le_of_ble_eq_true rfl) dX2_take_16 ⟨Nat.le_of_ble_eq_true rfl, Nat.le_of_ble_eq_true rfl⟩ ⟨Nat.le_refl _, Nat.le_refl _⟩ (fun _ q => c_X1_copy q) hX (fun h5 H locs wd hX => ?_)
    refine lv_aload_n hx hb dX2_take_19 rfl (lv_at hl 0 rfl) ?_
    refine lv_iconst (v := 0) hx hb dX2_take_20 (by decide) ?_
    refine mh_putI cx wd fp_X2_30 dX2_take_21 hX (fun h6 H locs wd hX => ?_)
    refine lv_aload_n hx hb dX2_take_24 rfl (lv_at hl 0 rfl) ?_
    refine lv_iconst (v := 0) hx hb dX2_take_25 (by decide) ?_
    refine mh_putZ cx wd fp_X2_34 dX2_take_26 hX (fun h7 H locs wd hX => ?_)
    exact w_X2_take_b29 cx hr  h7 _ _ ls wd (lv_sub hl [] rfl) hX
set_option maxRecDepth 100000 in
theorem c_X2_take {l : Launch} {L : List Nat} {h h' : mh_H} {o0 : Nat} {o1 : Nat} (hX : f_X2_take_e o0 o1 h = some h') : mh_MV l yX2_take (Cond.code yX2_take cX2_take 2 none :: mh_TB) (mh_rm 2) [.ref o0, .ref o1] L h h' :=
  mh_of (mc := 0) (ms := 0) (Qc := fun D ks sz => mh_Qv D ks L sz h') (plainFor_of_name (by decide)) (Nat.le_of_ble_eq_true rfl) (fun p e s m below meth c D ks ls hr cx wd hl => by
    have hl : lv_has ls 2 [(0, .ref o0), (1, .ref o1)] := hl
    exact w_X2_take_e cx hr o0 o1 h _ _ ls wd hl hX)
def f_X2_sizeByLesser_b69 (k4 : Nat → Int32 → Int32 → Int32 → mh_H → Option (Int32 × mh_H)) (o0 : Nat) (x1 : Int32) (x2 : Int32) (x3 : Int32) (h : mh_H) : Option (Int32 × mh_H) :=
  mh_nm (x3 + Int32.ofInt (1)) fun v1 =>
  k4 o0 x1 x2 v1 h
def f_X2_sizeByLesser_b64 (k69 : Nat → Int32 → Int32 → Int32 → mh_H → Option (Int32 × mh_H)) (o0 : Nat) (x1 : Int32) (x3 : Int32) (x5 : Int32) (h : mh_H) : Option (Int32 × mh_H) :=
  mh_nm (x5 + (1 : Int32)) fun v2 =>
  k69 o0 x1 v2 x3 h
def f_X2_sizeByLesser_b43 (k4 : Nat → Int32 → Int32 → Int32 → mh_H → Option (Int32 × mh_H)) (o0 : Nat) (x1 : Int32) (x2 : Int32) (x3 : Int32) (t0 : Int32) (h : mh_H) : Option (Int32 × mh_H) :=
  if t0 = (-1 : Int32) then (
  f_X2_sizeByLesser_b69 k4 o0 x1 x2 x3 h) else
  if x2 = (-1 : Int32) then (
  f_X2_sizeByLesser_b64 (f_X2_sizeByLesser_b69 k4) o0 x1 x3 t0 h) else
  if x2 ≤ (t0 + (1 : Int32)) then (
  f_X2_sizeByLesser_b69 k4 o0 x1 x2 x3 h) else
  f_X2_sizeByLesser_b64 (f_X2_sizeByLesser_b69 k4) o0 x1 x3 t0 h
def f_X2_sizeByLesser_b75 (x2 : Int32) (h : mh_H) : Option (Int32 × mh_H) :=
  some (x2, h)
def f_X2_sizeByLesser_b4 : Nat → Nat → Int32 → Int32 → Int32 → mh_H → Option (Int32 × mh_H)
  | 0, _, _, _, _, _ => none
  | n + 1, o0, x1, x2, x3, h =>
    (mh_gR h o0 2 0).bind fun a3 =>
    mh_b2 (mh_cal h a3 1 (f_X1_count_e a3 h)) fun v5 h4 =>
    if v5 ≤ x3 then (
    f_X2_sizeByLesser_b75 x2 h4) else
    (mh_gR h4 o0 2 0).bind fun a6 =>
    mh_b2 (mh_cal h4 a6 1 (f_X1_value_e a6 x3 h4)) fun v8 h7 =>
    mh_nm (x1 - v8) fun v9 =>
    if v9 < 0 then (
    f_X2_sizeByLesser_b43 (f_X2_sizeByLesser_b4 n) o0 x1 x2 x3 (-1 : Int32) h7) else
    (mh_gR h7 o0 2 1).bind fun a10 =>
    (mh_aI h7 a10 0 v9).bind fun v11 =>
    f_X2_sizeByLesser_b43 (f_X2_sizeByLesser_b4 n) o0 x1 x2 x3 v11 h7
def f_X2_sizeByLesser_e (o0 : Nat) (x1 : Int32) (h : mh_H) : Option (Int32 × mh_H) :=
  mh_nm (-1 : Int32) fun v12 =>
  mh_nm (0 : Int32) fun v13 =>
  f_X2_sizeByLesser_b4 mh_fu o0 x1 v12 v13 h
set_option maxRecDepth 100000 in
set_option maxHeartbeats 4000000 in
theorem w_X2_sizeByLesser_b69 {p : Program} {l : Launch} {e : Env} {s : State} {m : MethodId} {args : Array Value} {below : List Frame} {meth : Method} {c : Code} {D : va_G} {ks : Nat → ClassId} {L : List Nat} {r : Int32} {h' : mh_H} (k4 : Nat → Int32 → Int32 → Int32 → mh_H → Option (Int32 × mh_H)) (cx : mh_C p m c cX2_sizeByLesser 6 s args RX2 meth D ks (mh_A L s.heap.size)) (hr : meth.sig.returnType = (some .int))
    (hk4 : ∀ (o0 : Nat) (x1 : Int32) (x2 : Int32) (x3 : Int32) (h : mh_H) (H : Heap) (locs : List Loc) (ls : Array Slot), mh_W D ks L (mh_A L s.heap.size) s.heap h H locs → lv_has ls 6 [(0, .ref o0), (1, .int x1), (2, .int x2), (3, .int x3)] → k4 o0 x1 x2 x3 h = some (r, h') → W p l e (mh_rm 1) s m args below meth c H locs 0 0 (MQ below (mh_Qi D ks L s.heap.size r h') args s 0 0 (mh_A L s.heap.size)) (F0 m 4 ls [])) :
    ∀ (o0 : Nat) (x1 : Int32) (x2 : Int32) (x3 : Int32) (h : mh_H) (H : Heap) (locs : List Loc) (ls : Array Slot), mh_W D ks L (mh_A L s.heap.size) s.heap h H locs → lv_has ls 6 [(0, .ref o0), (1, .int x1), (2, .int x2), (3, .int x3)] → f_X2_sizeByLesser_b69 k4 o0 x1 x2 x3 h = some (r, h') → W p l e (mh_rm 1) s m args below meth c H locs 0 0 (MQ below (mh_Qi D ks L s.heap.size r h') args s 0 0 (mh_A L s.heap.size)) (F0 m 69 ls []) := by
  intro o0 x1 x2 x3 h H locs ls wd hl hX
  have hx := cx.1.1
  have hb := cx.1.2.1
  unfold f_X2_sizeByLesser_b69 at hX
  obtain ⟨v1, ev1, hX⟩ := mh_nmx hX
  refine lv_iinc (k := 3) (v := v1) (lv' := [(3, .int v1), (0, .ref o0), (1, .int x1), (2, .int x2)]) hx hb dX2_sizeByLesser_69 hl rfl ev1 (Nat.le_of_ble_eq_true rfl) rfl (fun ls hl => ?_)
  refine lv_goto (tgt := 4) hx hb dX2_sizeByLesser_72 rfl ?_
  exact hk4 _ _ _ _ h _ _ ls wd (lv_sub hl [1, 2, 3, 0] rfl) hX
set_option maxRecDepth 100000 in
set_option maxHeartbeats 4000000 in
theorem w_X2_sizeByLesser_b64 {p : Program} {l : Launch} {e : Env} {s : State} {m : MethodId} {args : Array Value} {below : List Frame} {meth : Method} {c : Code} {D : va_G} {ks : Nat → ClassId} {L : List Nat} {r : Int32} {h' : mh_H} (k69 : Nat → Int32 → Int32 → Int32 → mh_H → Option (Int32 × mh_H)) (cx : mh_C p m c cX2_sizeByLesser 6 s args RX2 meth D ks (mh_A L s.heap.size)) (hr : meth.sig.returnType = (some .int))
    (hk69 : ∀ (o0 : Nat) (x1 : Int32) (x2 : Int32) (x3 : Int32) (h : mh_H) (H : Heap) (locs : List Loc) (ls : Array Slot), mh_W D ks L (mh_A L s.heap.size) s.heap h H locs → lv_has ls 6 [(0, .ref o0), (1, .int x1), (2, .int x2), (3, .int x3)] → k69 o0 x1 x2 x3 h = some (r, h') → W p l e (mh_rm 1) s m args below meth c H locs 0 0 (MQ below (mh_Qi D ks L s.heap.size r h') args s 0 0 (mh_A L s.heap.size)) (F0 m 69 ls [])) :
    ∀ (o0 : Nat) (x1 : Int32) (x3 : Int32) (x5 : Int32) (h : mh_H) (H : Heap) (locs : List Loc) (ls : Array Slot), mh_W D ks L (mh_A L s.heap.size) s.heap h H locs → lv_has ls 6 [(0, .ref o0), (1, .int x1), (3, .int x3), (5, .int x5)] → f_X2_sizeByLesser_b64 k69 o0 x1 x3 x5 h = some (r, h') → W p l e (mh_rm 1) s m args below meth c H locs 0 0 (MQ below (mh_Qi D ks L s.heap.size r h') args s 0 0 (mh_A L s.heap.size)) (F0 m 64 ls []) := by
  intro o0 x1 x3 x5 h H locs ls wd hl hX
  have hx := cx.1.1
  have hb := cx.1.2.1
  unfold f_X2_sizeByLesser_b64 at hX
  refine lv_iload hx hb dX2_sizeByLesser_64 (lv_at hl 3 rfl) ?_
  refine lv_iconst (v := 1) hx hb dX2_sizeByLesser_66 (by decide) ?_
  refine lv_iadd hx hb dX2_sizeByLesser_67 ?_
  refine mh_topi hX (fun v2 hX => ?_)
  refine lv_istore_n (lv' := [(2, .int v2), (0, .ref o0), (1, .int x1), (3, .int x3), (5, .int x5)]) hx hb dX2_sizeByLesser_68 rfl hl (Nat.le_of_ble_eq_true rfl) rfl (fun ls hl => ?_)
  exact hk69 _ _ _ _ h _ _ ls wd (lv_sub hl [1, 2, 0, 3] rfl) hX
set_option maxRecDepth 100000 in
set_option maxHeartbeats 4000000 in
theorem w_X2_sizeByLesser_b43 {p : Program} {l : Launch} {e : Env} {s : State} {m : MethodId} {args : Array Value} {below : List Frame} {meth : Method} {c : Code} {D : va_G} {ks : Nat → ClassId} {L : List Nat} {r : Int32} {h' : mh_H} (k4 : Nat → Int32 → Int32 → Int32 → mh_H → Option (Int32 × mh_H)) (cx : mh_C p m c cX2_sizeByLesser 6 s args RX2 meth D ks (mh_A L s.heap.size)) (hr : meth.sig.returnType = (some .int))
    (hk4 : ∀ (o0 : Nat) (x1 : Int32) (x2 : Int32) (x3 : Int32) (h : mh_H) (H : Heap) (locs : List Loc) (ls : Array Slot), mh_W D ks L (mh_A L s.heap.size) s.heap h H locs → lv_has ls 6 [(0, .ref o0), (1, .int x1), (2, .int x2), (3, .int x3)] → k4 o0 x1 x2 x3 h = some (r, h') → W p l e (mh_rm 1) s m args below meth c H locs 0 0 (MQ below (mh_Qi D ks L s.heap.size r h') args s 0 0 (mh_A L s.heap.size)) (F0 m 4 ls [])) :
    ∀ (o0 : Nat) (x1 : Int32) (x2 : Int32) (x3 : Int32) (t0 : Int32) (h : mh_H) (H : Heap) (locs : List Loc) (ls : Array Slot), mh_W D ks L (mh_A L s.heap.size) s.heap h H locs → lv_has ls 6 [(0, .ref o0), (1, .int x1), (2, .int x2), (3, .int x3)] → f_X2_sizeByLesser_b43 k4 o0 x1 x2 x3 t0 h = some (r, h') → W p l e (mh_rm 1) s m args below meth c H locs 0 0 (MQ below (mh_Qi D ks L s.heap.size r h') args s 0 0 (mh_A L s.heap.size)) (F0 m 43 ls [.int t0]) := by
  intro o0 x1 x2 x3 t0 h H locs ls wd hl hX
  have hx := cx.1.1
  have hb := cx.1.2.1
  unfold f_X2_sizeByLesser_b43 at hX
  refine lv_istore (lv' := [(5, .int t0), (0, .ref o0), (1, .int x1), (2, .int x2), (3, .int x3)]) hx hb dX2_sizeByLesser_43 hl (Nat.le_of_ble_eq_true rfl) rfl (fun ls hl => ?_)
  refine lv_iload hx hb dX2_sizeByLesser_45 (lv_at hl 0 rfl) ?_
  refine lv_iconst (v := (-1)) hx hb dX2_sizeByLesser_47 (by decide) ?_
  refine lv_icmp_eq (tgt := 69) hx hb dX2_sizeByLesser_48 rfl (fun hc => (fun hX => ?_) ((mh_if hX).1 hc)) (fun hc => (fun hX => ?_) ((mh_if hX).2 hc))
  · exact w_X2_sizeByLesser_b69 k4 cx hr hk4 _ _ _ _ h _ _ ls wd (lv_sub hl [1, 2, 3, 4] rfl) hX
  · refine lv_iload_n hx hb dX2_sizeByLesser_51 rfl (lv_at hl 3 rfl) ?_
    refine lv_iconst (v := (-1)) hx hb dX2_sizeByLesser_52 (by decide) ?_
    refine lv_icmp_eq (tgt := 64) hx hb dX2_sizeByLesser_53 rfl (fun hc => (fun hX => ?_) ((mh_if hX).1 hc)) (fun hc => (fun hX => ?_) ((mh_if hX).2 hc))
    · exact w_X2_sizeByLesser_b64 (f_X2_sizeByLesser_b69 k4) cx hr (w_X2_sizeByLesser_b69 k4 cx hr hk4) _ _ _ _ h _ _ ls wd (lv_sub hl [1, 2, 4, 0] rfl) hX
    · refine lv_iload hx hb dX2_sizeByLesser_56 (lv_at hl 0 rfl) ?_
      refine lv_iconst (v := 1) hx hb dX2_sizeByLesser_58 (by decide) ?_
      refine lv_iadd hx hb dX2_sizeByLesser_59 ?_
      refine lv_iload_n hx hb dX2_sizeByLesser_60 rfl (lv_at hl 3 rfl) ?_
      refine lv_icmp_ge (tgt := 69) hx hb dX2_sizeByLesser_61 rfl (fun hc => (fun hX => ?_) ((mh_if hX).1 hc)) (fun hc => (fun hX => ?_) ((mh_if hX).2 hc))
      · exact w_X2_sizeByLesser_b69 k4 cx hr hk4 _ _ _ _ h _ _ ls wd (lv_sub hl [1, 2, 3, 4] rfl) hX
      · exact w_X2_sizeByLesser_b64 (f_X2_sizeByLesser_b69 k4) cx hr (w_X2_sizeByLesser_b69 k4 cx hr hk4) _ _ _ _ h _ _ ls wd (lv_sub hl [1, 2, 4, 0] rfl) hX
set_option maxRecDepth 100000 in
set_option maxHeartbeats 4000000 in
theorem w_X2_sizeByLesser_b75 {p : Program} {l : Launch} {e : Env} {s : State} {m : MethodId} {args : Array Value} {below : List Frame} {meth : Method} {c : Code} {D : va_G} {ks : Nat → ClassId} {L : List Nat} {r : Int32} {h' : mh_H} (cx : mh_C p m c cX2_sizeByLesser 6 s args RX2 meth D ks (mh_A L s.heap.size)) (hr : meth.sig.returnType = (some .int)) :
    ∀ (x2 : Int32) (h : mh_H) (H : Heap) (locs : List Loc) (ls : Array Slot), mh_W D ks L (mh_A L s.heap.size) s.heap h H locs → lv_has ls 6 [(2, .int x2)] → f_X2_sizeByLesser_b75 x2 h = some (r, h') → W p l e (mh_rm 1) s m args below meth c H locs 0 0 (MQ below (mh_Qi D ks L s.heap.size r h') args s 0 0 (mh_A L s.heap.size)) (F0 m 75 ls []) := by
  intro x2 h H locs ls wd hl hX
  have hx := cx.1.1
  have hb := cx.1.2.1
  unfold f_X2_sizeByLesser_b75 at hX
  refine lv_iload_n hx hb dX2_sizeByLesser_75 rfl (lv_at hl 0 rfl) ?_
  exact mh_iret cx wd hr hX dX2_sizeByLesser_76
set_option maxRecDepth 100000 in
set_option maxHeartbeats 4000000 in
theorem w_X2_sizeByLesser_b4 {p : Program} {l : Launch} {e : Env} {s : State} {m : MethodId} {args : Array Value} {below : List Frame} {meth : Method} {c : Code} {D : va_G} {ks : Nat → ClassId} {L : List Nat} {r : Int32} {h' : mh_H} (cx : mh_C p m c cX2_sizeByLesser 6 s args RX2 meth D ks (mh_A L s.heap.size)) (hr : meth.sig.returnType = (some .int)) :
    ∀ n : Nat, ∀ (o0 : Nat) (x1 : Int32) (x2 : Int32) (x3 : Int32) (h : mh_H) (H : Heap) (locs : List Loc) (ls : Array Slot), mh_W D ks L (mh_A L s.heap.size) s.heap h H locs → lv_has ls 6 [(0, .ref o0), (1, .int x1), (2, .int x2), (3, .int x3)] → f_X2_sizeByLesser_b4 n o0 x1 x2 x3 h = some (r, h') → W p l e (mh_rm 1) s m args below meth c H locs 0 0 (MQ below (mh_Qi D ks L s.heap.size r h') args s 0 0 (mh_A L s.heap.size)) (F0 m 4 ls []) := by
  intro n
  induction n with
  | zero =>
    intro o0 x1 x2 x3 h H locs ls wd hl hX
    cases hX
  | succ n ih =>
    intro o0 x1 x2 x3 h H locs ls wd hl hX
    have hx := cx.1.1
    have hb := cx.1.2.1
    rw [f_X2_sizeByLesser_b4] at hX
    refine lv_iload_n hx hb dX2_sizeByLesser_4 rfl (lv_at hl 3 rfl) ?_
    refine lv_aload_n hx hb dX2_sizeByLesser_5 rfl (lv_at hl 0 rfl) ?_
    refine mh_getR cx wd fl_X2_12 dX2_sizeByLesser_6 hX (fun a3 hX => ?_)
    refine mh_callVI cx wd [] (rfl : vwCl[1]? = some (RX1, TX1, 2)) yw_X1_count vw_X2_50 rfl hl.1 rfl (Nat.le_of_ble_eq_true rfl) dX2_sizeByLesser_9 ⟨Nat.le_of_ble_eq_true rfl, Nat.le_of_ble_eq_true rfl⟩ ⟨Nat.le_refl _, Nat.le_refl _⟩ (fun _ _ q => c_X1_count q) hX (fun v5 h4 H locs wd hX => ?_)
    refine lv_icmp_ge (tgt := 75) hx hb dX2_sizeByLesser_12 rfl (fun hc => (fun hX => ?_) ((mh_if hX).1 hc)) (fun hc => (fun hX => ?_) ((mh_if hX).2 hc))
    · exact w_X2_sizeByLesser_b75 cx hr _ h4 _ _ ls wd (lv_sub hl [2] rfl) hX
    · refine lv_iload_n hx hb dX2_sizeByLesser_15 rfl (lv_at hl 1 rfl) ?_
      refine lv_aload_n hx hb dX2_sizeByLesser_16 rfl (lv_at hl 0 rfl) ?_
      refine mh_getR cx wd fl_X2_12 dX2_sizeByLesser_17 hX (fun a6 hX => ?_)
      refine lv_iload_n hx hb dX2_sizeByLesser_20 rfl (lv_at hl 3 rfl) ?_
      refine mh_callVI cx wd [.int x3] (rfl : vwCl[1]? = some (RX1, TX1, 2)) yw_X1_value vw_X2_54 rfl hl.1 rfl (Nat.le_of_ble_eq_true rfl) dX2_sizeByLesser_21 ⟨Nat.le_of_ble_eq_true rfl, Nat.le_of_ble_eq_true rfl⟩ ⟨Nat.le_refl _, Nat.le_refl _⟩ (fun _ _ q => c_X1_value q) hX (fun v8 h7 H locs wd hX => ?_)
      refine lv_isub hx hb dX2_sizeByLesser_24 ?_
      refine mh_topi hX (fun v9 hX => ?_)
      refine lv_istore (lv' := [(4, .int v9), (0, .ref o0), (1, .int x1), (2, .int x2), (3, .int x3)]) hx hb dX2_sizeByLesser_25 hl (Nat.le_of_ble_eq_true rfl) rfl (fun ls hl => ?_)
      refine lv_iload hx hb dX2_sizeByLesser_27 (lv_at hl 0 rfl) ?_
      refine lv_if_lt (tgt := 42) hx hb dX2_sizeByLesser_29 rfl (fun hc => (fun hX => ?_) ((mh_if hX).1 hc)) (fun hc => (fun hX => ?_) ((mh_if hX).2 hc))
      · refine lv_iconst (v := (-1)) hx hb dX2_sizeByLesser_42 (by decide) ?_
        exact w_X2_sizeByLesser_b43 (f_X2_sizeByLesser_b4 n) cx hr ih _ _ _ _ _ h7 _ _ ls wd (lv_sub hl [1, 2, 3, 4] rfl) hX
      · refine lv_aload_n hx hb dX2_sizeByLesser_32 rfl (lv_at hl 1 rfl) ?_
        refine mh_getR cx wd fl_X2_19 dX2_sizeByLesser_33 hX (fun a10 hX => ?_)
        refine lv_iload hx hb dX2_sizeByLesser_36 (lv_at hl 0 rfl) ?_
        refine mh_iald cx wd dX2_sizeByLesser_38 hX (fun v11 hX => ?_)
        refine lv_goto (tgt := 43) hx hb dX2_sizeByLesser_39 rfl ?_
        exact w_X2_sizeByLesser_b43 (f_X2_sizeByLesser_b4 n) cx hr ih _ _ _ _ _ h7 _ _ ls wd (lv_sub hl [1, 2, 3, 4] rfl) hX
set_option maxRecDepth 100000 in
set_option maxHeartbeats 4000000 in
theorem w_X2_sizeByLesser_e {p : Program} {l : Launch} {e : Env} {s : State} {m : MethodId} {args : Array Value} {below : List Frame} {meth : Method} {c : Code} {D : va_G} {ks : Nat → ClassId} {L : List Nat} {r : Int32} {h' : mh_H} (cx : mh_C p m c cX2_sizeByLesser 6 s args RX2 meth D ks (mh_A L s.heap.size)) (hr : meth.sig.returnType = (some .int)) :
    ∀ (o0 : Nat) (x1 : Int32) (h : mh_H) (H : Heap) (locs : List Loc) (ls : Array Slot), mh_W D ks L (mh_A L s.heap.size) s.heap h H locs → lv_has ls 6 [(0, .ref o0), (1, .int x1)] → f_X2_sizeByLesser_e o0 x1 h = some (r, h') → W p l e (mh_rm 1) s m args below meth c H locs 0 0 (MQ below (mh_Qi D ks L s.heap.size r h') args s 0 0 (mh_A L s.heap.size)) (F0 m 0 ls []) := by
  intro o0 x1 h H locs ls wd hl hX
  have hx := cx.1.1
  have hb := cx.1.2.1
  unfold f_X2_sizeByLesser_e at hX
  refine lv_iconst (v := (-1)) hx hb dX2_sizeByLesser_0 (by decide) ?_
  refine mh_topi hX (fun v12 hX => ?_)
  refine lv_istore_n (lv' := [(2, .int v12), (0, .ref o0), (1, .int x1)]) hx hb dX2_sizeByLesser_1 rfl hl (Nat.le_of_ble_eq_true rfl) rfl (fun ls hl => ?_)
  refine lv_iconst (v := 0) hx hb dX2_sizeByLesser_2 (by decide) ?_
  refine mh_topi hX (fun v13 hX => ?_)
  refine lv_istore_n (lv' := [(3, .int v13), (2, .int v12), (0, .ref o0), (1, .int x1)]) hx hb dX2_sizeByLesser_3 rfl hl (Nat.le_of_ble_eq_true rfl) rfl (fun ls hl => ?_)
  exact w_X2_sizeByLesser_b4 cx hr mh_fu _ _ _ _ h _ _ ls wd (lv_sub hl [2, 3, 1, 0] rfl) hX
set_option maxRecDepth 100000 in
theorem c_X2_sizeByLesser {l : Launch} {L : List Nat} {h h' : mh_H} {r : Int32} {o0 : Nat} {x1 : Int32} (hX : f_X2_sizeByLesser_e o0 x1 h = some (r, h')) : mh_MI l yX2_sizeByLesser (Cond.code yX2_sizeByLesser cX2_sizeByLesser 6 (some .int) :: mh_TB) (mh_rm 1) [.ref o0, .int x1] L h r h' :=
  mh_of (mc := 0) (ms := 0) (Qc := fun D ks sz => mh_Qi D ks L sz r h') (plainFor_of_name (by decide)) (Nat.le_of_ble_eq_true rfl) (fun p e s m below meth c D ks ls hr cx wd hl => by
    have hl : lv_has ls 6 [(0, .ref o0), (1, .int x1)] := hl
    exact w_X2_sizeByLesser_e cx hr o0 x1 h _ _ ls wd hl hX)
def f_X2_sizeInTable_b10 (h : mh_H) : Option (Int32 × mh_H) :=
  some ((-1 : Int32), h)
def f_X2_sizeInTable_b50 (o0 : Nat) (x1 : Int32) (h : mh_H) : Option (Int32 × mh_H) :=
  (mh_gR h o0 2 1).bind fun a1 =>
  (mh_aI h a1 0 x1).bind fun v2 =>
  some (v2, h)
def f_X2_sizeInTable_b12 : Nat → Nat → Int32 → mh_H → Option (Int32 × mh_H)
  | 0, _, _, _ => none
  | n + 1, o0, x1, h =>
    (mh_gI h o0 2 3).bind fun v3 =>
    if x1 ≤ v3 then (
    f_X2_sizeInTable_b50 o0 x1 h) else
    (mh_gI h o0 2 3).bind fun v4 =>
    (mh_pI h o0 2 3 (v4 + (1 : Int32))).bind fun h5 =>
    (mh_gR h5 o0 2 1).bind fun a6 =>
    (mh_gI h5 o0 2 3).bind fun v7 =>
    (mh_gI h5 o0 2 3).bind fun v8 =>
    mh_b2 (mh_cal h5 o0 2 (f_X2_sizeByLesser_e o0 v8 h5)) fun v10 h9 =>
    (mh_sI h9 a6 v7 v10).bind fun h11 =>
    f_X2_sizeInTable_b12 n o0 x1 h11
def f_X2_sizeInTable_e (o0 : Nat) (x1 : Int32) (h : mh_H) : Option (Int32 × mh_H) :=
  if x1 < 0 then (
  f_X2_sizeInTable_b10 h) else
  if x1 < (90000 : Int32) then (
  f_X2_sizeInTable_b12 mh_fu o0 x1 h) else
  f_X2_sizeInTable_b10 h
set_option maxRecDepth 100000 in
set_option maxHeartbeats 4000000 in
theorem w_X2_sizeInTable_b10 {p : Program} {l : Launch} {e : Env} {s : State} {m : MethodId} {args : Array Value} {below : List Frame} {meth : Method} {c : Code} {D : va_G} {ks : Nat → ClassId} {L : List Nat} {r : Int32} {h' : mh_H} (cx : mh_C p m c cX2_sizeInTable 2 s args RX2 meth D ks (mh_A L s.heap.size)) (hr : meth.sig.returnType = (some .int)) :
    ∀ (h : mh_H) (H : Heap) (locs : List Loc) (ls : Array Slot), mh_W D ks L (mh_A L s.heap.size) s.heap h H locs → lv_has ls 2 [] → f_X2_sizeInTable_b10  h = some (r, h') → W p l e (mh_rm 2) s m args below meth c H locs 0 0 (MQ below (mh_Qi D ks L s.heap.size r h') args s 0 0 (mh_A L s.heap.size)) (F0 m 10 ls []) := by
  intro  h H locs ls wd hl hX
  have hx := cx.1.1
  have hb := cx.1.2.1
  unfold f_X2_sizeInTable_b10 at hX
  refine lv_iconst (v := (-1)) hx hb dX2_sizeInTable_10 (by decide) ?_
  exact mh_iret cx wd hr hX dX2_sizeInTable_11
set_option maxRecDepth 100000 in
set_option maxHeartbeats 4000000 in
theorem w_X2_sizeInTable_b50 {p : Program} {l : Launch} {e : Env} {s : State} {m : MethodId} {args : Array Value} {below : List Frame} {meth : Method} {c : Code} {D : va_G} {ks : Nat → ClassId} {L : List Nat} {r : Int32} {h' : mh_H} (cx : mh_C p m c cX2_sizeInTable 2 s args RX2 meth D ks (mh_A L s.heap.size)) (hr : meth.sig.returnType = (some .int)) :
    ∀ (o0 : Nat) (x1 : Int32) (h : mh_H) (H : Heap) (locs : List Loc) (ls : Array Slot), mh_W D ks L (mh_A L s.heap.size) s.heap h H locs → lv_has ls 2 [(0, .ref o0), (1, .int x1)] → f_X2_sizeInTable_b50 o0 x1 h = some (r, h') → W p l e (mh_rm 2) s m args below meth c H locs 0 0 (MQ below (mh_Qi D ks L s.heap.size r h') args s 0 0 (mh_A L s.heap.size)) (F0 m 50 ls []) := by
  intro o0 x1 h H locs ls wd hl hX
  have hx := cx.1.1
  have hb := cx.1.2.1
  unfold f_X2_sizeInTable_b50 at hX
  refine lv_aload_n hx hb dX2_sizeInTable_50 rfl (lv_at hl 0 rfl) ?_
  refine mh_getR cx wd fl_X2_19 dX2_sizeInTable_51 hX (fun a1 hX => ?_)
  refine lv_iload_n hx hb dX2_sizeInTable_54 rfl (lv_at hl 1 rfl) ?_
  refine mh_iald cx wd dX2_sizeInTable_55 hX (fun v2 hX => ?_)
  exact mh_iret cx wd hr hX dX2_sizeInTable_56
set_option maxRecDepth 100000 in
set_option maxHeartbeats 4000000 in
theorem w_X2_sizeInTable_b12 {p : Program} {l : Launch} {e : Env} {s : State} {m : MethodId} {args : Array Value} {below : List Frame} {meth : Method} {c : Code} {D : va_G} {ks : Nat → ClassId} {L : List Nat} {r : Int32} {h' : mh_H} (cx : mh_C p m c cX2_sizeInTable 2 s args RX2 meth D ks (mh_A L s.heap.size)) (hr : meth.sig.returnType = (some .int)) :
    ∀ n : Nat, ∀ (o0 : Nat) (x1 : Int32) (h : mh_H) (H : Heap) (locs : List Loc) (ls : Array Slot), mh_W D ks L (mh_A L s.heap.size) s.heap h H locs → lv_has ls 2 [(0, .ref o0), (1, .int x1)] → f_X2_sizeInTable_b12 n o0 x1 h = some (r, h') → W p l e (mh_rm 2) s m args below meth c H locs 0 0 (MQ below (mh_Qi D ks L s.heap.size r h') args s 0 0 (mh_A L s.heap.size)) (F0 m 12 ls []) := by
  intro n
  induction n with
  | zero =>
    intro o0 x1 h H locs ls wd hl hX
    cases hX
  | succ n ih =>
    intro o0 x1 h H locs ls wd hl hX
    have hx := cx.1.1
    have hb := cx.1.2.1
    rw [f_X2_sizeInTable_b12] at hX
    refine lv_aload_n hx hb dX2_sizeInTable_12 rfl (lv_at hl 0 rfl) ?_
    refine mh_getI cx wd fl_X2_30 dX2_sizeInTable_13 hX (fun v3 hX => ?_)
    refine lv_iload_n hx hb dX2_sizeInTable_16 rfl (lv_at hl 1 rfl) ?_
    refine lv_icmp_ge (tgt := 50) hx hb dX2_sizeInTable_17 rfl (fun hc => (fun hX => ?_) ((mh_if hX).1 hc)) (fun hc => (fun hX => ?_) ((mh_if hX).2 hc))
    · exact w_X2_sizeInTable_b50 cx hr _ _ h _ _ ls wd (lv_sub hl [0, 1] rfl) hX
    · refine lv_aload_n hx hb dX2_sizeInTable_20 rfl (lv_at hl 0 rfl) ?_
      refine lv_dup hx hb dX2_sizeInTable_21 rfl ?_
      refine mh_getI cx wd fl_X2_30 dX2_sizeInTable_22 hX (fun v4 hX => ?_)
      refine lv_iconst (v := 1) hx hb dX2_sizeInTable_25 (by decide) ?_
      refine lv_iadd hx hb dX2_sizeInTable_26 ?_
      refine mh_putI cx wd fp_X2_30 dX2_sizeInTable_27 hX (fun h5 H locs wd hX => ?_)
      refine lv_aload_n hx hb dX2_sizeInTable_30 rfl (lv_at hl 0 rfl) ?_
      refine mh_getR cx wd fl_X2_19 dX2_sizeInTable_31 hX (fun a6 hX => ?_)
      refine lv_aload_n hx hb dX2_sizeInTable_34 rfl (lv_at hl 0 rfl) ?_
      refine mh_getI cx wd fl_X2_30 dX2_sizeInTable_35 hX (fun v7 hX => ?_)
      refine lv_aload_n hx hb dX2_sizeInTable_38 rfl (lv_at hl 0 rfl) ?_
      refine lv_aload_n hx hb dX2_sizeInTable_39 rfl (lv_at hl 0 rfl) ?_
      refine mh_getI cx wd fl_X2_30 dX2_sizeInTable_40 hX (fun v8 hX => ?_)
      refine mh_callVI cx wd [.int v8] (rfl : vwCl[2]? = some (RX2, TX2, 5)) yw_X2_sizeByLesser vw_X2_46 rfl hl.1 rfl (Nat.le_of_ble_eq_true rfl) dX2_sizeInTable_43 ⟨Nat.le_of_ble_eq_true rfl, Nat.le_of_ble_eq_true rfl⟩ ⟨Nat.le_refl _, Nat.le_refl _⟩ (fun _ _ q => c_X2_sizeByLesser q) hX (fun v10 h9 H locs wd hX => ?_)
      refine mh_iast cx wd dX2_sizeInTable_46 hX (fun h11 H locs wd hX => ?_)
      refine lv_goto (tgt := 12) hx hb dX2_sizeInTable_47 rfl ?_
      exact ih _ _ h11 _ _ ls wd (lv_sub hl [0, 1] rfl) hX
set_option maxRecDepth 100000 in
set_option maxHeartbeats 4000000 in
theorem w_X2_sizeInTable_e {p : Program} {l : Launch} {e : Env} {s : State} {m : MethodId} {args : Array Value} {below : List Frame} {meth : Method} {c : Code} {D : va_G} {ks : Nat → ClassId} {L : List Nat} {r : Int32} {h' : mh_H} (cx : mh_C p m c cX2_sizeInTable 2 s args RX2 meth D ks (mh_A L s.heap.size)) (hr : meth.sig.returnType = (some .int)) :
    ∀ (o0 : Nat) (x1 : Int32) (h : mh_H) (H : Heap) (locs : List Loc) (ls : Array Slot), mh_W D ks L (mh_A L s.heap.size) s.heap h H locs → lv_has ls 2 [(0, .ref o0), (1, .int x1)] → f_X2_sizeInTable_e o0 x1 h = some (r, h') → W p l e (mh_rm 2) s m args below meth c H locs 0 0 (MQ below (mh_Qi D ks L s.heap.size r h') args s 0 0 (mh_A L s.heap.size)) (F0 m 0 ls []) := by
  intro o0 x1 h H locs ls wd hl hX
  have hx := cx.1.1
  have hb := cx.1.2.1
  unfold f_X2_sizeInTable_e at hX
  refine lv_iload_n hx hb dX2_sizeInTable_0 rfl (lv_at hl 1 rfl) ?_
  refine lv_if_lt (tgt := 10) hx hb dX2_sizeInTable_1 rfl (fun hc => (fun hX => ?_) ((mh_if hX).1 hc)) (fun hc => (fun hX => ?_) ((mh_if hX).2 hc))
  · exact w_X2_sizeInTable_b10 cx hr  h _ _ ls wd (lv_sub hl [] rfl) hX
  · refine lv_iload_n hx hb dX2_sizeInTable_4 rfl (lv_at hl 1 rfl) ?_
    refine mh_ldc cx kc_X2_18 dX2_sizeInTable_5 ?_
    refine lv_icmp_lt (tgt := 12) hx hb dX2_sizeInTable_7 rfl (fun hc => (fun hX => ?_) ((mh_if hX).1 hc)) (fun hc => (fun hX => ?_) ((mh_if hX).2 hc))
    · exact w_X2_sizeInTable_b12 cx hr mh_fu _ _ h _ _ ls wd (lv_sub hl [0, 1] rfl) hX
    · exact w_X2_sizeInTable_b10 cx hr  h _ _ ls wd (lv_sub hl [] rfl) hX
set_option maxRecDepth 100000 in
theorem c_X2_sizeInTable {l : Launch} {L : List Nat} {h h' : mh_H} {r : Int32} {o0 : Nat} {x1 : Int32} (hX : f_X2_sizeInTable_e o0 x1 h = some (r, h')) : mh_MI l yX2_sizeInTable (Cond.code yX2_sizeInTable cX2_sizeInTable 2 (some .int) :: mh_TB) (mh_rm 2) [.ref o0, .int x1] L h r h' :=
  mh_of (mc := 0) (ms := 0) (Qc := fun D ks sz => mh_Qi D ks L sz r h') (plainFor_of_name (by decide)) (Nat.le_of_ble_eq_true rfl) (fun p e s m below meth c D ks ls hr cx wd hl => by
    have hl : lv_has ls 2 [(0, .ref o0), (1, .int x1)] := hl
    exact w_X2_sizeInTable_e cx hr o0 x1 h _ _ ls wd hl hX)
