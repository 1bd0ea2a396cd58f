def f_X8_allowAll_b56 (h : mh_H) : Option mh_H :=
  some h
def f_X8_allowAll_b6 : Nat → Nat → Int32 → Int64 → Int32 → Int32 → mh_H → Option mh_H
  | 0, _, _, _, _, _, _ => none
  | n + 1, o0, x2, y3, x5, x6, h =>
    if x5 ≤ 0 then (
    f_X8_allowAll_b56 h) else
    if (20 : Int32) < x6 then (
    f_X8_allowAll_b56 h) else
    mh_nm (if x5 < x6 then x5 else x6) fun v1 =>
    (mh_cal h o0 8 (f_X8_allow_e o0 (v1 * x2) ((v1).toInt64 * y3) h)).bind fun h2 =>
    mh_nm (x5 - v1) fun v3 =>
    mh_nm (x6 * (2 : Int32)) fun v4 =>
    f_X8_allowAll_b6 n o0 x2 y3 v3 v4 h2
def f_X8_allowAll_e (o0 : Nat) (x1 : Int32) (x2 : Int32) (y3 : Int64) (h : mh_H) : Option mh_H :=
  mh_nm (1 : Int32) fun v5 =>
  f_X8_allowAll_b6 mh_fu o0 x2 y3 x1 v5 h
set_option maxRecDepth 100000 in
set_option maxHeartbeats 4000000 in
theorem w_X8_allowAll_b56 {p : Program} {l : Launch} {e : Env} {s : State} {m : MethodId} {args : Array Value} {below : List Frame} {meth : Method} {c : Code} {D : va_G} {ks : Nat → ClassId} {L : List Nat} {h' : mh_H} (cx : mh_C p m c cX8_allowAll 8 s args RX8 meth D ks (mh_A L s.heap.size)) (hr : meth.sig.returnType = none) :
    ∀ (h : mh_H) (H : Heap) (locs : List Loc) (ls : Array Slot), mh_W D ks L (mh_A L s.heap.size) s.heap h H locs → lv_has ls 8 [] → f_X8_allowAll_b56  h = some h' → W p l e (mh_rm 1) s m args below meth c H locs 0 0 (MQ below (mh_Qv D ks L s.heap.size h') args s 0 0 (mh_A L s.heap.size)) (F0 m 56 ls []) := by
  intro  h H locs ls wd hl hX
  have hx := cx.1.1
  have hb := cx.1.2.1
  unfold f_X8_allowAll_b56 at hX
  exact mh_vret cx wd hr hX dX8_allowAll_56
set_option maxRecDepth 100000 in
set_option maxHeartbeats 4000000 in
theorem w_X8_allowAll_b6 {p : Program} {l : Launch} {e : Env} {s : State} {m : MethodId} {args : Array Value} {below : List Frame} {meth : Method} {c : Code} {D : va_G} {ks : Nat → ClassId} {L : List Nat} {h' : mh_H} (cx : mh_C p m c cX8_allowAll 8 s args RX8 meth D ks (mh_A L s.heap.size)) (hr : meth.sig.returnType = none) :
    ∀ n : Nat, ∀ (o0 : Nat) (x2 : Int32) (y3 : Int64) (x5 : Int32) (x6 : Int32) (h : mh_H) (H : Heap) (locs : List Loc) (ls : Array Slot), mh_W D ks L (mh_A L s.heap.size) s.heap h H locs → lv_has ls 8 [(0, .ref o0), (2, .int x2), (3, .long y3), (5, .int x5), (6, .int x6)] → f_X8_allowAll_b6 n o0 x2 y3 x5 x6 h = some h' → W p l e (mh_rm 1) s m args below meth c H locs 0 0 (MQ below (mh_Qv D ks L s.heap.size h') args s 0 0 (mh_A L s.heap.size)) (F0 m 6 ls []) := by
  intro n
  induction n with
  | zero =>
    intro o0 x2 y3 x5 x6 h H locs ls wd hl hX
    cases hX
  | succ n ih =>
    intro o0 x2 y3 x5 x6 h H locs ls wd hl hX
    have hx := cx.1.1
    have hb := cx.1.2.1
    rw [f_X8_allowAll_b6] at hX
    refine lv_iload hx hb dX8_allowAll_6 (lv_at hl 3 rfl) ?_
    refine lv_if_le (tgt := 56) hx hb dX8_allowAll_8 rfl (fun hc => (fun hX => ?_) ((mh_if hX).1 hc)) (fun hc => (fun hX => ?_) ((mh_if hX).2 hc))
    · exact w_X8_allowAll_b56 cx hr  h _ _ ls wd (lv_sub hl [] rfl) hX
    · refine lv_iload hx hb dX8_allowAll_11 (lv_at hl 4 rfl) ?_
      refine lv_bipush (v := 20) hx hb dX8_allowAll_13 (by decide) ?_
      refine lv_icmp_gt (tgt := 56) hx hb dX8_allowAll_15 rfl (fun hc => (fun hX => ?_) ((mh_if hX).1 hc)) (fun hc => (fun hX => ?_) ((mh_if hX).2 hc))
      · exact w_X8_allowAll_b56 cx hr  h _ _ ls wd (lv_sub hl [] rfl) hX
      · refine lv_iload hx hb dX8_allowAll_18 (lv_at hl 4 rfl) ?_
        refine lv_iload hx hb dX8_allowAll_20 (lv_at hl 3 rfl) ?_
        refine mh_mmin mh_Mok cx hl.1 km_X8_67 (Nat.le_of_ble_eq_true rfl) (Nat.le_of_ble_eq_true rfl) ⟨Nat.le_refl _, Nat.le_refl _⟩ dX8_allowAll_22 ?_
        refine mh_topi hX (fun v1 hX => ?_)
        refine lv_istore (lv' := [(7, .int v1), (0, .ref o0), (2, .int x2), (3, .long y3), (5, .int x5), (6, .int x6)]) hx hb dX8_allowAll_25 hl (Nat.le_of_ble_eq_true rfl) rfl (fun ls hl => ?_)
        refine lv_aload_n hx hb dX8_allowAll_27 rfl (lv_at hl 1 rfl) ?_
        refine lv_iload hx hb dX8_allowAll_28 (lv_at hl 0 rfl) ?_
        refine lv_iload_n hx hb dX8_allowAll_30 rfl (lv_at hl 2 rfl) ?_
        refine lv_imul hx hb dX8_allowAll_31 ?_
        refine lv_iload hx hb dX8_allowAll_32 (lv_at hl 0 rfl) ?_
        refine lv_i2l hx hb dX8_allowAll_34 rfl ?_
        refine lv_lload_n hx hb dX8_allowAll_35 rfl (lv_at hl 3 rfl) ?_
        refine lv_lmul hx hb dX8_allowAll_36 ?_
        refine mh_callVV cx wd [.int (v1 * x2), .long ((v1).toInt64 * y3)] (rfl : vwCl[8]? = some (RX8, TX8, 3)) yw_X8_allow vw_X8_73 rfl hl.1 rfl (Nat.le_of_ble_eq_true rfl) dX8_allowAll_37 ⟨Nat.le_of_ble_eq_true rfl, Nat.le_of_ble_eq_true rfl⟩ ⟨Nat.le_refl _, Nat.le_refl _⟩ (fun _ q => c_X8_allow q) hX (fun h2 H locs wd hX => ?_)
        refine lv_iload hx hb dX8_allowAll_40 (lv_at hl 4 rfl) ?_
        refine lv_iload hx hb dX8_allowAll_42 (lv_at hl 0 rfl) ?_
        refine lv_isub hx hb dX8_allowAll_44 ?_
        refine mh_topi hX (fun v3 hX => ?_)
        refine lv_istore (lv' := [(5, .int v3), (7, .int v1), (0, .ref o0), (2, .int x2), (3, .long y3), (6, .int x6)]) hx hb dX8_allowAll_45 hl (Nat.le_of_ble_eq_true rfl) rfl (fun ls hl => ?_)
        refine lv_iload hx hb dX8_allowAll_47 (lv_at hl 5 rfl) ?_
        refine lv_iconst (v := 2) hx hb dX8_allowAll_49 (by decide) ?_
        refine lv_imul hx hb dX8_allowAll_50 ?_
        refine mh_topi hX (fun v4 hX => ?_)
        refine lv_istore (lv' := [(6, .int v4), (5, .int v3), (7, .int v1), (0, .ref o0), (2, .int x2), (3, .long y3)]) hx hb dX8_allowAll_51 hl (Nat.le_of_ble_eq_true rfl) rfl (fun ls hl => ?_)
        refine lv_goto (tgt := 6) hx hb dX8_allowAll_53 rfl ?_
        exact ih _ _ _ _ _ h2 _ _ ls wd (lv_sub hl [3, 4, 5, 1, 0] rfl) hX
set_option maxRecDepth 100000 in
set_option maxHeartbeats 4000000 in
theorem w_X8_allowAll_e {p : Program} {l : Launch} {e : Env} {s : State} {m : MethodId} {args : Array Value} {below : List Frame} {meth : Method} {c : Code} {D : va_G} {ks : Nat → ClassId} {L : List Nat} {h' : mh_H} (cx : mh_C p m c cX8_allowAll 8 s args RX8 meth D ks (mh_A L s.heap.size)) (hr : meth.sig.returnType = none) :
    ∀ (o0 : Nat) (x1 : Int32) (x2 : Int32) (y3 : Int64) (h : mh_H) (H : Heap) (locs : List Loc) (ls : Array Slot), mh_W D ks L (mh_A L s.heap.size) s.heap h H locs → lv_has ls 8 [(0, .ref o0), (1, .int x1), (2, .int x2), (3, .long y3)] → f_X8_allowAll_e o0 x1 x2 y3 h = some h' → W p l e (mh_rm 1) s m args below meth c H locs 0 0 (MQ below (mh_Qv D ks L s.heap.size h') args s 0 0 (mh_A L s.heap.size)) (F0 m 0 ls []) := by
  intro o0 x1 x2 y3 h H locs ls wd hl hX
  have hx := cx.1.1
  have hb := cx.1.2.1
  unfold f_X8_allowAll_e at hX
  refine lv_iload_n hx hb dX8_allowAll_0 rfl (lv_at hl 1 rfl) ?_
  refine lv_istore (lv' := [(5, .int x1), (0, .ref o0), (1, .int x1), (2, .int x2), (3, .long y3)]) hx hb dX8_allowAll_1 hl (Nat.le_of_ble_eq_true rfl) rfl (fun ls hl => ?_)
  refine lv_iconst (v := 1) hx hb dX8_allowAll_3 (by decide) ?_
  refine mh_topi hX (fun v5 hX => ?_)
  refine lv_istore (lv' := [(6, .int v5), (5, .int x1), (0, .ref o0), (1, .int x1), (2, .int x2), (3, .long y3)]) hx hb dX8_allowAll_4 hl (Nat.le_of_ble_eq_true rfl) rfl (fun ls hl => ?_)
  exact w_X8_allowAll_b6 cx hr mh_fu _ _ _ _ _ h _ _ ls wd (lv_sub hl [2, 4, 5, 1, 0] rfl) hX
set_option maxRecDepth 100000 in
theorem c_X8_allowAll {l : Launch} {L : List Nat} {h h' : mh_H} {o0 : Nat} {x1 : Int32} {x2 : Int32} {y3 : Int64} (hX : f_X8_allowAll_e o0 x1 x2 y3 h = some h') : mh_MV l yX8_allowAll (Cond.code yX8_allowAll cX8_allowAll 8 none :: mh_TB) (mh_rm 1) [.ref o0, .int x1, .int x2, .long y3] L h h' :=
  mh_of (mc := 0) (ms := 0) (Qc := fun D ks sz => mh_Qv D ks L sz h') (plainFor_of_name (by decide)) (Nat.le_of_ble_eq_true rfl) (fun p e s m below meth c D ks ls hr cx wd hl => by
    have hl : lv_has ls 8 [(0, .ref o0), (1, .int x1), (2, .int x2), (3, .long y3)] := hl
    exact w_X8_allowAll_e cx hr o0 x1 x2 y3 h _ _ ls wd hl hX)
def f_X8_take_b104 (h : mh_H) : Option mh_H :=
  some h
def f_X8_take_b47 : Nat → Nat → Int64 → Int32 → mh_H → Option mh_H
  | 0, _, _, _, _ => none
  | n + 1, o0, y2, x4, h =>
    (mh_gR h o0 8 0).bind fun a1 =>
    mh_b2 (mh_cal h a1 7 (f_X7_coins_e a1 h)) fun a3 h2 =>
    mh_b2 (mh_cal h2 a3 1 (f_X1_count_e a3 h2)) fun v5 h4 =>
    if v5 ≤ x4 then (
    f_X8_take_b104 h4) else
    (mh_gR h4 o0 8 0).bind fun a6 =>
    mh_b2 (mh_cal h4 a6 7 (f_X7_often_e a6 x4 h4)) fun v8 h7 =>
    (mh_gR h7 o0 8 0).bind fun a9 =>
    mh_b2 (mh_cal h7 a9 7 (f_X7_coins_e a9 h7)) fun a11 h10 =>
    mh_b2 (mh_cal h10 a11 1 (f_X1_value_e a11 x4 h10)) fun v13 h12 =>
    (mh_cal h12 o0 8 (f_X8_allowAll_e o0 v8 v13 ((7355827511386641 : Int64) - y2) h12)).bind fun h14 =>
    mh_nm (y2 * (21 : Int64)) fun w15 =>
    mh_nm (x4 + Int32.ofInt (1)) fun v16 =>
    f_X8_take_b47 n o0 w15 v16 h14
def f_X8_take_e (o0 : Nat) (o1 : Nat) (h : mh_H) : Option mh_H :=
  (mh_gR h o0 8 0).bind fun a17 =>
  mh_b2 (mh_cal h a17 7 (f_X7_alike_e a17 o1 h)) fun v19 h18 =>
  if v19 = 0 then (
  (mh_gR h18 o0 8 0).bind fun a20 =>
  (mh_cal h18 a20 7 (f_X7_copy_e a20 o1 h18)).bind fun h21 =>
  (mh_gR h21 o0 8 1).bind fun a22 =>
  (f_J7_fill_d0a16_e a22 (9223372036854775807 : Int64) h21).bind fun h23 =>
  (mh_gR h23 o0 8 1).bind fun a24 =>
  (mh_sJ h23 a24 (0 : Int32) (0 : Int64)).bind fun h25 =>
  (mh_pI h25 o0 8 2 (0 : Int32)).bind fun h26 =>
  mh_nm (1 : Int64) fun w27 =>
  mh_nm (0 : Int32) fun v28 =>
  f_X8_take_b47 mh_fu o0 w27 v28 h26) else
  some h18
set_option maxRecDepth 100000 in
set_option maxHeartbeats 4000000 in
theorem w_X8_take_b104 {p : Program} {l : Launch} {e : Env} {s : State} {m : MethodId} {args : Array Value} {below : List Frame} {meth : Method} {c : Code} {D : va_G} {ks : Nat → ClassId} {L : List Nat} {h' : mh_H} (cx : mh_C p m c cX8_take 5 s args RX8 meth D ks (mh_A L s.heap.size)) (hr : meth.sig.returnType = none) :
    ∀ (h : mh_H) (H : Heap) (locs : List Loc) (ls : Array Slot), mh_W D ks L (mh_A L s.heap.size) s.heap h H locs → lv_has ls 5 [] → f_X8_take_b104  h = some h' → W p l e (mh_rm 3) s m args below meth c H locs 0 0 (MQ below (mh_Qv D ks L s.heap.size h') args s 0 0 (mh_A L s.heap.size)) (F0 m 104 ls []) := by
  intro  h H locs ls wd hl hX
  have hx := cx.1.1
  have hb := cx.1.2.1
  unfold f_X8_take_b104 at hX
  exact mh_vret cx wd hr hX dX8_take_104
set_option maxRecDepth 100000 in
set_option maxHeartbeats 4000000 in
theorem w_X8_take_b47 {p : Program} {l : Launch} {e : Env} {s : State} {m : MethodId} {args : Array Value} {below : List Frame} {meth : Method} {c : Code} {D : va_G} {ks : Nat → ClassId} {L : List Nat} {h' : mh_H} (cx : mh_C p m c cX8_take 5 s args RX8 meth D ks (mh_A L s.heap.size)) (hr : meth.sig.returnType = none) :
    ∀ n : Nat, ∀ (o0 : Nat) (y2 : Int64) (x4 : Int32) (h : mh_H) (H : Heap) (locs : List Loc) (ls : Array Slot), mh_W D ks L (mh_A L s.heap.size) s.heap h H locs → lv_has ls 5 [(0, .ref o0), (2, .long y2), (4, .int x4)] → f_X8_take_b47 n o0 y2 x4 h = some h' → W p l e (mh_rm 3) s m args below meth c H locs 0 0 (MQ below (mh_Qv D ks L s.heap.size h') args s 0 0 (mh_A L s.heap.size)) (F0 m 47 ls []) := by
  intro n
  induction n with
  | zero =>
    intro o0 y2 x4 h H locs ls wd hl hX
    cases hX
  | succ n ih =>
    intro o0 y2 x4 h H locs ls wd hl hX
    have hx := cx.1.1
    have hb := cx.1.2.1
    rw [f_X8_take_b47] at hX
    refine lv_iload hx hb dX8_take_47 (lv_at hl 2 rfl) ?_
    refine lv_aload_n hx hb dX8_take_49 rfl (lv_at hl 0 rfl) ?_
    refine mh_getR cx wd fl_X8_12 dX8_take_50 hX (fun a1 hX => ?_)
    refine mh_callVR cx wd [] (rfl : vwCl[7]? = some (RX7, TX7, 2)) yw_X7_coins vw_X8_42 rfl hl.1 rfl (Nat.le_of_ble_eq_true rfl) dX8_take_53 ⟨Nat.le_of_ble_eq_true rfl, Nat.le_of_ble_eq_true rfl⟩ ⟨Nat.le_refl _, Nat.le_refl _⟩ (fun _ _ q => c_X7_coins q) hX (fun a3 h2 H locs wd hX => ?_)
    refine mh_callVI cx wd [] (rfl : vwCl[1]? = some (RX1, TX1, 2)) yw_X1_count vw_X8_46 rfl hl.1 rfl (Nat.le_of_ble_eq_true rfl) dX8_take_56 ⟨Nat.le_of_ble_eq_true rfl, Nat.le_of_ble_eq_true rfl⟩ ⟨Nat.le_refl _, Nat.le_refl _⟩ (fun _ _ q => c_X1_count q) hX (fun v5 h4 H locs wd hX => ?_)
    refine lv_icmp_ge (tgt := 104) hx hb dX8_take_59 rfl (fun hc => (fun hX => ?_) ((mh_if hX).1 hc)) (fun hc => (fun hX => ?_) ((mh_if hX).2 hc))
    · exact w_X8_take_b104 cx hr  h4 _ _ ls wd (lv_sub hl [] rfl) hX
    · refine lv_aload_n hx hb dX8_take_62 rfl (lv_at hl 0 rfl) ?_
      refine lv_aload_n hx hb dX8_take_63 rfl (lv_at hl 0 rfl) ?_
      refine mh_getR cx wd fl_X8_12 dX8_take_64 hX (fun a6 hX => ?_)
      refine lv_iload hx hb dX8_take_67 (lv_at hl 2 rfl) ?_
      refine mh_callVI cx wd [.int x4] (rfl : vwCl[7]? = some (RX7, TX7, 2)) yw_X7_often vw_X8_52 rfl hl.1 rfl (Nat.le_of_ble_eq_true rfl) dX8_take_69 ⟨Nat.le_of_ble_eq_true rfl, Nat.le_of_ble_eq_true rfl⟩ ⟨Nat.le_refl _, Nat.le_refl _⟩ (fun _ _ q => c_X7_often q) hX (fun v8 h7 H locs wd hX => ?_)
      refine lv_aload_n hx hb dX8_take_72 rfl (lv_at hl 0 rfl) ?_
      refine mh_getR cx wd fl_X8_12 dX8_take_73 hX (fun a9 hX => ?_)
      refine mh_callVR cx wd [] (rfl : vwCl[7]? = some (RX7, TX7, 2)) yw_X7_coins vw_X8_42 rfl hl.1 rfl (Nat.le_of_ble_eq_true rfl) dX8_take_76 ⟨Nat.le_of_ble_eq_true rfl, Nat.le_of_ble_eq_true rfl⟩ ⟨Nat.le_refl _, Nat.le_refl _⟩ (fun _ _ q => c_X7_coins q) hX (fun a11 h10 H locs wd hX => ?_)
      refine lv_iload hx hb dX8_take_79 (lv_at hl 2 rfl) ?_
      refine mh_callVI cx wd [.int x4] (rfl : vwCl[1]? = some (RX1, TX1, 2)) yw_X1_value vw_X8_56 rfl hl.1 rfl (Nat.le_of_ble_eq_true rfl) dX8_take_81 ⟨Nat.le_of_ble_eq_true rfl, Nat.le_of_ble_eq_true rfl⟩ ⟨Nat.le_refl _, Nat.le_refl _⟩ (fun _ _ q => c_X1_value q) hX (fun v13 h12 H locs wd hX => ?_)
      refine mh_ldc2 cx kl_X8_59 dX8_take_84 ?_
      refine lv_lload_n hx hb dX8_take_87 rfl (lv_at hl 1 rfl) ?_
      refine lv_lsub hx hb dX8_take_88 ?_
      refine mh_callVV cx wd [.int v8, .int v13, .long ((7355827511386641 : Int64) - y2)] (rfl : vwCl[8]? = some (RX8, TX8, 3)) yw_X8_allowAll vw_X8_61 rfl hl.1 rfl (Nat.le_of_ble_eq_true rfl) dX8_take_89 ⟨Nat.le_of_ble_eq_true rfl, Nat.le_of_ble_eq_true rfl⟩ ⟨Nat.le_refl _, Nat.le_refl _⟩ (fun _ q => c_X8_allowAll q) hX (fun h14 H locs wd hX => ?_)
      refine lv_lload_n hx hb dX8_take_92 rfl (lv_at hl 1 rfl) ?_
      refine mh_ldc2 cx kl_X8_65 dX8_take_93 ?_
      refine lv_lmul hx hb dX8_take_96 ?_
      refine mh_topl hX (fun w15 hX => ?_)
      refine lv_lstore_n (lv' := [(2, .long w15), (0, .ref o0), (4, .int x4)]) hx hb dX8_take_97 rfl hl (Nat.le_of_ble_eq_true rfl) rfl (fun ls hl => ?_)
      obtain ⟨v16, ev16, hX⟩ := mh_nmx hX
      refine lv_iinc (k := 2) (v := v16) (lv' := [(4, .int v16), (2, .long w15), (0, .ref o0)]) hx hb dX8_take_98 hl rfl ev16 (Nat.le_of_ble_eq_true rfl) rfl (fun ls hl => ?_)
      refine lv_goto (tgt := 47) hx hb dX8_take_101 rfl ?_
      exact ih _ _ _ h14 _ _ ls wd (lv_sub hl [2, 1, 0] rfl) hX
set_option maxRecDepth 100000 in
set_option maxHeartbeats 4000000 in
theorem w_X8_take_e {p : Program} {l : Launch} {e : Env} {s : State} {m : MethodId} {args : Array Value} {below : List Frame} {meth : Method} {c : Code} {D : va_G} {ks : Nat → ClassId} {L : List Nat} {h' : mh_H} (cx : mh_C p m c cX8_take 5 s args RX8 meth D ks (mh_A L s.heap.size)) (hr : meth.sig.returnType = none) :
    ∀ (o0 : Nat) (o1 : Nat) (h : mh_H) (H : Heap) (locs : List Loc) (ls : Array Slot), mh_W D ks L (mh_A L s.heap.size) s.heap h H locs → lv_has ls 5 [(0, .ref o0), (1, .ref o1)] → f_X8_take_e o0 o1 h = some h' → W p l e (mh_rm 3) s m args below meth c H locs 0 0 (MQ below (mh_Qv D ks L s.heap.size h') args s 0 0 (mh_A L s.heap.size)) (F0 m 0 ls []) := by
  intro o0 o1 h H locs ls wd hl hX
  have hx := cx.1.1
  have hb := cx.1.2.1
  unfold f_X8_take_e at hX
  refine lv_aload_n hx hb dX8_take_0 rfl (lv_at hl 0 rfl) ?_
  refine mh_getR cx wd fl_X8_12 dX8_take_1 hX (fun a17 hX => ?_)
  refine lv_aload_n hx hb dX8_take_4 rfl (lv_at hl 1 rfl) ?_
  refine mh_callVI cx wd [.ref o1] (rfl : vwCl[7]? = some (RX7, TX7, 2)) yw_X7_alike vw_X8_26 rfl hl.1 rfl (Nat.le_of_ble_eq_true rfl) dX8_take_5 ⟨Nat.le_of_ble_eq_true rfl, Nat.le_of_ble_eq_true rfl⟩ ⟨Nat.le_refl _, Nat.le_refl _⟩ (fun _ _ q => c_X7_alike q) hX (fun v19 h18 H locs wd hX => ?_)
  refine lv_if_eq (tgt := 12) hx hb dX8_take_8 rfl (fun hc => (fun hX => ?_) ((mh_if hX).1 hc)) (fun hc => (fun hX => ?_) ((mh_if hX).2 hc))
  · refine lv_aload_n hx hb dX8_take_12 rfl (lv_at hl 0 rfl) ?_
    refine mh_getR cx wd fl_X8_12 dX8_take_13 hX (fun a20 hX => ?_)
    refine lv_aload_n hx hb dX8_take_16 rfl (lv_at hl 1 rfl) ?_
    refine mh_callVV cx wd [.ref o1] (rfl : vwCl[7]? = some (RX7, TX7, 2)) yw_X7_copy vw_X8_30 rfl hl.1 rfl (Nat.le_of_ble_eq_true rfl) dX8_take_17 ⟨Nat.le_of_ble_eq_true rfl, Nat.le_of_ble_eq_true rfl⟩ ⟨Nat.le_refl _, Nat.le_refl _⟩ (fun _ q => c_X7_copy q) hX (fun h21 H locs wd hX => ?_)
    refine lv_aload_n hx hb dX8_take_20 rfl (lv_at hl 0 rfl) ?_
    refine mh_getR cx wd fl_X8_18 dX8_take_21 hX (fun a22 hX => ?_)
    refine mh_ldc2 cx kl_X8_34 dX8_take_24 ?_
    refine mh_callSV cx wd [.ref a22, .long (9223372036854775807 : Int64)] yw_J7_fill_d0a16 sw_X8_36 rfl hl.1 rfl (Nat.le_of_ble_eq_true rfl) dX8_take_27 ⟨Nat.le_of_ble_eq_true rfl, Nat.le_of_ble_eq_true rfl⟩ ⟨Nat.le_refl _, Nat.le_refl _⟩ (fun _ q => c_J7_fill_d0a16 q) hX (fun h23 H locs wd hX => ?_)
    refine lv_aload_n hx hb dX8_take_30 rfl (lv_at hl 0 rfl) ?_
    refine mh_getR cx wd fl_X8_18 dX8_take_31 hX (fun a24 hX => ?_)
    refine lv_iconst (v := 0) hx hb dX8_take_34 (by decide) ?_
    refine lv_lconst (v := 0) hx hb dX8_take_35 (by decide) ?_
    refine mh_last cx wd dX8_take_36 hX (fun h25 H locs wd hX => ?_)
    refine lv_aload_n hx hb dX8_take_37 rfl (lv_at hl 0 rfl) ?_
    refine lv_iconst (v := 0) hx hb dX8_take_38 (by decide) ?_
    refine mh_putI cx wd fp_X8_22 dX8_take_39 hX (fun h26 H locs wd hX => ?_)
    refine lv_lconst (v := 1) hx hb dX8_take_42 (by decide) ?_
    refine mh_topl hX (fun w27 hX => ?_)
    refine lv_lstore_n (lv' := [(2, .long w27), (0, .ref o0), (1, .ref o1)]) hx hb dX8_take_43 rfl hl (Nat.le_of_ble_eq_true rfl) rfl (fun ls hl => ?_)
    refine lv_iconst (v := 0) hx hb dX8_take_44 (by decide) ?_
    refine mh_topi hX (fun v28 hX => ?_)
    refine lv_istore (lv' := [(4, .int v28), (2, .long w27), (0, .ref o0), (1, .ref o1)]) hx hb dX8_take_45 hl (Nat.le_of_ble_eq_true rfl) rfl (fun ls hl => ?_)
    exact w_X8_take_b47 cx hr mh_fu _ _ _ h26 _ _ ls wd (lv_sub hl [2, 1, 0] rfl) hX
  · exact mh_vret cx wd hr hX dX8_take_11
set_option maxRecDepth 100000 in
theorem c_X8_take {l : Launch} {L : List Nat} {h h' : mh_H} {o0 : Nat} {o1 : Nat} (hX : f_X8_take_e o0 o1 h = some h') : mh_MV l yX8_take (Cond.code yX8_take cX8_take 5 none :: mh_TB) (mh_rm 3) [.ref o0, .ref o1] L h h' :=
  mh_of (mc := 0) (ms := 0) (Qc := fun D ks sz => mh_Qv D ks L sz h') (plainFor_of_name (by decide)) (Nat.le_of_ble_eq_true rfl) (fun p e s m below meth c D ks ls hr cx wd hl => by
    have hl : lv_has ls 5 [(0, .ref o0), (1, .ref o1)] := hl
    exact w_X8_take_e cx hr o0 o1 h _ _ ls wd hl hX)
def f_X8_key_b24 (t0 : Int64) (h : mh_H) : Option (Int64 × mh_H) :=
  some (t0, h)
def f_X8_key_b21 (k24 : Int64 → mh_H → Option (Int64 × mh_H)) (h : mh_H) : Option (Int64 × mh_H) :=
  k24 (9223372036854775807 : Int64) h
def f_X8_key_e (o0 : Nat) (x1 : Int32) (h : mh_H) : Option (Int64 × mh_H) :=
  if x1 < 0 then (
  f_X8_key_b21 (f_X8_key_b24) h) else
  (mh_gI h o0 8 2).bind fun v1 =>
  if v1 < x1 then (
  f_X8_key_b21 (f_X8_key_b24) h) else
  (mh_gR h o0 8 1).bind fun a2 =>
  (mh_aJ h a2 x1).bind fun w3 =>
  f_X8_key_b24 w3 h
set_option maxRecDepth 100000 in
set_option maxHeartbeats 4000000 in
theorem w_X8_key_b24 {p : Program} {l : Launch} {e : Env} {s : State} {m : MethodId} {args : Array Value} {below : List Frame} {meth : Method} {c : Code} {D : va_G} {ks : Nat → ClassId} {L : List Nat} {r : Int64} {h' : mh_H} (cx : mh_C p m c cX8_key 2 s args RX8 meth D ks (mh_A L s.heap.size)) (hr : meth.sig.returnType = (some .long)) :
    ∀ (t0 : Int64) (h : mh_H) (H : Heap) (locs : List Loc) (ls : Array Slot), mh_W D ks L (mh_A L s.heap.size) s.heap h H locs → lv_has ls 2 [] → f_X8_key_b24 t0 h = some (r, h') → W p l e (mh_rm 0) s m args below meth c H locs 0 0 (MQ below (mh_Ql D ks L s.heap.size r h') args s 0 0 (mh_A L s.heap.size)) (F0 m 24 ls [.long t0]) := by
  intro t0 h H locs ls wd hl hX
  have hx := cx.1.1
  have hb := cx.1.2.1
  unfold f_X8_key_b24 at hX
  exact mh_lret cx wd hr hX dX8_key_24
set_option maxRecDepth 100000 in
set_option maxHeartbeats 4000000 in
theorem w_X8_key_b21 {p : Program} {l : Launch} {e : Env} {s : State} {m : MethodId} {args : Array Value} {below : List Frame} {meth : Method} {c : Code} {D : va_G} {ks : Nat → ClassId} {L : List Nat} {r : Int64} {h' : mh_H} (k24 : Int64 → mh_H → Option (Int64 × mh_H)) (cx : mh_C p m c cX8_key 2 s args RX8 meth D ks (mh_A L s.heap.size)) (hr : meth.sig.returnType = (some .long))
    (hk24 : ∀ (t0 : Int64) (h : mh_H) (H : Heap) (locs : List Loc) (ls : Array Slot), mh_W D ks L (mh_A L s.heap.size) s.heap h H locs → lv_has ls 2 [] → k24 t0 h = some (r, h') → W p l e (mh_rm 0) s m args below meth c H locs 0 0 (MQ below (mh_Ql D ks L s.heap.size r h') args s 0 0 (mh_A L s.heap.size)) (F0 m 24 ls [.long t0])) :
    ∀ (h : mh_H) (H : Heap) (locs : List Loc) (ls : Array Slot), mh_W D ks L (mh_A L s.heap.size) s.heap h H locs → lv_has ls 2 [] → f_X8_key_b21 k24  h = some (r, h') → W p l e (mh_rm 0) s m args below meth c H locs 0 0 (MQ below (mh_Ql D ks L s.heap.size r h') args s 0 0 (mh_A L s.heap.size)) (F0 m 21 ls []) := by
  intro  h H locs ls wd hl hX
  have hx := cx.1.1
  have hb := cx.1.2.1
  unfold f_X8_key_b21 at hX
  refine mh_ldc2 cx kl_X8_34 dX8_key_21 ?_
  exact hk24 _ h _ _ ls wd (lv_sub hl [] rfl) hX
set_option maxRecDepth 100000 in
set_option maxHeartbeats 4000000 in
theorem w_X8_key_e {p : Program} {l : Launch} {e : Env} {s : State} {m : MethodId} {args : Array Value} {below : List Frame} {meth : Method} {c : Code} {D : va_G} {ks : Nat → ClassId} {L : List Nat} {r : Int64} {h' : mh_H} (cx : mh_C p m c cX8_key 2 s args RX8 meth D ks (mh_A L s.heap.size)) (hr : meth.sig.returnType = (some .long)) :
    ∀ (o0 : Nat) (x1 : Int32) (h : mh_H) (H : Heap) (locs : List Loc) (ls : Array Slot), mh_W D ks L (mh_A L s.heap.size) s.heap h H locs → lv_has ls 2 [(0, .ref o0), (1, .int x1)] → f_X8_key_e o0 x1 h = some (r, h') → W p l e (mh_rm 0) s m args below meth c H locs 0 0 (MQ below (mh_Ql D ks L s.heap.size r h') args s 0 0 (mh_A L s.heap.size)) (F0 m 0 ls []) := by
  intro o0 x1 h H locs ls wd hl hX
  have hx := cx.1.1
  have hb := cx.1.2.1
  unfold f_X8_key_e at hX
  refine lv_iload_n hx hb dX8_key_0 rfl (lv_at hl 1 rfl) ?_
  refine lv_if_lt (tgt := 21) hx hb dX8_key_1 rfl (fun hc => (fun hX => ?_) ((mh_if hX).1 hc)) (fun hc => (fun hX => ?_) ((mh_if hX).2 hc))
  · exact w_X8_key_b21 (f_X8_key_b24) cx hr (w_X8_key_b24 cx hr)  h _ _ ls wd (lv_sub hl [] rfl) hX
  · refine lv_iload_n hx hb dX8_key_4 rfl (lv_at hl 1 rfl) ?_
    refine lv_aload_n hx hb dX8_key_5 rfl (lv_at hl 0 rfl) ?_
    refine mh_getI cx wd fl_X8_22 dX8_key_6 hX (fun v1 hX => ?_)
    refine lv_icmp_gt (tgt := 21) hx hb dX8_key_9 rfl (fun hc => (fun hX => ?_) ((mh_if hX).1 hc)) (fun hc => (fun hX => ?_) ((mh_if hX).2 hc))
    · exact w_X8_key_b21 (f_X8_key_b24) cx hr (w_X8_key_b24 cx hr)  h _ _ ls wd (lv_sub hl [] rfl) hX
    · refine lv_aload_n hx hb dX8_key_12 rfl (lv_at hl 0 rfl) ?_
      refine mh_getR cx wd fl_X8_18 dX8_key_13 hX (fun a2 hX => ?_)
      refine lv_iload_n hx hb dX8_key_16 rfl (lv_at hl 1 rfl) ?_
      refine mh_lald cx wd dX8_key_17 hX (fun w3 hX => ?_)
      refine lv_goto (tgt := 24) hx hb dX8_key_18 rfl ?_
      exact w_X8_key_b24 cx hr _ h _ _ ls wd (lv_sub hl [] rfl) hX
set_option maxRecDepth 100000 in
theorem c_X8_key {l : Launch} {L : List Nat} {h h' : mh_H} {r : Int64} {o0 : Nat} {x1 : Int32} (hX : f_X8_key_e o0 x1 h = some (r, h')) : mh_MJ l yX8_key (Cond.code yX8_key cX8_key 2 (some .long) :: mh_TB) (mh_rm 0) [.ref o0, .int x1] L h r h' :=
  mh_of (mc := 0) (ms := 0) (Qc := fun D ks sz => mh_Ql D ks L sz r h') (plainFor_of_name (by decide)) (Nat.le_of_ble_eq_true rfl) (fun p e s m below meth c D ks ls hr cx wd hl => by
    have hl : lv_has ls 2 [(0, .ref o0), (1, .int x1)] := hl
    exact w_X8_key_e cx hr o0 x1 h _ _ ls wd hl hX)
def f_X8_size_b30 (t0 : Int32) (h : mh_H) : Option (Int32 × mh_H) :=
  some (t0, h)
def f_X8_size_e (o0 : Nat) (x1 : Int32) (h : mh_H) : Option (Int32 × mh_H) :=
  mh_b2 (mh_cal h o0 8 (f_X8_key_e o0 x1 h)) fun w2 h1 =>
  if (lg_cmp w2 (9223372036854775807 : Int64)) = 0 then (
  f_X8_size_b30 (-1 : Int32) h1) else
  mh_nz ((7355827511386641 : Int64) = 0) <|
  f_X8_size_b30 (((((w2 + (7355827511386641 : Int64)) - (1 : Int64)) / (7355827511386641 : Int64))).toInt32) h1
set_option maxRecDepth 100000 in
set_option maxHeartbeats 4000000 in
theorem w_X8_size_b30 {p : Program} {l : Launch} {e : Env} {s : State} {m : MethodId} {args : Array Value} {below : List Frame} {meth : Method} {c : Code} {D : va_G} {ks : Nat → ClassId} {L : List Nat} {r : Int32} {h' : mh_H} (cx : mh_C p m c cX8_size 4 s args RX8 meth D ks (mh_A L s.heap.size)) (hr : meth.sig.returnType = (some .int)) :
    ∀ (t0 : Int32) (h : mh_H) (H : Heap) (locs : List Loc) (ls : Array Slot), mh_W D ks L (mh_A L s.heap.size) s.heap h H locs → lv_has ls 4 [] → f_X8_size_b30 t0 h = some (r, h') → W p l e (mh_rm 1) s m args below meth c H locs 0 0 (MQ below (mh_Qi D ks L s.heap.size r h') args s 0 0 (mh_A L s.heap.size)) (F0 m 30 ls [.int t0]) := by
  intro t0 h H locs ls wd hl hX
  have hx := cx.1.1
  have hb := cx.1.2.1
  unfold f_X8_size_b30 at hX
  exact mh_iret cx wd hr hX dX8_size_30
set_option maxRecDepth 100000 in
set_option maxHeartbeats 4000000 in
theorem w_X8_size_e {p : Program} {l : Launch} {e : Env} {s : State} {m : MethodId} {args : Array Value} {below : List Frame} {meth : Method} {c : Code} {D : va_G} {ks : Nat → ClassId} {L : List Nat} {r : Int32} {h' : mh_H} (cx : mh_C p m c cX8_size 4 s args RX8 meth D ks (mh_A L s.heap.size)) (hr : meth.sig.returnType = (some .int)) :
    ∀ (o0 : Nat) (x1 : Int32) (h : mh_H) (H : Heap) (locs : List Loc) (ls : Array Slot), mh_W D ks L (mh_A L s.heap.size) s.heap h H locs → lv_has ls 4 [(0, .ref o0), (1, .int x1)] → f_X8_size_e o0 x1 h = some (r, h') → W p l e (mh_rm 1) s m args below meth c H locs 0 0 (MQ below (mh_Qi D ks L s.heap.size r h') args s 0 0 (mh_A L s.heap.size)) (F0 m 0 ls []) := by
  intro o0 x1 h H locs ls wd hl hX
  have hx := cx.1.1
  have hb := cx.1.2.1
  unfold f_X8_size_e at hX
  refine lv_aload_n hx hb dX8_size_0 rfl (lv_at hl 0 rfl) ?_
  refine lv_iload_n hx hb dX8_size_1 rfl (lv_at hl 1 rfl) ?_
  refine mh_callVJ cx wd [.int x1] (rfl : vwCl[8]? = some (RX8, TX8, 3)) yw_X8_key vw_X8_77 rfl hl.1 rfl (Nat.le_of_ble_eq_true rfl) dX8_size_2 ⟨Nat.le_of_ble_eq_true rfl, Nat.le_of_ble_eq_true rfl⟩ ⟨Nat.le_refl _, Nat.le_refl _⟩ (fun _ _ q => c_X8_key q) hX (fun w2 h1 H locs wd hX => ?_)
  refine lv_lstore_n (lv' := [(2, .long w2), (0, .ref o0), (1, .int x1)]) hx hb dX8_size_5 rfl hl (Nat.le_of_ble_eq_true rfl) rfl (fun ls hl => ?_)
  refine lv_lload_n hx hb dX8_size_6 rfl (lv_at hl 0 rfl) ?_
  refine mh_ldc2 cx kl_X8_34 dX8_size_7 ?_
  refine W.lcmp hx hb dX8_size_10 ?_
  refine lv_if_ne (tgt := 18) hx hb dX8_size_11 rfl (fun hc => (fun hX => ?_) ((mh_if hX).2 hc)) (fun hc => (fun hX => ?_) ((mh_if hX).1 hc))
  · refine lv_lload_n hx hb dX8_size_18 rfl (lv_at hl 0 rfl) ?_
    refine mh_ldc2 cx kl_X8_59 dX8_size_19 ?_
    refine lv_ladd hx hb dX8_size_22 ?_
    refine lv_lconst (v := 1) hx hb dX8_size_23 (by decide) ?_
    refine lv_lsub hx hb dX8_size_24 ?_
    refine mh_ldc2 cx kl_X8_59 dX8_size_25 ?_
    obtain ⟨hz, hX⟩ := mh_nzk hX
    refine lv_ldiv hx hb dX8_size_28 hz ?_
    refine lv_l2i hx hb dX8_size_29 rfl ?_
    exact w_X8_size_b30 cx hr _ h1 _ _ ls wd (lv_sub hl [] rfl) hX
  · refine lv_iconst (v := (-1)) hx hb dX8_size_14 (by decide) ?_
    refine lv_goto (tgt := 30) hx hb dX8_size_15 rfl ?_
    exact w_X8_size_b30 cx hr _ h1 _ _ ls wd (lv_sub hl [] rfl) hX
set_option maxRecDepth 100000 in
theorem c_X8_size {l : Launch} {L : List Nat} {h h' : mh_H} {r : Int32} {o0 : Nat} {x1 : Int32} (hX : f_X8_size_e o0 x1 h = some (r, h')) : mh_MI l yX8_size (Cond.code yX8_size cX8_size 4 (some .int) :: mh_TB) (mh_rm 1) [.ref o0, .int x1] L h r h' :=
  mh_of (mc := 0) (ms := 0) (Qc := fun D ks sz => mh_Qi D ks L sz r h') (plainFor_of_name (by decide)) (Nat.le_of_ble_eq_true rfl) (fun p e s m below meth c D ks ls hr cx wd hl => by
    have hl : lv_has ls 4 [(0, .ref o0), (1, .int x1)] := hl
    exact w_X8_size_e cx hr o0 x1 h _ _ ls wd hl hX)
def f_X8_unpaid_b28 (k4 : Nat → Int32 → Int32 → mh_H → Option (Int32 × mh_H)) (o0 : Nat) (x1 : Int32) (x2 : Int32) (h : mh_H) : Option (Int32 × mh_H) :=
  mh_nm (x2 + Int32.ofInt (1)) fun v1 =>
  k4 o0 x1 v1 h
def f_X8_unpaid_b34 (x1 : Int32) (h : mh_H) : Option (Int32 × mh_H) :=
  some (x1, h)
def f_X8_unpaid_b4 : Nat → Nat → Int32 → Int32 → mh_H → Option (Int32 × mh_H)
  | 0, _, _, _, _ => none
  | n + 1, o0, x1, x2, h =>
    (mh_gI h o0 8 2).bind fun v2 =>
    if v2 < x2 then (
    f_X8_unpaid_b34 x1 h) else
    (mh_gR h o0 8 1).bind fun a3 =>
    (mh_aJ h a3 x2).bind fun w4 =>
    if (lg_cmp w4 (9223372036854775807 : Int64)) = 0 then (
    mh_nm (x1 + Int32.ofInt (1)) fun v5 =>
    f_X8_unpaid_b28 (f_X8_unpaid_b4 n) o0 v5 x2 h) else
    f_X8_unpaid_b28 (f_X8_unpaid_b4 n) o0 x1 x2 h
def f_X8_unpaid_e (o0 : Nat) (h : mh_H) : Option (Int32 × mh_H) :=
  mh_nm (0 : Int32) fun v6 =>
  mh_nm (0 : Int32) fun v7 =>
  f_X8_unpaid_b4 mh_fu o0 v6 v7 h
set_option maxRecDepth 100000 in
set_option maxHeartbeats 4000000 in
theorem w_X8_unpaid_b28 {p : Program} {l : Launch} {e : Env} {s : State} {m : MethodId} {args : Array Value} {below : List Frame} {meth : Method} {c : Code} {D : va_G} {ks : Nat → ClassId} {L : List Nat} {r : Int32} {h' : mh_H} (k4 : Nat → Int32 → Int32 → mh_H → Option (Int32 × mh_H)) (cx : mh_C p m c cX8_unpaid 3 s args RX8 meth D ks (mh_A L s.heap.size)) (hr : meth.sig.returnType = (some .int))
    (hk4 : ∀ (o0 : Nat) (x1 : Int32) (x2 : Int32) (h : mh_H) (H : Heap) (locs : List Loc) (ls : Array Slot), mh_W D ks L (mh_A L s.heap.size) s.heap h H locs → lv_has ls 3 [(0, .ref o0), (1, .int x1), (2, .int x2)] → k4 o0 x1 x2 h = some (r, h') → W p l e (mh_rm 0) s m args below meth c H locs 0 0 (MQ below (mh_Qi D ks L s.heap.size r h') args s 0 0 (mh_A L s.heap.size)) (F0 m 4 ls [])) :
    ∀ (o0 : Nat) (x1 : Int32) (x2 : Int32) (h : mh_H) (H : Heap) (locs : List Loc) (ls : Array Slot), mh_W D ks L (mh_A L s.heap.size) s.heap h H locs → lv_has ls 3 [(0, .ref o0), (1, .int x1), (2, .int x2)] → f_X8_unpaid_b28 k4 o0 x1 x2 h = some (r, h') → W p l e (mh_rm 0) s m args below meth c H locs 0 0 (MQ below (mh_Qi D ks L s.heap.size r h') args s 0 0 (mh_A L s.heap.size)) (F0 m 28 ls []) := by
  intro o0 x1 x2 h H locs ls wd hl hX
  have hx := cx.1.1
  have hb := cx.1.2.1
  unfold f_X8_unpaid_b28 at hX
  obtain ⟨v1, ev1, hX⟩ := mh_nmx hX
  refine lv_iinc (k := 2) (v := v1) (lv' := [(2, .int v1), (0, .ref o0), (1, .int x1)]) hx hb dX8_unpaid_28 hl rfl ev1 (Nat.le_of_ble_eq_true rfl) rfl (fun ls hl => ?_)
  refine lv_goto (tgt := 4) hx hb dX8_unpaid_31 rfl ?_
  exact hk4 _ _ _ h _ _ ls wd (lv_sub hl [1, 2, 0] rfl) hX
set_option maxRecDepth 100000 in
set_option maxHeartbeats 4000000 in
theorem w_X8_unpaid_b34 {p : Program} {l : Launch} {e : Env} {s : State} {m : MethodId} {args : Array Value} {below : List Frame} {meth : Method} {c : Code} {D : va_G} {ks : Nat → ClassId} {L : List Nat} {r : Int32} {h' : mh_H} (cx : mh_C p m c cX8_unpaid 3 s args RX8 meth D ks (mh_A L s.heap.size)) (hr : meth.sig.returnType = (some .int)) :
    ∀ (x1 : Int32) (h : mh_H) (H : Heap) (locs : List Loc) (ls : Array Slot), mh_W D ks L (mh_A L s.heap.size) s.heap h H locs → lv_has ls 3 [(1, .int x1)] → f_X8_unpaid_b34 x1 h = some (r, h') → W p l e (mh_rm 0) s m args below meth c H locs 0 0 (MQ below (mh_Qi D ks L s.heap.size r h') args s 0 0 (mh_A L s.heap.size)) (F0 m 34 ls []) := by
  intro x1 h H locs ls wd hl hX
  have hx := cx.1.1
  have hb := cx.1.2.1
  unfold f_X8_unpaid_b34 at hX
  refine lv_iload_n hx hb dX8_unpaid_34 rfl (lv_at hl 0 rfl) ?_
  exact mh_iret cx wd hr hX dX8_unpaid_35
set_option maxRecDepth 100000 in
set_option maxHeartbeats 4000000 in
theorem w_X8_unpaid_b4 {p : Program} {l : Launch} {e : Env} {s : State} {m : MethodId} {args : Array Value} {below : List Frame} {meth : Method} {c : Code} {D : va_G} {ks : Nat → ClassId} {L : List Nat} {r : Int32} {h' : mh_H} (cx : mh_C p m c cX8_unpaid 3 s args RX8 meth D ks (mh_A L s.heap.size)) (hr : meth.sig.returnType = (some .int)) :
    ∀ n : Nat, ∀ (o0 : Nat) (x1 : Int32) (x2 : Int32) (h : mh_H) (H : Heap) (locs : List Loc) (ls : Array Slot), mh_W D ks L (mh_A L s.heap.size) s.heap h H locs → lv_has ls 3 [(0, .ref o0), (1, .int x1), (2, .int x2)] → f_X8_unpaid_b4 n o0 x1 x2 h = some (r, h') → W p l e (mh_rm 0) s m args below meth c H locs 0 0 (MQ below (mh_Qi D ks L s.heap.size r h') args s 0 0 (mh_A L s.heap.size)) (F0 m 4 ls []) := by
  intro n
  induction n with
  | zero =>
    intro o0 x1 x2 h H locs ls wd hl hX
    cases hX
  | succ n ih =>
    intro o0 x1 x2 h H locs ls wd hl hX
    have hx := cx.1.1
    have hb := cx.1.2.1
    rw [f_X8_unpaid_b4] at hX
    refine lv_iload_n hx hb dX8_unpaid_4 rfl (lv_at hl 2 rfl) ?_
    refine lv_aload_n hx hb dX8_unpaid_5 rfl (lv_at hl 0 rfl) ?_
    refine mh_getI cx wd fl_X8_22 dX8_unpaid_6 hX (fun v2 hX => ?_)
    refine lv_icmp_gt (tgt := 34) hx hb dX8_unpaid_9 rfl (fun hc => (fun hX => ?_) ((mh_if hX).1 hc)) (fun hc => (fun hX => ?_) ((mh_if hX).2 hc))
    · exact w_X8_unpaid_b34 cx hr _ h _ _ ls wd (lv_sub hl [1] rfl) hX
    · refine lv_aload_n hx hb dX8_unpaid_12 rfl (lv_at hl 0 rfl) ?_
      refine mh_getR cx wd fl_X8_18 dX8_unpaid_13 hX (fun a3 hX => ?_)
      refine lv_iload_n hx hb dX8_unpaid_16 rfl (lv_at hl 2 rfl) ?_
      refine mh_lald cx wd dX8_unpaid_17 hX (fun w4 hX => ?_)
      refine mh_ldc2 cx kl_X8_34 dX8_unpaid_18 ?_
      refine W.lcmp hx hb dX8_unpaid_21 ?_
      refine lv_if_ne (tgt := 28) hx hb dX8_unpaid_22 rfl (fun hc => (fun hX => ?_) ((mh_if hX).2 hc)) (fun hc => (fun hX => ?_) ((mh_if hX).1 hc))
      · exact w_X8_unpaid_b28 (f_X8_unpaid_b4 n) cx hr ih _ _ _ h _ _ ls wd (lv_sub hl [0, 1, 2] rfl) hX
      · obtain ⟨v5, ev5, hX⟩ := mh_nmx hX
        refine lv_iinc (k := 1) (v := v5) (lv' := [(1, .int v5), (0, .ref o0), (2, .int x2)]) hx hb dX8_unpaid_25 hl rfl ev5 (Nat.le_of_ble_eq_true rfl) rfl (fun ls hl => ?_)
        exact w_X8_unpaid_b28 (f_X8_unpaid_b4 n) cx hr ih _ _ _ h _ _ ls wd (lv_sub hl [1, 0, 2] rfl) hX
set_option maxRecDepth 100000 in
set_option maxHeartbeats 4000000 in
theorem w_X8_unpaid_e {p : Program} {l : Launch} {e : Env} {s : State} {m : MethodId} {args : Array Value} {below : List Frame} {meth : Method} {c : Code} {D : va_G} {ks : Nat → ClassId} {L : List Nat} {r : Int32} {h' : mh_H} (cx : mh_C p m c cX8_unpaid 3 s args RX8 meth D ks (mh_A L s.heap.size)) (hr : meth.sig.returnType = (some .int)) :
    ∀ (o0 : Nat) (h : mh_H) (H : Heap) (locs : List Loc) (ls : Array Slot), mh_W D ks L (mh_A L s.heap.size) s.heap h H locs → lv_has ls 3 [(0, .ref o0)] → f_X8_unpaid_e o0 h = some (r, h') → W p l e (mh_rm 0) s m args below meth c H locs 0 0 (MQ below (mh_Qi D ks L s.heap.size r h') args s 0 0 (mh_A L s.heap.size)) (F0 m 0 ls []) := by
  intro o0 h H locs ls wd hl hX
  have hx := cx.1.1
  have hb := cx.1.2.1
  unfold f_X8_unpaid_e at hX
  refine lv_iconst (v := 0) hx hb dX8_unpaid_0 (by decide) ?_
  refine mh_topi hX (fun v6 hX => ?_)
  refine lv_istore_n (lv' := [(1, .int v6), (0, .ref o0)]) hx hb dX8_unpaid_1 rfl hl (Nat.le_of_ble_eq_true rfl) rfl (fun ls hl => ?_)
  refine lv_iconst (v := 0) hx hb dX8_unpaid_2 (by decide) ?_
  refine mh_topi hX (fun v7 hX => ?_)
  refine lv_istore_n (lv' := [(2, .int v7), (1, .int v6), (0, .ref o0)]) hx hb dX8_unpaid_3 rfl hl (Nat.le_of_ble_eq_true rfl) rfl (fun ls hl => ?_)
  exact w_X8_unpaid_b4 cx hr mh_fu _ _ _ h _ _ ls wd (lv_sub hl [2, 1, 0] rfl) hX
set_option maxRecDepth 100000 in
theorem c_X8_unpaid {l : Launch} {L : List Nat} {h h' : mh_H} {r : Int32} {o0 : Nat} (hX : f_X8_unpaid_e o0 h = some (r, h')) : mh_MI l yX8_unpaid (Cond.code yX8_unpaid cX8_unpaid 3 (some .int) :: mh_TB) (mh_rm 0) [.ref o0] L h r h' :=
  mh_of (mc := 0) (ms := 0) (Qc := fun D ks sz => mh_Qi D ks L sz r h') (plainFor_of_name (by decide)) (Nat.le_of_ble_eq_true rfl) (fun p e s m below meth c D ks ls hr cx wd hl => by
    have hl : lv_has ls 3 [(0, .ref o0)] := hl
    exact w_X8_unpaid_e cx hr o0 h _ _ ls wd hl hX)
def f_X8_backFrom_b94 (k10 : Nat → Nat → Int32 → Int32 → Int64 → Int32 → mh_H → Option (Int32 × mh_H)) (o0 : Nat) (o1 : Nat) (x2 : Int32) (x3 : Int32) (y4 : Int64) (x6 : Int32) (h : mh_H) : Option (Int32 × mh_H) :=
  mh_nm (x6 + Int32.ofInt (1)) fun v1 =>
  k10 o0 o1 x2 x3 y4 v1 h
def f_X8_backFrom_b100 (x3 : Int32) (h : mh_H) : Option (Int32 × mh_H) :=
  some (x3, h)
def f_X8_backFrom_b10 : Nat → Nat → Nat → Int32 → Int32 → Int64 → Int32 → mh_H → Option (Int32 × mh_H)
  | 0, _, _, _, _, _, _, _ => none
  | n + 1, o0, o1, x2, x3, y4, x6, h =>
    (mh_gI h o1 8 2).bind fun v2 =>
    if v2 < x6 then (
    f_X8_backFrom_b100 x3 h) else
    (mh_gI h o0 8 2).bind fun v3 =>
    if (v3 - x6) < x2 then (
    f_X8_backFrom_b100 x3 h) else
    mh_b2 (mh_cal h o0 8 (f_X8_key_e o0 (x2 + x6) h)) fun w5 h4 =>
    mh_b2 (mh_cal h4 o1 8 (f_X8_size_e o1 x6 h4)) fun v7 h6 =>
    if (lg_cmp w5 (9223372036854775807 : Int64)) = 0 then (
    f_X8_backFrom_b94 (f_X8_backFrom_b10 n) o0 o1 x2 x3 y4 x6 h6) else
    if v7 = (-1 : Int32) then (
    f_X8_backFrom_b94 (f_X8_backFrom_b10 n) o0 o1 x2 x3 y4 x6 h6) else
    if 0 ≤ (lg_cmp (w5 + ((v7).toInt64 * (7355827511386641 : Int64))) y4) then (
    f_X8_backFrom_b94 (f_X8_backFrom_b10 n) o0 o1 x2 x3 y4 x6 h6) else
    mh_nm (w5 + ((v7).toInt64 * (7355827511386641 : Int64))) fun w8 =>
    f_X8_backFrom_b94 (f_X8_backFrom_b10 n) o0 o1 x2 x6 w8 x6 h6
def f_X8_backFrom_e (o0 : Nat) (o1 : Nat) (x2 : Int32) (h : mh_H) : Option (Int32 × mh_H) :=
  mh_nm (-1 : Int32) fun v9 =>
  mh_nm (9223372036854775807 : Int64) fun w10 =>
  mh_nm (0 : Int32) fun v11 =>
  f_X8_backFrom_b10 mh_fu o0 o1 x2 v9 w10 v11 h
set_option maxRecDepth 100000 in
set_option maxHeartbeats 4000000 in
theorem w_X8_backFrom_b94 {p : Program} {l : Launch} {e : Env} {s : State} {m : MethodId} {args : Array Value} {below : List Frame} {meth : Method} {c : Code} {D : va_G} {ks : Nat → ClassId} {L : List Nat} {r : Int32} {h' : mh_H} (k10 : Nat → Nat → Int32 → Int32 → Int64 → Int32 → mh_H → Option (Int32 × mh_H)) (cx : mh_C p m c cX8_backFrom 10 s args RX8 meth D ks (mh_A L s.heap.size)) (hr : meth.sig.returnType = (some .int))
    (hk10 : ∀ (o0 : Nat) (o1 : Nat) (x2 : Int32) (x3 : Int32) (y4 : Int64) (x6 : Int32) (h : mh_H) (H : Heap) (locs : List Loc) (ls : Array Slot), mh_W D ks L (mh_A L s.heap.size) s.heap h H locs → lv_has ls 10 [(0, .ref o0), (1, .ref o1), (2, .int x2), (3, .int x3), (4, .long y4), (6, .int x6)] → k10 o0 o1 x2 x3 y4 x6 h = some (r, h') → W p l e (mh_rm 2) s m args below meth c H locs 0 0 (MQ below (mh_Qi D ks L s.heap.size r h') args s 0 0 (mh_A L s.heap.size)) (F0 m 10 ls [])) :
    ∀ (o0 : Nat) (o1 : Nat) (x2 : Int32) (x3 : Int32) (y4 : Int64) (x6 : Int32) (h : mh_H) (H : Heap) (locs : List Loc) (ls : Array Slot), mh_W D ks L (mh_A L s.heap.size) s.heap h H locs → lv_has ls 10 [(0, .ref o0), (1, .ref o1), (2, .int x2), (3, .int x3), (4, .long y4), (6, .int x6)] → f_X8_backFrom_b94 k10 o0 o1 x2 x3 y4 x6 h = some (r, h') → W p l e (mh_rm 2) s m args below meth c H locs 0 0 (MQ below (mh_Qi D ks L s.heap.size r h') args s 0 0 (mh_A L s.heap.size)) (F0 m 94 ls []) := by
  intro o0 o1 x2 x3 y4 x6 h H locs ls wd hl hX
  have hx := cx.1.1
  have hb := cx.1.2.1
  unfold f_X8_backFrom_b94 at hX
  obtain ⟨v1, ev1, hX⟩ := mh_nmx hX
  refine lv_iinc (k := 5) (v := v1) (lv' := [(6, .int v1), (0, .ref o0), (1, .ref o1), (2, .int x2), (3, .int x3), (4, .long y4)]) hx hb dX8_backFrom_94 hl rfl ev1 (Nat.le_of_ble_eq_true rfl) rfl (fun ls hl => ?_)
  refine lv_goto (tgt := 10) hx hb dX8_backFrom_97 rfl ?_
  exact hk10 _ _ _ _ _ _ h _ _ ls wd (lv_sub hl [1, 2, 3, 4, 5, 0] rfl) hX
set_option maxRecDepth 100000 in
set_option maxHeartbeats 4000000 in
theorem w_X8_backFrom_b100 {p : Program} {l : Launch} {e : Env} {s : State} {m : MethodId} {args : Array Value} {below : List Frame} {meth : Method} {c : Code} {D : va_G} {ks : Nat → ClassId} {L : List Nat} {r : Int32} {h' : mh_H} (cx : mh_C p m c cX8_backFrom 10 s args RX8 meth D ks (mh_A L s.heap.size)) (hr : meth.sig.returnType = (some .int)) :
    ∀ (x3 : Int32) (h : mh_H) (H : Heap) (locs : List Loc) (ls : Array Slot), mh_W D ks L (mh_A L s.heap.size) s.heap h H locs → lv_has ls 10 [(3, .int x3)] → f_X8_backFrom_b100 x3 h = some (r, h') → W p l e (mh_rm 2) s m args below meth c H locs 0 0 (MQ below (mh_Qi D ks L s.heap.size r h') args s 0 0 (mh_A L s.heap.size)) (F0 m 100 ls []) := by
  intro x3 h H locs ls wd hl hX
  have hx := cx.1.1
  have hb := cx.1.2.1
  unfold f_X8_backFrom_b100 at hX
  refine lv_iload_n hx hb dX8_backFrom_100 rfl (lv_at hl 0 rfl) ?_
  exact mh_iret cx wd hr hX dX8_backFrom_101
set_option maxRecDepth 100000 in
set_option maxHeartbeats 4000000 in
theorem w_X8_backFrom_b10 {p : Program} {l : Launch} {e : Env} {s : State} {m : MethodId} {args : Array Value} {below : List Frame} {meth : Method} {c : Code} {D : va_G} {ks : Nat → ClassId} {L : List Nat} {r : Int32} {h' : mh_H} (cx : mh_C p m c cX8_backFrom 10 s args RX8 meth D ks (mh_A L s.heap.size)) (hr : meth.sig.returnType = (some .int)) :
    ∀ n : Nat, ∀ (o0 : Nat) (o1 : Nat) (x2 : Int32) (x3 : Int32) (y4 : Int64) (x6 : Int32) (h : mh_H) (H : Heap) (locs : List Loc) (ls : Array Slot), mh_W D ks L (mh_A L s.heap.size) s.heap h H locs → lv_has ls 10 [(0, .ref o0), (1, .ref o1), (2, .int x2), (3, .int x3), (4, .long y4), (6, .int x6)] → f_X8_backFrom_b10 n o0 o1 x2 x3 y4 x6 h = some (r, h') → W p l e (mh_rm 2) s m args below meth c H locs 0 0 (MQ below (mh_Qi D ks L s.heap.size r h') args s 0 0 (mh_A L s.heap.size)) (F0 m 10 ls []) := by
  intro n
  induction n with
  | zero =>
    intro o0 o1 x2 x3 y4 x6 h H locs ls wd hl hX
    cases hX
  | succ n ih =>
    intro o0 o1 x2 x3 y4 x6 h H locs ls wd hl hX
    have hx := cx.1.1
    have hb := cx.1.2.1
    rw [f_X8_backFrom_b10] at hX
    refine lv_iload hx hb dX8_backFrom_10 (lv_at hl 5 rfl) ?_
    refine lv_aload_n hx hb dX8_backFrom_12 rfl (lv_at hl 1 rfl) ?_
    refine mh_getI cx wd fl_X8_22 dX8_backFrom_13 hX (fun v2 hX => ?_)
    refine lv_icmp_gt (tgt := 100) hx hb dX8_backFrom_16 rfl (fun hc => (fun hX => ?_) ((mh_if hX).1 hc)) (fun hc => (fun hX => ?_) ((mh_if hX).2 hc))
    · exact w_X8_backFrom_b100 cx hr _ h _ _ ls wd (lv_sub hl [3] rfl) hX
    · refine lv_iload_n hx hb dX8_backFrom_19 rfl (lv_at hl 2 rfl) ?_
      refine lv_aload_n hx hb dX8_backFrom_20 rfl (lv_at hl 0 rfl) ?_
      refine mh_getI cx wd fl_X8_22 dX8_backFrom_21 hX (fun v3 hX => ?_)
      refine lv_iload hx hb dX8_backFrom_24 (lv_at hl 5 rfl) ?_
      refine lv_isub hx hb dX8_backFrom_26 ?_
      refine lv_icmp_gt (tgt := 100) hx hb dX8_backFrom_27 rfl (fun hc => (fun hX => ?_) ((mh_if hX).1 hc)) (fun hc => (fun hX => ?_) ((mh_if hX).2 hc))
      · exact w_X8_backFrom_b100 cx hr _ h _ _ ls wd (lv_sub hl [3] rfl) hX
      · refine lv_aload_n hx hb dX8_backFrom_30 rfl (lv_at hl 0 rfl) ?_
        refine lv_iload_n hx hb dX8_backFrom_31 rfl (lv_at hl 2 rfl) ?_
        refine lv_iload hx hb dX8_backFrom_32 (lv_at hl 5 rfl) ?_
        refine lv_iadd hx hb dX8_backFrom_34 ?_
        refine mh_callVJ cx wd [.int (x2 + x6)] (rfl : vwCl[8]? = some (RX8, TX8, 3)) yw_X8_key vw_X8_77 rfl hl.1 rfl (Nat.le_of_ble_eq_true rfl) dX8_backFrom_35 ⟨Nat.le_of_ble_eq_true rfl, Nat.le_of_ble_eq_true rfl⟩ ⟨Nat.le_refl _, Nat.le_refl _⟩ (fun _ _ q => c_X8_key q) hX (fun w5 h4 H locs wd hX => ?_)
        refine lv_lstore (lv' := [(7, .long w5), (0, .ref o0), (1, .ref o1), (2, .int x2), (3, .int x3), (4, .long y4), (6, .int x6)]) hx hb dX8_backFrom_38 hl (Nat.le_of_ble_eq_true rfl) rfl (fun ls hl => ?_)
        refine lv_aload_n hx hb dX8_backFrom_40 rfl (lv_at hl 2 rfl) ?_
        refine lv_iload hx hb dX8_backFrom_41 (lv_at hl 6 rfl) ?_
        refine mh_callVI cx wd [.int x6] (rfl : vwCl[8]? = some (RX8, TX8, 3)) yw_X8_size vw_X8_81 rfl hl.1 rfl (Nat.le_of_ble_eq_true rfl) dX8_backFrom_43 ⟨Nat.le_of_ble_eq_true rfl, Nat.le_of_ble_eq_true rfl⟩ ⟨Nat.le_refl _, Nat.le_refl _⟩ (fun _ _ q => c_X8_size q) hX (fun v7 h6 H locs wd hX => ?_)
        refine lv_istore (lv' := [(9, .int v7), (7, .long w5), (0, .ref o0), (1, .ref o1), (2, .int x2), (3, .int x3), (4, .long y4), (6, .int x6)]) hx hb dX8_backFrom_46 hl (Nat.le_of_ble_eq_true rfl) rfl (fun ls hl => ?_)
        refine lv_lload hx hb dX8_backFrom_48 (lv_at hl 1 rfl) ?_
        refine mh_ldc2 cx kl_X8_34 dX8_backFrom_50 ?_
        refine W.lcmp hx hb dX8_backFrom_53 ?_
        refine lv_if_eq (tgt := 94) hx hb dX8_backFrom_54 rfl (fun hc => (fun hX => ?_) ((mh_if hX).1 hc)) (fun hc => (fun hX => ?_) ((mh_if hX).2 hc))
        · exact w_X8_backFrom_b94 (f_X8_backFrom_b10 n) cx hr ih _ _ _ _ _ _ h6 _ _ ls wd (lv_sub hl [2, 3, 4, 5, 6, 7] rfl) hX
        · refine lv_iload hx hb dX8_backFrom_57 (lv_at hl 0 rfl) ?_
          refine lv_iconst (v := (-1)) hx hb dX8_backFrom_59 (by decide) ?_
          refine lv_icmp_eq (tgt := 94) hx hb dX8_backFrom_60 rfl (fun hc => (fun hX => ?_) ((mh_if hX).1 hc)) (fun hc => (fun hX => ?_) ((mh_if hX).2 hc))
          · exact w_X8_backFrom_b94 (f_X8_backFrom_b10 n) cx hr ih _ _ _ _ _ _ h6 _ _ ls wd (lv_sub hl [2, 3, 4, 5, 6, 7] rfl) hX
          · refine lv_lload hx hb dX8_backFrom_63 (lv_at hl 1 rfl) ?_
            refine lv_iload hx hb dX8_backFrom_65 (lv_at hl 0 rfl) ?_
            refine lv_i2l hx hb dX8_backFrom_67 rfl ?_
            refine mh_ldc2 cx kl_X8_59 dX8_backFrom_68 ?_
            refine lv_lmul hx hb dX8_backFrom_71 ?_
            refine lv_ladd hx hb dX8_backFrom_72 ?_
            refine lv_lload hx hb dX8_backFrom_73 (lv_at hl 6 rfl) ?_
            refine W.lcmp hx hb dX8_backFrom_75 ?_
            refine lv_if_ge (tgt := 94) hx hb dX8_backFrom_76 rfl (fun hc => (fun hX => ?_) ((mh_if hX).1 hc)) (fun hc => (fun hX => ?_) ((mh_if hX).2 hc))
            · exact w_X8_backFrom_b94 (f_X8_backFrom_b10 n) cx hr ih _ _ _ _ _ _ h6 _ _ ls wd (lv_sub hl [2, 3, 4, 5, 6, 7] rfl) hX
            · refine lv_lload hx hb dX8_backFrom_79 (lv_at hl 1 rfl) ?_
              refine lv_iload hx hb dX8_backFrom_81 (lv_at hl 0 rfl) ?_
              refine lv_i2l hx hb dX8_backFrom_83 rfl ?_
              refine mh_ldc2 cx kl_X8_59 dX8_backFrom_84 ?_
              refine lv_lmul hx hb dX8_backFrom_87 ?_
              refine lv_ladd hx hb dX8_backFrom_88 ?_
              refine mh_topl hX (fun w8 hX => ?_)
              refine lv_lstore (lv' := [(4, .long w8), (9, .int v7), (7, .long w5), (0, .ref o0), (1, .ref o1), (2, .int x2), (3, .int x3), (6, .int x6)]) hx hb dX8_backFrom_89 hl (Nat.le_of_ble_eq_true rfl) rfl (fun ls hl => ?_)
              refine lv_iload hx hb dX8_backFrom_91 (lv_at hl 7 rfl) ?_
              refine lv_istore_n (lv' := [(3, .int x6), (4, .long w8), (9, .int v7), (7, .long w5), (0, .ref o0), (1, .ref o1), (2, .int x2), (6, .int x6)]) hx hb dX8_backFrom_93 rfl hl (Nat.le_of_ble_eq_true rfl) rfl (fun ls hl => ?_)
              exact w_X8_backFrom_b94 (f_X8_backFrom_b10 n) cx hr ih _ _ _ _ _ _ h6 _ _ ls wd (lv_sub hl [4, 5, 6, 0, 1, 7] rfl) hX
set_option maxRecDepth 100000 in
set_option maxHeartbeats 4000000 in
theorem w_X8_backFrom_e {p : Program} {l : Launch} {e : Env} {s : State} {m : MethodId} {args : Array Value} {below : List Frame} {meth : Method} {c : Code} {D : va_G} {ks : Nat → ClassId} {L : List Nat} {r : Int32} {h' : mh_H} (cx : mh_C p m c cX8_backFrom 10 s args RX8 meth D ks (mh_A L s.heap.size)) (hr : meth.sig.returnType = (some .int)) :
    ∀ (o0 : Nat) (o1 : Nat) (x2 : Int32) (h : mh_H) (H : Heap) (locs : List Loc) (ls : Array Slot), mh_W D ks L (mh_A L s.heap.size) s.heap h H locs → lv_has ls 10 [(0, .ref o0), (1, .ref o1), (2, .int x2)] → f_X8_backFrom_e o0 o1 x2 h = some (r, h') → W p l e (mh_rm 2) s m args below meth c H locs 0 0 (MQ below (mh_Qi D ks L s.heap.size r h') args s 0 0 (mh_A L s.heap.size)) (F0 m 0 ls []) := by
  intro o0 o1 x2 h H locs ls wd hl hX
  have hx := cx.1.1
  have hb := cx.1.2.1
  unfold f_X8_backFrom_e at hX
  refine lv_iconst (v := (-1)) hx hb dX8_backFrom_0 (by decide) ?_
  refine mh_topi hX (fun v9 hX => ?_)
  refine lv_istore_n (lv' := [(3, .int v9), (0, .ref o0), (1, .ref o1), (2, .int x2)]) hx hb dX8_backFrom_1 rfl hl (Nat.le_of_ble_eq_true rfl) rfl (fun ls hl => ?_)
  refine mh_ldc2 cx kl_X8_34 dX8_backFrom_2 ?_
  refine mh_topl hX (fun w10 hX => ?_)
  refine lv_lstore (lv' := [(4, .long w10), (3, .int v9), (0, .ref o0), (1, .ref o1), (2, .int x2)]) hx hb dX8_backFrom_5 hl (Nat.le_of_ble_eq_true rfl) rfl (fun ls hl => ?_)
  refine lv_iconst (v := 0) hx hb dX8_backFrom_7 (by decide) ?_
  refine mh_topi hX (fun v11 hX => ?_)
  refine lv_istore (lv' := [(6, .int v11), (4, .long w10), (3, .int v9), (0, .ref o0), (1, .ref o1), (2, .int x2)]) hx hb dX8_backFrom_8 hl (Nat.le_of_ble_eq_true rfl) rfl (fun ls hl => ?_)
  exact w_X8_backFrom_b10 cx hr mh_fu _ _ _ _ _ _ h _ _ ls wd (lv_sub hl [3, 4, 5, 2, 1, 0] rfl) hX
set_option maxRecDepth 100000 in
theorem c_X8_backFrom {l : Launch} {L : List Nat} {h h' : mh_H} {r : Int32} {o0 : Nat} {o1 : Nat} {x2 : Int32} (hX : f_X8_backFrom_e o0 o1 x2 h = some (r, h')) : mh_MI l yX8_backFrom (Cond.code yX8_backFrom cX8_backFrom 10 (some .int) :: mh_TB) (mh_rm 2) [.ref o0, .ref o1, .int x2] L h r h' :=
  mh_of (mc := 0) (ms := 0) (Qc := fun D ks sz => mh_Qi D ks L sz r h') (plainFor_of_name (by decide)) (Nat.le_of_ble_eq_true rfl) (fun p e s m below meth c D ks ls hr cx wd hl => by
    have hl : lv_has ls 10 [(0, .ref o0), (1, .ref o1), (2, .int x2)] := hl
    exact w_X8_backFrom_e cx hr o0 o1 x2 h _ _ ls wd hl hX)
def f_X8_move_b95 (h : mh_H) : Option (Int32 × mh_H) :=
  mh_rz (0 : Int32) h
def f_X8_move_b97 (k21 : Nat → Nat → Nat → Int64 → Int32 → mh_H → Option (Int32 × mh_H)) (o0 : Nat) (o2 : Nat) (o3 : Nat) (y4 : Int64) (x6 : Int32) (h : mh_H) : Option (Int32 × mh_H) :=
  mh_nm (x6 + Int32.ofInt (1)) fun v1 =>
  k21 o0 o2 o3 y4 v1 h
def f_X8_move_b103 (h : mh_H) : Option (Int32 × mh_H) :=
  mh_rz (1 : Int32) h
def f_X8_move_b21 : Nat → Nat → Nat → Nat → Int64 → Int32 → mh_H → Option (Int32 × mh_H)
  | 0, _, _, _, _, _, _ => none
  | n + 1, o0, o2, o3, y4, x6, h =>
    (mh_gR h o0 8 0).bind fun a2 =>
    mh_b2 (mh_cal h a2 7 (f_X7_coins_e a2 h)) fun a4 h3 =>
    mh_b2 (mh_cal h3 a4 1 (f_X1_count_e a4 h3)) fun v6 h5 =>
    if v6 ≤ x6 then (
    f_X8_move_b103 h5) else
    mh_nz ((21 : Int64) = 0) <|
    mh_nm (((mh_lrem y4 (21 : Int64))).toInt32) fun v7 =>
    mh_nz ((21 : Int64) = 0) <|
    mh_nm (y4 / (21 : Int64)) fun w8 =>
    (mh_gR h5 o0 8 0).bind fun a9 =>
    mh_b2 (mh_cal h5 a9 7 (f_X7_coins_e a9 h5)) fun a11 h10 =>
    mh_b2 (mh_cal h10 a11 1 (f_X1_value_e a11 x6 h10)) fun v13 h12 =>
    if v7 ≤ 0 then (
    f_X8_move_b97 (f_X8_move_b21 n) o0 o2 o3 w8 x6 h12) else
    mh_b2 (mh_cal h12 o2 7 (f_X7_alter_e o2 v13 (-v7) h12)) fun v15 h14 =>
    if v15 = 0 then (
    f_X8_move_b95 h14) else
    mh_b2 (mh_cal h14 o3 7 (f_X7_alter_e o3 v13 v7 h14)) fun v17 h16 =>
    if v17 = 0 then (
    f_X8_move_b95 h16) else
    f_X8_move_b97 (f_X8_move_b21 n) o0 o2 o3 w8 x6 h16
def f_X8_move_e (o0 : Nat) (x1 : Int32) (o2 : Nat) (o3 : Nat) (h : mh_H) : Option (Int32 × mh_H) :=
  mh_b2 (mh_cal h o0 8 (f_X8_size_e o0 x1 h)) fun v19 h18 =>
  mh_b2 (mh_cal h18 o0 8 (f_X8_key_e o0 x1 h18)) fun w21 h20 =>
  mh_nm (((v19).toInt64 * (7355827511386641 : Int64)) - w21) fun w22 =>
  mh_nm (0 : Int32) fun v23 =>
  f_X8_move_b21 mh_fu o0 o2 o3 w22 v23 h20
set_option maxRecDepth 100000 in
set_option maxHeartbeats 4000000 in
theorem w_X8_move_b95 {p : Program} {l : Launch} {e : Env} {s : State} {m : MethodId} {args : Array Value} {below : List Frame} {meth : Method} {c : Code} {D : va_G} {ks : Nat → ClassId} {L : List Nat} {r : Int32} {h' : mh_H} (cx : mh_C p m c cX8_move 9 s args RX8 meth D ks (mh_A L s.heap.size)) (hr : meth.sig.returnType = (some .boolean)) :
    ∀ (h : mh_H) (H : Heap) (locs : List Loc) (ls : Array Slot), mh_W D ks L (mh_A L s.heap.size) s.heap h H locs → lv_has ls 9 [] → f_X8_move_b95  h = some (r, h') → W p l e (mh_rm 4) s m args below meth c H locs 0 0 (MQ below (mh_Qi D ks L s.heap.size r h') args s 0 0 (mh_A L s.heap.size)) (F0 m 95 ls []) := by
  intro  h H locs ls wd hl hX
  have hx := cx.1.1
  have hb := cx.1.2.1
  unfold f_X8_move_b95 at hX
  refine lv_iconst (v := 0) hx hb dX8_move_95 (by decide) ?_
  exact mh_zret cx wd hr hX dX8_move_96
set_option maxRecDepth 100000 in
set_option maxHeartbeats 4000000 in
theorem w_X8_move_b97 {p : Program} {l : Launch} {e : Env} {s : State} {m : MethodId} {args : Array Value} {below : List Frame} {meth : Method} {c : Code} {D : va_G} {ks : Nat → ClassId} {L : List Nat} {r : Int32} {h' : mh_H} (k21 : Nat → Nat → Nat → Int64 → Int32 → mh_H → Option (Int32 × mh_H)) (cx : mh_C p m c cX8_move 9 s args RX8 meth D ks (mh_A L s.heap.size)) (hr : meth.sig.returnType = (some .boolean))
    (hk21 : ∀ (o0 : Nat) (o2 : Nat) (o3 : Nat) (y4 : Int64) (x6 : Int32) (h : mh_H) (H : Heap) (locs : List Loc) (ls : Array Slot), mh_W D ks L (mh_A L s.heap.size) s.heap h H locs → lv_has ls 9 [(0, .ref o0), (2, .ref o2), (3, .ref o3), (4, .long y4), (6, .int x6)] → k21 o0 o2 o3 y4 x6 h = some (r, h') → W p l e (mh_rm 4) s m args below meth c H locs 0 0 (MQ below (mh_Qi D ks L s.heap.size r h') args s 0 0 (mh_A L s.heap.size)) (F0 m 21 ls [])) :
    ∀ (o0 : Nat) (o2 : Nat) (o3 : Nat) (y4 : Int64) (x6 : Int32) (h : mh_H) (H : Heap) (locs : List Loc) (ls : Array Slot), mh_W D ks L (mh_A L s.heap.size) s.heap h H locs → lv_has ls 9 [(0, .ref o0), (2, .ref o2), (3, .ref o3), (4, .long y4), (6, .int x6)] → f_X8_move_b97 k21 o0 o2 o3 y4 x6 h = some (r, h') → W p l e (mh_rm 4) s m args below meth c H locs 0 0 (MQ below (mh_Qi D ks L s.heap.size r h') args s 0 0 (mh_A L s.heap.size)) (F0 m 97 ls []) := by
  intro o0 o2 o3 y4 x6 h H locs ls wd hl hX
  have hx := cx.1.1
  have hb := cx.1.2.1
  unfold f_X8_move_b97 at hX
  obtain ⟨v1, ev1, hX⟩ := mh_nmx hX
  refine lv_iinc (k := 4) (v := v1) (lv' := [(6, .int v1), (0, .ref o0), (2, .ref o2), (3, .ref o3), (4, .long y4)]) hx hb dX8_move_97 hl rfl ev1 (Nat.le_of_ble_eq_true rfl) rfl (fun ls hl => ?_)
  refine lv_goto (tgt := 21) hx hb dX8_move_100 rfl ?_
  exact hk21 _ _ _ _ _ h _ _ ls wd (lv_sub hl [1, 2, 3, 4, 0] rfl) hX
set_option maxRecDepth 100000 in
set_option maxHeartbeats 4000000 in
theorem w_X8_move_b103 {p : Program} {l : Launch} {e : Env} {s : State} {m : MethodId} {args : Array Value} {below : List Frame} {meth : Method} {c : Code} {D : va_G} {ks : Nat → ClassId} {L : List Nat} {r : Int32} {h' : mh_H} (cx : mh_C p m c cX8_move 9 s args RX8 meth D ks (mh_A L s.heap.size)) (hr : meth.sig.returnType = (some .boolean)) :
    ∀ (h : mh_H) (H : Heap) (locs : List Loc) (ls : Array Slot), mh_W D ks L (mh_A L s.heap.size) s.heap h H locs → lv_has ls 9 [] → f_X8_move_b103  h = some (r, h') → W p l e (mh_rm 4) s m args below meth c H locs 0 0 (MQ below (mh_Qi D ks L s.heap.size r h') args s 0 0 (mh_A L s.heap.size)) (F0 m 103 ls []) := by
  intro  h H locs ls wd hl hX
  have hx := cx.1.1
  have hb := cx.1.2.1
  unfold f_X8_move_b103 at hX
  refine lv_iconst (v := 1) hx hb dX8_move_103 (by decide) ?_
  exact mh_zret cx wd hr hX dX8_move_104
set_option maxRecDepth 100000 in
set_option maxHeartbeats 4000000 in
theorem w_X8_move_b21 {p : Program} {l : Launch} {e : Env} {s : State} {m : MethodId} {args : Array Value} {below : List Frame} {meth : Method} {c : Code} {D : va_G} {ks : Nat → ClassId} {L : List Nat} {r : Int32} {h' : mh_H} (cx : mh_C p m c cX8_move 9 s args RX8 meth D ks (mh_A L s.heap.size)) (hr : meth.sig.returnType = (some .boolean)) :
    ∀ n : Nat, ∀ (o0 : Nat) (o2 : Nat) (o3 : Nat) (y4 : Int64) (x6 : Int32) (h : mh_H) (H : Heap) (locs : List Loc) (ls : Array Slot), mh_W D ks L (mh_A L s.heap.size) s.heap h H locs → lv_has ls 9 [(0, .ref o0), (2, .ref o2), (3, .ref o3), (4, .long y4), (6, .int x6)] → f_X8_move_b21 n o0 o2 o3 y4 x6 h = some (r, h') → W p l e (mh_rm 4) s m args below meth c H locs 0 0 (MQ below (mh_Qi D ks L s.heap.size r h') args s 0 0 (mh_A L s.heap.size)) (F0 m 21 ls []) := by
  intro n
  induction n with
  | zero =>
    intro o0 o2 o3 y4 x6 h H locs ls wd hl hX
    cases hX
  | succ n ih =>
    intro o0 o2 o3 y4 x6 h H locs ls wd hl hX
    have hx := cx.1.1
    have hb := cx.1.2.1
    rw [f_X8_move_b21] at hX
    refine lv_iload hx hb dX8_move_21 (lv_at hl 4 rfl) ?_
    refine lv_aload_n hx hb dX8_move_23 rfl (lv_at hl 0 rfl) ?_
    refine mh_getR cx wd fl_X8_12 dX8_move_24 hX (fun a2 hX => ?_)
    refine mh_callVR cx wd [] (rfl : vwCl[7]? = some (RX7, TX7, 2)) yw_X7_coins vw_X8_42 rfl hl.1 rfl (Nat.le_of_ble_eq_true rfl) dX8_move_27 ⟨Nat.le_of_ble_eq_true rfl, Nat.le_of_ble_eq_true rfl⟩ ⟨Nat.le_refl _, Nat.le_refl _⟩ (fun _ _ q => c_X7_coins q) hX (fun a4 h3 H locs wd hX => ?_)
    refine mh_callVI cx wd [] (rfl : vwCl[1]? = some (RX1, TX1, 2)) yw_X1_count vw_X8_46 rfl hl.1 rfl (Nat.le_of_ble_eq_true rfl) dX8_move_30 ⟨Nat.le_of_ble_eq_true rfl, Nat.le_of_ble_eq_true rfl⟩ ⟨Nat.le_refl _, Nat.le_refl _⟩ (fun _ _ q => c_X1_count q) hX (fun v6 h5 H locs wd hX => ?_)
    refine lv_icmp_ge (tgt := 103) hx hb dX8_move_33 rfl (fun hc => (fun hX => ?_) ((mh_if hX).1 hc)) (fun hc => (fun hX => ?_) ((mh_if hX).2 hc))
    · exact w_X8_move_b103 cx hr  h5 _ _ ls wd (lv_sub hl [] rfl) hX
    · refine lv_lload hx hb dX8_move_36 (lv_at hl 3 rfl) ?_
      refine mh_ldc2 cx kl_X8_65 dX8_move_38 ?_
      obtain ⟨hz, hX⟩ := mh_nzk hX
      refine lv_lrem hx hb dX8_move_41 hz ?_
      refine lv_l2i hx hb dX8_move_42 rfl ?_
      refine mh_topi hX (fun v7 hX => ?_)
      refine lv_istore (lv' := [(7, .int v7), (0, .ref o0), (2, .ref o2), (3, .ref o3), (4, .long y4), (6, .int x6)]) hx hb dX8_move_43 hl (Nat.le_of_ble_eq_true rfl) rfl (fun ls hl => ?_)
      refine lv_lload hx hb dX8_move_45 (lv_at hl 4 rfl) ?_
      refine mh_ldc2 cx kl_X8_65 dX8_move_47 ?_
      obtain ⟨hz, hX⟩ := mh_nzk hX
      refine lv_ldiv hx hb dX8_move_50 hz ?_
      refine mh_topl hX (fun w8 hX => ?_)
      refine lv_lstore (lv' := [(4, .long w8), (7, .int v7), (0, .ref o0), (2, .ref o2), (3, .ref o3), (6, .int x6)]) hx hb dX8_move_51 hl (Nat.le_of_ble_eq_true rfl) rfl (fun ls hl => ?_)
      refine lv_aload_n hx hb dX8_move_53 rfl (lv_at hl 2 rfl) ?_
      refine mh_getR cx wd fl_X8_12 dX8_move_54 hX (fun a9 hX => ?_)
      refine mh_callVR cx wd [] (rfl : vwCl[7]? = some (RX7, TX7, 2)) yw_X7_coins vw_X8_42 rfl hl.1 rfl (Nat.le_of_ble_eq_true rfl) dX8_move_57 ⟨Nat.le_of_ble_eq_true rfl, Nat.le_of_ble_eq_true rfl⟩ ⟨Nat.le_refl _, Nat.le_refl _⟩ (fun _ _ q => c_X7_coins q) hX (fun a11 h10 H locs wd hX => ?_)
      refine lv_iload hx hb dX8_move_60 (lv_at hl 5 rfl) ?_
      refine mh_callVI cx wd [.int x6] (rfl : vwCl[1]? = some (RX1, TX1, 2)) yw_X1_value vw_X8_56 rfl hl.1 rfl (Nat.le_of_ble_eq_true rfl) dX8_move_62 ⟨Nat.le_of_ble_eq_true rfl, Nat.le_of_ble_eq_true rfl⟩ ⟨Nat.le_refl _, Nat.le_refl _⟩ (fun _ _ q => c_X1_value q) hX (fun v13 h12 H locs wd hX => ?_)
      refine lv_istore (lv' := [(8, .int v13), (4, .long w8), (7, .int v7), (0, .ref o0), (2, .ref o2), (3, .ref o3), (6, .int x6)]) hx hb dX8_move_65 hl (Nat.le_of_ble_eq_true rfl) rfl (fun ls hl => ?_)
      refine lv_iload hx hb dX8_move_67 (lv_at hl 2 rfl) ?_
      refine lv_if_le (tgt := 97) hx hb dX8_move_69 rfl (fun hc => (fun hX => ?_) ((mh_if hX).1 hc)) (fun hc => (fun hX => ?_) ((mh_if hX).2 hc))
      · exact w_X8_move_b97 (f_X8_move_b21 n) cx hr ih _ _ _ _ _ h12 _ _ ls wd (lv_sub hl [3, 4, 5, 1, 6] rfl) hX
      · refine lv_aload_n hx hb dX8_move_72 rfl (lv_at hl 4 rfl) ?_
        refine lv_iload hx hb dX8_move_73 (lv_at hl 0 rfl) ?_
        refine lv_iload hx hb dX8_move_75 (lv_at hl 2 rfl) ?_
        refine lv_ineg hx hb dX8_move_77 ?_
        refine mh_callVI cx wd [.int v13, .int (-v7)] (rfl : vwCl[7]? = some (RX7, TX7, 2)) yw_X7_alter vw_X8_84 rfl hl.1 rfl (Nat.le_of_ble_eq_true rfl) dX8_move_78 ⟨Nat.le_of_ble_eq_true rfl, Nat.le_of_ble_eq_true rfl⟩ ⟨Nat.le_refl _, Nat.le_refl _⟩ (fun _ _ q => c_X7_alter q) hX (fun v15 h14 H locs wd hX => ?_)
        refine lv_if_eq (tgt := 95) hx hb dX8_move_81 rfl (fun hc => (fun hX => ?_) ((mh_if hX).1 hc)) (fun hc => (fun hX => ?_) ((mh_if hX).2 hc))
        · exact w_X8_move_b95 cx hr  h14 _ _ ls wd (lv_sub hl [] rfl) hX
        · refine lv_aload_n hx hb dX8_move_84 rfl (lv_at hl 5 rfl) ?_
          refine lv_iload hx hb dX8_move_85 (lv_at hl 0 rfl) ?_
          refine lv_iload hx hb dX8_move_87 (lv_at hl 2 rfl) ?_
          refine mh_callVI cx wd [.int v13, .int v7] (rfl : vwCl[7]? = some (RX7, TX7, 2)) yw_X7_alter vw_X8_84 rfl hl.1 rfl (Nat.le_of_ble_eq_true rfl) dX8_move_89 ⟨Nat.le_of_ble_eq_true rfl, Nat.le_of_ble_eq_true rfl⟩ ⟨Nat.le_refl _, Nat.le_refl _⟩ (fun _ _ q => c_X7_alter q) hX (fun v17 h16 H locs wd hX => ?_)
          refine lv_if_ne (tgt := 97) hx hb dX8_move_92 rfl (fun hc => (fun hX => ?_) ((mh_if hX).2 hc)) (fun hc => (fun hX => ?_) ((mh_if hX).1 hc))
          · exact w_X8_move_b97 (f_X8_move_b21 n) cx hr ih _ _ _ _ _ h16 _ _ ls wd (lv_sub hl [3, 4, 5, 1, 6] rfl) hX
          · exact w_X8_move_b95 cx hr  h16 _ _ ls wd (lv_sub hl [] rfl) hX
set_option maxRecDepth 100000 in
set_option maxHeartbeats 4000000 in
theorem w_X8_move_e {p : Program} {l : Launch} {e : Env} {s : State} {m : MethodId} {args : Array Value} {below : List Frame} {meth : Method} {c : Code} {D : va_G} {ks : Nat → ClassId} {L : List Nat} {r : Int32} {h' : mh_H} (cx : mh_C p m c cX8_move 9 s args RX8 meth D ks (mh_A L s.heap.size)) (hr : meth.sig.returnType = (some .boolean)) :
    ∀ (o0 : Nat) (x1 : Int32) (o2 : Nat) (o3 : Nat) (h : mh_H) (H : Heap) (locs : List Loc) (ls : Array Slot), mh_W D ks L (mh_A L s.heap.size) s.heap h H locs → lv_has ls 9 [(0, .ref o0), (1, .int x1), (2, .ref o2), (3, .ref o3)] → f_X8_move_e o0 x1 o2 o3 h = some (r, h') → W p l e (mh_rm 4) s m args below meth c H locs 0 0 (MQ below (mh_Qi D ks L s.heap.size r h') args s 0 0 (mh_A L s.heap.size)) (F0 m 0 ls []) := by
  intro o0 x1 o2 o3 h H locs ls wd hl hX
  have hx := cx.1.1
  have hb := cx.1.2.1
  unfold f_X8_move_e at hX
  refine lv_aload_n hx hb dX8_move_0 rfl (lv_at hl 0 rfl) ?_
  refine lv_iload_n hx hb dX8_move_1 rfl (lv_at hl 1 rfl) ?_
  refine mh_callVI cx wd [.int x1] (rfl : vwCl[8]? = some (RX8, TX8, 3)) yw_X8_size vw_X8_81 rfl hl.1 rfl (Nat.le_of_ble_eq_true rfl) dX8_move_2 ⟨Nat.le_of_ble_eq_true rfl, Nat.le_of_ble_eq_true rfl⟩ ⟨Nat.le_refl _, Nat.le_refl _⟩ (fun _ _ q => c_X8_size q) hX (fun v19 h18 H locs wd hX => ?_)
  refine lv_i2l hx hb dX8_move_5 rfl ?_
  refine mh_ldc2 cx kl_X8_59 dX8_move_6 ?_
  refine lv_lmul hx hb dX8_move_9 ?_
  refine lv_aload_n hx hb dX8_move_10 rfl (lv_at hl 0 rfl) ?_
  refine lv_iload_n hx hb dX8_move_11 rfl (lv_at hl 1 rfl) ?_
  refine mh_callVJ cx wd [.int x1] (rfl : vwCl[8]? = some (RX8, TX8, 3)) yw_X8_key vw_X8_77 rfl hl.1 rfl (Nat.le_of_ble_eq_true rfl) dX8_move_12 ⟨Nat.le_of_ble_eq_true rfl, Nat.le_of_ble_eq_true rfl⟩ ⟨Nat.le_refl _, Nat.le_refl _⟩ (fun _ _ q => c_X8_key q) hX (fun w21 h20 H locs wd hX => ?_)
  refine lv_lsub hx hb dX8_move_15 ?_
  refine mh_topl hX (fun w22 hX => ?_)
  refine lv_lstore (lv' := [(4, .long w22), (0, .ref o0), (1, .int x1), (2, .ref o2), (3, .ref o3)]) hx hb dX8_move_16 hl (Nat.le_of_ble_eq_true rfl) rfl (fun ls hl => ?_)
  refine lv_iconst (v := 0) hx hb dX8_move_18 (by decide) ?_
  refine mh_topi hX (fun v23 hX => ?_)
  refine lv_istore (lv' := [(6, .int v23), (4, .long w22), (0, .ref o0), (1, .int x1), (2, .ref o2), (3, .ref o3)]) hx hb dX8_move_19 hl (Nat.le_of_ble_eq_true rfl) rfl (fun ls hl => ?_)
  exact w_X8_move_b21 cx hr mh_fu _ _ _ _ _ h20 _ _ ls wd (lv_sub hl [2, 4, 5, 1, 0] rfl) hX
set_option maxRecDepth 100000 in
theorem c_X8_move {l : Launch} {L : List Nat} {h h' : mh_H} {r : Int32} {o0 : Nat} {x1 : Int32} {o2 : Nat} {o3 : Nat} (hX : f_X8_move_e o0 x1 o2 o3 h = some (r, h')) : mh_MI l yX8_move (Cond.code yX8_move cX8_move 9 (some .boolean) :: mh_TB) (mh_rm 4) [.ref o0, .int x1, .ref o2, .ref o3] L h r h' :=
  mh_of (mc := 0) (ms := 0) (Qc := fun D ks sz => mh_Qi D ks L sz r h') (plainFor_of_name (by decide)) (Nat.le_of_ble_eq_true rfl) (fun p e s m below meth c D ks ls hr cx wd hl => by
    have hl : lv_has ls 9 [(0, .ref o0), (1, .int x1), (2, .ref o2), (3, .ref o3)] := hl
    exact w_X8_move_e cx hr o0 x1 o2 o3 h _ _ ls wd hl hX)
def f_X9_looked_e (o0 : Nat) (h : mh_H) : Option (Int32 × mh_H) :=
  (mh_gI h o0 9 5).bind fun v1 =>
  some (v1, h)
set_option maxRecDepth 100000 in
set_option maxHeartbeats 4000000 in
theorem w_X9_looked_e {p : Program} {l : Launch} {e : Env} {s : State} {m : MethodId} {args : Array Value} {below : List Frame} {meth : Method} {c : Code} {D : va_G} {ks : Nat → ClassId} {L : List Nat} {r : Int32} {h' : mh_H} (cx : mh_C p m c cX9_looked 1 s args RX9 meth D ks (mh_A L s.heap.size)) (hr : meth.sig.returnType = (some .int)) :
    ∀ (o0 : Nat) (h : mh_H) (H : Heap) (locs : List Loc) (ls : Array Slot), mh_W D ks L (mh_A L s.heap.size) s.heap h H locs → lv_has ls 1 [(0, .ref o0)] → f_X9_looked_e o0 h = some (r, h') → W p l e (mh_rm 0) s m args below meth c H locs 0 0 (MQ below (mh_Qi D ks L s.heap.size r h') args s 0 0 (mh_A L s.heap.size)) (F0 m 0 ls []) := by
  intro o0 h H locs ls wd hl hX
  have hx := cx.1.1
  have hb := cx.1.2.1
  unfold f_X9_looked_e at hX
  refine lv_aload_n hx hb dX9_looked_0 rfl (lv_at hl 0 rfl) ?_
  refine mh_getI cx wd fl_X9_32 dX9_looked_1 hX (fun v1 hX => ?_)
  exact mh_iret cx wd hr hX dX9_looked_4
set_option maxRecDepth 100000 in
theorem c_X9_looked {l : Launch} {L : List Nat} {h h' : mh_H} {r : Int32} {o0 : Nat} (hX : f_X9_looked_e o0 h = some (r, h')) : mh_MI l yX9_looked (Cond.code yX9_looked cX9_looked 1 (some .int) :: mh_TB) (mh_rm 0) [.ref o0] L h r h' :=
  mh_of (mc := 0) (ms := 0) (Qc := fun D ks sz => mh_Qi D ks L sz r h') (plainFor_of_name (by decide)) (Nat.le_of_ble_eq_true rfl) (fun p e s m below meth c D ks ls hr cx wd hl => by
    have hl : lv_has ls 1 [(0, .ref o0)] := hl
    exact w_X9_looked_e cx hr o0 h _ _ ls wd hl hX)
def f_X9_found_e (o0 : Nat) (h : mh_H) : Option (Nat × mh_H) :=
  (mh_gR h o0 9 1).bind fun a1 =>
  some (a1, h)
set_option maxRecDepth 100000 in
set_option maxHeartbeats 4000000 in
theorem w_X9_found_e {p : Program} {l : Launch} {e : Env} {s : State} {m : MethodId} {args : Array Value} {below : List Frame} {meth : Method} {c : Code} {D : va_G} {ks : Nat → ClassId} {L : List Nat} {r : Nat} {h' : mh_H} (cx : mh_C p m c cX9_found 1 s args RX9 meth D ks (mh_A L s.heap.size)) (hr : meth.sig.returnType = (some (.object "MintHouse$Coins"))) :
    ∀ (o0 : Nat) (h : mh_H) (H : Heap) (locs : List Loc) (ls : Array Slot), mh_W D ks L (mh_A L s.heap.size) s.heap h H locs → lv_has ls 1 [(0, .ref o0)] → f_X9_found_e o0 h = some (r, h') → W p l e (mh_rm 0) s m args below meth c H locs 0 0 (MQ below (mh_Qr D ks L s.heap.size r h') args s 0 0 (mh_A L s.heap.size)) (F0 m 0 ls []) := by
  intro o0 h H locs ls wd hl hX
  have hx := cx.1.1
  have hb := cx.1.2.1
  unfold f_X9_found_e at hX
  refine lv_aload_n hx hb dX9_found_0 rfl (lv_at hl 0 rfl) ?_
  refine mh_getR cx wd fl_X9_18 dX9_found_1 hX (fun a1 hX => ?_)
  exact mh_aret cx wd hr (Or.inl ⟨_, rfl⟩) hX dX9_found_4
set_option maxRecDepth 100000 in
theorem c_X9_found {l : Launch} {L : List Nat} {h h' : mh_H} {r : Nat} {o0 : Nat} (hX : f_X9_found_e o0 h = some (r, h')) : mh_MR l yX9_found (Cond.code yX9_found cX9_found 1 (some (.object "MintHouse$Coins")) :: mh_TB) (mh_rm 0) [.ref o0] L h r h' :=
  mh_of (mc := 0) (ms := 0) (Qc := fun D ks sz => mh_Qr D ks L sz r h') (plainFor_of_name (by decide)) (Nat.le_of_ble_eq_true rfl) (fun p e s m below meth c D ks ls hr cx wd hl => by
    have hl : lv_has ls 1 [(0, .ref o0)] := hl
    exact w_X9_found_e cx hr o0 h _ _ ls wd hl hX)
def f_X9_foundReach_e (o0 : Nat) (h : mh_H) : Option (Int32 × mh_H) :=
  (mh_gI h o0 9 4).bind fun v1 =>
  some (v1, h)
set_option maxRecDepth 100000 in
set_option maxHeartbeats 4000000 in
theorem w_X9_foundReach_e {p : Program} {l : Launch} {e : Env} {s : State} {m : MethodId} {args : Array Value} {below : List Frame} {meth : Method} {c : Code} {D : va_G} {ks : Nat → ClassId} {L : List Nat} {r : Int32} {h' : mh_H} (cx : mh_C p m c cX9_foundReach 1 s args RX9 meth D ks (mh_A L s.heap.size)) (hr : meth.sig.returnType = (some .int)) :
    ∀ (o0 : Nat) (h : mh_H) (H : Heap) (locs : List Loc) (ls : Array Slot), mh_W D ks L (mh_A L s.heap.size) s.heap h H locs → lv_has ls 1 [(0, .ref o0)] → f_X9_foundReach_e o0 h = some (r, h') → W p l e (mh_rm 0) s m args below meth c H locs 0 0 (MQ below (mh_Qi D ks L s.heap.size r h') args s 0 0 (mh_A L s.heap.size)) (F0 m 0 ls []) := by
  intro o0 h H locs ls wd hl hX
  have hx := cx.1.1
  have hb := cx.1.2.1
  unfold f_X9_foundReach_e at hX
  refine lv_aload_n hx hb dX9_foundReach_0 rfl (lv_at hl 0 rfl) ?_
  refine mh_getI cx wd fl_X9_28 dX9_foundReach_1 hX (fun v1 hX => ?_)
  exact mh_iret cx wd hr hX dX9_foundReach_4
set_option maxRecDepth 100000 in
theorem c_X9_foundReach {l : Launch} {L : List Nat} {h h' : mh_H} {r : Int32} {o0 : Nat} (hX : f_X9_foundReach_e o0 h = some (r, h')) : mh_MI l yX9_foundReach (Cond.code yX9_foundReach cX9_foundReach 1 (some .int) :: mh_TB) (mh_rm 0) [.ref o0] L h r h' :=
  mh_of (mc := 0) (ms := 0) (Qc := fun D ks sz => mh_Qi D ks L sz r h') (plainFor_of_name (by decide)) (Nat.le_of_ble_eq_true rfl) (fun p e s m below meth c D ks ls hr cx wd hl => by
    have hl : lv_has ls 1 [(0, .ref o0)] := hl
    exact w_X9_foundReach_e cx hr o0 h _ _ ls wd hl hX)
def f_X9_lookAt_b118 (h : mh_H) : Option mh_H :=
  some h
def f_X9_lookAt_e (o0 : Nat) (x1 : Int32) (x2 : Int32) (x3 : Int32) (o4 : Nat) (h : mh_H) : Option mh_H :=
  (mh_gR h o0 9 2).bind fun a1 =>
  (mh_aI h a1 0 x1).bind fun v2 =>
  (mh_gR h o0 9 2).bind fun a3 =>
  (mh_aI h a3 0 x1).bind fun v4 =>
  (mh_sI h a3 x1 (v4 + (1 : Int32))).bind fun h5 =>
  (mh_gI h5 o0 9 5).bind fun v6 =>
  (mh_pI h5 o0 9 5 (v6 + (1 : Int32))).bind fun h7 =>
  (mh_gR h7 o0 9 0).bind fun a8 =>
  mh_b2 (mh_cal h7 a8 1 (f_X1_insert_e a8 v2 h7)) fun v10 h9 =>
  (mh_gR h9 o0 9 0).bind fun a11 =>
  (mh_cal h9 o4 2 (f_X2_take_e o4 a11 h9)).bind fun h12 =>
  mh_b2 (mh_cal h12 o4 2 (f_X2_allUpTo_e o4 x3 h12)) fun v14 h13 =>
  (mh_gR h13 o0 9 2).bind fun a15 =>
  (mh_sI h13 a15 (x1 + (1 : Int32)) (v2 + (1 : Int32))).bind fun h16 =>
  (mh_gR h16 o0 9 3).bind fun a17 =>
  (mh_sI h16 a17 (x1 + (1 : Int32)) (if (300 : Int32) < (v14 + (1 : Int32)) then (300 : Int32) else (v14 + (1 : Int32)))).bind fun h18 =>
  if (x1 + (1 : Int32)) = x2 then (
  (mh_gI h18 o0 9 4).bind fun v19 =>
  if v14 ≤ v19 then (
  f_X9_lookAt_b118 h18) else
  (mh_gR h18 o0 9 1).bind fun a20 =>
  (mh_gR h18 o0 9 0).bind fun a21 =>
  (mh_cal h18 a20 1 (f_X1_copy_e a20 a21 h18)).bind fun h22 =>
  (mh_pI h22 o0 9 4 v14).bind fun h23 =>
  f_X9_lookAt_b118 h23) else
  f_X9_lookAt_b118 h18
set_option maxRecDepth 100000 in
set_option maxHeartbeats 4000000 in
theorem w_X9_lookAt_b118 {p : Program} {l : Launch} {e : Env} {s : State} {m : MethodId} {args : Array Value} {below : List Frame} {meth : Method} {c : Code} {D : va_G} {ks : Nat → ClassId} {L : List Nat} {h' : mh_H} (cx : mh_C p m c cX9_lookAt 7 s args RX9 meth D ks (mh_A L s.heap.size)) (hr : meth.sig.returnType = none) :
    ∀ (h : mh_H) (H : Heap) (locs : List Loc) (ls : Array Slot), mh_W D ks L (mh_A L s.heap.size) s.heap h H locs → lv_has ls 7 [] → f_X9_lookAt_b118  h = some h' → W p l e (mh_rm 4) s m args below meth c H locs 0 0 (MQ below (mh_Qv D ks L s.heap.size h') args s 0 0 (mh_A L s.heap.size)) (F0 m 118 ls []) := by
  intro  h H locs ls wd hl hX
  have hx := cx.1.1
  have hb := cx.1.2.1
  unfold f_X9_lookAt_b118 at hX
  exact mh_vret cx wd hr hX dX9_lookAt_118
set_option maxRecDepth 100000 in
set_option maxHeartbeats 4000000 in
theorem w_X9_lookAt_e {p : Program} {l : Launch} {e : Env} {s : State} {m : MethodId} {args : Array Value} {below : List Frame} {meth : Method} {c : Code} {D : va_G} {ks : Nat → ClassId} {L : List Nat} {h' : mh_H} (cx : mh_C p m c cX9_lookAt 7 s args RX9 meth D ks (mh_A L s.heap.size)) (hr : meth.sig.returnType = none) :
    ∀ (o0 : Nat) (x1 : Int32) (x2 : Int32) (x3 : Int32) (o4 : Nat) (h : mh_H) (H : Heap) (locs : List Loc) (ls : Array Slot), mh_W D ks L (mh_A L s.heap.size) s.heap h H locs → lv_has ls 7 [(0, .ref o0), (1, .int x1), (2, .int x2), (3, .int x3), (4, .ref o4)] → f_X9_lookAt_e o0 x1 x2 x3 o4 h = some h' → W p l e (mh_rm 4) s m args below meth c H locs 0 0 (MQ below (mh_Qv D ks L s.heap.size h') args s 0 0 (mh_A L s.heap.size)) (F0 m 0 ls []) := by
  intro o0 x1 x2 x3 o4 h H locs ls wd hl hX
  have hx := cx.1.1
  have hb := cx.1.2.1
  unfold f_X9_lookAt_e at hX
  refine lv_aload_n hx hb dX9_lookAt_0 rfl (lv_at hl 0 rfl) ?_
  refine mh_getR cx wd fl_X9_21 dX9_lookAt_1 hX (fun a1 hX => ?_)
  refine lv_iload_n hx hb dX9_lookAt_4 rfl (lv_at hl 1 rfl) ?_
  refine mh_iald cx wd dX9_lookAt_5 hX (fun v2 hX => ?_)
  refine lv_istore (lv' := [(5, .int v2), (0, .ref o0), (1, .int x1), (2, .int x2), (3, .int x3), (4, .ref o4)]) hx hb dX9_lookAt_6 hl (Nat.le_of_ble_eq_true rfl) rfl (fun ls hl => ?_)
  refine lv_aload_n hx hb dX9_lookAt_8 rfl (lv_at hl 1 rfl) ?_
  refine mh_getR cx wd fl_X9_21 dX9_lookAt_9 hX (fun a3 hX => ?_)
  refine lv_iload_n hx hb dX9_lookAt_12 rfl (lv_at hl 2 rfl) ?_
  refine lv_dup2_11 hx hb dX9_lookAt_13 rfl rfl ?_
  refine mh_iald cx wd dX9_lookAt_14 hX (fun v4 hX => ?_)
  refine lv_iconst (v := 1) hx hb dX9_lookAt_15 (by decide) ?_
  refine lv_iadd hx hb dX9_lookAt_16 ?_
  refine mh_iast cx wd dX9_lookAt_17 hX (fun h5 H locs wd hX => ?_)
  refine lv_aload_n hx hb dX9_lookAt_18 rfl (lv_at hl 1 rfl) ?_
  refine lv_dup hx hb dX9_lookAt_19 rfl ?_
  refine mh_getI cx wd fl_X9_32 dX9_lookAt_20 hX (fun v6 hX => ?_)
  refine lv_iconst (v := 1) hx hb dX9_lookAt_23 (by decide) ?_
  refine lv_iadd hx hb dX9_lookAt_24 ?_
  refine mh_putI cx wd fp_X9_32 dX9_lookAt_25 hX (fun h7 H locs wd hX => ?_)
  refine lv_aload_n hx hb dX9_lookAt_28 rfl (lv_at hl 1 rfl) ?_
  refine mh_getR cx wd fl_X9_12 dX9_lookAt_29 hX (fun a8 hX => ?_)
  refine lv_iload hx hb dX9_lookAt_32 (lv_at hl 0 rfl) ?_
  refine mh_callVI cx wd [.int v2] (rfl : vwCl[1]? = some (RX1, TX1, 2)) yw_X1_insert vw_X9_53 rfl hl.1 rfl (Nat.le_of_ble_eq_true rfl) dX9_lookAt_34 ⟨Nat.le_of_ble_eq_true rfl, Nat.le_of_ble_eq_true rfl⟩ ⟨Nat.le_refl _, Nat.le_refl _⟩ (fun _ _ q => c_X1_insert q) hX (fun v10 h9 H locs wd hX => ?_)
  refine lv_pop hx hb dX9_lookAt_37 rfl ?_
  refine lv_aload hx hb dX9_lookAt_38 (lv_at hl 5 rfl) ?_
  refine lv_aload_n hx hb dX9_lookAt_40 rfl (lv_at hl 1 rfl) ?_
  refine mh_getR cx wd fl_X9_12 dX9_lookAt_41 hX (fun a11 hX => ?_)
  refine mh_callVV cx wd [.ref a11] (rfl : vwCl[2]? = some (RX2, TX2, 5)) yw_X2_take vw_X9_57 rfl hl.1 rfl (Nat.le_of_ble_eq_true rfl) dX9_lookAt_44 ⟨Nat.le_of_ble_eq_true rfl, Nat.le_of_ble_eq_true rfl⟩ ⟨Nat.le_refl _, Nat.le_refl _⟩ (fun _ q => c_X2_take q) hX (fun h12 H locs wd hX => ?_)
  refine lv_aload hx hb dX9_lookAt_47 (lv_at hl 5 rfl) ?_
  refine lv_iload_n hx hb dX9_lookAt_49 rfl (lv_at hl 4 rfl) ?_
  refine mh_callVI cx wd [.int x3] (rfl : vwCl[2]? = some (RX2, TX2, 5)) yw_X2_allUpTo vw_X9_63 rfl hl.1 rfl (Nat.le_of_ble_eq_true rfl) dX9_lookAt_50 ⟨Nat.le_of_ble_eq_true rfl, Nat.le_of_ble_eq_true rfl⟩ ⟨Nat.le_refl _, Nat.le_refl _⟩ (fun _ _ q => c_X2_allUpTo q) hX (fun v14 h13 H locs wd hX => ?_)
  refine lv_istore (lv' := [(6, .int v14), (5, .int v2), (0, .ref o0), (1, .int x1), (2, .int x2), (3, .int x3), (4, .ref o4)]) hx hb dX9_lookAt_53 hl (Nat.le_of_ble_eq_true rfl) rfl (fun ls hl => ?_)
  refine lv_aload_n hx hb dX9_lookAt_55 rfl (lv_at hl 2 rfl) ?_
  refine mh_getR cx wd fl_X9_21 dX9_lookAt_56 hX (fun a15 hX => ?_)
  refine lv_iload_n hx hb dX9_lookAt_59 rfl (lv_at hl 3 rfl) ?_
  refine lv_iconst (v := 1) hx hb dX9_lookAt_60 (by decide) ?_
  refine lv_iadd hx hb dX9_lookAt_61 ?_
  refine lv_iload hx hb dX9_lookAt_62 (lv_at hl 1 rfl) ?_
  refine lv_iconst (v := 1) hx hb dX9_lookAt_64 (by decide) ?_
  refine lv_iadd hx hb dX9_lookAt_65 ?_
  refine mh_iast cx wd dX9_lookAt_66 hX (fun h16 H locs wd hX => ?_)
  refine lv_aload_n hx hb dX9_lookAt_67 rfl (lv_at hl 2 rfl) ?_
  refine mh_getR cx wd fl_X9_25 dX9_lookAt_68 hX (fun a17 hX => ?_)
  refine lv_iload_n hx hb dX9_lookAt_71 rfl (lv_at hl 3 rfl) ?_
  refine lv_iconst (v := 1) hx hb dX9_lookAt_72 (by decide) ?_
  refine lv_iadd hx hb dX9_lookAt_73 ?_
  refine lv_iload hx hb dX9_lookAt_74 (lv_at hl 0 rfl) ?_
  refine lv_iconst (v := 1) hx hb dX9_lookAt_76 (by decide) ?_
  refine lv_iadd hx hb dX9_lookAt_77 ?_
  refine lv_sipush (v := 300) hx hb dX9_lookAt_78 (by decide) ?_
  refine mh_mmin mh_Mok cx hl.1 km_X9_67 (Nat.le_of_ble_eq_true rfl) (Nat.le_of_ble_eq_true rfl) ⟨Nat.le_refl _, Nat.le_refl _⟩ dX9_lookAt_81 ?_
  refine mh_iast cx wd dX9_lookAt_84 hX (fun h18 H locs wd hX => ?_)
  refine lv_iload_n hx hb dX9_lookAt_85 rfl (lv_at hl 3 rfl) ?_
  refine lv_iconst (v := 1) hx hb dX9_lookAt_86 (by decide) ?_
  refine lv_iadd hx hb dX9_lookAt_87 ?_
  refine lv_iload_n hx hb dX9_lookAt_88 rfl (lv_at hl 4 rfl) ?_
  refine lv_icmp_ne (tgt := 118) hx hb dX9_lookAt_89 rfl (fun hc => (fun hX => ?_) ((mh_if hX).2 hc)) (fun hc => (fun hX => ?_) ((mh_if hX).1 hc))
  · exact w_X9_lookAt_b118 cx hr  h18 _ _ ls wd (lv_sub hl [] rfl) hX
  · refine lv_iload hx hb dX9_lookAt_92 (lv_at hl 0 rfl) ?_
    refine lv_aload_n hx hb dX9_lookAt_94 rfl (lv_at hl 2 rfl) ?_
    refine mh_getI cx wd fl_X9_28 dX9_lookAt_95 hX (fun v19 hX => ?_)
    refine lv_icmp_le (tgt := 118) hx hb dX9_lookAt_98 rfl (fun hc => (fun hX => ?_) ((mh_if hX).1 hc)) (fun hc => (fun hX => ?_) ((mh_if hX).2 hc))
    · exact w_X9_lookAt_b118 cx hr  h18 _ _ ls wd (lv_sub hl [] rfl) hX
    · refine lv_aload_n hx hb dX9_lookAt_101 rfl (lv_at hl 2 rfl) ?_
      refine mh_getR cx wd fl_X9_18 dX9_lookAt_102 hX (fun a20 hX => ?_)
      refine lv_aload_n hx hb dX9_lookAt_105 rfl (lv_at hl 2 rfl) ?_
      refine mh_getR cx wd fl_X9_12 dX9_lookAt_106 hX (fun a21 hX => ?_)
      refine mh_callVV cx wd [.ref a21] (rfl : vwCl[1]? = some (RX1, TX1, 2)) yw_X1_copy vw_X9_73 rfl hl.1 rfl (Nat.le_of_ble_eq_true rfl) dX9_lookAt_109 ⟨Nat.le_of_ble_eq_true rfl, Nat.le_of_ble_eq_true rfl⟩ ⟨Nat.le_refl _, Nat.le_refl _⟩ (fun _ q => c_X1_copy q) hX (fun h22 H locs wd hX => ?_)
      refine lv_aload_n hx hb dX9_lookAt_112 rfl (lv_at hl 2 rfl) ?_
      refine lv_iload hx hb dX9_lookAt_113 (lv_at hl 0 rfl) ?_
      refine mh_putI cx wd fp_X9_28 dX9_lookAt_115 hX (fun h23 H locs wd hX => ?_)
      exact w_X9_lookAt_b118 cx hr  h23 _ _ ls wd (lv_sub hl [] rfl) hX
set_option maxRecDepth 100000 in
theorem c_X9_lookAt {l : Launch} {L : List Nat} {h h' : mh_H} {o0 : Nat} {x1 : Int32} {x2 : Int32} {x3 : Int32} {o4 : Nat} (hX : f_X9_lookAt_e o0 x1 x2 x3 o4 h = some h') : mh_MV l yX9_lookAt (Cond.code yX9_lookAt cX9_lookAt 7 none :: mh_TB) (mh_rm 4) [.ref o0, .int x1, .int x2, .int x3, .ref o4] L h h' :=
  mh_of (mc := 0) (ms := 0) (Qc := fun D ks sz => mh_Qv D ks L sz h') (plainFor_of_name (by decide)) (Nat.le_of_ble_eq_true rfl) (fun p e s m below meth c D ks ls hr cx wd hl => by
    have hl : lv_has ls 7 [(0, .ref o0), (1, .int x1), (2, .int x2), (3, .int x3), (4, .ref o4)] := hl
    exact w_X9_lookAt_e cx hr o0 x1 x2 x3 o4 h _ _ ls wd hl hX)
def f_X9_run_b91 (h : mh_H) : Option (Int32 × mh_H) :=
  mh_rz (0 : Int32) h
def f_X9_run_b129 (k41 : Nat → Int32 → Int32 → Nat → Int32 → mh_H → Option (Int32 × mh_H)) (o0 : Nat) (x1 : Int32) (x2 : Int32) (o3 : Nat) (x4 : Int32) (h : mh_H) : Option (Int32 × mh_H) :=
  mh_nm (x4 + Int32.ofInt (1)) fun v1 =>
  k41 o0 x1 x2 o3 v1 h
def f_X9_run_b127 (h : mh_H) : Option (Int32 × mh_H) :=
  mh_rz (1 : Int32) h
def f_X9_run_b105 (k129 : Nat → Int32 → Int32 → Nat → Int32 → mh_H → Option (Int32 × mh_H)) (o0 : Nat) (x1 : Int32) (x2 : Int32) (o3 : Nat) (x4 : Int32) (x5 : Int32) (h : mh_H) : Option (Int32 × mh_H) :=
  if x5 ≤ 0 then (
  f_X9_run_b127 h) else
  (mh_gR h o0 9 0).bind fun a2 =>
  (mh_gR h o0 9 0).bind fun a3 =>
  mh_b2 (mh_cal h a3 1 (f_X1_greatest_e a3 h)) fun v5 h4 =>
  (mh_cal h4 a2 1 (f_X1_remove_e a2 v5 h4)).bind fun h6 =>
  k129 o0 x1 x2 o3 x4 h6
def f_X9_run_b135 (h : mh_H) : Option (Int32 × mh_H) :=
  mh_rz (1 : Int32) h
def f_X9_run_b41 : Nat → Nat → Int32 → Int32 → Nat → Int32 → mh_H → Option (Int32 × mh_H)
  | 0, _, _, _, _, _, _ => none
  | n + 1, o0, x1, x2, o3, x4, h =>
    if (4000 : Int32) < x4 then (
    f_X9_run_b135 h) else
    (mh_gR h o0 9 0).bind fun a7 =>
    mh_b2 (mh_cal h a7 1 (f_X1_count_e a7 h)) fun v9 h8 =>
    if x1 ≤ v9 then (
    f_X9_run_b105 (f_X9_run_b129 (f_X9_run_b41 n)) o0 x1 x2 o3 x4 v9 h8) else
    (mh_gR h8 o0 9 2).bind fun a10 =>
    (mh_aI h8 a10 0 v9).bind fun v11 =>
    (mh_gR h8 o0 9 3).bind fun a12 =>
    (mh_aI h8 a12 0 v9).bind fun v13 =>
    if v13 < v11 then (
    f_X9_run_b105 (f_X9_run_b129 (f_X9_run_b41 n)) o0 x1 x2 o3 x4 v9 h8) else
    (mh_gI h8 o0 9 5).bind fun v14 =>
    if v14 = (2000 : Int32) then (
    f_X9_run_b91 h8) else
    (mh_cal h8 o0 9 (f_X9_lookAt_e o0 v9 x1 x2 o3 h8)).bind fun h15 =>
    f_X9_run_b129 (f_X9_run_b41 n) o0 x1 x2 o3 x4 h15
def f_X9_run_e (o0 : Nat) (x1 : Int32) (x2 : Int32) (o3 : Nat) (h : mh_H) : Option (Int32 × mh_H) :=
  (mh_gR h o0 9 0).bind fun a16 =>
  (mh_cal h a16 1 (f_X1_clear_e a16 h)).bind fun h17 =>
  (mh_gR h17 o0 9 1).bind fun a18 =>
  (mh_cal h17 a18 1 (f_X1_clear_e a18 h17)).bind fun h19 =>
  (mh_pI h19 o0 9 4 (0 : Int32)).bind fun h20 =>
  (mh_pI h20 o0 9 5 (0 : Int32)).bind fun h21 =>
  (mh_gR h21 o0 9 2).bind fun a22 =>
  (mh_sI h21 a22 (0 : Int32) (1 : Int32)).bind fun h23 =>
  (mh_gR h23 o0 9 3).bind fun a24 =>
  (mh_sI h23 a24 (0 : Int32) (1 : Int32)).bind fun h25 =>
  mh_nm (0 : Int32) fun v26 =>
  f_X9_run_b41 mh_fu o0 x1 x2 o3 v26 h25
set_option maxRecDepth 100000 in
set_option maxHeartbeats 4000000 in
theorem w_X9_run_b91 {p : Program} {l : Launch} {e : Env} {s : State} {m : MethodId} {args : Array Value} {below : List Frame} {meth : Method} {c : Code} {D : va_G} {ks : Nat → ClassId} {L : List Nat} {r : Int32} {h' : mh_H} (cx : mh_C p m c cX9_run 6 s args RX9 meth D ks (mh_A L s.heap.size)) (hr : meth.sig.returnType = (some .boolean)) :
    ∀ (h : mh_H) (H : Heap) (locs : List Loc) (ls : Array Slot), mh_W D ks L (mh_A L s.heap.size) s.heap h H locs → lv_has ls 6 [] → f_X9_run_b91  h = some (r, h') → W p l e (mh_rm 5) s m args below meth c H locs 0 0 (MQ below (mh_Qi D ks L s.heap.size r h') args s 0 0 (mh_A L s.heap.size)) (F0 m 91 ls []) := by
  intro  h H locs ls wd hl hX
  have hx := cx.1.1
  have hb := cx.1.2.1
  unfold f_X9_run_b91 at hX
  refine lv_iconst (v := 0) hx hb dX9_run_91 (by decide) ?_
  exact mh_zret cx wd hr hX dX9_run_92
set_option maxRecDepth 100000 in
set_option maxHeartbeats 4000000 in
theorem w_X9_run_b129 {p : Program} {l : Launch} {e : Env} {s : State} {m : MethodId} {args : Array Value} {below : List Frame} {meth : Method} {c : Code} {D : va_G} {ks : Nat → ClassId} {L : List Nat} {r : Int32} {h' : mh_H} (k41 : Nat → Int32 → Int32 → Nat → Int32 → mh_H → Option (Int32 × mh_H)) (cx : mh_C p m c cX9_run 6 s args RX9 meth D ks (mh_A L s.heap.size)) (hr : meth.sig.returnType = (some .boolean))
    (hk41 : ∀ (o0 : Nat) (x1 : Int32) (x2 : Int32) (o3 : Nat) (x4 : Int32) (h : mh_H) (H : Heap) (locs : List Loc) (ls : Array Slot), mh_W D ks L (mh_A L s.heap.size) s.heap h H locs → lv_has ls 6 [(0, .ref o0), (1, .int x1), (2, .int x2), (3, .ref o3), (4, .int x4)] → k41 o0 x1 x2 o3 x4 h = some (r, h') → W p l e (mh_rm 5) s m args below meth c H locs 0 0 (MQ below (mh_Qi D ks L s.heap.size r h') args s 0 0 (mh_A L s.heap.size)) (F0 m 41 ls [])) :
    ∀ (o0 : Nat) (x1 : Int32) (x2 : Int32) (o3 : Nat) (x4 : Int32) (h : mh_H) (H : Heap) (locs : List Loc) (ls : Array Slot), mh_W D ks L (mh_A L s.heap.size) s.heap h H locs → lv_has ls 6 [(0, .ref o0), (1, .int x1), (2, .int x2), (3, .ref o3), (4, .int x4)] → f_X9_run_b129 k41 o0 x1 x2 o3 x4 h = some (r, h') → W p l e (mh_rm 5) s m args below meth c H locs 0 0 (MQ below (mh_Qi D ks L s.heap.size r h') args s 0 0 (mh_A L s.heap.size)) (F0 m 129 ls []) := by
  intro o0 x1 x2 o3 x4 h H locs ls wd hl hX
  have hx := cx.1.1
  have hb := cx.1.2.1
  unfold f_X9_run_b129 at hX
  obtain ⟨v1, ev1, hX⟩ := mh_nmx hX
  refine lv_iinc (k := 4) (v := v1) (lv' := [(4, .int v1), (0, .ref o0), (1, .int x1), (2, .int x2), (3, .ref o3)]) hx hb dX9_run_129 hl rfl ev1 (Nat.le_of_ble_eq_true rfl) rfl (fun ls hl => ?_)
  refine lv_goto (tgt := 41) hx hb dX9_run_132 rfl ?_
  exact hk41 _ _ _ _ _ h _ _ ls wd (lv_sub hl [1, 2, 3, 4, 0] rfl) hX
set_option maxRecDepth 100000 in
set_option maxHeartbeats 4000000 in
theorem w_X9_run_b127 {p : Program} {l : Launch} {e : Env} {s : State} {m : MethodId} {args : Array Value} {below : List Frame} {meth : Method} {c : Code} {D : va_G} {ks : Nat → ClassId} {L : List Nat} {r : Int32} {h' : mh_H} (cx : mh_C p m c cX9_run 6 s args RX9 meth D ks (mh_A L s.heap.size)) (hr : meth.sig.returnType = (some .boolean)) :
    ∀ (h : mh_H) (H : Heap) (locs : List Loc) (ls : Array Slot), mh_W D ks L (mh_A L s.heap.size) s.heap h H locs → lv_has ls 6 [] → f_X9_run_b127  h = some (r, h') → W p l e (mh_rm 5) s m args below meth c H locs 0 0 (MQ below (mh_Qi D ks L s.heap.size r h') args s 0 0 (mh_A L s.heap.size)) (F0 m 127 ls []) := by
  intro  h H locs ls wd hl hX
  have hx := cx.1.1
  have hb := cx.1.2.1
  unfold f_X9_run_b127 at hX
  refine lv_iconst (v := 1) hx hb dX9_run_127 (by decide) ?_
  exact mh_zret cx wd hr hX dX9_run_128
set_option maxRecDepth 100000 in
set_option maxHeartbeats 4000000 in
theorem w_X9_run_b105 {p : Program} {l : Launch} {e : Env} {s : State} {m : MethodId} {args : Array Value} {below : List Frame} {meth : Method} {c : Code} {D : va_G} {ks : Nat → ClassId} {L : List Nat} {r : Int32} {h' : mh_H} (k129 : Nat → Int32 → Int32 → Nat → Int32 → mh_H → Option (Int32 × mh_H)) (cx : mh_C p m c cX9_run 6 s args RX9 meth D ks (mh_A L s.heap.size)) (hr : meth.sig.returnType = (some .boolean))
    (hk129 : ∀ (o0 : Nat) (x1 : Int32) (x2 : Int32) (o3 : Nat) (x4 : Int32) (h : mh_H) (H : Heap) (locs : List Loc) (ls : Array Slot), mh_W D ks L (mh_A L s.heap.size) s.heap h H locs → lv_has ls 6 [(0, .ref o0), (1, .int x1), (2, .int x2), (3, .ref o3), (4, .int x4)] → k129 o0 x1 x2 o3 x4 h = some (r, h') → W p l e (mh_rm 5) s m args below meth c H locs 0 0 (MQ below (mh_Qi D ks L s.heap.size r h') args s 0 0 (mh_A L s.heap.size)) (F0 m 129 ls [])) :
    ∀ (o0 : Nat) (x1 : Int32) (x2 : Int32) (o3 : Nat) (x4 : Int32) (x5 : Int32) (h : mh_H) (H : Heap) (locs : List Loc) (ls : Array Slot), mh_W D ks L (mh_A L s.heap.size) s.heap h H locs → lv_has ls 6 [(0, .ref o0), (1, .int x1), (2, .int x2), (3, .ref o3), (4, .int x4), (5, .int x5)] → f_X9_run_b105 k129 o0 x1 x2 o3 x4 x5 h = some (r, h') → W p l e (mh_rm 5) s m args below meth c H locs 0 0 (MQ below (mh_Qi D ks L s.heap.size r h') args s 0 0 (mh_A L s.heap.size)) (F0 m 105 ls []) := by
  intro o0 x1 x2 o3 x4 x5 h H locs ls wd hl hX
  have hx := cx.1.1
  have hb := cx.1.2.1
  unfold f_X9_run_b105 at hX
  refine lv_iload hx hb dX9_run_105 (lv_at hl 5 rfl) ?_
  refine lv_if_le (tgt := 127) hx hb dX9_run_107 rfl (fun hc => (fun hX => ?_) ((mh_if hX).1 hc)) (fun hc => (fun hX => ?_) ((mh_if hX).2 hc))
  · exact w_X9_run_b127 cx hr  h _ _ ls wd (lv_sub hl [] rfl) hX
  · refine lv_aload_n hx hb dX9_run_110 rfl (lv_at hl 0 rfl) ?_
    refine mh_getR cx wd fl_X9_12 dX9_run_111 hX (fun a2 hX => ?_)
    refine lv_aload_n hx hb dX9_run_114 rfl (lv_at hl 0 rfl) ?_
    refine mh_getR cx wd fl_X9_12 dX9_run_115 hX (fun a3 hX => ?_)
    refine mh_callVI cx wd [] (rfl : vwCl[1]? = some (RX1, TX1, 2)) yw_X1_greatest vw_X9_46 rfl hl.1 rfl (Nat.le_of_ble_eq_true rfl) dX9_run_118 ⟨Nat.le_of_ble_eq_true rfl, Nat.le_of_ble_eq_true rfl⟩ ⟨Nat.le_refl _, Nat.le_refl _⟩ (fun _ _ q => c_X1_greatest q) hX (fun v5 h4 H locs wd hX => ?_)
    refine mh_callVV cx wd [.int v5] (rfl : vwCl[1]? = some (RX1, TX1, 2)) yw_X1_remove vw_X9_49 rfl hl.1 rfl (Nat.le_of_ble_eq_true rfl) dX9_run_121 ⟨Nat.le_of_ble_eq_true rfl, Nat.le_of_ble_eq_true rfl⟩ ⟨Nat.le_refl _, Nat.le_refl _⟩ (fun _ q => c_X1_remove q) hX (fun h6 H locs wd hX => ?_)
    refine lv_goto (tgt := 129) hx hb dX9_run_124 rfl ?_
    exact hk129 _ _ _ _ _ h6 _ _ ls wd (lv_sub hl [0, 1, 2, 3, 4] rfl) hX
set_option maxRecDepth 100000 in
set_option maxHeartbeats 4000000 in
theorem w_X9_run_b135 {p : Program} {l : Launch} {e : Env} {s : State} {m : MethodId} {args : Array Value} {below : List Frame} {meth : Method} {c : Code} {D : va_G} {ks : Nat → ClassId} {L : List Nat} {r : Int32} {h' : mh_H} (cx : mh_C p m c cX9_run 6 s args RX9 meth D ks (mh_A L s.heap.size)) (hr : meth.sig.returnType = (some .boolean)) :
    ∀ (h : mh_H) (H : Heap) (locs : List Loc) (ls : Array Slot), mh_W D ks L (mh_A L s.heap.size) s.heap h H locs → lv_has ls 6 [] → f_X9_run_b135  h = some (r, h') → W p l e (mh_rm 5) s m args below meth c H locs 0 0 (MQ below (mh_Qi D ks L s.heap.size r h') args s 0 0 (mh_A L s.heap.size)) (F0 m 135 ls []) := by
  intro  h H locs ls wd hl hX
  have hx := cx.1.1
  have hb := cx.1.2.1
  unfold f_X9_run_b135 at hX
  refine lv_iconst (v := 1) hx hb dX9_run_135 (by decide) ?_
  exact mh_zret cx wd hr hX dX9_run_136
set_option maxRecDepth 100000 in
set_option maxHeartbeats 4000000 in
theorem w_X9_run_b41 {p : Program} {l : Launch} {e : Env} {s : State} {m : MethodId} {args : Array Value} {below : List Frame} {meth : Method} {c : Code} {D : va_G} {ks : Nat → ClassId} {L : List Nat} {r : Int32} {h' : mh_H} (cx : mh_C p m c cX9_run 6 s args RX9 meth D ks (mh_A L s.heap.size)) (hr : meth.sig.returnType = (some .boolean)) :
    ∀ n : Nat, ∀ (o0 : Nat) (x1 : Int32) (x2 : Int32) (o3 : Nat) (x4 : Int32) (h : mh_H) (H : Heap) (locs : List Loc) (ls : Array Slot), mh_W D ks L (mh_A L s.heap.size) s.heap h H locs → lv_has ls 6 [(0, .ref o0), (1, .int x1), (2, .int x2), (3, .ref o3), (4, .int x4)] → f_X9_run_b41 n o0 x1 x2 o3 x4 h = some (r, h') → W p l e (mh_rm 5) s m args below meth c H locs 0 0 (MQ below (mh_Qi D ks L s.heap.size r h') args s 0 0 (mh_A L s.heap.size)) (F0 m 41 ls []) := by
  intro n
  induction n with
  | zero =>
    intro o0 x1 x2 o3 x4 h H locs ls wd hl hX
    cases hX
  | succ n ih =>
    intro o0 x1 x2 o3 x4 h H locs ls wd hl hX
    have hx := cx.1.1
    have hb := cx.1.2.1
    rw [f_X9_run_b41] at hX
    refine lv_iload hx hb dX9_run_41 (lv_at hl 4 rfl) ?_
    refine lv_sipush (v := 4000) hx hb dX9_run_43 (by decide) ?_
    refine lv_icmp_gt (tgt := 135) hx hb dX9_run_46 rfl (fun hc => (fun hX => ?_) ((mh_if hX).1 hc)) (fun hc => (fun hX => ?_) ((mh_if hX).2 hc))
    · exact w_X9_run_b135 cx hr  h _ _ ls wd (lv_sub hl [] rfl) hX
    · refine lv_aload_n hx hb dX9_run_49 rfl (lv_at hl 0 rfl) ?_
      refine mh_getR cx wd fl_X9_12 dX9_run_50 hX (fun a7 hX => ?_)
      refine mh_callVI cx wd [] (rfl : vwCl[1]? = some (RX1, TX1, 2)) yw_X1_count vw_X9_38 rfl hl.1 rfl (Nat.le_of_ble_eq_true rfl) dX9_run_53 ⟨Nat.le_of_ble_eq_true rfl, Nat.le_of_ble_eq_true rfl⟩ ⟨Nat.le_refl _, Nat.le_refl _⟩ (fun _ _ q => c_X1_count q) hX (fun v9 h8 H locs wd hX => ?_)
      refine lv_istore (lv' := [(5, .int v9), (0, .ref o0), (1, .int x1), (2, .int x2), (3, .ref o3), (4, .int x4)]) hx hb dX9_run_56 hl (Nat.le_of_ble_eq_true rfl) rfl (fun ls hl => ?_)
      refine lv_iload hx hb dX9_run_58 (lv_at hl 0 rfl) ?_
      refine lv_iload_n hx hb dX9_run_60 rfl (lv_at hl 2 rfl) ?_
      refine lv_icmp_ge (tgt := 105) hx hb dX9_run_61 rfl (fun hc => (fun hX => ?_) ((mh_if hX).1 hc)) (fun hc => (fun hX => ?_) ((mh_if hX).2 hc))
      · exact w_X9_run_b105 (f_X9_run_b129 (f_X9_run_b41 n)) cx hr (w_X9_run_b129 (f_X9_run_b41 n) cx hr ih) _ _ _ _ _ _ h8 _ _ ls wd (lv_sub hl [1, 2, 3, 4, 5, 0] rfl) hX
      · refine lv_aload_n hx hb dX9_run_64 rfl (lv_at hl 1 rfl) ?_
        refine mh_getR cx wd fl_X9_21 dX9_run_65 hX (fun a10 hX => ?_)
        refine lv_iload hx hb dX9_run_68 (lv_at hl 0 rfl) ?_
        refine mh_iald cx wd dX9_run_70 hX (fun v11 hX => ?_)
        refine lv_aload_n hx hb dX9_run_71 rfl (lv_at hl 1 rfl) ?_
        refine mh_getR cx wd fl_X9_25 dX9_run_72 hX (fun a12 hX => ?_)
        refine lv_iload hx hb dX9_run_75 (lv_at hl 0 rfl) ?_
        refine mh_iald cx wd dX9_run_77 hX (fun v13 hX => ?_)
        refine lv_icmp_gt (tgt := 105) hx hb dX9_run_78 rfl (fun hc => (fun hX => ?_) ((mh_if hX).1 hc)) (fun hc => (fun hX => ?_) ((mh_if hX).2 hc))
        · exact w_X9_run_b105 (f_X9_run_b129 (f_X9_run_b41 n)) cx hr (w_X9_run_b129 (f_X9_run_b41 n) cx hr ih) _ _ _ _ _ _ h8 _ _ ls wd (lv_sub hl [1, 2, 3, 4, 5, 0] rfl) hX
        · refine lv_aload_n hx hb dX9_run_81 rfl (lv_at hl 1 rfl) ?_
          refine mh_getI cx wd fl_X9_32 dX9_run_82 hX (fun v14 hX => ?_)
          refine lv_sipush (v := 2000) hx hb dX9_run_85 (by decide) ?_
          refine lv_icmp_ne (tgt := 93) hx hb dX9_run_88 rfl (fun hc => (fun hX => ?_) ((mh_if hX).2 hc)) (fun hc => (fun hX => ?_) ((mh_if hX).1 hc))
          · refine lv_aload_n hx hb dX9_run_93 rfl (lv_at hl 1 rfl) ?_
            refine lv_iload hx hb dX9_run_94 (lv_at hl 0 rfl) ?_
            refine lv_iload_n hx hb dX9_run_96 rfl (lv_at hl 2 rfl) ?_
            refine lv_iload_n hx hb dX9_run_97 rfl (lv_at hl 3 rfl) ?_
            refine lv_aload_n hx hb dX9_run_98 rfl (lv_at hl 4 rfl) ?_
            refine mh_callVV cx wd [.int v9, .int x1, .int x2, .ref o3] (rfl : vwCl[9]? = some (RX9, TX9, 6)) yw_X9_lookAt vw_X9_42 rfl hl.1 rfl (Nat.le_of_ble_eq_true rfl) dX9_run_99 ⟨Nat.le_of_ble_eq_true rfl, Nat.le_of_ble_eq_true rfl⟩ ⟨Nat.le_refl _, Nat.le_refl _⟩ (fun _ q => c_X9_lookAt q) hX (fun h15 H locs wd hX => ?_)
            refine lv_goto (tgt := 129) hx hb dX9_run_102 rfl ?_
            exact w_X9_run_b129 (f_X9_run_b41 n) cx hr ih _ _ _ _ _ h15 _ _ ls wd (lv_sub hl [1, 2, 3, 4, 5] rfl) hX
          · exact w_X9_run_b91 cx hr  h8 _ _ ls wd (lv_sub hl [] rfl) hX
set_option maxRecDepth 100000 in
set_option maxHeartbeats 4000000 in
theorem w_X9_run_e {p : Program} {l : Launch} {e : Env} {s : State} {m : MethodId} {args : Array Value} {below : List Frame} {meth : Method} {c : Code} {D : va_G} {ks : Nat → ClassId} {L : List Nat} {r : Int32} {h' : mh_H} (cx : mh_C p m c cX9_run 6 s args RX9 meth D ks (mh_A L s.heap.size)) (hr : meth.sig.returnType = (some .boolean)) :
    ∀ (o0 : Nat) (x1 : Int32) (x2 : Int32) (o3 : Nat) (h : mh_H) (H : Heap) (locs : List Loc) (ls : Array Slot), mh_W D ks L (mh_A L s.heap.size) s.heap h H locs → lv_has ls 6 [(0, .ref o0), (1, .int x1), (2, .int x2), (3, .ref o3)] → f_X9_run_e o0 x1 x2 o3 h = some (r, h') → W p l e (mh_rm 5) s m args below meth c H locs 0 0 (MQ below (mh_Qi D ks L s.heap.size r h') args s 0 0 (mh_A L s.heap.size)) (F0 m 0 ls []) := by
  intro o0 x1 x2 o3 h H locs ls wd hl hX
  have hx := cx.1.1
  have hb := cx.1.2.1
  unfold f_X9_run_e at hX
  refine lv_aload_n hx hb dX9_run_0 rfl (lv_at hl 0 rfl) ?_
  refine mh_getR cx wd fl_X9_12 dX9_run_1 hX (fun a16 hX => ?_)
  refine mh_callVV cx wd [] (rfl : vwCl[1]? = some (RX1, TX1, 2)) yw_X1_clear vw_X9_35 rfl hl.1 rfl (Nat.le_of_ble_eq_true rfl) dX9_run_4 ⟨Nat.le_of_ble_eq_true rfl, Nat.le_of_ble_eq_true rfl⟩ ⟨Nat.le_refl _, Nat.le_refl _⟩ (fun _ q => c_X1_clear q) hX (fun h17 H locs wd hX => ?_)
  refine lv_aload_n hx hb dX9_run_7 rfl (lv_at hl 0 rfl) ?_
  refine mh_getR cx wd fl_X9_18 dX9_run_8 hX (fun a18 hX => ?_)
  refine mh_callVV cx wd [] (rfl : vwCl[1]? = some (RX1, TX1, 2)) yw_X1_clear vw_X9_35 rfl hl.1 rfl (Nat.le_of_ble_eq_true rfl) dX9_run_11 ⟨Nat.le_of_ble_eq_true rfl, Nat.le_of_ble_eq_true rfl⟩ ⟨Nat.le_refl _, Nat.le_refl _⟩ (fun _ q => c_X1_clear q) hX (fun h19 H locs wd hX => ?_)
  refine lv_aload_n hx hb dX9_run_14 rfl (lv_at hl 0 rfl) ?_
  refine lv_iconst (v := 0) hx hb dX9_run_15 (by decide) ?_
  refine mh_putI cx wd fp_X9_28 dX9_run_16 hX (fun h20 H locs wd hX => ?_)
  refine lv_aload_n hx hb dX9_run_19 rfl (lv_at hl 0 rfl) ?_
  refine lv_iconst (v := 0) hx hb dX9_run_20 (by decide) ?_
  refine mh_putI cx wd fp_X9_32 dX9_run_21 hX (fun h21 H locs wd hX => ?_)
  refine lv_aload_n hx hb dX9_run_24 rfl (lv_at hl 0 rfl) ?_
  refine mh_getR cx wd fl_X9_21 dX9_run_25 hX (fun a22 hX => ?_)
  refine lv_iconst (v := 0) hx hb dX9_run_28 (by decide) ?_
  refine lv_iconst (v := 1) hx hb dX9_run_29 (by decide) ?_
  refine mh_iast cx wd dX9_run_30 hX (fun h23 H locs wd hX => ?_)
  refine lv_aload_n hx hb dX9_run_31 rfl (lv_at hl 0 rfl) ?_
  refine mh_getR cx wd fl_X9_25 dX9_run_32 hX (fun a24 hX => ?_)
  refine lv_iconst (v := 0) hx hb dX9_run_35 (by decide) ?_
  refine lv_iconst (v := 1) hx hb dX9_run_36 (by decide) ?_
  refine mh_iast cx wd dX9_run_37 hX (fun h25 H locs wd hX => ?_)
  refine lv_iconst (v := 0) hx hb dX9_run_38 (by decide) ?_
  refine mh_topi hX (fun v26 hX => ?_)
  refine lv_istore (lv' := [(4, .int v26), (0, .ref o0), (1, .int x1), (2, .int x2), (3, .ref o3)]) hx hb dX9_run_39 hl (Nat.le_of_ble_eq_true rfl) rfl (fun ls hl => ?_)
  exact w_X9_run_b41 cx hr mh_fu _ _ _ _ _ h25 _ _ ls wd (lv_sub hl [1, 2, 3, 4, 0] rfl) hX
set_option maxRecDepth 100000 in
theorem c_X9_run {l : Launch} {L : List Nat} {h h' : mh_H} {r : Int32} {o0 : Nat} {x1 : Int32} {x2 : Int32} {o3 : Nat} (hX : f_X9_run_e o0 x1 x2 o3 h = some (r, h')) : mh_MI l yX9_run (Cond.code yX9_run cX9_run 6 (some .boolean) :: mh_TB) (mh_rm 5) [.ref o0, .int x1, .int x2, .ref o3] L h r h' :=
  mh_of (mc := 0) (ms := 0) (Qc := fun D ks sz => mh_Qi D ks L sz r h') (plainFor_of_name (by decide)) (Nat.le_of_ble_eq_true rfl) (fun p e s m below meth c D ks ls hr cx wd hl => by
    have hl : lv_has ls 6 [(0, .ref o0), (1, .int x1), (2, .int x2), (3, .ref o3)] := hl
    exact w_X9_run_e cx hr o0 x1 x2 o3 h _ _ ls wd hl hX)
def f_X10_take_b24 (h : mh_H) : Option mh_H :=
  some h
def f_X10_take_e (o0 : Nat) (o1 : Nat) (h : mh_H) : Option mh_H :=
  (mh_gR h o0 10 0).bind fun a1 =>
  mh_b2 (mh_cal h a1 1 (f_X1_alike_e a1 o1 h)) fun v3 h2 =>
  if v3 = 0 then (
  (mh_gR h2 o0 10 0).bind fun a4 =>
  (mh_cal h2 a4 1 (f_X1_copy_e a4 o1 h2)).bind fun h5 =>
  (mh_pI h5 o0 10 2 (-1 : Int32)).bind fun h6 =>
  f_X10_take_b24 h6) else
  f_X10_take_b24 h2
set_option maxRecDepth 100000 in
set_option maxHeartbeats 4000000 in
theorem w_X10_take_b24 {p : Program} {l : Launch} {e : Env} {s : State} {m : MethodId} {args : Array Value} {below : List Frame} {meth : Method} {c : Code} {D : va_G} {ks : Nat → ClassId} {L : List Nat} {h' : mh_H} (cx : mh_C p m c cX10_take 2 s args RX10 meth D ks (mh_A L s.heap.size)) (hr : meth.sig.returnType = none) :
    ∀ (h : mh_H) (H : Heap) (locs : List Loc) (ls : Array Slot), mh_W D ks L (mh_A L s.heap.size) s.heap h H locs → lv_has ls 2 [] → f_X10_take_b24  h = some h' → W p l e (mh_rm 2) s m args below meth c H locs 0 0 (MQ below (mh_Qv D ks L s.heap.size h') args s 0 0 (mh_A L s.heap.size)) (F0 m 24 ls []) := by
  intro  h H locs ls wd hl hX
  have hx := cx.1.1
  have hb := cx.1.2.1
  unfold f_X10_take_b24 at hX
  exact mh_vret cx wd hr hX dX10_take_24
set_option maxRecDepth 100000 in
set_option maxHeartbeats 4000000 in
theorem w_X10_take_e {p : Program} {l : Launch} {e : Env} {s : State} {m : MethodId} {args : Array Value} {below : List Frame} {meth : Method} {c : Code} {D : va_G} {ks : Nat → ClassId} {L : List Nat} {h' : mh_H} (cx : mh_C p m c cX10_take 2 s args RX10 meth D ks (mh_A L s.heap.size)) (hr : meth.sig.returnType = none) :
    ∀ (o0 : Nat) (o1 : Nat) (h : mh_H) (H : Heap) (locs : List Loc) (ls : Array Slot), mh_W D ks L (mh_A L s.heap.size) s.heap h H locs → lv_has ls 2 [(0, .ref o0), (1, .ref o1)] → f_X10_take_e o0 o1 h = some h' → W p l e (mh_rm 2) s m args below meth c H locs 0 0 (MQ below (mh_Qv D ks L s.heap.size h') args s 0 0 (mh_A L s.heap.size)) (F0 m 0 ls []) := by
  intro o0 o1 h H locs ls wd hl hX
  have hx := cx.1.1
  have hb := cx.1.2.1
  unfold f_X10_take_e at hX
  refine lv_aload_n hx hb dX10_take_0 rfl (lv_at hl 0 rfl) ?_
  refine mh_getR cx wd fl_X10_12 dX10_take_1 hX (fun a1 hX => ?_)
  refine lv_aload_n hx hb dX10_take_4 rfl (lv_at hl 1 rfl) ?_
  refine mh_callVI cx wd [.ref o1] (rfl : vwCl[1]? = some (RX1, TX1, 2)) yw_X1_alike vw_X10_27 rfl hl.1 rfl (Nat.le_of_ble_eq_true rfl) dX10_take_5 ⟨Nat.le_of_ble_eq_true rfl, Nat.le_of_ble_eq_true rfl⟩ ⟨Nat.le_refl _, Nat.le_refl _⟩ (fun _ _ q => c_X1_alike q) hX (fun v3 h2 H locs wd hX => ?_)
  refine lv_if_ne (tgt := 24) hx hb dX10_take_8 rfl (fun hc => (fun hX => ?_) ((mh_if hX).2 hc)) (fun hc => (fun hX => ?_) ((mh_if hX).1 hc))
  · exact w_X10_take_b24 cx hr  h2 _ _ ls wd (lv_sub hl [] rfl) hX
  · refine lv_aload_n hx hb dX10_take_11 rfl (lv_at hl 0 rfl) ?_
    refine mh_getR cx wd fl_X10_12 dX10_take_12 hX (fun a4 hX => ?_)
    refine lv_aload_n hx hb dX10_take_15 rfl (lv_at hl 1 rfl) ?_
    refine mh_callVV cx wd [.ref o1] (rfl : vwCl[1]? = some (RX1, TX1, 2)) yw_X1_copy vw_X10_31 rfl hl.1 rfl (Nat.le_of_ble_eq_true rfl) dX10_take_16 ⟨Nat.le_of_ble_eq_true rfl, Nat.le_of_ble_eq_true rfl⟩ ⟨Nat.le_refl _, Nat.le_refl _⟩ (fun _ q => c_X1_copy q) hX (fun h5 H locs wd hX => ?_)
    refine lv_aload_n hx hb dX10_take_19 rfl (lv_at hl 0 rfl) ?_
    refine lv_iconst (v := (-1)) hx hb dX10_take_20 (by decide) ?_
    refine mh_putI cx wd fp_X10_23 dX10_take_21 hX (fun h6 H locs wd hX => ?_)
    exact w_X10_take_b24 cx hr  h6 _ _ ls wd (lv_sub hl [] rfl) hX
set_option maxRecDepth 100000 in
theorem c_X10_take {l : Launch} {L : List Nat} {h h' : mh_H} {o0 : Nat} {o1 : Nat} (hX : f_X10_take_e o0 o1 h = some h') : mh_MV l yX10_take (Cond.code yX10_take cX10_take 2 none :: mh_TB) (mh_rm 2) [.ref o0, .ref o1] L h h' :=
  mh_of (mc := 0) (ms := 0) (Qc := fun D ks sz => mh_Qv D ks L sz h') (plainFor_of_name (by decide)) (Nat.le_of_ble_eq_true rfl) (fun p e s m below meth c D ks ls hr cx wd hl => by
    have hl : lv_has ls 2 [(0, .ref o0), (1, .ref o1)] := hl
    exact w_X10_take_e cx hr o0 o1 h _ _ ls wd hl hX)
def f_X10_count_e (o0 : Nat) (x1 : Int32) (h : mh_H) : Option (Int64 × mh_H) :=
  (mh_gR h o0 10 0).bind fun a1 =>
  mh_b2 (mh_cal h a1 1 (f_X1_count_e a1 h)) fun v3 h2 =>
  mh_b2 (mh_cal h2 o0 10 (f_X10_countBy_e o0 v3 x1 h2)) fun w5 h4 =>
  some (w5, h4)
set_option maxRecDepth 100000 in
set_option maxHeartbeats 4000000 in
theorem w_X10_count_e {p : Program} {l : Launch} {e : Env} {s : State} {m : MethodId} {args : Array Value} {below : List Frame} {meth : Method} {c : Code} {D : va_G} {ks : Nat → ClassId} {L : List Nat} {r : Int64} {h' : mh_H} (cx : mh_C p m c cX10_count 2 s args RX10 meth D ks (mh_A L s.heap.size)) (hr : meth.sig.returnType = (some .long)) :
    ∀ (o0 : Nat) (x1 : Int32) (h : mh_H) (H : Heap) (locs : List Loc) (ls : Array Slot), mh_W D ks L (mh_A L s.heap.size) s.heap h H locs → lv_has ls 2 [(0, .ref o0), (1, .int x1)] → f_X10_count_e o0 x1 h = some (r, h') → W p l e (mh_rm 3) s m args below meth c H locs 0 0 (MQ below (mh_Ql D ks L s.heap.size r h') args s 0 0 (mh_A L s.heap.size)) (F0 m 0 ls []) := by
  intro o0 x1 h H locs ls wd hl hX
  have hx := cx.1.1
  have hb := cx.1.2.1
  unfold f_X10_count_e at hX
  refine lv_aload_n hx hb dX10_count_0 rfl (lv_at hl 0 rfl) ?_
  refine lv_aload_n hx hb dX10_count_1 rfl (lv_at hl 0 rfl) ?_
  refine mh_getR cx wd fl_X10_12 dX10_count_2 hX (fun a1 hX => ?_)
  refine mh_callVI cx wd [] (rfl : vwCl[1]? = some (RX1, TX1, 2)) yw_X1_count vw_X10_35 rfl hl.1 rfl (Nat.le_of_ble_eq_true rfl) dX10_count_5 ⟨Nat.le_of_ble_eq_true rfl, Nat.le_of_ble_eq_true rfl⟩ ⟨Nat.le_refl _, Nat.le_refl _⟩ (fun _ _ q => c_X1_count q) hX (fun v3 h2 H locs wd hX => ?_)
  refine lv_iload_n hx hb dX10_count_8 rfl (lv_at hl 1 rfl) ?_
  refine mh_callVJ cx wd [.int v3, .int x1] (rfl : vwCl[10]? = some (RX10, TX10, 3)) yw_X10_countBy vw_X10_39 rfl hl.1 rfl (Nat.le_of_ble_eq_true rfl) dX10_count_9 ⟨Nat.le_of_ble_eq_true rfl, Nat.le_of_ble_eq_true rfl⟩ ⟨Nat.le_refl _, Nat.le_refl _⟩ (fun _ _ q => c_X10_countBy q) hX (fun w5 h4 H locs wd hX => ?_)
  exact mh_lret cx wd hr hX dX10_count_12
set_option maxRecDepth 100000 in
theorem c_X10_count {l : Launch} {L : List Nat} {h h' : mh_H} {r : Int64} {o0 : Nat} {x1 : Int32} (hX : f_X10_count_e o0 x1 h = some (r, h')) : mh_MJ l yX10_count (Cond.code yX10_count cX10_count 2 (some .long) :: mh_TB) (mh_rm 3) [.ref o0, .int x1] L h r h' :=
  mh_of (mc := 0) (ms := 0) (Qc := fun D ks sz => mh_Ql D ks L sz r h') (plainFor_of_name (by decide)) (Nat.le_of_ble_eq_true rfl) (fun p e s m below meth c D ks ls hr cx wd hl => by
    have hl : lv_has ls 2 [(0, .ref o0), (1, .int x1)] := hl
    exact w_X10_count_e cx hr o0 x1 h _ _ ls wd hl hX)
def f_X10_rankOf_b86 (k18 : Nat → Nat → Int32 → Int64 → Int32 → mh_H → Option (Int64 × mh_H)) (o0 : Nat) (o1 : Nat) (x2 : Int32) (y3 : Int64) (x5 : Int32) (x6 : Int32) (h : mh_H) : Option (Int64 × mh_H) :=
  mh_b2 (mh_cal h o1 7 (f_X7_often_e o1 x5 h)) fun v2 h1 =>
  mh_nm (x2 - (v2 * x6)) fun v3 =>
  mh_nm (x5 + Int32.ofInt (-1)) fun v4 =>
  k18 o0 o1 v3 y3 v4 h1
def f_X10_rankOf_b53 (k18 : Nat → Nat → Int32 → Int64 → Int32 → mh_H → Option (Int64 × mh_H)) : Nat → Nat → Nat → Int32 → Int64 → Int32 → Int32 → Int32 → mh_H → Option (Int64 × mh_H)
  | 0, _, _, _, _, _, _, _, _ => none
  | n + 1, o0, o1, x2, y3, x5, x6, x8, h =>
    mh_b2 (mh_cal h o1 7 (f_X7_often_e o1 x5 h)) fun v6 h5 =>
    if x8 ≤ v6 then (
    f_X10_rankOf_b86 k18 o0 o1 x2 y3 x5 x6 h5) else
    mh_b2 (mh_cal h5 o0 10 (f_X10_countBy_e o0 x5 (x2 - (x8 * x6)) h5)) fun w8 h7 =>
    mh_nm (y3 + w8) fun w9 =>
    mh_nm (x8 + Int32.ofInt (-1)) fun v10 =>
    f_X10_rankOf_b53 k18 n o0 o1 x2 w9 x5 x6 v10 h7
def f_X10_rankOf_b47 (k18 : Nat → Nat → Int32 → Int64 → Int32 → mh_H → Option (Int64 × mh_H)) (o0 : Nat) (o1 : Nat) (x2 : Int32) (y3 : Int64) (x5 : Int32) (x6 : Int32) (t0 : Int32) (h : mh_H) : Option (Int64 × mh_H) :=
  f_X10_rankOf_b53 k18 mh_fu o0 o1 x2 y3 x5 x6 t0 h
def f_X10_rankOf_b104 (y3 : Int64) (h : mh_H) : Option (Int64 × mh_H) :=
  some (y3, h)
def f_X10_rankOf_b18 : Nat → Nat → Nat → Int32 → Int64 → Int32 → mh_H → Option (Int64 × mh_H)
  | 0, _, _, _, _, _, _ => none
  | n + 1, o0, o1, x2, y3, x5, h =>
    if x5 < 0 then (
    f_X10_rankOf_b104 y3 h) else
    (mh_gR h o0 10 0).bind fun a11 =>
    mh_b2 (mh_cal h a11 1 (f_X1_value_e a11 x5 h)) fun v13 h12 =>
    if v13 ≤ 0 then (
    f_X10_rankOf_b47 (f_X10_rankOf_b18 n) o0 o1 x2 y3 x5 v13 (0 : Int32) h12) else
    mh_nz (v13 = 0) <|
    f_X10_rankOf_b47 (f_X10_rankOf_b18 n) o0 o1 x2 y3 x5 v13 (x2 / v13) h12
def f_X10_rankOf_e (o0 : Nat) (o1 : Nat) (h : mh_H) : Option (Int64 × mh_H) :=
  mh_b2 (mh_cal h o1 7 (f_X7_total_e o1 h)) fun v15 h14 =>
  mh_nm (0 : Int64) fun w16 =>
  (mh_gR h14 o0 10 0).bind fun a17 =>
  mh_b2 (mh_cal h14 a17 1 (f_X1_count_e a17 h14)) fun v19 h18 =>
  mh_nm (v19 - (1 : Int32)) fun v20 =>
  f_X10_rankOf_b18 mh_fu o0 o1 v15 w16 v20 h18
set_option maxRecDepth 100000 in
set_option maxHeartbeats 4000000 in
theorem w_X10_rankOf_b86 {p : Program} {l : Launch} {e : Env} {s : State} {m : MethodId} {args : Array Value} {below : List Frame} {meth : Method} {c : Code} {D : va_G} {ks : Nat → ClassId} {L : List Nat} {r : Int64} {h' : mh_H} (k18 : Nat → Nat → Int32 → Int64 → Int32 → mh_H → Option (Int64 × mh_H)) (cx : mh_C p m c cX10_rankOf 9 s args RX10 meth D ks (mh_A L s.heap.size)) (hr : meth.sig.returnType = (some .long))
    (hk18 : ∀ (o0 : Nat) (o1 : Nat) (x2 : Int32) (y3 : Int64) (x5 : Int32) (h : mh_H) (H : Heap) (locs : List Loc) (ls : Array Slot), mh_W D ks L (mh_A L s.heap.size) s.heap h H locs → lv_has ls 9 [(0, .ref o0), (1, .ref o1), (2, .int x2), (3, .long y3), (5, .int x5)] → k18 o0 o1 x2 y3 x5 h = some (r, h') → W p l e (mh_rm 3) s m args below meth c H locs 0 0 (MQ below (mh_Ql D ks L s.heap.size r h') args s 0 0 (mh_A L s.heap.size)) (F0 m 18 ls [])) :
    ∀ (o0 : Nat) (o1 : Nat) (x2 : Int32) (y3 : Int64) (x5 : Int32) (x6 : Int32) (h : mh_H) (H : Heap) (locs : List Loc) (ls : Array Slot), mh_W D ks L (mh_A L s.heap.size) s.heap h H locs → lv_has ls 9 [(0, .ref o0), (1, .ref o1), (2, .int x2), (3, .long y3), (5, .int x5), (6, .int x6)] → f_X10_rankOf_b86 k18 o0 o1 x2 y3 x5 x6 h = some (r, h') → W p l e (mh_rm 3) s m args below meth c H locs 0 0 (MQ below (mh_Ql D ks L s.heap.size r h') args s 0 0 (mh_A L s.heap.size)) (F0 m 86 ls []) := by
  intro o0 o1 x2 y3 x5 x6 h H locs ls wd hl hX
  have hx := cx.1.1
  have hb := cx.1.2.1
  unfold f_X10_rankOf_b86 at hX
  refine lv_iload_n hx hb dX10_rankOf_86 rfl (lv_at hl 2 rfl) ?_
  refine lv_aload_n hx hb dX10_rankOf_87 rfl (lv_at hl 1 rfl) ?_
  refine lv_iload hx hb dX10_rankOf_88 (lv_at hl 4 rfl) ?_
  refine mh_callVI cx wd [.int x5] (rfl : vwCl[7]? = some (RX7, TX7, 2)) yw_X7_often vw_X10_68 rfl hl.1 rfl (Nat.le_of_ble_eq_true rfl) dX10_rankOf_90 ⟨Nat.le_of_ble_eq_true rfl, Nat.le_of_ble_eq_true rfl⟩ ⟨Nat.le_refl _, Nat.le_refl _⟩ (fun _ _ q => c_X7_often q) hX (fun v2 h1 H locs wd hX => ?_)
  refine lv_iload hx hb dX10_rankOf_93 (lv_at hl 5 rfl) ?_
  refine lv_imul hx hb dX10_rankOf_95 ?_
  refine lv_isub hx hb dX10_rankOf_96 ?_
  refine mh_topi hX (fun v3 hX => ?_)
  refine lv_istore_n (lv' := [(2, .int v3), (0, .ref o0), (1, .ref o1), (3, .long y3), (5, .int x5), (6, .int x6)]) hx hb dX10_rankOf_97 rfl hl (Nat.le_of_ble_eq_true rfl) rfl (fun ls hl => ?_)
  obtain ⟨v4, ev4, hX⟩ := mh_nmx hX
  refine lv_iinc (k := 4) (v := v4) (lv' := [(5, .int v4), (2, .int v3), (0, .ref o0), (1, .ref o1), (3, .long y3), (6, .int x6)]) hx hb dX10_rankOf_98 hl rfl ev4 (Nat.le_of_ble_eq_true rfl) rfl (fun ls hl => ?_)
  refine lv_goto (tgt := 18) hx hb dX10_rankOf_101 rfl ?_
  exact hk18 _ _ _ _ _ h1 _ _ ls wd (lv_sub hl [2, 3, 1, 4, 0] rfl) hX
set_option maxRecDepth 100000 in
set_option maxHeartbeats 4000000 in
theorem w_X10_rankOf_b53 {p : Program} {l : Launch} {e : Env} {s : State} {m : MethodId} {args : Array Value} {below : List Frame} {meth : Method} {c : Code} {D : va_G} {ks : Nat → ClassId} {L : List Nat} {r : Int64} {h' : mh_H} (k18 : Nat → Nat → Int32 → Int64 → Int32 → mh_H → Option (Int64 × mh_H)) (cx : mh_C p m c cX10_rankOf 9 s args RX10 meth D ks (mh_A L s.heap.size)) (hr : meth.sig.returnType = (some .long))
    (hk18 : ∀ (o0 : Nat) (o1 : Nat) (x2 : Int32) (y3 : Int64) (x5 : Int32) (h : mh_H) (H : Heap) (locs : List Loc) (ls : Array Slot), mh_W D ks L (mh_A L s.heap.size) s.heap h H locs → lv_has ls 9 [(0, .ref o0), (1, .ref o1), (2, .int x2), (3, .long y3), (5, .int x5)] → k18 o0 o1 x2 y3 x5 h = some (r, h') → W p l e (mh_rm 3) s m args below meth c H locs 0 0 (MQ below (mh_Ql D ks L s.heap.size r h') args s 0 0 (mh_A L s.heap.size)) (F0 m 18 ls [])) :
    ∀ n : Nat, ∀ (o0 : Nat) (o1 : Nat) (x2 : Int32) (y3 : Int64) (x5 : Int32) (x6 : Int32) (x8 : Int32) (h : mh_H) (H : Heap) (locs : List Loc) (ls : Array Slot), mh_W D ks L (mh_A L s.heap.size) s.heap h H locs → lv_has ls 9 [(0, .ref o0), (1, .ref o1), (2, .int x2), (3, .long y3), (5, .int x5), (6, .int x6), (8, .int x8)] → f_X10_rankOf_b53 k18 n o0 o1 x2 y3 x5 x6 x8 h = some (r, h') → W p l e (mh_rm 3) s m args below meth c H locs 0 0 (MQ below (mh_Ql D ks L s.heap.size r h') args s 0 0 (mh_A L s.heap.size)) (F0 m 53 ls []) := by
  intro n
  induction n with
  | zero =>
    intro o0 o1 x2 y3 x5 x6 x8 h H locs ls wd hl hX
    cases hX
  | succ n ih =>
    intro o0 o1 x2 y3 x5 x6 x8 h H locs ls wd hl hX
    have hx := cx.1.1
    have hb := cx.1.2.1
    rw [f_X10_rankOf_b53] at hX
    refine lv_iload hx hb dX10_rankOf_53 (lv_at hl 6 rfl) ?_
    refine lv_aload_n hx hb dX10_rankOf_55 rfl (lv_at hl 1 rfl) ?_
    refine lv_iload hx hb dX10_rankOf_56 (lv_at hl 4 rfl) ?_
    refine mh_callVI cx wd [.int x5] (rfl : vwCl[7]? = some (RX7, TX7, 2)) yw_X7_often vw_X10_68 rfl hl.1 rfl (Nat.le_of_ble_eq_true rfl) dX10_rankOf_58 ⟨Nat.le_of_ble_eq_true rfl, Nat.le_of_ble_eq_true rfl⟩ ⟨Nat.le_refl _, Nat.le_refl _⟩ (fun _ _ q => c_X7_often q) hX (fun v6 h5 H locs wd hX => ?_)
    refine lv_icmp_le (tgt := 86) hx hb dX10_rankOf_61 rfl (fun hc => (fun hX => ?_) ((mh_if hX).1 hc)) (fun hc => (fun hX => ?_) ((mh_if hX).2 hc))
    · exact w_X10_rankOf_b86 k18 cx hr hk18 _ _ _ _ _ _ h5 _ _ ls wd (lv_sub hl [0, 1, 2, 3, 4, 5] rfl) hX
    · refine lv_lload_n hx hb dX10_rankOf_64 rfl (lv_at hl 3 rfl) ?_
      refine lv_aload_n hx hb dX10_rankOf_65 rfl (lv_at hl 0 rfl) ?_
      refine lv_iload hx hb dX10_rankOf_66 (lv_at hl 4 rfl) ?_
      refine lv_iload_n hx hb dX10_rankOf_68 rfl (lv_at hl 2 rfl) ?_
      refine lv_iload hx hb dX10_rankOf_69 (lv_at hl 6 rfl) ?_
      refine lv_iload hx hb dX10_rankOf_71 (lv_at hl 5 rfl) ?_
      refine lv_imul hx hb dX10_rankOf_73 ?_
      refine lv_isub hx hb dX10_rankOf_74 ?_
      refine mh_callVJ cx wd [.int x5, .int (x2 - (x8 * x6))] (rfl : vwCl[10]? = some (RX10, TX10, 3)) yw_X10_countBy vw_X10_39 rfl hl.1 rfl (Nat.le_of_ble_eq_true rfl) dX10_rankOf_75 ⟨Nat.le_of_ble_eq_true rfl, Nat.le_of_ble_eq_true rfl⟩ ⟨Nat.le_refl _, Nat.le_refl _⟩ (fun _ _ q => c_X10_countBy q) hX (fun w8 h7 H locs wd hX => ?_)
      refine lv_ladd hx hb dX10_rankOf_78 ?_
      refine mh_topl hX (fun w9 hX => ?_)
      refine lv_lstore_n (lv' := [(3, .long w9), (0, .ref o0), (1, .ref o1), (2, .int x2), (5, .int x5), (6, .int x6), (8, .int x8)]) hx hb dX10_rankOf_79 rfl hl (Nat.le_of_ble_eq_true rfl) rfl (fun ls hl => ?_)
      obtain ⟨v10, ev10, hX⟩ := mh_nmx hX
      refine lv_iinc (k := 6) (v := v10) (lv' := [(8, .int v10), (3, .long w9), (0, .ref o0), (1, .ref o1), (2, .int x2), (5, .int x5), (6, .int x6)]) hx hb dX10_rankOf_80 hl rfl ev10 (Nat.le_of_ble_eq_true rfl) rfl (fun ls hl => ?_)
      refine lv_goto (tgt := 53) hx hb dX10_rankOf_83 rfl ?_
      exact ih _ _ _ _ _ _ _ h7 _ _ ls wd (lv_sub hl [2, 3, 4, 1, 5, 6, 0] rfl) hX
set_option maxRecDepth 100000 in
set_option maxHeartbeats 4000000 in
theorem w_X10_rankOf_b47 {p : Program} {l : Launch} {e : Env} {s : State} {m : MethodId} {args : Array Value} {below : List Frame} {meth : Method} {c : Code} {D : va_G} {ks : Nat → ClassId} {L : List Nat} {r : Int64} {h' : mh_H} (k18 : Nat → Nat → Int32 → Int64 → Int32 → mh_H → Option (Int64 × mh_H)) (cx : mh_C p m c cX10_rankOf 9 s args RX10 meth D ks (mh_A L s.heap.size)) (hr : meth.sig.returnType = (some .long))
    (hk18 : ∀ (o0 : Nat) (o1 : Nat) (x2 : Int32) (y3 : Int64) (x5 : Int32) (h : mh_H) (H : Heap) (locs : List Loc) (ls : Array Slot), mh_W D ks L (mh_A L s.heap.size) s.heap h H locs → lv_has ls 9 [(0, .ref o0), (1, .ref o1), (2, .int x2), (3, .long y3), (5, .int x5)] → k18 o0 o1 x2 y3 x5 h = some (r, h') → W p l e (mh_rm 3) s m args below meth c H locs 0 0 (MQ below (mh_Ql D ks L s.heap.size r h') args s 0 0 (mh_A L s.heap.size)) (F0 m 18 ls [])) :
    ∀ (o0 : Nat) (o1 : Nat) (x2 : Int32) (y3 : Int64) (x5 : Int32) (x6 : Int32) (t0 : Int32) (h : mh_H) (H : Heap) (locs : List Loc) (ls : Array Slot), mh_W D ks L (mh_A L s.heap.size) s.heap h H locs → lv_has ls 9 [(0, .ref o0), (1, .ref o1), (2, .int x2), (3, .long y3), (5, .int x5), (6, .int x6)] → f_X10_rankOf_b47 k18 o0 o1 x2 y3 x5 x6 t0 h = some (r, h') → W p l e (mh_rm 3) s m args below meth c H locs 0 0 (MQ below (mh_Ql D ks L s.heap.size r h') args s 0 0 (mh_A L s.heap.size)) (F0 m 47 ls [.int t0]) := by
  intro o0 o1 x2 y3 x5 x6 t0 h H locs ls wd hl hX
  have hx := cx.1.1
  have hb := cx.1.2.1
  unfold f_X10_rankOf_b47 at hX
  refine lv_istore (lv' := [(7, .int t0), (0, .ref o0), (1, .ref o1), (2, .int x2), (3, .long y3), (5, .int x5), (6, .int x6)]) hx hb dX10_rankOf_47 hl (Nat.le_of_ble_eq_true rfl) rfl (fun ls hl => ?_)
  refine lv_iload hx hb dX10_rankOf_49 (lv_at hl 0 rfl) ?_
  refine lv_istore (lv' := [(8, .int t0), (7, .int t0), (0, .ref o0), (1, .ref o1), (2, .int x2), (3, .long y3), (5, .int x5), (6, .int x6)]) hx hb dX10_rankOf_51 hl (Nat.le_of_ble_eq_true rfl) rfl (fun ls hl => ?_)
  exact w_X10_rankOf_b53 k18 cx hr hk18 mh_fu _ _ _ _ _ _ _ h _ _ ls wd (lv_sub hl [2, 3, 4, 5, 6, 7, 0] rfl) hX
set_option maxRecDepth 100000 in
set_option maxHeartbeats 4000000 in
theorem w_X10_rankOf_b104 {p : Program} {l : Launch} {e : Env} {s : State} {m : MethodId} {args : Array Value} {below : List Frame} {meth : Method} {c : Code} {D : va_G} {ks : Nat → ClassId} {L : List Nat} {r : Int64} {h' : mh_H} (cx : mh_C p m c cX10_rankOf 9 s args RX10 meth D ks (mh_A L s.heap.size)) (hr : meth.sig.returnType = (some .long)) :
    ∀ (y3 : Int64) (h : mh_H) (H : Heap) (locs : List Loc) (ls : Array Slot), mh_W D ks L (mh_A L s.heap.size) s.heap h H locs → lv_has ls 9 [(3, .long y3)] → f_X10_rankOf_b104 y3 h = some (r, h') → W p l e (mh_rm 3) s m args below meth c H locs 0 0 (MQ below (mh_Ql D ks L s.heap.size r h') args s 0 0 (mh_A L s.heap.size)) (F0 m 104 ls []) := by
  intro y3 h H locs ls wd hl hX
  have hx := cx.1.1
  have hb := cx.1.2.1
  unfold f_X10_rankOf_b104 at hX
  refine lv_lload_n hx hb dX10_rankOf_104 rfl (lv_at hl 0 rfl) ?_
  exact mh_lret cx wd hr hX dX10_rankOf_105
set_option maxRecDepth 100000 in
set_option maxHeartbeats 4000000 in
theorem w_X10_rankOf_b18 {p : Program} {l : Launch} {e : Env} {s : State} {m : MethodId} {args : Array Value} {below : List Frame} {meth : Method} {c : Code} {D : va_G} {ks : Nat → ClassId} {L : List Nat} {r : Int64} {h' : mh_H} (cx : mh_C p m c cX10_rankOf 9 s args RX10 meth D ks (mh_A L s.heap.size)) (hr : meth.sig.returnType = (some .long)) :
    ∀ n : Nat, ∀ (o0 : Nat) (o1 : Nat) (x2 : Int32) (y3 : Int64) (x5 : Int32) (h : mh_H) (H : Heap) (locs : List Loc) (ls : Array Slot), mh_W D ks L (mh_A L s.heap.size) s.heap h H locs → lv_has ls 9 [(0, .ref o0), (1, .ref o1), (2, .int x2), (3, .long y3), (5, .int x5)] → f_X10_rankOf_b18 n o0 o1 x2 y3 x5 h = some (r, h') → W p l e (mh_rm 3) s m args below meth c H locs 0 0 (MQ below (mh_Ql D ks L s.heap.size r h') args s 0 0 (mh_A L s.heap.size)) (F0 m 18 ls []) := by
  intro n
  induction n with
  | zero =>
    intro o0 o1 x2 y3 x5 h H locs ls wd hl hX
    cases hX
  | succ n ih =>
    intro o0 o1 x2 y3 x5 h H locs ls wd hl hX
    have hx := cx.1.1
    have hb := cx.1.2.1
    rw [f_X10_rankOf_b18] at hX
    refine lv_iload hx hb dX10_rankOf_18 (lv_at hl 4 rfl) ?_
    refine lv_if_lt (tgt := 104) hx hb dX10_rankOf_20 rfl (fun hc => (fun hX => ?_) ((mh_if hX).1 hc)) (fun hc => (fun hX => ?_) ((mh_if hX).2 hc))
    · exact w_X10_rankOf_b104 cx hr _ h _ _ ls wd (lv_sub hl [3] rfl) hX
    · refine lv_aload_n hx hb dX10_rankOf_23 rfl (lv_at hl 0 rfl) ?_
      refine mh_getR cx wd fl_X10_12 dX10_rankOf_24 hX (fun a11 hX => ?_)
      refine lv_iload hx hb dX10_rankOf_27 (lv_at hl 4 rfl) ?_
      refine mh_callVI cx wd [.int x5] (rfl : vwCl[1]? = some (RX1, TX1, 2)) yw_X1_value vw_X10_47 rfl hl.1 rfl (Nat.le_of_ble_eq_true rfl) dX10_rankOf_29 ⟨Nat.le_of_ble_eq_true rfl, Nat.le_of_ble_eq_true rfl⟩ ⟨Nat.le_refl _, Nat.le_refl _⟩ (fun _ _ q => c_X1_value q) hX (fun v13 h12 H locs wd hX => ?_)
      refine lv_istore (lv' := [(6, .int v13), (0, .ref o0), (1, .ref o1), (2, .int x2), (3, .long y3), (5, .int x5)]) hx hb dX10_rankOf_32 hl (Nat.le_of_ble_eq_true rfl) rfl (fun ls hl => ?_)
      refine lv_iload hx hb dX10_rankOf_34 (lv_at hl 0 rfl) ?_
      refine lv_if_le (tgt := 46) hx hb dX10_rankOf_36 rfl (fun hc => (fun hX => ?_) ((mh_if hX).1 hc)) (fun hc => (fun hX => ?_) ((mh_if hX).2 hc))
      · refine lv_iconst (v := 0) hx hb dX10_rankOf_46 (by decide) ?_
        exact w_X10_rankOf_b47 (f_X10_rankOf_b18 n) cx hr ih _ _ _ _ _ _ _ h12 _ _ ls wd (lv_sub hl [1, 2, 3, 4, 5, 0] rfl) hX
      · refine lv_iload_n hx hb dX10_rankOf_39 rfl (lv_at hl 3 rfl) ?_
        refine lv_iload hx hb dX10_rankOf_40 (lv_at hl 0 rfl) ?_
        obtain ⟨hz, hX⟩ := mh_nzk hX
        refine lv_idiv hx hb dX10_rankOf_42 hz ?_
        refine lv_goto (tgt := 47) hx hb dX10_rankOf_43 rfl ?_
        exact w_X10_rankOf_b47 (f_X10_rankOf_b18 n) cx hr ih _ _ _ _ _ _ _ h12 _ _ ls wd (lv_sub hl [1, 2, 3, 4, 5, 0] rfl) hX
set_option maxRecDepth 100000 in
set_option maxHeartbeats 4000000 in
theorem w_X10_rankOf_e {p : Program} {l : Launch} {e : Env} {s : State} {m : MethodId} {args : Array Value} {below : List Frame} {meth : Method} {c : Code} {D : va_G} {ks : Nat → ClassId} {L : List Nat} {r : Int64} {h' : mh_H} (cx : mh_C p m c cX10_rankOf 9 s args RX10 meth D ks (mh_A L s.heap.size)) (hr : meth.sig.returnType = (some .long)) :
    ∀ (o0 : Nat) (o1 : Nat) (h : mh_H) (H : Heap) (locs : List Loc) (ls : Array Slot), mh_W D ks L (mh_A L s.heap.size) s.heap h H locs → lv_has ls 9 [(0, .ref o0), (1, .ref o1)] → f_X10_rankOf_e o0 o1 h = some (r, h') → W p l e (mh_rm 3) s m args below meth c H locs 0 0 (MQ below (mh_Ql D ks L s.heap.size r h') args s 0 0 (mh_A L s.heap.size)) (F0 m 0 ls []) := by
  intro o0 o1 h H locs ls wd hl hX
  have hx := cx.1.1
  have hb := cx.1.2.1
  unfold f_X10_rankOf_e at hX
  refine lv_aload_n hx hb dX10_rankOf_0 rfl (lv_at hl 1 rfl) ?_
  refine mh_callVI cx wd [] (rfl : vwCl[7]? = some (RX7, TX7, 2)) yw_X7_total vw_X10_65 rfl hl.1 rfl (Nat.le_of_ble_eq_true rfl) dX10_rankOf_1 ⟨Nat.le_of_ble_eq_true rfl, Nat.le_of_ble_eq_true rfl⟩ ⟨Nat.le_refl _, Nat.le_refl _⟩ (fun _ _ q => c_X7_total q) hX (fun v15 h14 H locs wd hX => ?_)
  refine lv_istore_n (lv' := [(2, .int v15), (0, .ref o0), (1, .ref o1)]) hx hb dX10_rankOf_4 rfl hl (Nat.le_of_ble_eq_true rfl) rfl (fun ls hl => ?_)
  refine lv_lconst (v := 0) hx hb dX10_rankOf_5 (by decide) ?_
  refine mh_topl hX (fun w16 hX => ?_)
  refine lv_lstore_n (lv' := [(3, .long w16), (2, .int v15), (0, .ref o0), (1, .ref o1)]) hx hb dX10_rankOf_6 rfl hl (Nat.le_of_ble_eq_true rfl) rfl (fun ls hl => ?_)
  refine lv_aload_n hx hb dX10_rankOf_7 rfl (lv_at hl 2 rfl) ?_
  refine mh_getR cx wd fl_X10_12 dX10_rankOf_8 hX (fun a17 hX => ?_)
  refine mh_callVI cx wd [] (rfl : vwCl[1]? = some (RX1, TX1, 2)) yw_X1_count vw_X10_35 rfl hl.1 rfl (Nat.le_of_ble_eq_true rfl) dX10_rankOf_11 ⟨Nat.le_of_ble_eq_true rfl, Nat.le_of_ble_eq_true rfl⟩ ⟨Nat.le_refl _, Nat.le_refl _⟩ (fun _ _ q => c_X1_count q) hX (fun v19 h18 H locs wd hX => ?_)
  refine lv_iconst (v := 1) hx hb dX10_rankOf_14 (by decide) ?_
  refine lv_isub hx hb dX10_rankOf_15 ?_
  refine mh_topi hX (fun v20 hX => ?_)
  refine lv_istore (lv' := [(5, .int v20), (3, .long w16), (2, .int v15), (0, .ref o0), (1, .ref o1)]) hx hb dX10_rankOf_16 hl (Nat.le_of_ble_eq_true rfl) rfl (fun ls hl => ?_)
  exact w_X10_rankOf_b18 cx hr mh_fu _ _ _ _ _ h18 _ _ ls wd (lv_sub hl [3, 4, 2, 1, 0] rfl) hX
set_option maxRecDepth 100000 in
theorem c_X10_rankOf {l : Launch} {L : List Nat} {h h' : mh_H} {r : Int64} {o0 : Nat} {o1 : Nat} (hX : f_X10_rankOf_e o0 o1 h = some (r, h')) : mh_MJ l yX10_rankOf (Cond.code yX10_rankOf cX10_rankOf 9 (some .long) :: mh_TB) (mh_rm 3) [.ref o0, .ref o1] L h r h' :=
  mh_of (mc := 0) (ms := 0) (Qc := fun D ks sz => mh_Ql D ks L sz r h') (plainFor_of_name (by decide)) (Nat.le_of_ble_eq_true rfl) (fun p e s m below meth c D ks ls hr cx wd hl => by
    have hl : lv_has ls 9 [(0, .ref o0), (1, .ref o1)] := hl
    exact w_X10_rankOf_e cx hr o0 o1 h _ _ ls wd hl hX)
def f_X11_isPlace_b15 (t0 : Int32) (h : mh_H) : Option (Int32 × mh_H) :=
  mh_rz t0 h
def f_X11_isPlace_b14 (k15 : Int32 → mh_H → Option (Int32 × mh_H)) (h : mh_H) : Option (Int32 × mh_H) :=
  k15 (0 : Int32) h
def f_X11_isPlace_e (x0 : Int32) (h : mh_H) : Option (Int32 × mh_H) :=
  if x0 < 0 then (
  f_X11_isPlace_b14 (f_X11_isPlace_b15) h) else
  if (8 : Int32) ≤ x0 then (
  f_X11_isPlace_b14 (f_X11_isPlace_b15) h) else
  f_X11_isPlace_b15 (1 : Int32) h
set_option maxRecDepth 100000 in
set_option maxHeartbeats 4000000 in
theorem w_X11_isPlace_b15 {p : Program} {l : Launch} {e : Env} {s : State} {m : MethodId} {args : Array Value} {below : List Frame} {meth : Method} {c : Code} {D : va_G} {ks : Nat → ClassId} {L : List Nat} {r : Int32} {h' : mh_H} (cx : mh_C p m c cX11_isPlace 1 s args RX11 meth D ks (mh_A L s.heap.size)) (hr : meth.sig.returnType = (some .boolean)) :
    ∀ (t0 : Int32) (h : mh_H) (H : Heap) (locs : List Loc) (ls : Array Slot), mh_W D ks L (mh_A L s.heap.size) s.heap h H locs → lv_has ls 1 [] → f_X11_isPlace_b15 t0 h = some (r, h') → W p l e (mh_rm 0) s m args below meth c H locs 0 0 (MQ below (mh_Qi D ks L s.heap.size r h') args s 0 0 (mh_A L s.heap.size)) (F0 m 15 ls [.int t0]) := by
  intro t0 h H locs ls wd hl hX
  have hx := cx.1.1
  have hb := cx.1.2.1
  unfold f_X11_isPlace_b15 at hX
  exact mh_zret cx wd hr hX dX11_isPlace_15
set_option maxRecDepth 100000 in
set_option maxHeartbeats 4000000 in
theorem w_X11_isPlace_b14 {p : Program} {l : Launch} {e : Env} {s : State} {m : MethodId} {args : Array Value} {below : List Frame} {meth : Method} {c : Code} {D : va_G} {ks : Nat → ClassId} {L : List Nat} {r : Int32} {h' : mh_H} (k15 : Int32 → mh_H → Option (Int32 × mh_H)) (cx : mh_C p m c cX11_isPlace 1 s args RX11 meth D ks (mh_A L s.heap.size)) (hr : meth.sig.returnType = (some .boolean))
    (hk15 : ∀ (t0 : Int32) (h : mh_H) (H : Heap) (locs : List Loc) (ls : Array Slot), mh_W D ks L (mh_A L s.heap.size) s.heap h H locs → lv_has ls 1 [] → k15 t0 h = some (r, h') → W p l e (mh_rm 0) s m args below meth c H locs 0 0 (MQ below (mh_Qi D ks L s.heap.size r h') args s 0 0 (mh_A L s.heap.size)) (F0 m 15 ls [.int t0])) :
    ∀ (h : mh_H) (H : Heap) (locs : List Loc) (ls : Array Slot), mh_W D ks L (mh_A L s.heap.size) s.heap h H locs → lv_has ls 1 [] → f_X11_isPlace_b14 k15  h = some (r, h') → W p l e (mh_rm 0) s m args below meth c H locs 0 0 (MQ below (mh_Qi D ks L s.heap.size r h') args s 0 0 (mh_A L s.heap.size)) (F0 m 14 ls []) := by
  intro  h H locs ls wd hl hX
  have hx := cx.1.1
  have hb := cx.1.2.1
  unfold f_X11_isPlace_b14 at hX
  refine lv_iconst (v := 0) hx hb dX11_isPlace_14 (by decide) ?_
  exact hk15 _ h _ _ ls wd (lv_sub hl [] rfl) hX
set_option maxRecDepth 100000 in
set_option maxHeartbeats 4000000 in
theorem w_X11_isPlace_e {p : Program} {l : Launch} {e : Env} {s : State} {m : MethodId} {args : Array Value} {below : List Frame} {meth : Method} {c : Code} {D : va_G} {ks : Nat → ClassId} {L : List Nat} {r : Int32} {h' : mh_H} (cx : mh_C p m c cX11_isPlace 1 s args RX11 meth D ks (mh_A L s.heap.size)) (hr : meth.sig.returnType = (some .boolean)) :
    ∀ (x0 : Int32) (h : mh_H) (H : Heap) (locs : List Loc) (ls : Array Slot), mh_W D ks L (mh_A L s.heap.size) s.heap h H locs → lv_has ls 1 [(0, .int x0)] → f_X11_isPlace_e x0 h = some (r, h') → W p l e (mh_rm 0) s m args below meth c H locs 0 0 (MQ below (mh_Qi D ks L s.heap.size r h') args s 0 0 (mh_A L s.heap.size)) (F0 m 0 ls []) := by
  intro x0 h H locs ls wd hl hX
  have hx := cx.1.1
  have hb := cx.1.2.1
  unfold f_X11_isPlace_e at hX
  refine lv_iload_n hx hb dX11_isPlace_0 rfl (lv_at hl 0 rfl) ?_
  refine lv_if_lt (tgt := 14) hx hb dX11_isPlace_1 rfl (fun hc => (fun hX => ?_) ((mh_if hX).1 hc)) (fun hc => (fun hX => ?_) ((mh_if hX).2 hc))
  · exact w_X11_isPlace_b14 (f_X11_isPlace_b15) cx hr (w_X11_isPlace_b15 cx hr)  h _ _ ls wd (lv_sub hl [] rfl) hX
  · refine lv_iload_n hx hb dX11_isPlace_4 rfl (lv_at hl 0 rfl) ?_
    refine lv_bipush (v := 8) hx hb dX11_isPlace_5 (by decide) ?_
    refine lv_icmp_ge (tgt := 14) hx hb dX11_isPlace_7 rfl (fun hc => (fun hX => ?_) ((mh_if hX).1 hc)) (fun hc => (fun hX => ?_) ((mh_if hX).2 hc))
    · exact w_X11_isPlace_b14 (f_X11_isPlace_b15) cx hr (w_X11_isPlace_b15 cx hr)  h _ _ ls wd (lv_sub hl [] rfl) hX
    · refine lv_iconst (v := 1) hx hb dX11_isPlace_10 (by decide) ?_
      refine lv_goto (tgt := 15) hx hb dX11_isPlace_11 rfl ?_
      exact w_X11_isPlace_b15 cx hr _ h _ _ ls wd (lv_sub hl [] rfl) hX
set_option maxRecDepth 100000 in
theorem c_X11_isPlace {l : Launch} {L : List Nat} {h h' : mh_H} {r : Int32} {x0 : Int32} (hX : f_X11_isPlace_e x0 h = some (r, h')) : mh_MI l yX11_isPlace (Cond.code yX11_isPlace cX11_isPlace 1 (some .boolean) :: mh_TB) (mh_rm 0) [.int x0] L h r h' :=
  mh_of (mc := 0) (ms := 0) (Qc := fun D ks sz => mh_Qi D ks L sz r h') (plainFor_of_name (by decide)) (Nat.le_of_ble_eq_true rfl) (fun p e s m below meth c D ks ls hr cx wd hl => by
    have hl : lv_has ls 1 [(0, .int x0)] := hl
    exact w_X11_isPlace_e cx hr x0 h _ _ ls wd hl hX)
