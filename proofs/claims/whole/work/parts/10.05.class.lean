def f_X11_coin_b19 (h : mh_H) : Option (Int32 × mh_H) :=
  some ((-1 : Int32), h)
def f_X11_coin_b45 (h : mh_H) : Option (Int32 × mh_H) :=
  some ((-1 : Int32), h)
def f_X11_coin_e (o0 : Nat) (x1 : Int32) (x2 : Int32) (h : mh_H) : Option (Int32 × mh_H) :=
  mh_b2 (f_X11_isPlace_e x1 h) fun v2 h1 =>
  if v2 = 0 then (
  f_X11_coin_b19 h1) else
  if x2 < (1 : Int32) then (
  f_X11_coin_b19 h1) else
  if x2 ≤ (300 : Int32) then (
  (mh_gR h1 o0 11 0).bind fun a3 =>
  mh_b2 (mh_cal h1 a3 3 (f_X3_mint_e a3 x1 h1)) fun a5 h4 =>
  mh_b2 (mh_cal h4 a5 1 (f_X1_isFull_e a5 h4)) fun v7 h6 =>
  if v7 = 0 then (
  mh_b2 (mh_cal h6 a5 1 (f_X1_holds_e a5 x2 h6)) fun v9 h8 =>
  if v9 = 0 then (
  (mh_gR h8 o0 11 0).bind fun a10 =>
  (mh_cal h8 a10 3 (f_X3_begin_e a10 h8)).bind fun h11 =>
  (mh_gR h11 o0 11 0).bind fun a12 =>
  mh_b2 (mh_cal h11 a12 3 (f_X3_mint_e a12 x1 h11)) fun a14 h13 =>
  mh_b2 (mh_cal h13 a14 1 (f_X1_insert_e a14 x2 h13)) fun v16 h15 =>
  mh_b2 (mh_cal h15 a14 1 (f_X1_count_e a14 h15)) fun v18 h17 =>
  some (v18, h17)) else
  f_X11_coin_b45 h8) else
  f_X11_coin_b45 h6) else
  f_X11_coin_b19 h1
set_option maxRecDepth 100000 in
set_option maxHeartbeats 4000000 in
theorem w_X11_coin_b19 {p : Program} {l : Launch} {e : Env} {s : State} {m : MethodId} {args : Array Value} {below : List Frame} {meth : Method} {c : Code} {D : va_G} {ks : Nat → ClassId} {L : List Nat} {r : Int32} {h' : mh_H} (cx : mh_C p m c cX11_coin 5 s args RX11 meth D ks (mh_A L s.heap.size)) (hr : meth.sig.returnType = (some .int)) :
    ∀ (h : mh_H) (H : Heap) (locs : List Loc) (ls : Array Slot), mh_W D ks L (mh_A L s.heap.size) s.heap h H locs → lv_has ls 5 [] → f_X11_coin_b19  h = some (r, h') → W p l e (mh_rm 4) s m args below meth c H locs 0 0 (MQ below (mh_Qi D ks L s.heap.size r h') args s 0 0 (mh_A L s.heap.size)) (F0 m 19 ls []) := by
  intro  h H locs ls wd hl hX
  have hx := cx.1.1
  have hb := cx.1.2.1
  unfold f_X11_coin_b19 at hX
  refine lv_iconst (v := (-1)) hx hb dX11_coin_19 (by decide) ?_
  exact mh_iret cx wd hr hX dX11_coin_20
set_option maxRecDepth 100000 in
set_option maxHeartbeats 4000000 in
theorem w_X11_coin_b45 {p : Program} {l : Launch} {e : Env} {s : State} {m : MethodId} {args : Array Value} {below : List Frame} {meth : Method} {c : Code} {D : va_G} {ks : Nat → ClassId} {L : List Nat} {r : Int32} {h' : mh_H} (cx : mh_C p m c cX11_coin 5 s args RX11 meth D ks (mh_A L s.heap.size)) (hr : meth.sig.returnType = (some .int)) :
    ∀ (h : mh_H) (H : Heap) (locs : List Loc) (ls : Array Slot), mh_W D ks L (mh_A L s.heap.size) s.heap h H locs → lv_has ls 5 [] → f_X11_coin_b45  h = some (r, h') → W p l e (mh_rm 4) s m args below meth c H locs 0 0 (MQ below (mh_Qi D ks L s.heap.size r h') args s 0 0 (mh_A L s.heap.size)) (F0 m 45 ls []) := by
  intro  h H locs ls wd hl hX
  have hx := cx.1.1
  have hb := cx.1.2.1
  unfold f_X11_coin_b45 at hX
  refine lv_iconst (v := (-1)) hx hb dX11_coin_45 (by decide) ?_
  exact mh_iret cx wd hr hX dX11_coin_46
set_option maxRecDepth 100000 in
set_option maxHeartbeats 4000000 in
theorem w_X11_coin_e {p : Program} {l : Launch} {e : Env} {s : State} {m : MethodId} {args : Array Value} {below : List Frame} {meth : Method} {c : Code} {D : va_G} {ks : Nat → ClassId} {L : List Nat} {r : Int32} {h' : mh_H} (cx : mh_C p m c cX11_coin 5 s args RX11 meth D ks (mh_A L s.heap.size)) (hr : meth.sig.returnType = (some .int)) :
    ∀ (o0 : Nat) (x1 : Int32) (x2 : Int32) (h : mh_H) (H : Heap) (locs : List Loc) (ls : Array Slot), mh_W D ks L (mh_A L s.heap.size) s.heap h H locs → lv_has ls 5 [(0, .ref o0), (1, .int x1), (2, .int x2)] → f_X11_coin_e o0 x1 x2 h = some (r, h') → W p l e (mh_rm 4) s m args below meth c H locs 0 0 (MQ below (mh_Qi D ks L s.heap.size r h') args s 0 0 (mh_A L s.heap.size)) (F0 m 0 ls []) := by
  intro o0 x1 x2 h H locs ls wd hl hX
  have hx := cx.1.1
  have hb := cx.1.2.1
  unfold f_X11_coin_e at hX
  refine lv_iload_n hx hb dX11_coin_0 rfl (lv_at hl 1 rfl) ?_
  refine mh_callSI cx wd [.int x1] yw_X11_isPlace sw_X11_102 rfl hl.1 rfl (Nat.le_of_ble_eq_true rfl) dX11_coin_1 ⟨Nat.le_of_ble_eq_true rfl, Nat.le_of_ble_eq_true rfl⟩ ⟨Nat.le_refl _, Nat.le_refl _⟩ (fun _ _ q => c_X11_isPlace q) hX (fun v2 h1 H locs wd hX => ?_)
  refine lv_if_eq (tgt := 19) hx hb dX11_coin_4 rfl (fun hc => (fun hX => ?_) ((mh_if hX).1 hc)) (fun hc => (fun hX => ?_) ((mh_if hX).2 hc))
  · exact w_X11_coin_b19 cx hr  h1 _ _ ls wd (lv_sub hl [] rfl) hX
  · refine lv_iload_n hx hb dX11_coin_7 rfl (lv_at hl 2 rfl) ?_
    refine lv_iconst (v := 1) hx hb dX11_coin_8 (by decide) ?_
    refine lv_icmp_lt (tgt := 19) hx hb dX11_coin_9 rfl (fun hc => (fun hX => ?_) ((mh_if hX).1 hc)) (fun hc => (fun hX => ?_) ((mh_if hX).2 hc))
    · exact w_X11_coin_b19 cx hr  h1 _ _ ls wd (lv_sub hl [] rfl) hX
    · refine lv_iload_n hx hb dX11_coin_12 rfl (lv_at hl 2 rfl) ?_
      refine lv_sipush (v := 300) hx hb dX11_coin_13 (by decide) ?_
      refine lv_icmp_le (tgt := 21) hx hb dX11_coin_16 rfl (fun hc => (fun hX => ?_) ((mh_if hX).1 hc)) (fun hc => (fun hX => ?_) ((mh_if hX).2 hc))
      · refine lv_aload_n hx hb dX11_coin_21 rfl (lv_at hl 0 rfl) ?_
        refine mh_getR cx wd fl_X11_14 dX11_coin_22 hX (fun a3 hX => ?_)
        refine lv_iload_n hx hb dX11_coin_25 rfl (lv_at hl 1 rfl) ?_
        refine mh_callVR cx wd [.int x1] (rfl : vwCl[3]? = some (RX3, TX3, 5)) yw_X3_mint vw_X11_106 rfl hl.1 rfl (Nat.le_of_ble_eq_true rfl) dX11_coin_26 ⟨Nat.le_of_ble_eq_true rfl, Nat.le_of_ble_eq_true rfl⟩ ⟨Nat.le_refl _, Nat.le_refl _⟩ (fun _ _ q => c_X3_mint q) hX (fun a5 h4 H locs wd hX => ?_)
        refine lv_astore_n (lv' := [(3, .ref a5), (0, .ref o0), (1, .int x1), (2, .int x2)]) hx hb dX11_coin_29 rfl hl (Nat.le_of_ble_eq_true rfl) rfl (fun ls hl => ?_)
        refine lv_aload_n hx hb dX11_coin_30 rfl (lv_at hl 0 rfl) ?_
        refine mh_callVI cx wd [] (rfl : vwCl[1]? = some (RX1, TX1, 2)) yw_X1_isFull vw_X11_110 rfl hl.1 rfl (Nat.le_of_ble_eq_true rfl) dX11_coin_31 ⟨Nat.le_of_ble_eq_true rfl, Nat.le_of_ble_eq_true rfl⟩ ⟨Nat.le_refl _, Nat.le_refl _⟩ (fun _ _ q => c_X1_isFull q) hX (fun v7 h6 H locs wd hX => ?_)
        refine lv_if_ne (tgt := 45) hx hb dX11_coin_34 rfl (fun hc => (fun hX => ?_) ((mh_if hX).2 hc)) (fun hc => (fun hX => ?_) ((mh_if hX).1 hc))
        · exact w_X11_coin_b45 cx hr  h6 _ _ ls wd (lv_sub hl [] rfl) hX
        · refine lv_aload_n hx hb dX11_coin_37 rfl (lv_at hl 0 rfl) ?_
          refine lv_iload_n hx hb dX11_coin_38 rfl (lv_at hl 3 rfl) ?_
          refine mh_callVI cx wd [.int x2] (rfl : vwCl[1]? = some (RX1, TX1, 2)) yw_X1_holds vw_X11_114 rfl hl.1 rfl (Nat.le_of_ble_eq_true rfl) dX11_coin_39 ⟨Nat.le_of_ble_eq_true rfl, Nat.le_of_ble_eq_true rfl⟩ ⟨Nat.le_refl _, Nat.le_refl _⟩ (fun _ _ q => c_X1_holds q) hX (fun v9 h8 H locs wd hX => ?_)
          refine lv_if_eq (tgt := 47) hx hb dX11_coin_42 rfl (fun hc => (fun hX => ?_) ((mh_if hX).1 hc)) (fun hc => (fun hX => ?_) ((mh_if hX).2 hc))
          · refine lv_aload_n hx hb dX11_coin_47 rfl (lv_at hl 1 rfl) ?_
            refine mh_getR cx wd fl_X11_14 dX11_coin_48 hX (fun a10 hX => ?_)
            refine mh_callVV cx wd [] (rfl : vwCl[3]? = some (RX3, TX3, 5)) yw_X3_begin vw_X11_117 rfl hl.1 rfl (Nat.le_of_ble_eq_true rfl) dX11_coin_51 ⟨Nat.le_of_ble_eq_true rfl, Nat.le_of_ble_eq_true rfl⟩ ⟨Nat.le_refl _, Nat.le_refl _⟩ (fun _ q => c_X3_begin q) hX (fun h11 H locs wd hX => ?_)
            refine lv_aload_n hx hb dX11_coin_54 rfl (lv_at hl 1 rfl) ?_
            refine mh_getR cx wd fl_X11_14 dX11_coin_55 hX (fun a12 hX => ?_)
            refine lv_iload_n hx hb dX11_coin_58 rfl (lv_at hl 2 rfl) ?_
            refine mh_callVR cx wd [.int x1] (rfl : vwCl[3]? = some (RX3, TX3, 5)) yw_X3_mint vw_X11_106 rfl hl.1 rfl (Nat.le_of_ble_eq_true rfl) dX11_coin_59 ⟨Nat.le_of_ble_eq_true rfl, Nat.le_of_ble_eq_true rfl⟩ ⟨Nat.le_refl _, Nat.le_refl _⟩ (fun _ _ q => c_X3_mint q) hX (fun a14 h13 H locs wd hX => ?_)
            refine lv_astore (lv' := [(4, .ref a14), (3, .ref a5), (0, .ref o0), (1, .int x1), (2, .int x2)]) hx hb dX11_coin_62 hl (Nat.le_of_ble_eq_true rfl) rfl (fun ls hl => ?_)
            refine lv_aload hx hb dX11_coin_64 (lv_at hl 0 rfl) ?_
            refine lv_iload_n hx hb dX11_coin_66 rfl (lv_at hl 4 rfl) ?_
            refine mh_callVI cx wd [.int x2] (rfl : vwCl[1]? = some (RX1, TX1, 2)) yw_X1_insert vw_X11_120 rfl hl.1 rfl (Nat.le_of_ble_eq_true rfl) dX11_coin_67 ⟨Nat.le_of_ble_eq_true rfl, Nat.le_of_ble_eq_true rfl⟩ ⟨Nat.le_refl _, Nat.le_refl _⟩ (fun _ _ q => c_X1_insert q) hX (fun v16 h15 H locs wd hX => ?_)
            refine lv_pop hx hb dX11_coin_70 rfl ?_
            refine lv_aload hx hb dX11_coin_71 (lv_at hl 0 rfl) ?_
            refine mh_callVI cx wd [] (rfl : vwCl[1]? = some (RX1, TX1, 2)) yw_X1_count vw_X11_123 rfl hl.1 rfl (Nat.le_of_ble_eq_true rfl) dX11_coin_73 ⟨Nat.le_of_ble_eq_true rfl, Nat.le_of_ble_eq_true rfl⟩ ⟨Nat.le_refl _, Nat.le_refl _⟩ (fun _ _ q => c_X1_count q) hX (fun v18 h17 H locs wd hX => ?_)
            exact mh_iret cx wd hr hX dX11_coin_76
          · exact w_X11_coin_b45 cx hr  h8 _ _ ls wd (lv_sub hl [] rfl) hX
      · exact w_X11_coin_b19 cx hr  h1 _ _ ls wd (lv_sub hl [] rfl) hX
set_option maxRecDepth 100000 in
theorem c_X11_coin {l : Launch} {L : List Nat} {h h' : mh_H} {r : Int32} {o0 : Nat} {x1 : Int32} {x2 : Int32} (hX : f_X11_coin_e o0 x1 x2 h = some (r, h')) : mh_MI l yX11_coin (Cond.code yX11_coin cX11_coin 5 (some .int) :: mh_TB) (mh_rm 4) [.ref o0, .int x1, .int x2] L h r h' :=
  mh_of (mc := 0) (ms := 0) (Qc := fun D ks sz => mh_Qi D ks L sz r h') (plainFor_of_name (by decide)) (Nat.le_of_ble_eq_true rfl) (fun p e s m below meth c D ks ls hr cx wd hl => by
    have hl : lv_has ls 5 [(0, .ref o0), (1, .int x1), (2, .int x2)] := hl
    exact w_X11_coin_e cx hr o0 x1 x2 h _ _ ls wd hl hX)
def f_X11_melt_b22 (h : mh_H) : Option (Int32 × mh_H) :=
  mh_rz (0 : Int32) h
def f_X11_melt_e (o0 : Nat) (x1 : Int32) (x2 : Int32) (h : mh_H) : Option (Int32 × mh_H) :=
  mh_b2 (f_X11_isPlace_e x1 h) fun v2 h1 =>
  if v2 = 0 then (
  f_X11_melt_b22 h1) else
  (mh_gR h1 o0 11 0).bind fun a3 =>
  mh_b2 (mh_cal h1 a3 3 (f_X3_mint_e a3 x1 h1)) fun a5 h4 =>
  mh_b2 (mh_cal h4 a5 1 (f_X1_holds_e a5 x2 h4)) fun v7 h6 =>
  if v7 = 0 then (
  f_X11_melt_b22 h6) else
  (mh_gR h6 o0 11 0).bind fun a8 =>
  (mh_cal h6 a8 3 (f_X3_begin_e a8 h6)).bind fun h9 =>
  (mh_gR h9 o0 11 0).bind fun a10 =>
  mh_b2 (mh_cal h9 a10 3 (f_X3_mint_e a10 x1 h9)) fun a12 h11 =>
  (mh_cal h11 a12 1 (f_X1_remove_e a12 x2 h11)).bind fun h13 =>
  mh_rz (1 : Int32) h13
set_option maxRecDepth 100000 in
set_option maxHeartbeats 4000000 in
theorem w_X11_melt_b22 {p : Program} {l : Launch} {e : Env} {s : State} {m : MethodId} {args : Array Value} {below : List Frame} {meth : Method} {c : Code} {D : va_G} {ks : Nat → ClassId} {L : List Nat} {r : Int32} {h' : mh_H} (cx : mh_C p m c cX11_melt 3 s args RX11 meth D ks (mh_A L s.heap.size)) (hr : meth.sig.returnType = (some .boolean)) :
    ∀ (h : mh_H) (H : Heap) (locs : List Loc) (ls : Array Slot), mh_W D ks L (mh_A L s.heap.size) s.heap h H locs → lv_has ls 3 [] → f_X11_melt_b22  h = some (r, h') → W p l e (mh_rm 4) s m args below meth c H locs 0 0 (MQ below (mh_Qi D ks L s.heap.size r h') args s 0 0 (mh_A L s.heap.size)) (F0 m 22 ls []) := by
  intro  h H locs ls wd hl hX
  have hx := cx.1.1
  have hb := cx.1.2.1
  unfold f_X11_melt_b22 at hX
  refine lv_iconst (v := 0) hx hb dX11_melt_22 (by decide) ?_
  exact mh_zret cx wd hr hX dX11_melt_23
set_option maxRecDepth 100000 in
set_option maxHeartbeats 4000000 in
theorem w_X11_melt_e {p : Program} {l : Launch} {e : Env} {s : State} {m : MethodId} {args : Array Value} {below : List Frame} {meth : Method} {c : Code} {D : va_G} {ks : Nat → ClassId} {L : List Nat} {r : Int32} {h' : mh_H} (cx : mh_C p m c cX11_melt 3 s args RX11 meth D ks (mh_A L s.heap.size)) (hr : meth.sig.returnType = (some .boolean)) :
    ∀ (o0 : Nat) (x1 : Int32) (x2 : Int32) (h : mh_H) (H : Heap) (locs : List Loc) (ls : Array Slot), mh_W D ks L (mh_A L s.heap.size) s.heap h H locs → lv_has ls 3 [(0, .ref o0), (1, .int x1), (2, .int x2)] → f_X11_melt_e o0 x1 x2 h = some (r, h') → W p l e (mh_rm 4) s m args below meth c H locs 0 0 (MQ below (mh_Qi D ks L s.heap.size r h') args s 0 0 (mh_A L s.heap.size)) (F0 m 0 ls []) := by
  intro o0 x1 x2 h H locs ls wd hl hX
  have hx := cx.1.1
  have hb := cx.1.2.1
  unfold f_X11_melt_e at hX
  refine lv_iload_n hx hb dX11_melt_0 rfl (lv_at hl 1 rfl) ?_
  refine mh_callSI cx wd [.int x1] yw_X11_isPlace sw_X11_102 rfl hl.1 rfl (Nat.le_of_ble_eq_true rfl) dX11_melt_1 ⟨Nat.le_of_ble_eq_true rfl, Nat.le_of_ble_eq_true rfl⟩ ⟨Nat.le_refl _, Nat.le_refl _⟩ (fun _ _ q => c_X11_isPlace q) hX (fun v2 h1 H locs wd hX => ?_)
  refine lv_if_eq (tgt := 22) hx hb dX11_melt_4 rfl (fun hc => (fun hX => ?_) ((mh_if hX).1 hc)) (fun hc => (fun hX => ?_) ((mh_if hX).2 hc))
  · exact w_X11_melt_b22 cx hr  h1 _ _ ls wd (lv_sub hl [] rfl) hX
  · refine lv_aload_n hx hb dX11_melt_7 rfl (lv_at hl 0 rfl) ?_
    refine mh_getR cx wd fl_X11_14 dX11_melt_8 hX (fun a3 hX => ?_)
    refine lv_iload_n hx hb dX11_melt_11 rfl (lv_at hl 1 rfl) ?_
    refine mh_callVR cx wd [.int x1] (rfl : vwCl[3]? = some (RX3, TX3, 5)) yw_X3_mint vw_X11_106 rfl hl.1 rfl (Nat.le_of_ble_eq_true rfl) dX11_melt_12 ⟨Nat.le_of_ble_eq_true rfl, Nat.le_of_ble_eq_true rfl⟩ ⟨Nat.le_refl _, Nat.le_refl _⟩ (fun _ _ q => c_X3_mint q) hX (fun a5 h4 H locs wd hX => ?_)
    refine lv_iload_n hx hb dX11_melt_15 rfl (lv_at hl 2 rfl) ?_
    refine mh_callVI cx wd [.int x2] (rfl : vwCl[1]? = some (RX1, TX1, 2)) yw_X1_holds vw_X11_114 rfl hl.1 rfl (Nat.le_of_ble_eq_true rfl) dX11_melt_16 ⟨Nat.le_of_ble_eq_true rfl, Nat.le_of_ble_eq_true rfl⟩ ⟨Nat.le_refl _, Nat.le_refl _⟩ (fun _ _ q => c_X1_holds q) hX (fun v7 h6 H locs wd hX => ?_)
    refine lv_if_ne (tgt := 24) hx hb dX11_melt_19 rfl (fun hc => (fun hX => ?_) ((mh_if hX).2 hc)) (fun hc => (fun hX => ?_) ((mh_if hX).1 hc))
    · refine lv_aload_n hx hb dX11_melt_24 rfl (lv_at hl 0 rfl) ?_
      refine mh_getR cx wd fl_X11_14 dX11_melt_25 hX (fun a8 hX => ?_)
      refine mh_callVV cx wd [] (rfl : vwCl[3]? = some (RX3, TX3, 5)) yw_X3_begin vw_X11_117 rfl hl.1 rfl (Nat.le_of_ble_eq_true rfl) dX11_melt_28 ⟨Nat.le_of_ble_eq_true rfl, Nat.le_of_ble_eq_true rfl⟩ ⟨Nat.le_refl _, Nat.le_refl _⟩ (fun _ q => c_X3_begin q) hX (fun h9 H locs wd hX => ?_)
      refine lv_aload_n hx hb dX11_melt_31 rfl (lv_at hl 0 rfl) ?_
      refine mh_getR cx wd fl_X11_14 dX11_melt_32 hX (fun a10 hX => ?_)
      refine lv_iload_n hx hb dX11_melt_35 rfl (lv_at hl 1 rfl) ?_
      refine mh_callVR cx wd [.int x1] (rfl : vwCl[3]? = some (RX3, TX3, 5)) yw_X3_mint vw_X11_106 rfl hl.1 rfl (Nat.le_of_ble_eq_true rfl) dX11_melt_36 ⟨Nat.le_of_ble_eq_true rfl, Nat.le_of_ble_eq_true rfl⟩ ⟨Nat.le_refl _, Nat.le_refl _⟩ (fun _ _ q => c_X3_mint q) hX (fun a12 h11 H locs wd hX => ?_)
      refine lv_iload_n hx hb dX11_melt_39 rfl (lv_at hl 2 rfl) ?_
      refine mh_callVV cx wd [.int x2] (rfl : vwCl[1]? = some (RX1, TX1, 2)) yw_X1_remove vw_X11_127 rfl hl.1 rfl (Nat.le_of_ble_eq_true rfl) dX11_melt_40 ⟨Nat.le_of_ble_eq_true rfl, Nat.le_of_ble_eq_true rfl⟩ ⟨Nat.le_refl _, Nat.le_refl _⟩ (fun _ q => c_X1_remove q) hX (fun h13 H locs wd hX => ?_)
      refine lv_iconst (v := 1) hx hb dX11_melt_43 (by decide) ?_
      exact mh_zret cx wd hr hX dX11_melt_44
    · exact w_X11_melt_b22 cx hr  h6 _ _ ls wd (lv_sub hl [] rfl) hX
set_option maxRecDepth 100000 in
theorem c_X11_melt {l : Launch} {L : List Nat} {h h' : mh_H} {r : Int32} {o0 : Nat} {x1 : Int32} {x2 : Int32} (hX : f_X11_melt_e o0 x1 x2 h = some (r, h')) : mh_MI l yX11_melt (Cond.code yX11_melt cX11_melt 3 (some .boolean) :: mh_TB) (mh_rm 4) [.ref o0, .int x1, .int x2] L h r h' :=
  mh_of (mc := 0) (ms := 0) (Qc := fun D ks sz => mh_Qi D ks L sz r h') (plainFor_of_name (by decide)) (Nat.le_of_ble_eq_true rfl) (fun p e s m below meth c D ks ls hr cx wd hl => by
    have hl : lv_has ls 3 [(0, .ref o0), (1, .int x1), (2, .int x2)] := hl
    exact w_X11_melt_e cx hr o0 x1 x2 h _ _ ls wd hl hX)
def f_X11_undo_e (o0 : Nat) (h : mh_H) : Option (Int32 × mh_H) :=
  (mh_gR h o0 11 0).bind fun a1 =>
  mh_b2 (mh_cal h a1 3 (f_X3_back_e a1 h)) fun v3 h2 =>
  mh_rz v3 h2
set_option maxRecDepth 100000 in
set_option maxHeartbeats 4000000 in
theorem w_X11_undo_e {p : Program} {l : Launch} {e : Env} {s : State} {m : MethodId} {args : Array Value} {below : List Frame} {meth : Method} {c : Code} {D : va_G} {ks : Nat → ClassId} {L : List Nat} {r : Int32} {h' : mh_H} (cx : mh_C p m c cX11_undo 1 s args RX11 meth D ks (mh_A L s.heap.size)) (hr : meth.sig.returnType = (some .boolean)) :
    ∀ (o0 : Nat) (h : mh_H) (H : Heap) (locs : List Loc) (ls : Array Slot), mh_W D ks L (mh_A L s.heap.size) s.heap h H locs → lv_has ls 1 [(0, .ref o0)] → f_X11_undo_e o0 h = some (r, h') → W p l e (mh_rm 1) s m args below meth c H locs 0 0 (MQ below (mh_Qi D ks L s.heap.size r h') args s 0 0 (mh_A L s.heap.size)) (F0 m 0 ls []) := by
  intro o0 h H locs ls wd hl hX
  have hx := cx.1.1
  have hb := cx.1.2.1
  unfold f_X11_undo_e at hX
  refine lv_aload_n hx hb dX11_undo_0 rfl (lv_at hl 0 rfl) ?_
  refine mh_getR cx wd fl_X11_14 dX11_undo_1 hX (fun a1 hX => ?_)
  refine mh_callVI cx wd [] (rfl : vwCl[3]? = some (RX3, TX3, 5)) yw_X3_back vw_X11_142 rfl hl.1 rfl (Nat.le_of_ble_eq_true rfl) dX11_undo_4 ⟨Nat.le_of_ble_eq_true rfl, Nat.le_of_ble_eq_true rfl⟩ ⟨Nat.le_refl _, Nat.le_refl _⟩ (fun _ _ q => c_X3_back q) hX (fun v3 h2 H locs wd hX => ?_)
  exact mh_zret cx wd hr hX dX11_undo_7
set_option maxRecDepth 100000 in
theorem c_X11_undo {l : Launch} {L : List Nat} {h h' : mh_H} {r : Int32} {o0 : Nat} (hX : f_X11_undo_e o0 h = some (r, h')) : mh_MI l yX11_undo (Cond.code yX11_undo cX11_undo 1 (some .boolean) :: mh_TB) (mh_rm 1) [.ref o0] L h r h' :=
  mh_of (mc := 0) (ms := 0) (Qc := fun D ks sz => mh_Qi D ks L sz r h') (plainFor_of_name (by decide)) (Nat.le_of_ble_eq_true rfl) (fun p e s m below meth c D ks ls hr cx wd hl => by
    have hl : lv_has ls 1 [(0, .ref o0)] := hl
    exact w_X11_undo_e cx hr o0 h _ _ ls wd hl hX)
def f_X11_redo_e (o0 : Nat) (h : mh_H) : Option (Int32 × mh_H) :=
  (mh_gR h o0 11 0).bind fun a1 =>
  mh_b2 (mh_cal h a1 3 (f_X3_forth_e a1 h)) fun v3 h2 =>
  mh_rz v3 h2
set_option maxRecDepth 100000 in
set_option maxHeartbeats 4000000 in
theorem w_X11_redo_e {p : Program} {l : Launch} {e : Env} {s : State} {m : MethodId} {args : Array Value} {below : List Frame} {meth : Method} {c : Code} {D : va_G} {ks : Nat → ClassId} {L : List Nat} {r : Int32} {h' : mh_H} (cx : mh_C p m c cX11_redo 1 s args RX11 meth D ks (mh_A L s.heap.size)) (hr : meth.sig.returnType = (some .boolean)) :
    ∀ (o0 : Nat) (h : mh_H) (H : Heap) (locs : List Loc) (ls : Array Slot), mh_W D ks L (mh_A L s.heap.size) s.heap h H locs → lv_has ls 1 [(0, .ref o0)] → f_X11_redo_e o0 h = some (r, h') → W p l e (mh_rm 1) s m args below meth c H locs 0 0 (MQ below (mh_Qi D ks L s.heap.size r h') args s 0 0 (mh_A L s.heap.size)) (F0 m 0 ls []) := by
  intro o0 h H locs ls wd hl hX
  have hx := cx.1.1
  have hb := cx.1.2.1
  unfold f_X11_redo_e at hX
  refine lv_aload_n hx hb dX11_redo_0 rfl (lv_at hl 0 rfl) ?_
  refine mh_getR cx wd fl_X11_14 dX11_redo_1 hX (fun a1 hX => ?_)
  refine mh_callVI cx wd [] (rfl : vwCl[3]? = some (RX3, TX3, 5)) yw_X3_forth vw_X11_145 rfl hl.1 rfl (Nat.le_of_ble_eq_true rfl) dX11_redo_4 ⟨Nat.le_of_ble_eq_true rfl, Nat.le_of_ble_eq_true rfl⟩ ⟨Nat.le_refl _, Nat.le_refl _⟩ (fun _ _ q => c_X3_forth q) hX (fun v3 h2 H locs wd hX => ?_)
  exact mh_zret cx wd hr hX dX11_redo_7
set_option maxRecDepth 100000 in
theorem c_X11_redo {l : Launch} {L : List Nat} {h h' : mh_H} {r : Int32} {o0 : Nat} (hX : f_X11_redo_e o0 h = some (r, h')) : mh_MI l yX11_redo (Cond.code yX11_redo cX11_redo 1 (some .boolean) :: mh_TB) (mh_rm 1) [.ref o0] L h r h' :=
  mh_of (mc := 0) (ms := 0) (Qc := fun D ks sz => mh_Qi D ks L sz r h') (plainFor_of_name (by decide)) (Nat.le_of_ble_eq_true rfl) (fun p e s m below meth c D ks ls hr cx wd hl => by
    have hl : lv_has ls 1 [(0, .ref o0)] := hl
    exact w_X11_redo_e cx hr o0 h _ _ ls wd hl hX)
def f_X11_leastFailure_b60 (x3 : Int32) (h : mh_H) : Option (Int32 × mh_H) :=
  some (x3, h)
def f_X11_leastFailure_b62 (k26 : Nat → Nat → Int32 → Int32 → mh_H → Option (Int32 × mh_H)) (o0 : Nat) (o1 : Nat) (x2 : Int32) (x3 : Int32) (h : mh_H) : Option (Int32 × mh_H) :=
  mh_nm (x3 + Int32.ofInt (1)) fun v1 =>
  k26 o0 o1 x2 v1 h
def f_X11_leastFailure_b68 (h : mh_H) : Option (Int32 × mh_H) :=
  some ((-1 : Int32), h)
def f_X11_leastFailure_b26 : Nat → Nat → Nat → Int32 → Int32 → mh_H → Option (Int32 × mh_H)
  | 0, _, _, _, _, _ => none
  | n + 1, o0, o1, x2, x3, h =>
    if x2 ≤ x3 then (
    f_X11_leastFailure_b68 h) else
    (mh_gR h o0 11 1).bind fun a2 =>
    mh_b2 (mh_cal h a2 2 (f_X2_sizeInTable_e a2 x3 h)) fun v4 h3 =>
    if v4 = (-1 : Int32) then (
    f_X11_leastFailure_b62 (f_X11_leastFailure_b26 n) o0 o1 x2 x3 h3) else
    mh_b2 (mh_cal h3 o1 1 (f_X1_greatestFirst_e o1 ((x3).toInt64) h3)) fun w6 h5 =>
    if (lg_cmp w6 ((v4).toInt64)) = 0 then (
    f_X11_leastFailure_b62 (f_X11_leastFailure_b26 n) o0 o1 x2 x3 h5) else
    f_X11_leastFailure_b60 x3 h5
def f_X11_leastFailure_e (o0 : Nat) (o1 : Nat) (h : mh_H) : Option (Int32 × mh_H) :=
  (mh_gR h o0 11 1).bind fun a7 =>
  (mh_cal h a7 2 (f_X2_take_e a7 o1 h)).bind fun h8 =>
  mh_b2 (mh_cal h8 o1 1 (f_X1_greatest_e o1 h8)) fun v10 h9 =>
  mh_b2 (mh_cal h9 o1 1 (f_X1_count_e o1 h9)) fun v12 h11 =>
  mh_b2 (mh_cal h11 o1 1 (f_X1_value_e o1 (v12 - (2 : Int32)) h11)) fun v14 h13 =>
  mh_nm (v10 + v14) fun v15 =>
  mh_nm (1 : Int32) fun v16 =>
  f_X11_leastFailure_b26 mh_fu o0 o1 v15 v16 h13
set_option maxRecDepth 100000 in
set_option maxHeartbeats 4000000 in
theorem w_X11_leastFailure_b60 {p : Program} {l : Launch} {e : Env} {s : State} {m : MethodId} {args : Array Value} {below : List Frame} {meth : Method} {c : Code} {D : va_G} {ks : Nat → ClassId} {L : List Nat} {r : Int32} {h' : mh_H} (cx : mh_C p m c cX11_leastFailure 5 s args RX11 meth D ks (mh_A L s.heap.size)) (hr : meth.sig.returnType = (some .int)) :
    ∀ (x3 : Int32) (h : mh_H) (H : Heap) (locs : List Loc) (ls : Array Slot), mh_W D ks L (mh_A L s.heap.size) s.heap h H locs → lv_has ls 5 [(3, .int x3)] → f_X11_leastFailure_b60 x3 h = some (r, h') → W p l e (mh_rm 3) s m args below meth c H locs 0 0 (MQ below (mh_Qi D ks L s.heap.size r h') args s 0 0 (mh_A L s.heap.size)) (F0 m 60 ls []) := by
  intro x3 h H locs ls wd hl hX
  have hx := cx.1.1
  have hb := cx.1.2.1
  unfold f_X11_leastFailure_b60 at hX
  refine lv_iload_n hx hb dX11_leastFailure_60 rfl (lv_at hl 0 rfl) ?_
  exact mh_iret cx wd hr hX dX11_leastFailure_61
set_option maxRecDepth 100000 in
set_option maxHeartbeats 4000000 in
theorem w_X11_leastFailure_b62 {p : Program} {l : Launch} {e : Env} {s : State} {m : MethodId} {args : Array Value} {below : List Frame} {meth : Method} {c : Code} {D : va_G} {ks : Nat → ClassId} {L : List Nat} {r : Int32} {h' : mh_H} (k26 : Nat → Nat → Int32 → Int32 → mh_H → Option (Int32 × mh_H)) (cx : mh_C p m c cX11_leastFailure 5 s args RX11 meth D ks (mh_A L s.heap.size)) (hr : meth.sig.returnType = (some .int))
    (hk26 : ∀ (o0 : Nat) (o1 : Nat) (x2 : Int32) (x3 : Int32) (h : mh_H) (H : Heap) (locs : List Loc) (ls : Array Slot), mh_W D ks L (mh_A L s.heap.size) s.heap h H locs → lv_has ls 5 [(0, .ref o0), (1, .ref o1), (2, .int x2), (3, .int x3)] → k26 o0 o1 x2 x3 h = some (r, h') → W p l e (mh_rm 3) s m args below meth c H locs 0 0 (MQ below (mh_Qi D ks L s.heap.size r h') args s 0 0 (mh_A L s.heap.size)) (F0 m 26 ls [])) :
    ∀ (o0 : Nat) (o1 : Nat) (x2 : Int32) (x3 : Int32) (h : mh_H) (H : Heap) (locs : List Loc) (ls : Array Slot), mh_W D ks L (mh_A L s.heap.size) s.heap h H locs → lv_has ls 5 [(0, .ref o0), (1, .ref o1), (2, .int x2), (3, .int x3)] → f_X11_leastFailure_b62 k26 o0 o1 x2 x3 h = some (r, h') → W p l e (mh_rm 3) s m args below meth c H locs 0 0 (MQ below (mh_Qi D ks L s.heap.size r h') args s 0 0 (mh_A L s.heap.size)) (F0 m 62 ls []) := by
  intro o0 o1 x2 x3 h H locs ls wd hl hX
  have hx := cx.1.1
  have hb := cx.1.2.1
  unfold f_X11_leastFailure_b62 at hX
  obtain ⟨v1, ev1, hX⟩ := mh_nmx hX
  refine lv_iinc (k := 3) (v := v1) (lv' := [(3, .int v1), (0, .ref o0), (1, .ref o1), (2, .int x2)]) hx hb dX11_leastFailure_62 hl rfl ev1 (Nat.le_of_ble_eq_true rfl) rfl (fun ls hl => ?_)
  refine lv_goto (tgt := 26) hx hb dX11_leastFailure_65 rfl ?_
  exact hk26 _ _ _ _ h _ _ ls wd (lv_sub hl [1, 2, 3, 0] rfl) hX
set_option maxRecDepth 100000 in
set_option maxHeartbeats 4000000 in
theorem w_X11_leastFailure_b68 {p : Program} {l : Launch} {e : Env} {s : State} {m : MethodId} {args : Array Value} {below : List Frame} {meth : Method} {c : Code} {D : va_G} {ks : Nat → ClassId} {L : List Nat} {r : Int32} {h' : mh_H} (cx : mh_C p m c cX11_leastFailure 5 s args RX11 meth D ks (mh_A L s.heap.size)) (hr : meth.sig.returnType = (some .int)) :
    ∀ (h : mh_H) (H : Heap) (locs : List Loc) (ls : Array Slot), mh_W D ks L (mh_A L s.heap.size) s.heap h H locs → lv_has ls 5 [] → f_X11_leastFailure_b68  h = some (r, h') → W p l e (mh_rm 3) s m args below meth c H locs 0 0 (MQ below (mh_Qi D ks L s.heap.size r h') args s 0 0 (mh_A L s.heap.size)) (F0 m 68 ls []) := by
  intro  h H locs ls wd hl hX
  have hx := cx.1.1
  have hb := cx.1.2.1
  unfold f_X11_leastFailure_b68 at hX
  refine lv_iconst (v := (-1)) hx hb dX11_leastFailure_68 (by decide) ?_
  exact mh_iret cx wd hr hX dX11_leastFailure_69
set_option maxRecDepth 100000 in
set_option maxHeartbeats 4000000 in
theorem w_X11_leastFailure_b26 {p : Program} {l : Launch} {e : Env} {s : State} {m : MethodId} {args : Array Value} {below : List Frame} {meth : Method} {c : Code} {D : va_G} {ks : Nat → ClassId} {L : List Nat} {r : Int32} {h' : mh_H} (cx : mh_C p m c cX11_leastFailure 5 s args RX11 meth D ks (mh_A L s.heap.size)) (hr : meth.sig.returnType = (some .int)) :
    ∀ n : Nat, ∀ (o0 : Nat) (o1 : Nat) (x2 : Int32) (x3 : Int32) (h : mh_H) (H : Heap) (locs : List Loc) (ls : Array Slot), mh_W D ks L (mh_A L s.heap.size) s.heap h H locs → lv_has ls 5 [(0, .ref o0), (1, .ref o1), (2, .int x2), (3, .int x3)] → f_X11_leastFailure_b26 n o0 o1 x2 x3 h = some (r, h') → W p l e (mh_rm 3) s m args below meth c H locs 0 0 (MQ below (mh_Qi D ks L s.heap.size r h') args s 0 0 (mh_A L s.heap.size)) (F0 m 26 ls []) := by
  intro n
  induction n with
  | zero =>
    intro o0 o1 x2 x3 h H locs ls wd hl hX
    cases hX
  | succ n ih =>
    intro o0 o1 x2 x3 h H locs ls wd hl hX
    have hx := cx.1.1
    have hb := cx.1.2.1
    rw [f_X11_leastFailure_b26] at hX
    refine lv_iload_n hx hb dX11_leastFailure_26 rfl (lv_at hl 3 rfl) ?_
    refine lv_iload_n hx hb dX11_leastFailure_27 rfl (lv_at hl 2 rfl) ?_
    refine lv_icmp_ge (tgt := 68) hx hb dX11_leastFailure_28 rfl (fun hc => (fun hX => ?_) ((mh_if hX).1 hc)) (fun hc => (fun hX => ?_) ((mh_if hX).2 hc))
    · exact w_X11_leastFailure_b68 cx hr  h _ _ ls wd (lv_sub hl [] rfl) hX
    · refine lv_aload_n hx hb dX11_leastFailure_31 rfl (lv_at hl 0 rfl) ?_
      refine mh_getR cx wd fl_X11_23 dX11_leastFailure_32 hX (fun a2 hX => ?_)
      refine lv_iload_n hx hb dX11_leastFailure_35 rfl (lv_at hl 3 rfl) ?_
      refine mh_callVI cx wd [.int x3] (rfl : vwCl[2]? = some (RX2, TX2, 5)) yw_X2_sizeInTable vw_X11_372 rfl hl.1 rfl (Nat.le_of_ble_eq_true rfl) dX11_leastFailure_36 ⟨Nat.le_of_ble_eq_true rfl, Nat.le_of_ble_eq_true rfl⟩ ⟨Nat.le_refl _, Nat.le_refl _⟩ (fun _ _ q => c_X2_sizeInTable q) hX (fun v4 h3 H locs wd hX => ?_)
      refine lv_istore (lv' := [(4, .int v4), (0, .ref o0), (1, .ref o1), (2, .int x2), (3, .int x3)]) hx hb dX11_leastFailure_39 hl (Nat.le_of_ble_eq_true rfl) rfl (fun ls hl => ?_)
      refine lv_iload hx hb dX11_leastFailure_41 (lv_at hl 0 rfl) ?_
      refine lv_iconst (v := (-1)) hx hb dX11_leastFailure_43 (by decide) ?_
      refine lv_icmp_eq (tgt := 62) hx hb dX11_leastFailure_44 rfl (fun hc => (fun hX => ?_) ((mh_if hX).1 hc)) (fun hc => (fun hX => ?_) ((mh_if hX).2 hc))
      · exact w_X11_leastFailure_b62 (f_X11_leastFailure_b26 n) cx hr ih _ _ _ _ h3 _ _ ls wd (lv_sub hl [1, 2, 3, 4] rfl) hX
      · refine lv_aload_n hx hb dX11_leastFailure_47 rfl (lv_at hl 2 rfl) ?_
        refine lv_iload_n hx hb dX11_leastFailure_48 rfl (lv_at hl 4 rfl) ?_
        refine lv_i2l hx hb dX11_leastFailure_49 rfl ?_
        refine mh_callVJ cx wd [.long ((x3).toInt64)] (rfl : vwCl[1]? = some (RX1, TX1, 2)) yw_X1_greatestFirst vw_X11_164 rfl hl.1 rfl (Nat.le_of_ble_eq_true rfl) dX11_leastFailure_50 ⟨Nat.le_of_ble_eq_true rfl, Nat.le_of_ble_eq_true rfl⟩ ⟨Nat.le_refl _, Nat.le_refl _⟩ (fun _ _ q => c_X1_greatestFirst q) hX (fun w6 h5 H locs wd hX => ?_)
        refine lv_iload hx hb dX11_leastFailure_53 (lv_at hl 0 rfl) ?_
        refine lv_i2l hx hb dX11_leastFailure_55 rfl ?_
        refine W.lcmp hx hb dX11_leastFailure_56 ?_
        refine lv_if_eq (tgt := 62) hx hb dX11_leastFailure_57 rfl (fun hc => (fun hX => ?_) ((mh_if hX).1 hc)) (fun hc => (fun hX => ?_) ((mh_if hX).2 hc))
        · exact w_X11_leastFailure_b62 (f_X11_leastFailure_b26 n) cx hr ih _ _ _ _ h5 _ _ ls wd (lv_sub hl [1, 2, 3, 4] rfl) hX
        · exact w_X11_leastFailure_b60 cx hr _ h5 _ _ ls wd (lv_sub hl [4] rfl) hX
set_option maxRecDepth 100000 in
set_option maxHeartbeats 4000000 in
theorem w_X11_leastFailure_e {p : Program} {l : Launch} {e : Env} {s : State} {m : MethodId} {args : Array Value} {below : List Frame} {meth : Method} {c : Code} {D : va_G} {ks : Nat → ClassId} {L : List Nat} {r : Int32} {h' : mh_H} (cx : mh_C p m c cX11_leastFailure 5 s args RX11 meth D ks (mh_A L s.heap.size)) (hr : meth.sig.returnType = (some .int)) :
    ∀ (o0 : Nat) (o1 : Nat) (h : mh_H) (H : Heap) (locs : List Loc) (ls : Array Slot), mh_W D ks L (mh_A L s.heap.size) s.heap h H locs → lv_has ls 5 [(0, .ref o0), (1, .ref o1)] → f_X11_leastFailure_e o0 o1 h = some (r, h') → W p l e (mh_rm 3) s m args below meth c H locs 0 0 (MQ below (mh_Qi D ks L s.heap.size r h') args s 0 0 (mh_A L s.heap.size)) (F0 m 0 ls []) := by
  intro o0 o1 h H locs ls wd hl hX
  have hx := cx.1.1
  have hb := cx.1.2.1
  unfold f_X11_leastFailure_e at hX
  refine lv_aload_n hx hb dX11_leastFailure_0 rfl (lv_at hl 0 rfl) ?_
  refine mh_getR cx wd fl_X11_23 dX11_leastFailure_1 hX (fun a7 hX => ?_)
  refine lv_aload_n hx hb dX11_leastFailure_4 rfl (lv_at hl 1 rfl) ?_
  refine mh_callVV cx wd [.ref o1] (rfl : vwCl[2]? = some (RX2, TX2, 5)) yw_X2_take vw_X11_152 rfl hl.1 rfl (Nat.le_of_ble_eq_true rfl) dX11_leastFailure_5 ⟨Nat.le_of_ble_eq_true rfl, Nat.le_of_ble_eq_true rfl⟩ ⟨Nat.le_refl _, Nat.le_refl _⟩ (fun _ q => c_X2_take q) hX (fun h8 H locs wd hX => ?_)
  refine lv_aload_n hx hb dX11_leastFailure_8 rfl (lv_at hl 1 rfl) ?_
  refine mh_callVI cx wd [] (rfl : vwCl[1]? = some (RX1, TX1, 2)) yw_X1_greatest vw_X11_369 rfl hl.1 rfl (Nat.le_of_ble_eq_true rfl) dX11_leastFailure_9 ⟨Nat.le_of_ble_eq_true rfl, Nat.le_of_ble_eq_true rfl⟩ ⟨Nat.le_refl _, Nat.le_refl _⟩ (fun _ _ q => c_X1_greatest q) hX (fun v10 h9 H locs wd hX => ?_)
  refine lv_aload_n hx hb dX11_leastFailure_12 rfl (lv_at hl 1 rfl) ?_
  refine lv_aload_n hx hb dX11_leastFailure_13 rfl (lv_at hl 1 rfl) ?_
  refine mh_callVI cx wd [] (rfl : vwCl[1]? = some (RX1, TX1, 2)) yw_X1_count vw_X11_123 rfl hl.1 rfl (Nat.le_of_ble_eq_true rfl) dX11_leastFailure_14 ⟨Nat.le_of_ble_eq_true rfl, Nat.le_of_ble_eq_true rfl⟩ ⟨Nat.le_refl _, Nat.le_refl _⟩ (fun _ _ q => c_X1_count q) hX (fun v12 h11 H locs wd hX => ?_)
  refine lv_iconst (v := 2) hx hb dX11_leastFailure_17 (by decide) ?_
  refine lv_isub hx hb dX11_leastFailure_18 ?_
  refine mh_callVI cx wd [.int (v12 - (2 : Int32))] (rfl : vwCl[1]? = some (RX1, TX1, 2)) yw_X1_value vw_X11_138 rfl hl.1 rfl (Nat.le_of_ble_eq_true rfl) dX11_leastFailure_19 ⟨Nat.le_of_ble_eq_true rfl, Nat.le_of_ble_eq_true rfl⟩ ⟨Nat.le_refl _, Nat.le_refl _⟩ (fun _ _ q => c_X1_value q) hX (fun v14 h13 H locs wd hX => ?_)
  refine lv_iadd hx hb dX11_leastFailure_22 ?_
  refine mh_topi hX (fun v15 hX => ?_)
  refine lv_istore_n (lv' := [(2, .int v15), (0, .ref o0), (1, .ref o1)]) hx hb dX11_leastFailure_23 rfl hl (Nat.le_of_ble_eq_true rfl) rfl (fun ls hl => ?_)
  refine lv_iconst (v := 1) hx hb dX11_leastFailure_24 (by decide) ?_
  refine mh_topi hX (fun v16 hX => ?_)
  refine lv_istore_n (lv' := [(3, .int v16), (2, .int v15), (0, .ref o0), (1, .ref o1)]) hx hb dX11_leastFailure_25 rfl hl (Nat.le_of_ble_eq_true rfl) rfl (fun ls hl => ?_)
  exact w_X11_leastFailure_b26 cx hr mh_fu _ _ _ _ h13 _ _ ls wd (lv_sub hl [2, 3, 1, 0] rfl) hX
set_option maxRecDepth 100000 in
theorem c_X11_leastFailure {l : Launch} {L : List Nat} {h h' : mh_H} {r : Int32} {o0 : Nat} {o1 : Nat} (hX : f_X11_leastFailure_e o0 o1 h = some (r, h')) : mh_MI l yX11_leastFailure (Cond.code yX11_leastFailure cX11_leastFailure 5 (some .int) :: mh_TB) (mh_rm 3) [.ref o0, .ref o1] L h r h' :=
  mh_of (mc := 0) (ms := 0) (Qc := fun D ks sz => mh_Qi D ks L sz r h') (plainFor_of_name (by decide)) (Nat.le_of_ble_eq_true rfl) (fun p e s m below meth c D ks ls hr cx wd hl => by
    have hl : lv_has ls 5 [(0, .ref o0), (1, .ref o1)] := hl
    exact w_X11_leastFailure_e cx hr o0 o1 h _ _ ls wd hl hX)
def f_X11_lastGap_e (o0 : Nat) (o1 : Nat) (h : mh_H) : Option (Int32 × mh_H) :=
  mh_b2 (mh_cal h o1 1 (f_X1_commonDivisor_e o1 h)) fun v2 h1 =>
  if v2 = (1 : Int32) then (
  (mh_gR h1 o0 11 2).bind fun a3 =>
  mh_b2 (mh_cal h1 o1 1 (f_X1_least_e o1 h1)) fun v5 h4 =>
  (mh_cal h4 a3 4 (f_X4_take_e a3 o1 v5 h4)).bind fun h6 =>
  (mh_gR h6 o0 11 2).bind fun a7 =>
  mh_b2 (mh_cal h6 a7 4 (f_X4_lastMissing_e a7 h6)) fun v9 h8 =>
  some (v9, h8)) else
  some ((-2 : Int32), h1)
set_option maxRecDepth 100000 in
set_option maxHeartbeats 4000000 in
theorem w_X11_lastGap_e {p : Program} {l : Launch} {e : Env} {s : State} {m : MethodId} {args : Array Value} {below : List Frame} {meth : Method} {c : Code} {D : va_G} {ks : Nat → ClassId} {L : List Nat} {r : Int32} {h' : mh_H} (cx : mh_C p m c cX11_lastGap 2 s args RX11 meth D ks (mh_A L s.heap.size)) (hr : meth.sig.returnType = (some .int)) :
    ∀ (o0 : Nat) (o1 : Nat) (h : mh_H) (H : Heap) (locs : List Loc) (ls : Array Slot), mh_W D ks L (mh_A L s.heap.size) s.heap h H locs → lv_has ls 2 [(0, .ref o0), (1, .ref o1)] → f_X11_lastGap_e o0 o1 h = some (r, h') → W p l e (mh_rm 3) s m args below meth c H locs 0 0 (MQ below (mh_Qi D ks L s.heap.size r h') args s 0 0 (mh_A L s.heap.size)) (F0 m 0 ls []) := by
  intro o0 o1 h H locs ls wd hl hX
  have hx := cx.1.1
  have hb := cx.1.2.1
  unfold f_X11_lastGap_e at hX
  refine lv_aload_n hx hb dX11_lastGap_0 rfl (lv_at hl 1 rfl) ?_
  refine mh_callVI cx wd [] (rfl : vwCl[1]? = some (RX1, TX1, 2)) yw_X1_commonDivisor vw_X11_171 rfl hl.1 rfl (Nat.le_of_ble_eq_true rfl) dX11_lastGap_1 ⟨Nat.le_of_ble_eq_true rfl, Nat.le_of_ble_eq_true rfl⟩ ⟨Nat.le_refl _, Nat.le_refl _⟩ (fun _ _ q => c_X1_commonDivisor q) hX (fun v2 h1 H locs wd hX => ?_)
  refine lv_iconst (v := 1) hx hb dX11_lastGap_4 (by decide) ?_
  refine lv_icmp_eq (tgt := 11) hx hb dX11_lastGap_5 rfl (fun hc => (fun hX => ?_) ((mh_if hX).1 hc)) (fun hc => (fun hX => ?_) ((mh_if hX).2 hc))
  · refine lv_aload_n hx hb dX11_lastGap_11 rfl (lv_at hl 0 rfl) ?_
    refine mh_getR cx wd fl_X11_30 dX11_lastGap_12 hX (fun a3 hX => ?_)
    refine lv_aload_n hx hb dX11_lastGap_15 rfl (lv_at hl 1 rfl) ?_
    refine lv_aload_n hx hb dX11_lastGap_16 rfl (lv_at hl 1 rfl) ?_
    refine mh_callVI cx wd [] (rfl : vwCl[1]? = some (RX1, TX1, 2)) yw_X1_least vw_X11_176 rfl hl.1 rfl (Nat.le_of_ble_eq_true rfl) dX11_lastGap_17 ⟨Nat.le_of_ble_eq_true rfl, Nat.le_of_ble_eq_true rfl⟩ ⟨Nat.le_refl _, Nat.le_refl _⟩ (fun _ _ q => c_X1_least q) hX (fun v5 h4 H locs wd hX => ?_)
    refine mh_callVV cx wd [.ref o1, .int v5] (rfl : vwCl[4]? = some (RX4, TX4, 1)) yw_X4_take vw_X11_179 rfl hl.1 rfl (Nat.le_of_ble_eq_true rfl) dX11_lastGap_20 ⟨Nat.le_of_ble_eq_true rfl, Nat.le_of_ble_eq_true rfl⟩ ⟨Nat.le_refl _, Nat.le_refl _⟩ (fun _ q => c_X4_take q) hX (fun h6 H locs wd hX => ?_)
    refine lv_aload_n hx hb dX11_lastGap_23 rfl (lv_at hl 0 rfl) ?_
    refine mh_getR cx wd fl_X11_30 dX11_lastGap_24 hX (fun a7 hX => ?_)
    refine mh_callVI cx wd [] (rfl : vwCl[4]? = some (RX4, TX4, 1)) yw_X4_lastMissing vw_X11_199 rfl hl.1 rfl (Nat.le_of_ble_eq_true rfl) dX11_lastGap_27 ⟨Nat.le_of_ble_eq_true rfl, Nat.le_of_ble_eq_true rfl⟩ ⟨Nat.le_refl _, Nat.le_refl _⟩ (fun _ _ q => c_X4_lastMissing q) hX (fun v9 h8 H locs wd hX => ?_)
    exact mh_iret cx wd hr hX dX11_lastGap_30
  · refine lv_bipush (v := (-2)) hx hb dX11_lastGap_8 (by decide) ?_
    exact mh_iret cx wd hr hX dX11_lastGap_10
set_option maxRecDepth 100000 in
theorem c_X11_lastGap {l : Launch} {L : List Nat} {h h' : mh_H} {r : Int32} {o0 : Nat} {o1 : Nat} (hX : f_X11_lastGap_e o0 o1 h = some (r, h')) : mh_MI l yX11_lastGap (Cond.code yX11_lastGap cX11_lastGap 2 (some .int) :: mh_TB) (mh_rm 3) [.ref o0, .ref o1] L h r h' :=
  mh_of (mc := 0) (ms := 0) (Qc := fun D ks sz => mh_Qi D ks L sz r h') (plainFor_of_name (by decide)) (Nat.le_of_ble_eq_true rfl) (fun p e s m below meth c D ks ls hr cx wd hl => by
    have hl : lv_has ls 2 [(0, .ref o0), (1, .ref o1)] := hl
    exact w_X11_lastGap_e cx hr o0 o1 h _ _ ls wd hl hX)
def f_X11_becomePicked_e (o0 : Nat) (x1 : Int32) (h : mh_H) : Option (Int32 × mh_H) :=
  (mh_gR h o0 11 0).bind fun a1 =>
  (mh_cal h a1 3 (f_X3_begin_e a1 h)).bind fun h2 =>
  (mh_gR h2 o0 11 0).bind fun a3 =>
  mh_b2 (mh_cal h2 a3 3 (f_X3_mint_e a3 x1 h2)) fun a5 h4 =>
  (mh_gR h4 o0 11 5).bind fun a6 =>
  mh_b2 (mh_cal h4 a6 5 (f_X5_picked_e a6 h4)) fun a8 h7 =>
  (mh_cal h7 a5 1 (f_X1_copy_e a5 a8 h7)).bind fun h9 =>
  (mh_gR h9 o0 11 5).bind fun a10 =>
  mh_b2 (mh_cal h9 a10 5 (f_X5_picked_e a10 h9)) fun a12 h11 =>
  mh_b2 (mh_cal h11 a12 1 (f_X1_count_e a12 h11)) fun v14 h13 =>
  some (v14, h13)
set_option maxRecDepth 100000 in
set_option maxHeartbeats 4000000 in
theorem w_X11_becomePicked_e {p : Program} {l : Launch} {e : Env} {s : State} {m : MethodId} {args : Array Value} {below : List Frame} {meth : Method} {c : Code} {D : va_G} {ks : Nat → ClassId} {L : List Nat} {r : Int32} {h' : mh_H} (cx : mh_C p m c cX11_becomePicked 2 s args RX11 meth D ks (mh_A L s.heap.size)) (hr : meth.sig.returnType = (some .int)) :
    ∀ (o0 : Nat) (x1 : Int32) (h : mh_H) (H : Heap) (locs : List Loc) (ls : Array Slot), mh_W D ks L (mh_A L s.heap.size) s.heap h H locs → lv_has ls 2 [(0, .ref o0), (1, .int x1)] → f_X11_becomePicked_e o0 x1 h = some (r, h') → W p l e (mh_rm 4) s m args below meth c H locs 0 0 (MQ below (mh_Qi D ks L s.heap.size r h') args s 0 0 (mh_A L s.heap.size)) (F0 m 0 ls []) := by
  intro o0 x1 h H locs ls wd hl hX
  have hx := cx.1.1
  have hb := cx.1.2.1
  unfold f_X11_becomePicked_e at hX
  refine lv_aload_n hx hb dX11_becomePicked_0 rfl (lv_at hl 0 rfl) ?_
  refine mh_getR cx wd fl_X11_14 dX11_becomePicked_1 hX (fun a1 hX => ?_)
  refine mh_callVV cx wd [] (rfl : vwCl[3]? = some (RX3, TX3, 5)) yw_X3_begin vw_X11_117 rfl hl.1 rfl (Nat.le_of_ble_eq_true rfl) dX11_becomePicked_4 ⟨Nat.le_of_ble_eq_true rfl, Nat.le_of_ble_eq_true rfl⟩ ⟨Nat.le_refl _, Nat.le_refl _⟩ (fun _ q => c_X3_begin q) hX (fun h2 H locs wd hX => ?_)
  refine lv_aload_n hx hb dX11_becomePicked_7 rfl (lv_at hl 0 rfl) ?_
  refine mh_getR cx wd fl_X11_14 dX11_becomePicked_8 hX (fun a3 hX => ?_)
  refine lv_iload_n hx hb dX11_becomePicked_11 rfl (lv_at hl 1 rfl) ?_
  refine mh_callVR cx wd [.int x1] (rfl : vwCl[3]? = some (RX3, TX3, 5)) yw_X3_mint vw_X11_106 rfl hl.1 rfl (Nat.le_of_ble_eq_true rfl) dX11_becomePicked_12 ⟨Nat.le_of_ble_eq_true rfl, Nat.le_of_ble_eq_true rfl⟩ ⟨Nat.le_refl _, Nat.le_refl _⟩ (fun _ _ q => c_X3_mint q) hX (fun a5 h4 H locs wd hX => ?_)
  refine lv_aload_n hx hb dX11_becomePicked_15 rfl (lv_at hl 0 rfl) ?_
  refine mh_getR cx wd fl_X11_43 dX11_becomePicked_16 hX (fun a6 hX => ?_)
  refine mh_callVR cx wd [] (rfl : vwCl[5]? = some (RX5, TX5, 3)) yw_X5_picked vw_X11_216 rfl hl.1 rfl (Nat.le_of_ble_eq_true rfl) dX11_becomePicked_19 ⟨Nat.le_of_ble_eq_true rfl, Nat.le_of_ble_eq_true rfl⟩ ⟨Nat.le_refl _, Nat.le_refl _⟩ (fun _ _ q => c_X5_picked q) hX (fun a8 h7 H locs wd hX => ?_)
  refine mh_callVV cx wd [.ref a8] (rfl : vwCl[1]? = some (RX1, TX1, 2)) yw_X1_copy vw_X11_220 rfl hl.1 rfl (Nat.le_of_ble_eq_true rfl) dX11_becomePicked_22 ⟨Nat.le_of_ble_eq_true rfl, Nat.le_of_ble_eq_true rfl⟩ ⟨Nat.le_refl _, Nat.le_refl _⟩ (fun _ q => c_X1_copy q) hX (fun h9 H locs wd hX => ?_)
  refine lv_aload_n hx hb dX11_becomePicked_25 rfl (lv_at hl 0 rfl) ?_
  refine mh_getR cx wd fl_X11_43 dX11_becomePicked_26 hX (fun a10 hX => ?_)
  refine mh_callVR cx wd [] (rfl : vwCl[5]? = some (RX5, TX5, 3)) yw_X5_picked vw_X11_216 rfl hl.1 rfl (Nat.le_of_ble_eq_true rfl) dX11_becomePicked_29 ⟨Nat.le_of_ble_eq_true rfl, Nat.le_of_ble_eq_true rfl⟩ ⟨Nat.le_refl _, Nat.le_refl _⟩ (fun _ _ q => c_X5_picked q) hX (fun a12 h11 H locs wd hX => ?_)
  refine mh_callVI cx wd [] (rfl : vwCl[1]? = some (RX1, TX1, 2)) yw_X1_count vw_X11_123 rfl hl.1 rfl (Nat.le_of_ble_eq_true rfl) dX11_becomePicked_32 ⟨Nat.le_of_ble_eq_true rfl, Nat.le_of_ble_eq_true rfl⟩ ⟨Nat.le_refl _, Nat.le_refl _⟩ (fun _ _ q => c_X1_count q) hX (fun v14 h13 H locs wd hX => ?_)
  exact mh_iret cx wd hr hX dX11_becomePicked_35
set_option maxRecDepth 100000 in
theorem c_X11_becomePicked {l : Launch} {L : List Nat} {h h' : mh_H} {r : Int32} {o0 : Nat} {x1 : Int32} (hX : f_X11_becomePicked_e o0 x1 h = some (r, h')) : mh_MI l yX11_becomePicked (Cond.code yX11_becomePicked cX11_becomePicked 2 (some .int) :: mh_TB) (mh_rm 4) [.ref o0, .int x1] L h r h' :=
  mh_of (mc := 0) (ms := 0) (Qc := fun D ks sz => mh_Qi D ks L sz r h') (plainFor_of_name (by decide)) (Nat.le_of_ble_eq_true rfl) (fun p e s m below meth c D ks ls hr cx wd hl => by
    have hl : lv_has ls 2 [(0, .ref o0), (1, .int x1)] := hl
    exact w_X11_becomePicked_e cx hr o0 x1 h _ _ ls wd hl hX)
def f_X11_offerCommon_b63 (k26 : Nat → Int32 → mh_H → Option mh_H) (o0 : Nat) (x3 : Int32) (h : mh_H) : Option mh_H :=
  mh_nm (x3 + Int32.ofInt (1)) fun v1 =>
  k26 o0 v1 h
def f_X11_offerCommon_b69 (h : mh_H) : Option mh_H :=
  some h
def f_X11_offerCommon_b26 : Nat → Nat → Int32 → mh_H → Option mh_H
  | 0, _, _, _ => none
  | n + 1, o0, x3, h =>
    if (300 : Int32) < x3 then (
    f_X11_offerCommon_b69 h) else
    (mh_gR h o0 11 2).bind fun a2 =>
    mh_b2 (mh_cal h a2 4 (f_X4_reaches_e a2 x3 h)) fun v4 h3 =>
    if v4 = 0 then (
    f_X11_offerCommon_b63 (f_X11_offerCommon_b26 n) o0 x3 h3) else
    (mh_gR h3 o0 11 3).bind fun a5 =>
    mh_b2 (mh_cal h3 a5 4 (f_X4_reaches_e a5 x3 h3)) fun v7 h6 =>
    if v7 = 0 then (
    f_X11_offerCommon_b63 (f_X11_offerCommon_b26 n) o0 x3 h6) else
    (mh_gR h6 o0 11 5).bind fun a8 =>
    (mh_cal h6 a8 5 (f_X5_offer_e a8 x3 h6)).bind fun h9 =>
    f_X11_offerCommon_b63 (f_X11_offerCommon_b26 n) o0 x3 h9
def f_X11_offerCommon_e (o0 : Nat) (o1 : Nat) (o2 : Nat) (h : mh_H) : Option mh_H :=
  (mh_gR h o0 11 2).bind fun a10 =>
  mh_b2 (mh_cal h o1 1 (f_X1_least_e o1 h)) fun v12 h11 =>
  (mh_cal h11 a10 4 (f_X4_take_e a10 o1 v12 h11)).bind fun h13 =>
  (mh_gR h13 o0 11 3).bind fun a14 =>
  mh_b2 (mh_cal h13 o2 1 (f_X1_least_e o2 h13)) fun v16 h15 =>
  (mh_cal h15 a14 4 (f_X4_take_e a14 o2 v16 h15)).bind fun h17 =>
  mh_nm (1 : Int32) fun v18 =>
  f_X11_offerCommon_b26 mh_fu o0 v18 h17
set_option maxRecDepth 100000 in
set_option maxHeartbeats 4000000 in
theorem w_X11_offerCommon_b63 {p : Program} {l : Launch} {e : Env} {s : State} {m : MethodId} {args : Array Value} {below : List Frame} {meth : Method} {c : Code} {D : va_G} {ks : Nat → ClassId} {L : List Nat} {h' : mh_H} (k26 : Nat → Int32 → mh_H → Option mh_H) (cx : mh_C p m c cX11_offerCommon 4 s args RX11 meth D ks (mh_A L s.heap.size)) (hr : meth.sig.returnType = none)
    (hk26 : ∀ (o0 : Nat) (x3 : Int32) (h : mh_H) (H : Heap) (locs : List Loc) (ls : Array Slot), mh_W D ks L (mh_A L s.heap.size) s.heap h H locs → lv_has ls 4 [(0, .ref o0), (3, .int x3)] → k26 o0 x3 h = some h' → W p l e (mh_rm 3) s m args below meth c H locs 0 0 (MQ below (mh_Qv D ks L s.heap.size h') args s 0 0 (mh_A L s.heap.size)) (F0 m 26 ls [])) :
    ∀ (o0 : Nat) (x3 : Int32) (h : mh_H) (H : Heap) (locs : List Loc) (ls : Array Slot), mh_W D ks L (mh_A L s.heap.size) s.heap h H locs → lv_has ls 4 [(0, .ref o0), (3, .int x3)] → f_X11_offerCommon_b63 k26 o0 x3 h = some h' → W p l e (mh_rm 3) s m args below meth c H locs 0 0 (MQ below (mh_Qv D ks L s.heap.size h') args s 0 0 (mh_A L s.heap.size)) (F0 m 63 ls []) := by
  intro o0 x3 h H locs ls wd hl hX
  have hx := cx.1.1
  have hb := cx.1.2.1
  unfold f_X11_offerCommon_b63 at hX
  obtain ⟨v1, ev1, hX⟩ := mh_nmx hX
  refine lv_iinc (k := 1) (v := v1) (lv' := [(3, .int v1), (0, .ref o0)]) hx hb dX11_offerCommon_63 hl rfl ev1 (Nat.le_of_ble_eq_true rfl) rfl (fun ls hl => ?_)
  refine lv_goto (tgt := 26) hx hb dX11_offerCommon_66 rfl ?_
  exact hk26 _ _ h _ _ ls wd (lv_sub hl [1, 0] rfl) hX
set_option maxRecDepth 100000 in
set_option maxHeartbeats 4000000 in
theorem w_X11_offerCommon_b69 {p : Program} {l : Launch} {e : Env} {s : State} {m : MethodId} {args : Array Value} {below : List Frame} {meth : Method} {c : Code} {D : va_G} {ks : Nat → ClassId} {L : List Nat} {h' : mh_H} (cx : mh_C p m c cX11_offerCommon 4 s args RX11 meth D ks (mh_A L s.heap.size)) (hr : meth.sig.returnType = none) :
    ∀ (h : mh_H) (H : Heap) (locs : List Loc) (ls : Array Slot), mh_W D ks L (mh_A L s.heap.size) s.heap h H locs → lv_has ls 4 [] → f_X11_offerCommon_b69  h = some h' → W p l e (mh_rm 3) s m args below meth c H locs 0 0 (MQ below (mh_Qv D ks L s.heap.size h') args s 0 0 (mh_A L s.heap.size)) (F0 m 69 ls []) := by
  intro  h H locs ls wd hl hX
  have hx := cx.1.1
  have hb := cx.1.2.1
  unfold f_X11_offerCommon_b69 at hX
  exact mh_vret cx wd hr hX dX11_offerCommon_69
set_option maxRecDepth 100000 in
set_option maxHeartbeats 4000000 in
theorem w_X11_offerCommon_b26 {p : Program} {l : Launch} {e : Env} {s : State} {m : MethodId} {args : Array Value} {below : List Frame} {meth : Method} {c : Code} {D : va_G} {ks : Nat → ClassId} {L : List Nat} {h' : mh_H} (cx : mh_C p m c cX11_offerCommon 4 s args RX11 meth D ks (mh_A L s.heap.size)) (hr : meth.sig.returnType = none) :
    ∀ n : Nat, ∀ (o0 : Nat) (x3 : Int32) (h : mh_H) (H : Heap) (locs : List Loc) (ls : Array Slot), mh_W D ks L (mh_A L s.heap.size) s.heap h H locs → lv_has ls 4 [(0, .ref o0), (3, .int x3)] → f_X11_offerCommon_b26 n o0 x3 h = some h' → W p l e (mh_rm 3) s m args below meth c H locs 0 0 (MQ below (mh_Qv D ks L s.heap.size h') args s 0 0 (mh_A L s.heap.size)) (F0 m 26 ls []) := by
  intro n
  induction n with
  | zero =>
    intro o0 x3 h H locs ls wd hl hX
    cases hX
  | succ n ih =>
    intro o0 x3 h H locs ls wd hl hX
    have hx := cx.1.1
    have hb := cx.1.2.1
    rw [f_X11_offerCommon_b26] at hX
    refine lv_iload_n hx hb dX11_offerCommon_26 rfl (lv_at hl 1 rfl) ?_
    refine lv_sipush (v := 300) hx hb dX11_offerCommon_27 (by decide) ?_
    refine lv_icmp_gt (tgt := 69) hx hb dX11_offerCommon_30 rfl (fun hc => (fun hX => ?_) ((mh_if hX).1 hc)) (fun hc => (fun hX => ?_) ((mh_if hX).2 hc))
    · exact w_X11_offerCommon_b69 cx hr  h _ _ ls wd (lv_sub hl [] rfl) hX
    · refine lv_aload_n hx hb dX11_offerCommon_33 rfl (lv_at hl 0 rfl) ?_
      refine mh_getR cx wd fl_X11_30 dX11_offerCommon_34 hX (fun a2 hX => ?_)
      refine lv_iload_n hx hb dX11_offerCommon_37 rfl (lv_at hl 1 rfl) ?_
      refine mh_callVI cx wd [.int x3] (rfl : vwCl[4]? = some (RX4, TX4, 1)) yw_X4_reaches vw_X11_240 rfl hl.1 rfl (Nat.le_of_ble_eq_true rfl) dX11_offerCommon_38 ⟨Nat.le_of_ble_eq_true rfl, Nat.le_of_ble_eq_true rfl⟩ ⟨Nat.le_refl _, Nat.le_refl _⟩ (fun _ _ q => c_X4_reaches q) hX (fun v4 h3 H locs wd hX => ?_)
      refine lv_if_eq (tgt := 63) hx hb dX11_offerCommon_41 rfl (fun hc => (fun hX => ?_) ((mh_if hX).1 hc)) (fun hc => (fun hX => ?_) ((mh_if hX).2 hc))
      · exact w_X11_offerCommon_b63 (f_X11_offerCommon_b26 n) cx hr ih _ _ h3 _ _ ls wd (lv_sub hl [0, 1] rfl) hX
      · refine lv_aload_n hx hb dX11_offerCommon_44 rfl (lv_at hl 0 rfl) ?_
        refine mh_getR cx wd fl_X11_34 dX11_offerCommon_45 hX (fun a5 hX => ?_)
        refine lv_iload_n hx hb dX11_offerCommon_48 rfl (lv_at hl 1 rfl) ?_
        refine mh_callVI cx wd [.int x3] (rfl : vwCl[4]? = some (RX4, TX4, 1)) yw_X4_reaches vw_X11_240 rfl hl.1 rfl (Nat.le_of_ble_eq_true rfl) dX11_offerCommon_49 ⟨Nat.le_of_ble_eq_true rfl, Nat.le_of_ble_eq_true rfl⟩ ⟨Nat.le_refl _, Nat.le_refl _⟩ (fun _ _ q => c_X4_reaches q) hX (fun v7 h6 H locs wd hX => ?_)
        refine lv_if_eq (tgt := 63) hx hb dX11_offerCommon_52 rfl (fun hc => (fun hX => ?_) ((mh_if hX).1 hc)) (fun hc => (fun hX => ?_) ((mh_if hX).2 hc))
        · exact w_X11_offerCommon_b63 (f_X11_offerCommon_b26 n) cx hr ih _ _ h6 _ _ ls wd (lv_sub hl [0, 1] rfl) hX
        · refine lv_aload_n hx hb dX11_offerCommon_55 rfl (lv_at hl 0 rfl) ?_
          refine mh_getR cx wd fl_X11_43 dX11_offerCommon_56 hX (fun a8 hX => ?_)
          refine lv_iload_n hx hb dX11_offerCommon_59 rfl (lv_at hl 1 rfl) ?_
          refine mh_callVV cx wd [.int x3] (rfl : vwCl[5]? = some (RX5, TX5, 3)) yw_X5_offer vw_X11_243 rfl hl.1 rfl (Nat.le_of_ble_eq_true rfl) dX11_offerCommon_60 ⟨Nat.le_of_ble_eq_true rfl, Nat.le_of_ble_eq_true rfl⟩ ⟨Nat.le_refl _, Nat.le_refl _⟩ (fun _ q => c_X5_offer q) hX (fun h9 H locs wd hX => ?_)
          exact w_X11_offerCommon_b63 (f_X11_offerCommon_b26 n) cx hr ih _ _ h9 _ _ ls wd (lv_sub hl [0, 1] rfl) hX
set_option maxRecDepth 100000 in
set_option maxHeartbeats 4000000 in
theorem w_X11_offerCommon_e {p : Program} {l : Launch} {e : Env} {s : State} {m : MethodId} {args : Array Value} {below : List Frame} {meth : Method} {c : Code} {D : va_G} {ks : Nat → ClassId} {L : List Nat} {h' : mh_H} (cx : mh_C p m c cX11_offerCommon 4 s args RX11 meth D ks (mh_A L s.heap.size)) (hr : meth.sig.returnType = none) :
    ∀ (o0 : Nat) (o1 : Nat) (o2 : Nat) (h : mh_H) (H : Heap) (locs : List Loc) (ls : Array Slot), mh_W D ks L (mh_A L s.heap.size) s.heap h H locs → lv_has ls 4 [(0, .ref o0), (1, .ref o1), (2, .ref o2)] → f_X11_offerCommon_e o0 o1 o2 h = some h' → W p l e (mh_rm 3) s m args below meth c H locs 0 0 (MQ below (mh_Qv D ks L s.heap.size h') args s 0 0 (mh_A L s.heap.size)) (F0 m 0 ls []) := by
  intro o0 o1 o2 h H locs ls wd hl hX
  have hx := cx.1.1
  have hb := cx.1.2.1
  unfold f_X11_offerCommon_e at hX
  refine lv_aload_n hx hb dX11_offerCommon_0 rfl (lv_at hl 0 rfl) ?_
  refine mh_getR cx wd fl_X11_30 dX11_offerCommon_1 hX (fun a10 hX => ?_)
  refine lv_aload_n hx hb dX11_offerCommon_4 rfl (lv_at hl 1 rfl) ?_
  refine lv_aload_n hx hb dX11_offerCommon_5 rfl (lv_at hl 1 rfl) ?_
  refine mh_callVI cx wd [] (rfl : vwCl[1]? = some (RX1, TX1, 2)) yw_X1_least vw_X11_176 rfl hl.1 rfl (Nat.le_of_ble_eq_true rfl) dX11_offerCommon_6 ⟨Nat.le_of_ble_eq_true rfl, Nat.le_of_ble_eq_true rfl⟩ ⟨Nat.le_refl _, Nat.le_refl _⟩ (fun _ _ q => c_X1_least q) hX (fun v12 h11 H locs wd hX => ?_)
  refine mh_callVV cx wd [.ref o1, .int v12] (rfl : vwCl[4]? = some (RX4, TX4, 1)) yw_X4_take vw_X11_179 rfl hl.1 rfl (Nat.le_of_ble_eq_true rfl) dX11_offerCommon_9 ⟨Nat.le_of_ble_eq_true rfl, Nat.le_of_ble_eq_true rfl⟩ ⟨Nat.le_refl _, Nat.le_refl _⟩ (fun _ q => c_X4_take q) hX (fun h13 H locs wd hX => ?_)
  refine lv_aload_n hx hb dX11_offerCommon_12 rfl (lv_at hl 0 rfl) ?_
  refine mh_getR cx wd fl_X11_34 dX11_offerCommon_13 hX (fun a14 hX => ?_)
  refine lv_aload_n hx hb dX11_offerCommon_16 rfl (lv_at hl 2 rfl) ?_
  refine lv_aload_n hx hb dX11_offerCommon_17 rfl (lv_at hl 2 rfl) ?_
  refine mh_callVI cx wd [] (rfl : vwCl[1]? = some (RX1, TX1, 2)) yw_X1_least vw_X11_176 rfl hl.1 rfl (Nat.le_of_ble_eq_true rfl) dX11_offerCommon_18 ⟨Nat.le_of_ble_eq_true rfl, Nat.le_of_ble_eq_true rfl⟩ ⟨Nat.le_refl _, Nat.le_refl _⟩ (fun _ _ q => c_X1_least q) hX (fun v16 h15 H locs wd hX => ?_)
  refine mh_callVV cx wd [.ref o2, .int v16] (rfl : vwCl[4]? = some (RX4, TX4, 1)) yw_X4_take vw_X11_179 rfl hl.1 rfl (Nat.le_of_ble_eq_true rfl) dX11_offerCommon_21 ⟨Nat.le_of_ble_eq_true rfl, Nat.le_of_ble_eq_true rfl⟩ ⟨Nat.le_refl _, Nat.le_refl _⟩ (fun _ q => c_X4_take q) hX (fun h17 H locs wd hX => ?_)
  refine lv_iconst (v := 1) hx hb dX11_offerCommon_24 (by decide) ?_
  refine mh_topi hX (fun v18 hX => ?_)
  refine lv_istore_n (lv' := [(3, .int v18), (0, .ref o0), (1, .ref o1), (2, .ref o2)]) hx hb dX11_offerCommon_25 rfl hl (Nat.le_of_ble_eq_true rfl) rfl (fun ls hl => ?_)
  exact w_X11_offerCommon_b26 cx hr mh_fu _ _ h17 _ _ ls wd (lv_sub hl [1, 0] rfl) hX
set_option maxRecDepth 100000 in
theorem c_X11_offerCommon {l : Launch} {L : List Nat} {h h' : mh_H} {o0 : Nat} {o1 : Nat} {o2 : Nat} (hX : f_X11_offerCommon_e o0 o1 o2 h = some h') : mh_MV l yX11_offerCommon (Cond.code yX11_offerCommon cX11_offerCommon 4 none :: mh_TB) (mh_rm 3) [.ref o0, .ref o1, .ref o2] L h h' :=
  mh_of (mc := 0) (ms := 0) (Qc := fun D ks sz => mh_Qv D ks L sz h') (plainFor_of_name (by decide)) (Nat.le_of_ble_eq_true rfl) (fun p e s m below meth c D ks ls hr cx wd hl => by
    have hl : lv_has ls 4 [(0, .ref o0), (1, .ref o1), (2, .ref o2)] := hl
    exact w_X11_offerCommon_e cx hr o0 o1 o2 h _ _ ls wd hl hX)
def f_X11_pickedPayCommon_b94 (h : mh_H) : Option (Int32 × mh_H) :=
  mh_rz (0 : Int32) h
def f_X11_pickedPayCommon_b102 (h : mh_H) : Option (Int32 × mh_H) :=
  mh_rz (1 : Int32) h
def f_X11_pickedPayCommon_b54 : Nat → Nat → Int32 → Int32 → mh_H → Option (Int32 × mh_H)
  | 0, _, _, _, _ => none
  | n + 1, o0, x4, x5, h =>
    if x4 ≤ x5 then (
    f_X11_pickedPayCommon_b102 h) else
    (mh_gR h o0 11 4).bind fun a1 =>
    mh_b2 (mh_cal h a1 4 (f_X4_least_e a1 x5 h)) fun v3 h2 =>
    (mh_gR h2 o0 11 2).bind fun a4 =>
    mh_b2 (mh_cal h2 a4 4 (f_X4_least_e a4 x5 h2)) fun v6 h5 =>
    (mh_gR h5 o0 11 3).bind fun a7 =>
    mh_b2 (mh_cal h5 a7 4 (f_X4_least_e a7 x5 h5)) fun v9 h8 =>
    if v3 = (if v6 < v9 then v9 else v6) then (
    mh_nm (x5 + Int32.ofInt (1)) fun v10 =>
    f_X11_pickedPayCommon_b54 n o0 x4 v10 h8) else
    f_X11_pickedPayCommon_b94 h8
def f_X11_pickedPayCommon_e (o0 : Nat) (o1 : Nat) (o2 : Nat) (h : mh_H) : Option (Int32 × mh_H) :=
  (mh_gR h o0 11 5).bind fun a11 =>
  mh_b2 (mh_cal h a11 5 (f_X5_picked_e a11 h)) fun a13 h12 =>
  mh_b2 (mh_cal h12 a13 1 (f_X1_least_e a13 h12)) fun v15 h14 =>
  if v15 = 0 then (
  mh_rz (0 : Int32) h14) else
  (mh_gR h14 o0 11 2).bind fun a16 =>
  (mh_cal h14 a16 4 (f_X4_take_e a16 o1 v15 h14)).bind fun h17 =>
  (mh_gR h17 o0 11 3).bind fun a18 =>
  (mh_cal h17 a18 4 (f_X4_take_e a18 o2 v15 h17)).bind fun h19 =>
  (mh_gR h19 o0 11 4).bind fun a20 =>
  (mh_cal h19 a20 4 (f_X4_take_e a20 a13 v15 h19)).bind fun h21 =>
  mh_nm (0 : Int32) fun v22 =>
  f_X11_pickedPayCommon_b54 mh_fu o0 v15 v22 h21
set_option maxRecDepth 100000 in
set_option maxHeartbeats 4000000 in
theorem w_X11_pickedPayCommon_b94 {p : Program} {l : Launch} {e : Env} {s : State} {m : MethodId} {args : Array Value} {below : List Frame} {meth : Method} {c : Code} {D : va_G} {ks : Nat → ClassId} {L : List Nat} {r : Int32} {h' : mh_H} (cx : mh_C p m c cX11_pickedPayCommon 6 s args RX11 meth D ks (mh_A L s.heap.size)) (hr : meth.sig.returnType = (some .boolean)) :
    ∀ (h : mh_H) (H : Heap) (locs : List Loc) (ls : Array Slot), mh_W D ks L (mh_A L s.heap.size) s.heap h H locs → lv_has ls 6 [] → f_X11_pickedPayCommon_b94  h = some (r, h') → W p l e (mh_rm 3) s m args below meth c H locs 0 0 (MQ below (mh_Qi D ks L s.heap.size r h') args s 0 0 (mh_A L s.heap.size)) (F0 m 94 ls []) := by
  intro  h H locs ls wd hl hX
  have hx := cx.1.1
  have hb := cx.1.2.1
  unfold f_X11_pickedPayCommon_b94 at hX
  refine lv_iconst (v := 0) hx hb dX11_pickedPayCommon_94 (by decide) ?_
  exact mh_zret cx wd hr hX dX11_pickedPayCommon_95
set_option maxRecDepth 100000 in
set_option maxHeartbeats 4000000 in
theorem w_X11_pickedPayCommon_b102 {p : Program} {l : Launch} {e : Env} {s : State} {m : MethodId} {args : Array Value} {below : List Frame} {meth : Method} {c : Code} {D : va_G} {ks : Nat → ClassId} {L : List Nat} {r : Int32} {h' : mh_H} (cx : mh_C p m c cX11_pickedPayCommon 6 s args RX11 meth D ks (mh_A L s.heap.size)) (hr : meth.sig.returnType = (some .boolean)) :
    ∀ (h : mh_H) (H : Heap) (locs : List Loc) (ls : Array Slot), mh_W D ks L (mh_A L s.heap.size) s.heap h H locs → lv_has ls 6 [] → f_X11_pickedPayCommon_b102  h = some (r, h') → W p l e (mh_rm 3) s m args below meth c H locs 0 0 (MQ below (mh_Qi D ks L s.heap.size r h') args s 0 0 (mh_A L s.heap.size)) (F0 m 102 ls []) := by
  intro  h H locs ls wd hl hX
  have hx := cx.1.1
  have hb := cx.1.2.1
  unfold f_X11_pickedPayCommon_b102 at hX
  refine lv_iconst (v := 1) hx hb dX11_pickedPayCommon_102 (by decide) ?_
  exact mh_zret cx wd hr hX dX11_pickedPayCommon_103
set_option maxRecDepth 100000 in
set_option maxHeartbeats 4000000 in
theorem w_X11_pickedPayCommon_b54 {p : Program} {l : Launch} {e : Env} {s : State} {m : MethodId} {args : Array Value} {below : List Frame} {meth : Method} {c : Code} {D : va_G} {ks : Nat → ClassId} {L : List Nat} {r : Int32} {h' : mh_H} (cx : mh_C p m c cX11_pickedPayCommon 6 s args RX11 meth D ks (mh_A L s.heap.size)) (hr : meth.sig.returnType = (some .boolean)) :
    ∀ n : Nat, ∀ (o0 : Nat) (x4 : Int32) (x5 : Int32) (h : mh_H) (H : Heap) (locs : List Loc) (ls : Array Slot), mh_W D ks L (mh_A L s.heap.size) s.heap h H locs → lv_has ls 6 [(0, .ref o0), (4, .int x4), (5, .int x5)] → f_X11_pickedPayCommon_b54 n o0 x4 x5 h = some (r, h') → W p l e (mh_rm 3) s m args below meth c H locs 0 0 (MQ below (mh_Qi D ks L s.heap.size r h') args s 0 0 (mh_A L s.heap.size)) (F0 m 54 ls []) := by
  intro n
  induction n with
  | zero =>
    intro o0 x4 x5 h H locs ls wd hl hX
    cases hX
  | succ n ih =>
    intro o0 x4 x5 h H locs ls wd hl hX
    have hx := cx.1.1
    have hb := cx.1.2.1
    rw [f_X11_pickedPayCommon_b54] at hX
    refine lv_iload hx hb dX11_pickedPayCommon_54 (lv_at hl 2 rfl) ?_
    refine lv_iload hx hb dX11_pickedPayCommon_56 (lv_at hl 1 rfl) ?_
    refine lv_icmp_ge (tgt := 102) hx hb dX11_pickedPayCommon_58 rfl (fun hc => (fun hX => ?_) ((mh_if hX).1 hc)) (fun hc => (fun hX => ?_) ((mh_if hX).2 hc))
    · exact w_X11_pickedPayCommon_b102 cx hr  h _ _ ls wd (lv_sub hl [] rfl) hX
    · refine lv_aload_n hx hb dX11_pickedPayCommon_61 rfl (lv_at hl 0 rfl) ?_
      refine mh_getR cx wd fl_X11_37 dX11_pickedPayCommon_62 hX (fun a1 hX => ?_)
      refine lv_iload hx hb dX11_pickedPayCommon_65 (lv_at hl 2 rfl) ?_
      refine mh_callVI cx wd [.int x5] (rfl : vwCl[4]? = some (RX4, TX4, 1)) yw_X4_least vw_X11_204 rfl hl.1 rfl (Nat.le_of_ble_eq_true rfl) dX11_pickedPayCommon_67 ⟨Nat.le_of_ble_eq_true rfl, Nat.le_of_ble_eq_true rfl⟩ ⟨Nat.le_refl _, Nat.le_refl _⟩ (fun _ _ q => c_X4_least q) hX (fun v3 h2 H locs wd hX => ?_)
      refine lv_aload_n hx hb dX11_pickedPayCommon_70 rfl (lv_at hl 0 rfl) ?_
      refine mh_getR cx wd fl_X11_30 dX11_pickedPayCommon_71 hX (fun a4 hX => ?_)
      refine lv_iload hx hb dX11_pickedPayCommon_74 (lv_at hl 2 rfl) ?_
      refine mh_callVI cx wd [.int x5] (rfl : vwCl[4]? = some (RX4, TX4, 1)) yw_X4_least vw_X11_204 rfl hl.1 rfl (Nat.le_of_ble_eq_true rfl) dX11_pickedPayCommon_76 ⟨Nat.le_of_ble_eq_true rfl, Nat.le_of_ble_eq_true rfl⟩ ⟨Nat.le_refl _, Nat.le_refl _⟩ (fun _ _ q => c_X4_least q) hX (fun v6 h5 H locs wd hX => ?_)
      refine lv_aload_n hx hb dX11_pickedPayCommon_79 rfl (lv_at hl 0 rfl) ?_
      refine mh_getR cx wd fl_X11_34 dX11_pickedPayCommon_80 hX (fun a7 hX => ?_)
      refine lv_iload hx hb dX11_pickedPayCommon_83 (lv_at hl 2 rfl) ?_
      refine mh_callVI cx wd [.int x5] (rfl : vwCl[4]? = some (RX4, TX4, 1)) yw_X4_least vw_X11_204 rfl hl.1 rfl (Nat.le_of_ble_eq_true rfl) dX11_pickedPayCommon_85 ⟨Nat.le_of_ble_eq_true rfl, Nat.le_of_ble_eq_true rfl⟩ ⟨Nat.le_refl _, Nat.le_refl _⟩ (fun _ _ q => c_X4_least q) hX (fun v9 h8 H locs wd hX => ?_)
      refine mh_mmax mh_Mok cx hl.1 km_X11_375 (Nat.le_of_ble_eq_true rfl) (Nat.le_of_ble_eq_true rfl) ⟨Nat.le_refl _, Nat.le_refl _⟩ dX11_pickedPayCommon_88 ?_
      refine lv_icmp_eq (tgt := 96) hx hb dX11_pickedPayCommon_91 rfl (fun hc => (fun hX => ?_) ((mh_if hX).1 hc)) (fun hc => (fun hX => ?_) ((mh_if hX).2 hc))
      · obtain ⟨v10, ev10, hX⟩ := mh_nmx hX
        refine lv_iinc (k := 2) (v := v10) (lv' := [(5, .int v10), (0, .ref o0), (4, .int x4)]) hx hb dX11_pickedPayCommon_96 hl rfl ev10 (Nat.le_of_ble_eq_true rfl) rfl (fun ls hl => ?_)
        refine lv_goto (tgt := 54) hx hb dX11_pickedPayCommon_99 rfl ?_
        exact ih _ _ _ h8 _ _ ls wd (lv_sub hl [1, 2, 0] rfl) hX
      · exact w_X11_pickedPayCommon_b94 cx hr  h8 _ _ ls wd (lv_sub hl [] rfl) hX
set_option maxRecDepth 100000 in
set_option maxHeartbeats 4000000 in
theorem w_X11_pickedPayCommon_e {p : Program} {l : Launch} {e : Env} {s : State} {m : MethodId} {args : Array Value} {below : List Frame} {meth : Method} {c : Code} {D : va_G} {ks : Nat → ClassId} {L : List Nat} {r : Int32} {h' : mh_H} (cx : mh_C p m c cX11_pickedPayCommon 6 s args RX11 meth D ks (mh_A L s.heap.size)) (hr : meth.sig.returnType = (some .boolean)) :
    ∀ (o0 : Nat) (o1 : Nat) (o2 : Nat) (h : mh_H) (H : Heap) (locs : List Loc) (ls : Array Slot), mh_W D ks L (mh_A L s.heap.size) s.heap h H locs → lv_has ls 6 [(0, .ref o0), (1, .ref o1), (2, .ref o2)] → f_X11_pickedPayCommon_e o0 o1 o2 h = some (r, h') → W p l e (mh_rm 3) s m args below meth c H locs 0 0 (MQ below (mh_Qi D ks L s.heap.size r h') args s 0 0 (mh_A L s.heap.size)) (F0 m 0 ls []) := by
  intro o0 o1 o2 h H locs ls wd hl hX
  have hx := cx.1.1
  have hb := cx.1.2.1
  unfold f_X11_pickedPayCommon_e at hX
  refine lv_aload_n hx hb dX11_pickedPayCommon_0 rfl (lv_at hl 0 rfl) ?_
  refine mh_getR cx wd fl_X11_43 dX11_pickedPayCommon_1 hX (fun a11 hX => ?_)
  refine mh_callVR cx wd [] (rfl : vwCl[5]? = some (RX5, TX5, 3)) yw_X5_picked vw_X11_216 rfl hl.1 rfl (Nat.le_of_ble_eq_true rfl) dX11_pickedPayCommon_4 ⟨Nat.le_of_ble_eq_true rfl, Nat.le_of_ble_eq_true rfl⟩ ⟨Nat.le_refl _, Nat.le_refl _⟩ (fun _ _ q => c_X5_picked q) hX (fun a13 h12 H locs wd hX => ?_)
  refine lv_astore_n (lv' := [(3, .ref a13), (0, .ref o0), (1, .ref o1), (2, .ref o2)]) hx hb dX11_pickedPayCommon_7 rfl hl (Nat.le_of_ble_eq_true rfl) rfl (fun ls hl => ?_)
  refine lv_aload_n hx hb dX11_pickedPayCommon_8 rfl (lv_at hl 0 rfl) ?_
  refine mh_callVI cx wd [] (rfl : vwCl[1]? = some (RX1, TX1, 2)) yw_X1_least vw_X11_176 rfl hl.1 rfl (Nat.le_of_ble_eq_true rfl) dX11_pickedPayCommon_9 ⟨Nat.le_of_ble_eq_true rfl, Nat.le_of_ble_eq_true rfl⟩ ⟨Nat.le_refl _, Nat.le_refl _⟩ (fun _ _ q => c_X1_least q) hX (fun v15 h14 H locs wd hX => ?_)
  refine lv_istore (lv' := [(4, .int v15), (3, .ref a13), (0, .ref o0), (1, .ref o1), (2, .ref o2)]) hx hb dX11_pickedPayCommon_12 hl (Nat.le_of_ble_eq_true rfl) rfl (fun ls hl => ?_)
  refine lv_iload hx hb dX11_pickedPayCommon_14 (lv_at hl 0 rfl) ?_
  refine lv_if_ne (tgt := 21) hx hb dX11_pickedPayCommon_16 rfl (fun hc => (fun hX => ?_) ((mh_if hX).2 hc)) (fun hc => (fun hX => ?_) ((mh_if hX).1 hc))
  · refine lv_aload_n hx hb dX11_pickedPayCommon_21 rfl (lv_at hl 2 rfl) ?_
    refine mh_getR cx wd fl_X11_30 dX11_pickedPayCommon_22 hX (fun a16 hX => ?_)
    refine lv_aload_n hx hb dX11_pickedPayCommon_25 rfl (lv_at hl 3 rfl) ?_
    refine lv_iload hx hb dX11_pickedPayCommon_26 (lv_at hl 0 rfl) ?_
    refine mh_callVV cx wd [.ref o1, .int v15] (rfl : vwCl[4]? = some (RX4, TX4, 1)) yw_X4_take vw_X11_179 rfl hl.1 rfl (Nat.le_of_ble_eq_true rfl) dX11_pickedPayCommon_28 ⟨Nat.le_of_ble_eq_true rfl, Nat.le_of_ble_eq_true rfl⟩ ⟨Nat.le_refl _, Nat.le_refl _⟩ (fun _ q => c_X4_take q) hX (fun h17 H locs wd hX => ?_)
    refine lv_aload_n hx hb dX11_pickedPayCommon_31 rfl (lv_at hl 2 rfl) ?_
    refine mh_getR cx wd fl_X11_34 dX11_pickedPayCommon_32 hX (fun a18 hX => ?_)
    refine lv_aload_n hx hb dX11_pickedPayCommon_35 rfl (lv_at hl 4 rfl) ?_
    refine lv_iload hx hb dX11_pickedPayCommon_36 (lv_at hl 0 rfl) ?_
    refine mh_callVV cx wd [.ref o2, .int v15] (rfl : vwCl[4]? = some (RX4, TX4, 1)) yw_X4_take vw_X11_179 rfl hl.1 rfl (Nat.le_of_ble_eq_true rfl) dX11_pickedPayCommon_38 ⟨Nat.le_of_ble_eq_true rfl, Nat.le_of_ble_eq_true rfl⟩ ⟨Nat.le_refl _, Nat.le_refl _⟩ (fun _ q => c_X4_take q) hX (fun h19 H locs wd hX => ?_)
    refine lv_aload_n hx hb dX11_pickedPayCommon_41 rfl (lv_at hl 2 rfl) ?_
    refine mh_getR cx wd fl_X11_37 dX11_pickedPayCommon_42 hX (fun a20 hX => ?_)
    refine lv_aload_n hx hb dX11_pickedPayCommon_45 rfl (lv_at hl 1 rfl) ?_
    refine lv_iload hx hb dX11_pickedPayCommon_46 (lv_at hl 0 rfl) ?_
    refine mh_callVV cx wd [.ref a13, .int v15] (rfl : vwCl[4]? = some (RX4, TX4, 1)) yw_X4_take vw_X11_179 rfl hl.1 rfl (Nat.le_of_ble_eq_true rfl) dX11_pickedPayCommon_48 ⟨Nat.le_of_ble_eq_true rfl, Nat.le_of_ble_eq_true rfl⟩ ⟨Nat.le_refl _, Nat.le_refl _⟩ (fun _ q => c_X4_take q) hX (fun h21 H locs wd hX => ?_)
    refine lv_iconst (v := 0) hx hb dX11_pickedPayCommon_51 (by decide) ?_
    refine mh_topi hX (fun v22 hX => ?_)
    refine lv_istore (lv' := [(5, .int v22), (4, .int v15), (3, .ref a13), (0, .ref o0), (1, .ref o1), (2, .ref o2)]) hx hb dX11_pickedPayCommon_52 hl (Nat.le_of_ble_eq_true rfl) rfl (fun ls hl => ?_)
    exact w_X11_pickedPayCommon_b54 cx hr mh_fu _ _ _ h21 _ _ ls wd (lv_sub hl [3, 1, 0] rfl) hX
  · refine lv_iconst (v := 0) hx hb dX11_pickedPayCommon_19 (by decide) ?_
    exact mh_zret cx wd hr hX dX11_pickedPayCommon_20
set_option maxRecDepth 100000 in
theorem c_X11_pickedPayCommon {l : Launch} {L : List Nat} {h h' : mh_H} {r : Int32} {o0 : Nat} {o1 : Nat} {o2 : Nat} (hX : f_X11_pickedPayCommon_e o0 o1 o2 h = some (r, h')) : mh_MI l yX11_pickedPayCommon (Cond.code yX11_pickedPayCommon cX11_pickedPayCommon 6 (some .boolean) :: mh_TB) (mh_rm 3) [.ref o0, .ref o1, .ref o2] L h r h' :=
  mh_of (mc := 0) (ms := 0) (Qc := fun D ks sz => mh_Qi D ks L sz r h') (plainFor_of_name (by decide)) (Nat.le_of_ble_eq_true rfl) (fun p e s m below meth c D ks ls hr cx wd hl => by
    have hl : lv_has ls 6 [(0, .ref o0), (1, .ref o1), (2, .ref o2)] := hl
    exact w_X11_pickedPayCommon_e cx hr o0 o1 o2 h _ _ ls wd hl hX)
def f_X11_countWays_b32 (t0 : Int64) (h : mh_H) : Option (Int64 × mh_H) :=
  some (t0, h)
def f_X11_countWays_e (o0 : Nat) (o1 : Nat) (x2 : Int32) (h : mh_H) : Option (Int64 × mh_H) :=
  (mh_gR h o0 11 7).bind fun a1 =>
  (mh_cal h a1 10 (f_X10_take_e a1 o1 h)).bind fun h2 =>
  (mh_gR h2 o0 11 7).bind fun a3 =>
  mh_b2 (mh_cal h2 a3 10 (f_X10_count_e a3 x2 h2)) fun w5 h4 =>
  if (lg_cmp w5 (4000000000000000000 : Int64)) ≤ 0 then (
  f_X11_countWays_b32 w5 h4) else
  f_X11_countWays_b32 (-2 : Int64) h4
set_option maxRecDepth 100000 in
set_option maxHeartbeats 4000000 in
theorem w_X11_countWays_b32 {p : Program} {l : Launch} {e : Env} {s : State} {m : MethodId} {args : Array Value} {below : List Frame} {meth : Method} {c : Code} {D : va_G} {ks : Nat → ClassId} {L : List Nat} {r : Int64} {h' : mh_H} (cx : mh_C p m c cX11_countWays 5 s args RX11 meth D ks (mh_A L s.heap.size)) (hr : meth.sig.returnType = (some .long)) :
    ∀ (t0 : Int64) (h : mh_H) (H : Heap) (locs : List Loc) (ls : Array Slot), mh_W D ks L (mh_A L s.heap.size) s.heap h H locs → lv_has ls 5 [] → f_X11_countWays_b32 t0 h = some (r, h') → W p l e (mh_rm 4) s m args below meth c H locs 0 0 (MQ below (mh_Ql D ks L s.heap.size r h') args s 0 0 (mh_A L s.heap.size)) (F0 m 32 ls [.long t0]) := by
  intro t0 h H locs ls wd hl hX
  have hx := cx.1.1
  have hb := cx.1.2.1
  unfold f_X11_countWays_b32 at hX
  exact mh_lret cx wd hr hX dX11_countWays_32
set_option maxRecDepth 100000 in
set_option maxHeartbeats 4000000 in
theorem w_X11_countWays_e {p : Program} {l : Launch} {e : Env} {s : State} {m : MethodId} {args : Array Value} {below : List Frame} {meth : Method} {c : Code} {D : va_G} {ks : Nat → ClassId} {L : List Nat} {r : Int64} {h' : mh_H} (cx : mh_C p m c cX11_countWays 5 s args RX11 meth D ks (mh_A L s.heap.size)) (hr : meth.sig.returnType = (some .long)) :
    ∀ (o0 : Nat) (o1 : Nat) (x2 : Int32) (h : mh_H) (H : Heap) (locs : List Loc) (ls : Array Slot), mh_W D ks L (mh_A L s.heap.size) s.heap h H locs → lv_has ls 5 [(0, .ref o0), (1, .ref o1), (2, .int x2)] → f_X11_countWays_e o0 o1 x2 h = some (r, h') → W p l e (mh_rm 4) s m args below meth c H locs 0 0 (MQ below (mh_Ql D ks L s.heap.size r h') args s 0 0 (mh_A L s.heap.size)) (F0 m 0 ls []) := by
  intro o0 o1 x2 h H locs ls wd hl hX
  have hx := cx.1.1
  have hb := cx.1.2.1
  unfold f_X11_countWays_e at hX
  refine lv_aload_n hx hb dX11_countWays_0 rfl (lv_at hl 0 rfl) ?_
  refine mh_getR cx wd fl_X11_57 dX11_countWays_1 hX (fun a1 hX => ?_)
  refine lv_aload_n hx hb dX11_countWays_4 rfl (lv_at hl 1 rfl) ?_
  refine mh_callVV cx wd [.ref o1] (rfl : vwCl[10]? = some (RX10, TX10, 3)) yw_X10_take vw_X11_380 rfl hl.1 rfl (Nat.le_of_ble_eq_true rfl) dX11_countWays_5 ⟨Nat.le_of_ble_eq_true rfl, Nat.le_of_ble_eq_true rfl⟩ ⟨Nat.le_refl _, Nat.le_refl _⟩ (fun _ q => c_X10_take q) hX (fun h2 H locs wd hX => ?_)
  refine lv_aload_n hx hb dX11_countWays_8 rfl (lv_at hl 0 rfl) ?_
  refine mh_getR cx wd fl_X11_57 dX11_countWays_9 hX (fun a3 hX => ?_)
  refine lv_iload_n hx hb dX11_countWays_12 rfl (lv_at hl 2 rfl) ?_
  refine mh_callVJ cx wd [.int x2] (rfl : vwCl[10]? = some (RX10, TX10, 3)) yw_X10_count vw_X11_381 rfl hl.1 rfl (Nat.le_of_ble_eq_true rfl) dX11_countWays_13 ⟨Nat.le_of_ble_eq_true rfl, Nat.le_of_ble_eq_true rfl⟩ ⟨Nat.le_refl _, Nat.le_refl _⟩ (fun _ _ q => c_X10_count q) hX (fun w5 h4 H locs wd hX => ?_)
  refine lv_lstore_n (lv' := [(3, .long w5), (0, .ref o0), (1, .ref o1), (2, .int x2)]) hx hb dX11_countWays_16 rfl hl (Nat.le_of_ble_eq_true rfl) rfl (fun ls hl => ?_)
  refine lv_lload_n hx hb dX11_countWays_17 rfl (lv_at hl 0 rfl) ?_
  refine mh_ldc2 cx kl_X11_384 dX11_countWays_18 ?_
  refine W.lcmp hx hb dX11_countWays_21 ?_
  refine lv_if_le (tgt := 31) hx hb dX11_countWays_22 rfl (fun hc => (fun hX => ?_) ((mh_if hX).1 hc)) (fun hc => (fun hX => ?_) ((mh_if hX).2 hc))
  · refine lv_lload_n hx hb dX11_countWays_31 rfl (lv_at hl 0 rfl) ?_
    exact w_X11_countWays_b32 cx hr _ h4 _ _ ls wd (lv_sub hl [] rfl) hX
  · refine mh_ldc2 cx kl_X11_282 dX11_countWays_25 ?_
    refine lv_goto (tgt := 32) hx hb dX11_countWays_28 rfl ?_
    exact w_X11_countWays_b32 cx hr _ h4 _ _ ls wd (lv_sub hl [] rfl) hX
set_option maxRecDepth 100000 in
theorem c_X11_countWays {l : Launch} {L : List Nat} {h h' : mh_H} {r : Int64} {o0 : Nat} {o1 : Nat} {x2 : Int32} (hX : f_X11_countWays_e o0 o1 x2 h = some (r, h')) : mh_MJ l yX11_countWays (Cond.code yX11_countWays cX11_countWays 5 (some .long) :: mh_TB) (mh_rm 4) [.ref o0, .ref o1, .int x2] L h r h' :=
  mh_of (mc := 0) (ms := 0) (Qc := fun D ks sz => mh_Ql D ks L sz r h') (plainFor_of_name (by decide)) (Nat.le_of_ble_eq_true rfl) (fun p e s m below meth c D ks ls hr cx wd hl => by
    have hl : lv_has ls 5 [(0, .ref o0), (1, .ref o1), (2, .int x2)] := hl
    exact w_X11_countWays_e cx hr o0 o1 x2 h _ _ ls wd hl hX)
def f_X11_cases_e (o0 : Nat) (h : mh_H) : Option (Int32 × mh_H) :=
  (mh_gR h o0 11 9).bind fun a1 =>
  mh_b2 (mh_cal h a1 9 (f_X9_looked_e a1 h)) fun v3 h2 =>
  some (v3, h2)
set_option maxRecDepth 100000 in
set_option maxHeartbeats 4000000 in
theorem w_X11_cases_e {p : Program} {l : Launch} {e : Env} {s : State} {m : MethodId} {args : Array Value} {below : List Frame} {meth : Method} {c : Code} {D : va_G} {ks : Nat → ClassId} {L : List Nat} {r : Int32} {h' : mh_H} (cx : mh_C p m c cX11_cases 1 s args RX11 meth D ks (mh_A L s.heap.size)) (hr : meth.sig.returnType = (some .int)) :
    ∀ (o0 : Nat) (h : mh_H) (H : Heap) (locs : List Loc) (ls : Array Slot), mh_W D ks L (mh_A L s.heap.size) s.heap h H locs → lv_has ls 1 [(0, .ref o0)] → f_X11_cases_e o0 h = some (r, h') → W p l e (mh_rm 1) s m args below meth c H locs 0 0 (MQ below (mh_Qi D ks L s.heap.size r h') args s 0 0 (mh_A L s.heap.size)) (F0 m 0 ls []) := by
  intro o0 h H locs ls wd hl hX
  have hx := cx.1.1
  have hb := cx.1.2.1
  unfold f_X11_cases_e at hX
  refine lv_aload_n hx hb dX11_cases_0 rfl (lv_at hl 0 rfl) ?_
  refine mh_getR cx wd fl_X11_71 dX11_cases_1 hX (fun a1 hX => ?_)
  refine mh_callVI cx wd [] (rfl : vwCl[9]? = some (RX9, TX9, 6)) yw_X9_looked vw_X11_321 rfl hl.1 rfl (Nat.le_of_ble_eq_true rfl) dX11_cases_4 ⟨Nat.le_of_ble_eq_true rfl, Nat.le_of_ble_eq_true rfl⟩ ⟨Nat.le_refl _, Nat.le_refl _⟩ (fun _ _ q => c_X9_looked q) hX (fun v3 h2 H locs wd hX => ?_)
  exact mh_iret cx wd hr hX dX11_cases_7
set_option maxRecDepth 100000 in
theorem c_X11_cases {l : Launch} {L : List Nat} {h h' : mh_H} {r : Int32} {o0 : Nat} (hX : f_X11_cases_e o0 h = some (r, h')) : mh_MI l yX11_cases (Cond.code yX11_cases cX11_cases 1 (some .int) :: mh_TB) (mh_rm 1) [.ref o0] L h r h' :=
  mh_of (mc := 0) (ms := 0) (Qc := fun D ks sz => mh_Qi D ks L sz r h') (plainFor_of_name (by decide)) (Nat.le_of_ble_eq_true rfl) (fun p e s m below meth c D ks ls hr cx wd hl => by
    have hl : lv_has ls 1 [(0, .ref o0)] := hl
    exact w_X11_cases_e cx hr o0 h _ _ ls wd hl hX)
def f_X11_moved_e (o0 : Nat) (x1 : Int32) (x2 : Int32) (h : mh_H) : Option (Int32 × mh_H) :=
  (mh_gR h o0 11 10).bind fun a1 =>
  mh_b2 (mh_cal h a1 8 (f_X8_size_e a1 (x1 + x2) h)) fun v3 h2 =>
  (mh_gR h2 o0 11 11).bind fun a4 =>
  mh_b2 (mh_cal h2 a4 8 (f_X8_size_e a4 x2 h2)) fun v6 h5 =>
  some ((v3 + v6), h5)
set_option maxRecDepth 100000 in
set_option maxHeartbeats 4000000 in
theorem w_X11_moved_e {p : Program} {l : Launch} {e : Env} {s : State} {m : MethodId} {args : Array Value} {below : List Frame} {meth : Method} {c : Code} {D : va_G} {ks : Nat → ClassId} {L : List Nat} {r : Int32} {h' : mh_H} (cx : mh_C p m c cX11_moved 3 s args RX11 meth D ks (mh_A L s.heap.size)) (hr : meth.sig.returnType = (some .int)) :
    ∀ (o0 : Nat) (x1 : Int32) (x2 : Int32) (h : mh_H) (H : Heap) (locs : List Loc) (ls : Array Slot), mh_W D ks L (mh_A L s.heap.size) s.heap h H locs → lv_has ls 3 [(0, .ref o0), (1, .int x1), (2, .int x2)] → f_X11_moved_e o0 x1 x2 h = some (r, h') → W p l e (mh_rm 2) s m args below meth c H locs 0 0 (MQ below (mh_Qi D ks L s.heap.size r h') args s 0 0 (mh_A L s.heap.size)) (F0 m 0 ls []) := by
  intro o0 x1 x2 h H locs ls wd hl hX
  have hx := cx.1.1
  have hb := cx.1.2.1
  unfold f_X11_moved_e at hX
  refine lv_aload_n hx hb dX11_moved_0 rfl (lv_at hl 0 rfl) ?_
  refine mh_getR cx wd fl_X11_78 dX11_moved_1 hX (fun a1 hX => ?_)
  refine lv_iload_n hx hb dX11_moved_4 rfl (lv_at hl 1 rfl) ?_
  refine lv_iload_n hx hb dX11_moved_5 rfl (lv_at hl 2 rfl) ?_
  refine lv_iadd hx hb dX11_moved_6 ?_
  refine mh_callVI cx wd [.int (x1 + x2)] (rfl : vwCl[8]? = some (RX8, TX8, 3)) yw_X8_size vw_X11_337 rfl hl.1 rfl (Nat.le_of_ble_eq_true rfl) dX11_moved_7 ⟨Nat.le_of_ble_eq_true rfl, Nat.le_of_ble_eq_true rfl⟩ ⟨Nat.le_refl _, Nat.le_refl _⟩ (fun _ _ q => c_X8_size q) hX (fun v3 h2 H locs wd hX => ?_)
  refine lv_aload_n hx hb dX11_moved_10 rfl (lv_at hl 0 rfl) ?_
  refine mh_getR cx wd fl_X11_82 dX11_moved_11 hX (fun a4 hX => ?_)
  refine lv_iload_n hx hb dX11_moved_14 rfl (lv_at hl 2 rfl) ?_
  refine mh_callVI cx wd [.int x2] (rfl : vwCl[8]? = some (RX8, TX8, 3)) yw_X8_size vw_X11_337 rfl hl.1 rfl (Nat.le_of_ble_eq_true rfl) dX11_moved_15 ⟨Nat.le_of_ble_eq_true rfl, Nat.le_of_ble_eq_true rfl⟩ ⟨Nat.le_refl _, Nat.le_refl _⟩ (fun _ _ q => c_X8_size q) hX (fun v6 h5 H locs wd hX => ?_)
  refine lv_iadd hx hb dX11_moved_18 ?_
  exact mh_iret cx wd hr hX dX11_moved_19
set_option maxRecDepth 100000 in
theorem c_X11_moved {l : Launch} {L : List Nat} {h h' : mh_H} {r : Int32} {o0 : Nat} {x1 : Int32} {x2 : Int32} (hX : f_X11_moved_e o0 x1 x2 h = some (r, h')) : mh_MI l yX11_moved (Cond.code yX11_moved cX11_moved 3 (some .int) :: mh_TB) (mh_rm 2) [.ref o0, .int x1, .int x2] L h r h' :=
  mh_of (mc := 0) (ms := 0) (Qc := fun D ks sz => mh_Qi D ks L sz r h') (plainFor_of_name (by decide)) (Nat.le_of_ble_eq_true rfl) (fun p e s m below meth c D ks ls hr cx wd hl => by
    have hl : lv_has ls 3 [(0, .ref o0), (1, .int x1), (2, .int x2)] := hl
    exact w_X11_moved_e cx hr o0 x1 x2 h _ _ ls wd hl hX)
def f_J9_max_7cf53_b10 (t0 : Int32) (h : mh_H) : Option (Int32 × mh_H) :=
  some (t0, h)
def f_J9_max_7cf53_e (x0 : Int32) (x1 : Int32) (h : mh_H) : Option (Int32 × mh_H) :=
  if x0 < x1 then (
  f_J9_max_7cf53_b10 x1 h) else
  f_J9_max_7cf53_b10 x0 h
set_option maxRecDepth 100000 in
set_option maxHeartbeats 4000000 in
theorem w_J9_max_7cf53_b10 {p : Program} {l : Launch} {e : Env} {s : State} {m : MethodId} {args : Array Value} {below : List Frame} {meth : Method} {c : Code} {D : va_G} {ks : Nat → ClassId} {L : List Nat} {r : Int32} {h' : mh_H} (cx : mh_C p m c cJ9_max_7cf53 2 s args RJ9 meth D ks (mh_A L s.heap.size)) (hr : meth.sig.returnType = (some .int)) :
    ∀ (t0 : Int32) (h : mh_H) (H : Heap) (locs : List Loc) (ls : Array Slot), mh_W D ks L (mh_A L s.heap.size) s.heap h H locs → lv_has ls 2 [] → f_J9_max_7cf53_b10 t0 h = some (r, h') → W p l e (mh_rm 0) s m args below meth c H locs 0 0 (MQ below (mh_Qi D ks L s.heap.size r h') args s 0 0 (mh_A L s.heap.size)) (F0 m 10 ls [.int t0]) := by
  intro t0 h H locs ls wd hl hX
  have hx := cx.1.1
  have hb := cx.1.2.1
  unfold f_J9_max_7cf53_b10 at hX
  exact mh_iret cx wd hr hX dJ9_max_7cf53_10
set_option maxRecDepth 100000 in
set_option maxHeartbeats 4000000 in
theorem w_J9_max_7cf53_e {p : Program} {l : Launch} {e : Env} {s : State} {m : MethodId} {args : Array Value} {below : List Frame} {meth : Method} {c : Code} {D : va_G} {ks : Nat → ClassId} {L : List Nat} {r : Int32} {h' : mh_H} (cx : mh_C p m c cJ9_max_7cf53 2 s args RJ9 meth D ks (mh_A L s.heap.size)) (hr : meth.sig.returnType = (some .int)) :
    ∀ (x0 : Int32) (x1 : Int32) (h : mh_H) (H : Heap) (locs : List Loc) (ls : Array Slot), mh_W D ks L (mh_A L s.heap.size) s.heap h H locs → lv_has ls 2 [(0, .int x0), (1, .int x1)] → f_J9_max_7cf53_e x0 x1 h = some (r, h') → W p l e (mh_rm 0) s m args below meth c H locs 0 0 (MQ below (mh_Qi D ks L s.heap.size r h') args s 0 0 (mh_A L s.heap.size)) (F0 m 0 ls []) := by
  intro x0 x1 h H locs ls wd hl hX
  have hx := cx.1.1
  have hb := cx.1.2.1
  unfold f_J9_max_7cf53_e at hX
  refine lv_iload_n hx hb dJ9_max_7cf53_0 rfl (lv_at hl 0 rfl) ?_
  refine lv_iload_n hx hb dJ9_max_7cf53_1 rfl (lv_at hl 1 rfl) ?_
  refine lv_icmp_lt (tgt := 9) hx hb dJ9_max_7cf53_2 rfl (fun hc => (fun hX => ?_) ((mh_if hX).1 hc)) (fun hc => (fun hX => ?_) ((mh_if hX).2 hc))
  · refine lv_iload_n hx hb dJ9_max_7cf53_9 rfl (lv_at hl 1 rfl) ?_
    exact w_J9_max_7cf53_b10 cx hr _ h _ _ ls wd (lv_sub hl [] rfl) hX
  · refine lv_iload_n hx hb dJ9_max_7cf53_5 rfl (lv_at hl 0 rfl) ?_
    refine lv_goto (tgt := 10) hx hb dJ9_max_7cf53_6 rfl ?_
    exact w_J9_max_7cf53_b10 cx hr _ h _ _ ls wd (lv_sub hl [] rfl) hX
set_option maxRecDepth 100000 in
theorem c_J9_max_7cf53 {l : Launch} {L : List Nat} {h h' : mh_H} {r : Int32} {x0 : Int32} {x1 : Int32} (hX : f_J9_max_7cf53_e x0 x1 h = some (r, h')) : mh_MI l yJ9_max_7cf53 (Cond.code yJ9_max_7cf53 cJ9_max_7cf53 2 (some .int) :: mh_TB) (mh_rm 0) [.int x0, .int x1] L h r h' :=
  mh_of (mc := 0) (ms := 0) (Qc := fun D ks sz => mh_Qi D ks L sz r h') (by decide +kernel) (Nat.le_of_ble_eq_true rfl) (fun p e s m below meth c D ks ls hr cx wd hl => by
    have hl : lv_has ls 2 [(0, .int x0), (1, .int x1)] := hl
    exact w_J9_max_7cf53_e cx hr x0 x1 h _ _ ls wd hl hX)
def f_J9_min_7cf53_b10 (t0 : Int32) (h : mh_H) : Option (Int32 × mh_H) :=
  some (t0, h)
def f_J9_min_7cf53_e (x0 : Int32) (x1 : Int32) (h : mh_H) : Option (Int32 × mh_H) :=
  if x1 < x0 then (
  f_J9_min_7cf53_b10 x1 h) else
  f_J9_min_7cf53_b10 x0 h
set_option maxRecDepth 100000 in
set_option maxHeartbeats 4000000 in
theorem w_J9_min_7cf53_b10 {p : Program} {l : Launch} {e : Env} {s : State} {m : MethodId} {args : Array Value} {below : List Frame} {meth : Method} {c : Code} {D : va_G} {ks : Nat → ClassId} {L : List Nat} {r : Int32} {h' : mh_H} (cx : mh_C p m c cJ9_min_7cf53 2 s args RJ9 meth D ks (mh_A L s.heap.size)) (hr : meth.sig.returnType = (some .int)) :
    ∀ (t0 : Int32) (h : mh_H) (H : Heap) (locs : List Loc) (ls : Array Slot), mh_W D ks L (mh_A L s.heap.size) s.heap h H locs → lv_has ls 2 [] → f_J9_min_7cf53_b10 t0 h = some (r, h') → W p l e (mh_rm 0) s m args below meth c H locs 0 0 (MQ below (mh_Qi D ks L s.heap.size r h') args s 0 0 (mh_A L s.heap.size)) (F0 m 10 ls [.int t0]) := by
  intro t0 h H locs ls wd hl hX
  have hx := cx.1.1
  have hb := cx.1.2.1
  unfold f_J9_min_7cf53_b10 at hX
  exact mh_iret cx wd hr hX dJ9_min_7cf53_10
set_option maxRecDepth 100000 in
set_option maxHeartbeats 4000000 in
theorem w_J9_min_7cf53_e {p : Program} {l : Launch} {e : Env} {s : State} {m : MethodId} {args : Array Value} {below : List Frame} {meth : Method} {c : Code} {D : va_G} {ks : Nat → ClassId} {L : List Nat} {r : Int32} {h' : mh_H} (cx : mh_C p m c cJ9_min_7cf53 2 s args RJ9 meth D ks (mh_A L s.heap.size)) (hr : meth.sig.returnType = (some .int)) :
    ∀ (x0 : Int32) (x1 : Int32) (h : mh_H) (H : Heap) (locs : List Loc) (ls : Array Slot), mh_W D ks L (mh_A L s.heap.size) s.heap h H locs → lv_has ls 2 [(0, .int x0), (1, .int x1)] → f_J9_min_7cf53_e x0 x1 h = some (r, h') → W p l e (mh_rm 0) s m args below meth c H locs 0 0 (MQ below (mh_Qi D ks L s.heap.size r h') args s 0 0 (mh_A L s.heap.size)) (F0 m 0 ls []) := by
  intro x0 x1 h H locs ls wd hl hX
  have hx := cx.1.1
  have hb := cx.1.2.1
  unfold f_J9_min_7cf53_e at hX
  refine lv_iload_n hx hb dJ9_min_7cf53_0 rfl (lv_at hl 0 rfl) ?_
  refine lv_iload_n hx hb dJ9_min_7cf53_1 rfl (lv_at hl 1 rfl) ?_
  refine lv_icmp_gt (tgt := 9) hx hb dJ9_min_7cf53_2 rfl (fun hc => (fun hX => ?_) ((mh_if hX).1 hc)) (fun hc => (fun hX => ?_) ((mh_if hX).2 hc))
  · refine lv_iload_n hx hb dJ9_min_7cf53_9 rfl (lv_at hl 1 rfl) ?_
    exact w_J9_min_7cf53_b10 cx hr _ h _ _ ls wd (lv_sub hl [] rfl) hX
  · refine lv_iload_n hx hb dJ9_min_7cf53_5 rfl (lv_at hl 0 rfl) ?_
    refine lv_goto (tgt := 10) hx hb dJ9_min_7cf53_6 rfl ?_
    exact w_J9_min_7cf53_b10 cx hr _ h _ _ ls wd (lv_sub hl [] rfl) hX
set_option maxRecDepth 100000 in
theorem c_J9_min_7cf53 {l : Launch} {L : List Nat} {h h' : mh_H} {r : Int32} {x0 : Int32} {x1 : Int32} (hX : f_J9_min_7cf53_e x0 x1 h = some (r, h')) : mh_MI l yJ9_min_7cf53 (Cond.code yJ9_min_7cf53 cJ9_min_7cf53 2 (some .int) :: mh_TB) (mh_rm 0) [.int x0, .int x1] L h r h' :=
  mh_of (mc := 0) (ms := 0) (Qc := fun D ks sz => mh_Qi D ks L sz r h') (by decide +kernel) (Nat.le_of_ble_eq_true rfl) (fun p e s m below meth c D ks ls hr cx wd hl => by
    have hl : lv_has ls 2 [(0, .int x0), (1, .int x1)] := hl
    exact w_J9_min_7cf53_e cx hr x0 x1 h _ _ ls wd hl hX)
def f_J9_min_f86c9_b11 (t0 : Int64) (h : mh_H) : Option (Int64 × mh_H) :=
  some (t0, h)
def f_J9_min_f86c9_e (y0 : Int64) (y2 : Int64) (h : mh_H) : Option (Int64 × mh_H) :=
  if 0 < (lg_cmp y0 y2) then (
  f_J9_min_f86c9_b11 y2 h) else
  f_J9_min_f86c9_b11 y0 h
set_option maxRecDepth 100000 in
set_option maxHeartbeats 4000000 in
theorem w_J9_min_f86c9_b11 {p : Program} {l : Launch} {e : Env} {s : State} {m : MethodId} {args : Array Value} {below : List Frame} {meth : Method} {c : Code} {D : va_G} {ks : Nat → ClassId} {L : List Nat} {r : Int64} {h' : mh_H} (cx : mh_C p m c cJ9_min_f86c9 4 s args RJ9 meth D ks (mh_A L s.heap.size)) (hr : meth.sig.returnType = (some .long)) :
    ∀ (t0 : Int64) (h : mh_H) (H : Heap) (locs : List Loc) (ls : Array Slot), mh_W D ks L (mh_A L s.heap.size) s.heap h H locs → lv_has ls 4 [] → f_J9_min_f86c9_b11 t0 h = some (r, h') → W p l e (mh_rm 0) s m args below meth c H locs 0 0 (MQ below (mh_Ql D ks L s.heap.size r h') args s 0 0 (mh_A L s.heap.size)) (F0 m 11 ls [.long t0]) := by
  intro t0 h H locs ls wd hl hX
  have hx := cx.1.1
  have hb := cx.1.2.1
  unfold f_J9_min_f86c9_b11 at hX
  exact mh_lret cx wd hr hX dJ9_min_f86c9_11
set_option maxRecDepth 100000 in
set_option maxHeartbeats 4000000 in
theorem w_J9_min_f86c9_e {p : Program} {l : Launch} {e : Env} {s : State} {m : MethodId} {args : Array Value} {below : List Frame} {meth : Method} {c : Code} {D : va_G} {ks : Nat → ClassId} {L : List Nat} {r : Int64} {h' : mh_H} (cx : mh_C p m c cJ9_min_f86c9 4 s args RJ9 meth D ks (mh_A L s.heap.size)) (hr : meth.sig.returnType = (some .long)) :
    ∀ (y0 : Int64) (y2 : Int64) (h : mh_H) (H : Heap) (locs : List Loc) (ls : Array Slot), mh_W D ks L (mh_A L s.heap.size) s.heap h H locs → lv_has ls 4 [(0, .long y0), (2, .long y2)] → f_J9_min_f86c9_e y0 y2 h = some (r, h') → W p l e (mh_rm 0) s m args below meth c H locs 0 0 (MQ below (mh_Ql D ks L s.heap.size r h') args s 0 0 (mh_A L s.heap.size)) (F0 m 0 ls []) := by
  intro y0 y2 h H locs ls wd hl hX
  have hx := cx.1.1
  have hb := cx.1.2.1
  unfold f_J9_min_f86c9_e at hX
  refine lv_lload_n hx hb dJ9_min_f86c9_0 rfl (lv_at hl 0 rfl) ?_
  refine lv_lload_n hx hb dJ9_min_f86c9_1 rfl (lv_at hl 1 rfl) ?_
  refine W.lcmp hx hb dJ9_min_f86c9_2 ?_
  refine lv_if_gt (tgt := 10) hx hb dJ9_min_f86c9_3 rfl (fun hc => (fun hX => ?_) ((mh_if hX).1 hc)) (fun hc => (fun hX => ?_) ((mh_if hX).2 hc))
  · refine lv_lload_n hx hb dJ9_min_f86c9_10 rfl (lv_at hl 1 rfl) ?_
    exact w_J9_min_f86c9_b11 cx hr _ h _ _ ls wd (lv_sub hl [] rfl) hX
  · refine lv_lload_n hx hb dJ9_min_f86c9_6 rfl (lv_at hl 0 rfl) ?_
    refine lv_goto (tgt := 11) hx hb dJ9_min_f86c9_7 rfl ?_
    exact w_J9_min_f86c9_b11 cx hr _ h _ _ ls wd (lv_sub hl [] rfl) hX
set_option maxRecDepth 100000 in
theorem c_J9_min_f86c9 {l : Launch} {L : List Nat} {h h' : mh_H} {r : Int64} {y0 : Int64} {y2 : Int64} (hX : f_J9_min_f86c9_e y0 y2 h = some (r, h')) : mh_MJ l yJ9_min_f86c9 (Cond.code yJ9_min_f86c9 cJ9_min_f86c9 4 (some .long) :: mh_TB) (mh_rm 0) [.long y0, .long y2] L h r h' :=
  mh_of (mc := 0) (ms := 0) (Qc := fun D ks sz => mh_Ql D ks L sz r h') (by decide +kernel) (Nat.le_of_ble_eq_true rfl) (fun p e s m below meth c D ks ls hr cx wd hl => by
    have hl : lv_has ls 4 [(0, .long y0), (2, .long y2)] := hl
    exact w_J9_min_f86c9_e cx hr y0 y2 h _ _ ls wd hl hX)
