def f_X11_ways_e (o0 : Nat) (x1 : Int32) (x2 : Int32) (h : mh_H) : Option ((Nat ⊕ Int64) × mh_H) :=
  mh_bx (mh_cal h o0 11 (f_X11_mintAt_e o0 x1 h)) fun a2 h1 =>
  mh_bx (f_X11_checkCounted_e x2 h1) fun _ h3 =>
  mh_b2 (mh_cal h3 o0 11 (f_X11_countWays_e o0 a2 x2 h3)) fun w5 h4 =>
  some (.inr w5, h4)
set_option maxRecDepth 100000 in
set_option maxHeartbeats 4000000 in
theorem w_X11_ways_e {p : Program} {l : Launch} {e : Env} {s : State} {m : MethodId} {args : Array Value} {below : List Frame} {meth : Method} {c : Code} {D : va_G} {ks : Nat → ClassId} {L : List Nat} {r : Nat ⊕ Int64} {h' : mh_H} (cx : mh_C p m c cX11_ways 4 s args RX11 meth D ks (mh_A L s.heap.size)) (th : mh_Th l (mh_A L s.heap.size) s) (ht : ∀ x ∈ c.exceptionTable.toList, False) (hr : meth.sig.returnType = (some .long)) :
    ∀ (o0 : Nat) (x1 : Int32) (x2 : Int32) (h : mh_H) (H : Heap) (locs : List Loc) (ls : Array Slot), mh_W D ks L (mh_A L s.heap.size) s.heap h H locs → lv_has ls 4 [(0, .ref o0), (1, .int x1), (2, .int x2)] → f_X11_ways_e o0 x1 x2 h = some (r, h') → W p l e (mh_rx 7 2) s m args below meth c H locs 0 0 (vx_MQ below (mh_Qx D ks L s.heap.size (mh_em mh_eJ r) h') (mh_XC D ks L s.heap.size (mh_em mh_eJ r) h') args s 2 12 (mh_A L s.heap.size)) (F0 m 0 ls []) := by
  intro o0 x1 x2 h H locs ls wd hl hX
  have hx := cx.1.1
  have hb := cx.1.2.1
  unfold f_X11_ways_e at hX
  refine lv_aload_n hx hb dX11_ways_0 rfl (lv_at hl 0 rfl) ?_
  refine lv_iload_n hx hb dX11_ways_1 rfl (lv_at hl 1 rfl) ?_
  refine mh_xV mh_eR mh_eJ (K := 1) [.int x1] cx th ht wd (rfl : vwCl[11]? = some (RX11, TX11, 16)) yw_X11_mintAt vw_X11_131 rfl hl.1 rfl (Nat.le_of_ble_eq_true rfl) dX11_ways_2 ⟨Nat.le_of_ble_eq_true rfl, Nat.le_of_ble_eq_true rfl⟩ ⟨Nat.le_of_ble_eq_true rfl, Nat.le_of_ble_eq_true rfl⟩ ⟨Nat.le_of_ble_eq_true rfl, Nat.le_of_ble_eq_true rfl⟩ (fun _ _ q => c_X11_mintAt q) hX (fun a2 h1 H locs wd hX => ?_)
  refine W.eq (g2 := F0 m 5 ls [.ref a2]) rfl ?_
  refine lv_astore_n (lv' := [(3, .ref a2), (0, .ref o0), (1, .int x1), (2, .int x2)]) hx hb dX11_ways_5 rfl hl (Nat.le_of_ble_eq_true rfl) rfl (fun ls hl => ?_)
  refine lv_iload_n hx hb dX11_ways_6 rfl (lv_at hl 3 rfl) ?_
  refine mh_xS mh_eV mh_eJ (K := 1) [.int x2] cx th ht wd yw_X11_checkCounted sw_X11_246 rfl hl.1 rfl (Nat.le_of_ble_eq_true rfl) dX11_ways_7 ⟨Nat.le_of_ble_eq_true rfl, Nat.le_of_ble_eq_true rfl⟩ ⟨Nat.le_of_ble_eq_true rfl, Nat.le_of_ble_eq_true rfl⟩ ⟨Nat.le_of_ble_eq_true rfl, Nat.le_of_ble_eq_true rfl⟩ (fun _ _ q => c_X11_checkCounted q) hX (fun _ h3 H locs wd hX => ?_)
  refine W.eq (g2 := F0 m 10 ls []) rfl ?_
  refine lv_aload_n hx hb dX11_ways_10 rfl (lv_at hl 1 rfl) ?_
  refine lv_aload_n hx hb dX11_ways_11 rfl (lv_at hl 0 rfl) ?_
  refine lv_iload_n hx hb dX11_ways_12 rfl (lv_at hl 3 rfl) ?_
  refine mh_callVJ cx wd [.ref a2, .int x2] (rfl : vwCl[11]? = some (RX11, TX11, 16)) yw_X11_countWays vw_X11_249 rfl hl.1 rfl (Nat.le_of_ble_eq_true rfl) dX11_ways_13 ⟨Nat.le_of_ble_eq_true rfl, Nat.le_of_ble_eq_true rfl⟩ ⟨Nat.le_of_ble_eq_true rfl, Nat.le_of_ble_eq_true rfl⟩ (fun _ _ q => c_X11_countWays q) hX (fun w5 h4 H locs wd hX => ?_)
  exact mh_xlret cx wd hr hX dX11_ways_16 ⟨Nat.le_of_ble_eq_true rfl, Nat.le_of_ble_eq_true rfl⟩
set_option maxRecDepth 100000 in
theorem c_X11_ways {l : Launch} {L : List Nat} {h h' : mh_H} {r : Nat ⊕ Int64} {o0 : Nat} {x1 : Int32} {x2 : Int32} (hX : f_X11_ways_e o0 x1 x2 h = some (r, h')) : mh_Mx l yX11_ways (Cond.code yX11_ways cX11_ways 4 (some .long) :: mh_TB) (mh_rx 7 2) [.ref o0, .int x1, .int x2] L h (mh_em mh_eJ r) h' 2 12 :=
  mh_xof (by decide) (Nat.le_of_ble_eq_true rfl) (fun p e s m below meth c D ks ls hr cx th ht wd hl => by
    have hl : lv_has ls 4 [(0, .ref o0), (1, .int x1), (2, .int x2)] := hl
    exact w_X11_ways_e cx th ht hr o0 x1 x2 h _ _ ls wd hl hX)
def f_X11_of_b29 (h : mh_H) : Option ((Nat ⊕ Int32) × mh_H) :=
  mh_rzx (0 : Int32) h
def f_X11_of_e (o0 : Nat) (x1 : Int32) (x2 : Int32) (y3 : Int64) (h : mh_H) : Option ((Nat ⊕ Int32) × mh_H) :=
  mh_bx (mh_cal h o0 11 (f_X11_mintAt_e o0 x1 h)) fun a2 h1 =>
  mh_bx (f_X11_checkCounted_e x2 h1) fun _ h3 =>
  if (lg_cmp y3 (0 : Int64)) < 0 then (
  f_X11_of_b29 h3) else
  mh_b2 (mh_cal h3 o0 11 (f_X11_countWays_e o0 a2 x2 h3)) fun w5 h4 =>
  if (lg_cmp y3 w5) < 0 then (
  (mh_gR h4 o0 11 14).bind fun a6 =>
  (mh_cal h4 a6 7 (f_X7_refit_e a6 a2 h4)).bind fun h7 =>
  (mh_gR h7 o0 11 7).bind fun a8 =>
  (mh_gR h7 o0 11 14).bind fun a9 =>
  (mh_cal h7 a8 10 (f_X10_lay_e a8 x2 y3 a9 h7)).bind fun h10 =>
  (mh_pZ h10 o0 11 15 (1 : Int32)).bind fun h11 =>
  mh_rzx (1 : Int32) h11) else
  f_X11_of_b29 h4
set_option maxRecDepth 100000 in
set_option maxHeartbeats 4000000 in
theorem w_X11_of_b29 {p : Program} {l : Launch} {e : Env} {s : State} {m : MethodId} {args : Array Value} {below : List Frame} {meth : Method} {c : Code} {D : va_G} {ks : Nat → ClassId} {L : List Nat} {r : Nat ⊕ Int32} {h' : mh_H} (cx : mh_C p m c cX11_of 6 s args RX11 meth D ks (mh_A L s.heap.size)) (th : mh_Th l (mh_A L s.heap.size) s) (ht : ∀ x ∈ c.exceptionTable.toList, False) (hr : meth.sig.returnType = (some .boolean)) :
    ∀ (h : mh_H) (H : Heap) (locs : List Loc) (ls : Array Slot), mh_W D ks L (mh_A L s.heap.size) s.heap h H locs → lv_has ls 6 [] → f_X11_of_b29  h = some (r, h') → W p l e (mh_rx 7 2) s m args below meth c H locs 2 12 (vx_MQ below (mh_Qx D ks L s.heap.size (mh_em mh_eI r) h') (mh_XC D ks L s.heap.size (mh_em mh_eI r) h') args s 2 12 (mh_A L s.heap.size)) (F0 m 29 ls []) := by
  intro  h H locs ls wd hl hX
  have hx := cx.1.1
  have hb := cx.1.2.1
  unfold f_X11_of_b29 at hX
  refine lv_iconst (v := 0) hx hb dX11_of_29 (by decide) ?_
  exact mh_xzret cx wd hr hX dX11_of_30 ⟨Nat.le_of_ble_eq_true rfl, Nat.le_of_ble_eq_true rfl⟩
set_option maxRecDepth 100000 in
set_option maxHeartbeats 4000000 in
theorem w_X11_of_e {p : Program} {l : Launch} {e : Env} {s : State} {m : MethodId} {args : Array Value} {below : List Frame} {meth : Method} {c : Code} {D : va_G} {ks : Nat → ClassId} {L : List Nat} {r : Nat ⊕ Int32} {h' : mh_H} (cx : mh_C p m c cX11_of 6 s args RX11 meth D ks (mh_A L s.heap.size)) (th : mh_Th l (mh_A L s.heap.size) s) (ht : ∀ x ∈ c.exceptionTable.toList, False) (hr : meth.sig.returnType = (some .boolean)) :
    ∀ (o0 : Nat) (x1 : Int32) (x2 : Int32) (y3 : Int64) (h : mh_H) (H : Heap) (locs : List Loc) (ls : Array Slot), mh_W D ks L (mh_A L s.heap.size) s.heap h H locs → lv_has ls 6 [(0, .ref o0), (1, .int x1), (2, .int x2), (3, .long y3)] → f_X11_of_e o0 x1 x2 y3 h = some (r, h') → W p l e (mh_rx 7 2) s m args below meth c H locs 0 0 (vx_MQ below (mh_Qx D ks L s.heap.size (mh_em mh_eI r) h') (mh_XC D ks L s.heap.size (mh_em mh_eI r) h') args s 2 12 (mh_A L s.heap.size)) (F0 m 0 ls []) := by
  intro o0 x1 x2 y3 h H locs ls wd hl hX
  have hx := cx.1.1
  have hb := cx.1.2.1
  unfold f_X11_of_e at hX
  refine lv_aload_n hx hb dX11_of_0 rfl (lv_at hl 0 rfl) ?_
  refine lv_iload_n hx hb dX11_of_1 rfl (lv_at hl 1 rfl) ?_
  refine mh_xV mh_eR mh_eI (K := 1) [.int x1] cx th ht wd (rfl : vwCl[11]? = some (RX11, TX11, 16)) yw_X11_mintAt vw_X11_131 rfl hl.1 rfl (Nat.le_of_ble_eq_true rfl) dX11_of_2 ⟨Nat.le_of_ble_eq_true rfl, Nat.le_of_ble_eq_true rfl⟩ ⟨Nat.le_of_ble_eq_true rfl, Nat.le_of_ble_eq_true rfl⟩ ⟨Nat.le_of_ble_eq_true rfl, Nat.le_of_ble_eq_true rfl⟩ (fun _ _ q => c_X11_mintAt q) hX (fun a2 h1 H locs wd hX => ?_)
  refine W.eq (g2 := F0 m 5 ls [.ref a2]) rfl ?_
  refine lv_astore (lv' := [(5, .ref a2), (0, .ref o0), (1, .int x1), (2, .int x2), (3, .long y3)]) hx hb dX11_of_5 hl (Nat.le_of_ble_eq_true rfl) rfl (fun ls hl => ?_)
  refine lv_iload_n hx hb dX11_of_7 rfl (lv_at hl 3 rfl) ?_
  refine mh_xS mh_eV mh_eI (K := 1) [.int x2] cx th ht wd yw_X11_checkCounted sw_X11_246 rfl hl.1 rfl (Nat.le_of_ble_eq_true rfl) dX11_of_8 ⟨Nat.le_of_ble_eq_true rfl, Nat.le_of_ble_eq_true rfl⟩ ⟨Nat.le_of_ble_eq_true rfl, Nat.le_of_ble_eq_true rfl⟩ ⟨Nat.le_of_ble_eq_true rfl, Nat.le_of_ble_eq_true rfl⟩ (fun _ _ q => c_X11_checkCounted q) hX (fun _ h3 H locs wd hX => ?_)
  refine W.eq (g2 := F0 m 11 ls []) rfl ?_
  refine lv_lload_n hx hb dX11_of_11 rfl (lv_at hl 4 rfl) ?_
  refine lv_lconst (v := 0) hx hb dX11_of_12 (by decide) ?_
  refine W.lcmp hx hb dX11_of_13 ?_
  refine lv_if_lt (tgt := 29) hx hb dX11_of_14 rfl (fun hc => (fun hX => ?_) ((mh_if hX).1 hc)) (fun hc => (fun hX => ?_) ((mh_if hX).2 hc))
  · exact w_X11_of_b29 cx th ht hr  h3 _ _ ls wd (lv_sub hl [] rfl) hX
  · refine lv_lload_n hx hb dX11_of_17 rfl (lv_at hl 4 rfl) ?_
    refine lv_aload_n hx hb dX11_of_18 rfl (lv_at hl 1 rfl) ?_
    refine lv_aload hx hb dX11_of_19 (lv_at hl 0 rfl) ?_
    refine lv_iload_n hx hb dX11_of_21 rfl (lv_at hl 3 rfl) ?_
    refine mh_callVJ cx wd [.ref a2, .int x2] (rfl : vwCl[11]? = some (RX11, TX11, 16)) yw_X11_countWays vw_X11_249 rfl hl.1 rfl (Nat.le_of_ble_eq_true rfl) dX11_of_22 ⟨Nat.le_of_ble_eq_true rfl, Nat.le_of_ble_eq_true rfl⟩ ⟨Nat.le_of_ble_eq_true rfl, Nat.le_of_ble_eq_true rfl⟩ (fun _ _ q => c_X11_countWays q) hX (fun w5 h4 H locs wd hX => ?_)
    refine W.lcmp hx hb dX11_of_25 ?_
    refine lv_if_lt (tgt := 31) hx hb dX11_of_26 rfl (fun hc => (fun hX => ?_) ((mh_if hX).1 hc)) (fun hc => (fun hX => ?_) ((mh_if hX).2 hc))
    · refine lv_aload_n hx hb dX11_of_31 rfl (lv_at hl 1 rfl) ?_
      refine mh_getR cx wd fl_X11_95 dX11_of_32 hX (fun a6 hX => ?_)
      refine lv_aload hx hb dX11_of_35 (lv_at hl 0 rfl) ?_
      refine mh_callVV cx wd [.ref a2] (rfl : vwCl[7]? = some (RX7, TX7, 2)) yw_X7_refit vw_X11_253 rfl hl.1 rfl (Nat.le_of_ble_eq_true rfl) dX11_of_37 ⟨Nat.le_of_ble_eq_true rfl, Nat.le_of_ble_eq_true rfl⟩ ⟨Nat.le_of_ble_eq_true rfl, Nat.le_of_ble_eq_true rfl⟩ (fun _ q => c_X7_refit q) hX (fun h7 H locs wd hX => ?_)
      refine lv_aload_n hx hb dX11_of_40 rfl (lv_at hl 1 rfl) ?_
      refine mh_getR cx wd fl_X11_57 dX11_of_41 hX (fun a8 hX => ?_)
      refine lv_iload_n hx hb dX11_of_44 rfl (lv_at hl 3 rfl) ?_
      refine lv_lload_n hx hb dX11_of_45 rfl (lv_at hl 4 rfl) ?_
      refine lv_aload_n hx hb dX11_of_46 rfl (lv_at hl 1 rfl) ?_
      refine mh_getR cx wd fl_X11_95 dX11_of_47 hX (fun a9 hX => ?_)
      refine mh_callVV cx wd [.int x2, .long y3, .ref a9] (rfl : vwCl[10]? = some (RX10, TX10, 3)) yw_X10_lay vw_X11_256 rfl hl.1 rfl (Nat.le_of_ble_eq_true rfl) dX11_of_50 ⟨Nat.le_of_ble_eq_true rfl, Nat.le_of_ble_eq_true rfl⟩ ⟨Nat.le_of_ble_eq_true rfl, Nat.le_of_ble_eq_true rfl⟩ (fun _ q => c_X10_lay q) hX (fun h10 H locs wd hX => ?_)
      refine lv_aload_n hx hb dX11_of_53 rfl (lv_at hl 1 rfl) ?_
      refine lv_iconst (v := 1) hx hb dX11_of_54 (by decide) ?_
      refine mh_putZ cx wd fp_X11_98 dX11_of_55 hX (fun h11 H locs wd hX => ?_)
      refine lv_iconst (v := 1) hx hb dX11_of_58 (by decide) ?_
      exact mh_xzret cx wd hr hX dX11_of_59 ⟨Nat.le_of_ble_eq_true rfl, Nat.le_of_ble_eq_true rfl⟩
    · exact w_X11_of_b29 cx th ht hr  h4 _ _ ls wd (lv_sub hl [] rfl) hX
set_option maxRecDepth 100000 in
theorem c_X11_of {l : Launch} {L : List Nat} {h h' : mh_H} {r : Nat ⊕ Int32} {o0 : Nat} {x1 : Int32} {x2 : Int32} {y3 : Int64} (hX : f_X11_of_e o0 x1 x2 y3 h = some (r, h')) : mh_Mx l yX11_of (Cond.code yX11_of cX11_of 6 (some .boolean) :: mh_TB) (mh_rx 7 2) [.ref o0, .int x1, .int x2, .long y3] L h (mh_em mh_eI r) h' 2 12 :=
  mh_xof (by decide) (Nat.le_of_ble_eq_true rfl) (fun p e s m below meth c D ks ls hr cx th ht wd hl => by
    have hl : lv_has ls 6 [(0, .ref o0), (1, .int x1), (2, .int x2), (3, .long y3)] := hl
    exact w_X11_of_e cx th ht hr o0 x1 x2 y3 h _ _ ls wd hl hX)
def f_X11_checkHeld_b25 (h : mh_H) : Option ((Nat ⊕ Unit) × mh_H) :=
  some (.inl 1, h)
def f_X11_checkHeld_e (o0 : Nat) (x1 : Int32) (h : mh_H) : Option ((Nat ⊕ Unit) × mh_H) :=
  (mh_gI h o0 11 15).bind fun v1 =>
  if v1 = 0 then (
  f_X11_checkHeld_b25 h) else
  if x1 < 0 then (
  f_X11_checkHeld_b25 h) else
  (mh_gR h o0 11 14).bind fun a2 =>
  mh_b2 (mh_cal h a2 7 (f_X7_coins_e a2 h)) fun a4 h3 =>
  mh_b2 (mh_cal h3 a4 1 (f_X1_count_e a4 h3)) fun v6 h5 =>
  if x1 < v6 then (
  some (.inr (), h5)) else
  f_X11_checkHeld_b25 h5
set_option maxRecDepth 100000 in
set_option maxHeartbeats 4000000 in
theorem w_X11_checkHeld_b25 {p : Program} {l : Launch} {e : Env} {s : State} {m : MethodId} {args : Array Value} {below : List Frame} {meth : Method} {c : Code} {D : va_G} {ks : Nat → ClassId} {L : List Nat} {r : Nat ⊕ Unit} {h' : mh_H} (cx : mh_C p m c cX11_checkHeld 2 s args RX11 meth D ks (mh_A L s.heap.size)) (th : mh_Th l (mh_A L s.heap.size) s) (ht : ∀ x ∈ c.exceptionTable.toList, False) (hr : meth.sig.returnType = none) :
    ∀ (h : mh_H) (H : Heap) (locs : List Loc) (ls : Array Slot), mh_W D ks L (mh_A L s.heap.size) s.heap h H locs → lv_has ls 2 [] → f_X11_checkHeld_b25  h = some (r, h') → W p l e (mh_rx 6 1) s m args below meth c H locs 0 0 (vx_MQ below (mh_Qx D ks L s.heap.size (mh_em mh_eV r) h') (mh_XC D ks L s.heap.size (mh_em mh_eV r) h') args s 1 6 (mh_A L s.heap.size)) (F0 m 25 ls []) := by
  intro  h H locs ls wd hl hX
  have hx := cx.1.1
  have hb := cx.1.2.1
  unfold f_X11_checkHeld_b25 at hX
  exact mh_xthW mh_eV mh_kx1 cx th ht wd (text := "nothing such lies in hand") (by decide) hl.1 dX11_checkHeld_25 dX11_checkHeld_28 dX11_checkHeld_29 dX11_checkHeld_32 dX11_checkHeld_35 ⟨Nat.le_of_ble_eq_true rfl, Nat.le_of_ble_eq_true rfl⟩ ⟨Nat.le_of_ble_eq_true rfl, Nat.le_of_ble_eq_true rfl⟩ ⟨Nat.le_of_ble_eq_true rfl, Nat.le_of_ble_eq_true rfl⟩ hX
set_option maxRecDepth 100000 in
set_option maxHeartbeats 4000000 in
theorem w_X11_checkHeld_e {p : Program} {l : Launch} {e : Env} {s : State} {m : MethodId} {args : Array Value} {below : List Frame} {meth : Method} {c : Code} {D : va_G} {ks : Nat → ClassId} {L : List Nat} {r : Nat ⊕ Unit} {h' : mh_H} (cx : mh_C p m c cX11_checkHeld 2 s args RX11 meth D ks (mh_A L s.heap.size)) (th : mh_Th l (mh_A L s.heap.size) s) (ht : ∀ x ∈ c.exceptionTable.toList, False) (hr : meth.sig.returnType = none) :
    ∀ (o0 : Nat) (x1 : Int32) (h : mh_H) (H : Heap) (locs : List Loc) (ls : Array Slot), mh_W D ks L (mh_A L s.heap.size) s.heap h H locs → lv_has ls 2 [(0, .ref o0), (1, .int x1)] → f_X11_checkHeld_e o0 x1 h = some (r, h') → W p l e (mh_rx 6 1) s m args below meth c H locs 0 0 (vx_MQ below (mh_Qx D ks L s.heap.size (mh_em mh_eV r) h') (mh_XC D ks L s.heap.size (mh_em mh_eV r) h') args s 1 6 (mh_A L s.heap.size)) (F0 m 0 ls []) := by
  intro o0 x1 h H locs ls wd hl hX
  have hx := cx.1.1
  have hb := cx.1.2.1
  unfold f_X11_checkHeld_e at hX
  refine lv_aload_n hx hb dX11_checkHeld_0 rfl (lv_at hl 0 rfl) ?_
  refine mh_getI cx wd fl_X11_98 dX11_checkHeld_1 hX (fun v1 hX => ?_)
  refine lv_if_eq (tgt := 25) hx hb dX11_checkHeld_4 rfl (fun hc => (fun hX => ?_) ((mh_if hX).1 hc)) (fun hc => (fun hX => ?_) ((mh_if hX).2 hc))
  · exact w_X11_checkHeld_b25 cx th ht hr  h _ _ ls wd (lv_sub hl [] rfl) hX
  · refine lv_iload_n hx hb dX11_checkHeld_7 rfl (lv_at hl 1 rfl) ?_
    refine lv_if_lt (tgt := 25) hx hb dX11_checkHeld_8 rfl (fun hc => (fun hX => ?_) ((mh_if hX).1 hc)) (fun hc => (fun hX => ?_) ((mh_if hX).2 hc))
    · exact w_X11_checkHeld_b25 cx th ht hr  h _ _ ls wd (lv_sub hl [] rfl) hX
    · refine lv_iload_n hx hb dX11_checkHeld_11 rfl (lv_at hl 1 rfl) ?_
      refine lv_aload_n hx hb dX11_checkHeld_12 rfl (lv_at hl 0 rfl) ?_
      refine mh_getR cx wd fl_X11_95 dX11_checkHeld_13 hX (fun a2 hX => ?_)
      refine mh_callVR cx wd [] (rfl : vwCl[7]? = some (RX7, TX7, 2)) yw_X7_coins vw_X11_279 rfl hl.1 rfl (Nat.le_of_ble_eq_true rfl) dX11_checkHeld_16 ⟨Nat.le_of_ble_eq_true rfl, Nat.le_of_ble_eq_true rfl⟩ ⟨Nat.le_of_ble_eq_true rfl, Nat.le_of_ble_eq_true rfl⟩ (fun _ _ q => c_X7_coins q) hX (fun a4 h3 H locs wd hX => ?_)
      refine mh_callVI cx wd [] (rfl : vwCl[1]? = some (RX1, TX1, 2)) yw_X1_count vw_X11_123 rfl hl.1 rfl (Nat.le_of_ble_eq_true rfl) dX11_checkHeld_19 ⟨Nat.le_of_ble_eq_true rfl, Nat.le_of_ble_eq_true rfl⟩ ⟨Nat.le_of_ble_eq_true rfl, Nat.le_of_ble_eq_true rfl⟩ (fun _ _ q => c_X1_count q) hX (fun v6 h5 H locs wd hX => ?_)
      refine lv_icmp_lt (tgt := 36) hx hb dX11_checkHeld_22 rfl (fun hc => (fun hX => ?_) ((mh_if hX).1 hc)) (fun hc => (fun hX => ?_) ((mh_if hX).2 hc))
      · exact mh_xvret cx wd hr hX dX11_checkHeld_36 ⟨Nat.le_of_ble_eq_true rfl, Nat.le_of_ble_eq_true rfl⟩
      · exact w_X11_checkHeld_b25 cx th ht hr  h5 _ _ ls wd (lv_sub hl [] rfl) hX
set_option maxRecDepth 100000 in
theorem c_X11_checkHeld {l : Launch} {L : List Nat} {h h' : mh_H} {r : Nat ⊕ Unit} {o0 : Nat} {x1 : Int32} (hX : f_X11_checkHeld_e o0 x1 h = some (r, h')) : mh_Mx l yX11_checkHeld (Cond.code yX11_checkHeld cX11_checkHeld 2 none :: mh_TB) (mh_rx 6 1) [.ref o0, .int x1] L h (mh_em mh_eV r) h' 1 6 :=
  mh_xof (by decide) (Nat.le_of_ble_eq_true rfl) (fun p e s m below meth c D ks ls hr cx th ht wd hl => by
    have hl : lv_has ls 2 [(0, .ref o0), (1, .int x1)] := hl
    exact w_X11_checkHeld_e cx th ht hr o0 x1 h _ _ ls wd hl hX)
def f_X11_hand_e (o0 : Nat) (x1 : Int32) (h : mh_H) : Option ((Nat ⊕ Int32) × mh_H) :=
  mh_bx (mh_cal h o0 11 (f_X11_checkHeld_e o0 x1 h)) fun _ h1 =>
  (mh_gR h1 o0 11 14).bind fun a2 =>
  mh_b2 (mh_cal h1 a2 7 (f_X7_often_e a2 x1 h1)) fun v4 h3 =>
  some (.inr v4, h3)
set_option maxRecDepth 100000 in
set_option maxHeartbeats 4000000 in
theorem w_X11_hand_e {p : Program} {l : Launch} {e : Env} {s : State} {m : MethodId} {args : Array Value} {below : List Frame} {meth : Method} {c : Code} {D : va_G} {ks : Nat → ClassId} {L : List Nat} {r : Nat ⊕ Int32} {h' : mh_H} (cx : mh_C p m c cX11_hand 2 s args RX11 meth D ks (mh_A L s.heap.size)) (th : mh_Th l (mh_A L s.heap.size) s) (ht : ∀ x ∈ c.exceptionTable.toList, False) (hr : meth.sig.returnType = (some .int)) :
    ∀ (o0 : Nat) (x1 : Int32) (h : mh_H) (H : Heap) (locs : List Loc) (ls : Array Slot), mh_W D ks L (mh_A L s.heap.size) s.heap h H locs → lv_has ls 2 [(0, .ref o0), (1, .int x1)] → f_X11_hand_e o0 x1 h = some (r, h') → W p l e (mh_rx 7 1) s m args below meth c H locs 0 0 (vx_MQ below (mh_Qx D ks L s.heap.size (mh_em mh_eI r) h') (mh_XC D ks L s.heap.size (mh_em mh_eI r) h') args s 1 6 (mh_A L s.heap.size)) (F0 m 0 ls []) := by
  intro o0 x1 h H locs ls wd hl hX
  have hx := cx.1.1
  have hb := cx.1.2.1
  unfold f_X11_hand_e at hX
  refine lv_aload_n hx hb dX11_hand_0 rfl (lv_at hl 0 rfl) ?_
  refine lv_iload_n hx hb dX11_hand_1 rfl (lv_at hl 1 rfl) ?_
  refine mh_xV mh_eV mh_eI (K := 1) [.int x1] cx th ht wd (rfl : vwCl[11]? = some (RX11, TX11, 16)) yw_X11_checkHeld vw_X11_260 rfl hl.1 rfl (Nat.le_of_ble_eq_true rfl) dX11_hand_2 ⟨Nat.le_of_ble_eq_true rfl, Nat.le_of_ble_eq_true rfl⟩ ⟨Nat.le_of_ble_eq_true rfl, Nat.le_of_ble_eq_true rfl⟩ ⟨Nat.le_of_ble_eq_true rfl, Nat.le_of_ble_eq_true rfl⟩ (fun _ _ q => c_X11_checkHeld q) hX (fun _ h1 H locs wd hX => ?_)
  refine W.eq (g2 := F0 m 5 ls []) rfl ?_
  refine lv_aload_n hx hb dX11_hand_5 rfl (lv_at hl 0 rfl) ?_
  refine mh_getR cx wd fl_X11_95 dX11_hand_6 hX (fun a2 hX => ?_)
  refine lv_iload_n hx hb dX11_hand_9 rfl (lv_at hl 1 rfl) ?_
  refine mh_callVI cx wd [.int x1] (rfl : vwCl[7]? = some (RX7, TX7, 2)) yw_X7_often vw_X11_263 rfl hl.1 rfl (Nat.le_of_ble_eq_true rfl) dX11_hand_10 ⟨Nat.le_of_ble_eq_true rfl, Nat.le_of_ble_eq_true rfl⟩ ⟨Nat.le_of_ble_eq_true rfl, Nat.le_of_ble_eq_true rfl⟩ (fun _ _ q => c_X7_often q) hX (fun v4 h3 H locs wd hX => ?_)
  exact mh_xiret cx wd hr hX dX11_hand_13 ⟨Nat.le_of_ble_eq_true rfl, Nat.le_of_ble_eq_true rfl⟩
set_option maxRecDepth 100000 in
theorem c_X11_hand {l : Launch} {L : List Nat} {h h' : mh_H} {r : Nat ⊕ Int32} {o0 : Nat} {x1 : Int32} (hX : f_X11_hand_e o0 x1 h = some (r, h')) : mh_Mx l yX11_hand (Cond.code yX11_hand cX11_hand 2 (some .int) :: mh_TB) (mh_rx 7 1) [.ref o0, .int x1] L h (mh_em mh_eI r) h' 1 6 :=
  mh_xof (by decide) (Nat.le_of_ble_eq_true rfl) (fun p e s m below meth c D ks ls hr cx th ht wd hl => by
    have hl : lv_has ls 2 [(0, .ref o0), (1, .int x1)] := hl
    exact w_X11_hand_e cx th ht hr o0 x1 h _ _ ls wd hl hX)
def f_X11_put_b16 (h : mh_H) : Option ((Nat ⊕ Int32) × mh_H) :=
  some (.inl 2, h)
def f_X11_put_e (o0 : Nat) (x1 : Int32) (x2 : Int32) (h : mh_H) : Option ((Nat ⊕ Int32) × mh_H) :=
  mh_bx (mh_cal h o0 11 (f_X11_checkHeld_e o0 x1 h)) fun _ h1 =>
  if x2 < 0 then (
  f_X11_put_b16 h1) else
  if x2 ≤ (3000 : Int32) then (
  (mh_gR h1 o0 11 14).bind fun a2 =>
  mh_b2 (mh_cal h1 a2 7 (f_X7_often_e a2 x1 h1)) fun v4 h3 =>
  (mh_gR h3 o0 11 14).bind fun a5 =>
  (mh_cal h3 a5 7 (f_X7_set_e a5 x1 x2 h3)).bind fun h6 =>
  some (.inr v4, h6)) else
  f_X11_put_b16 h1
set_option maxRecDepth 100000 in
set_option maxHeartbeats 4000000 in
theorem w_X11_put_b16 {p : Program} {l : Launch} {e : Env} {s : State} {m : MethodId} {args : Array Value} {below : List Frame} {meth : Method} {c : Code} {D : va_G} {ks : Nat → ClassId} {L : List Nat} {r : Nat ⊕ Int32} {h' : mh_H} (cx : mh_C p m c cX11_put 4 s args RX11 meth D ks (mh_A L s.heap.size)) (th : mh_Th l (mh_A L s.heap.size) s) (ht : ∀ x ∈ c.exceptionTable.toList, False) (hr : meth.sig.returnType = (some .int)) :
    ∀ (h : mh_H) (H : Heap) (locs : List Loc) (ls : Array Slot), mh_W D ks L (mh_A L s.heap.size) s.heap h H locs → lv_has ls 4 [] → f_X11_put_b16  h = some (r, h') → W p l e (mh_rx 7 2) s m args below meth c H locs 1 6 (vx_MQ below (mh_Qx D ks L s.heap.size (mh_em mh_eI r) h') (mh_XC D ks L s.heap.size (mh_em mh_eI r) h') args s 2 12 (mh_A L s.heap.size)) (F0 m 16 ls []) := by
  intro  h H locs ls wd hl hX
  have hx := cx.1.1
  have hb := cx.1.2.1
  unfold f_X11_put_b16 at hX
  exact mh_xthW mh_eI mh_kx2 cx th ht wd (text := "many is not 0 to 3000") (by decide) hl.1 dX11_put_16 dX11_put_19 dX11_put_20 dX11_put_23 dX11_put_26 ⟨Nat.le_of_ble_eq_true rfl, Nat.le_of_ble_eq_true rfl⟩ ⟨Nat.le_of_ble_eq_true rfl, Nat.le_of_ble_eq_true rfl⟩ ⟨Nat.le_of_ble_eq_true rfl, Nat.le_of_ble_eq_true rfl⟩ hX
set_option maxRecDepth 100000 in
set_option maxHeartbeats 4000000 in
theorem w_X11_put_e {p : Program} {l : Launch} {e : Env} {s : State} {m : MethodId} {args : Array Value} {below : List Frame} {meth : Method} {c : Code} {D : va_G} {ks : Nat → ClassId} {L : List Nat} {r : Nat ⊕ Int32} {h' : mh_H} (cx : mh_C p m c cX11_put 4 s args RX11 meth D ks (mh_A L s.heap.size)) (th : mh_Th l (mh_A L s.heap.size) s) (ht : ∀ x ∈ c.exceptionTable.toList, False) (hr : meth.sig.returnType = (some .int)) :
    ∀ (o0 : Nat) (x1 : Int32) (x2 : Int32) (h : mh_H) (H : Heap) (locs : List Loc) (ls : Array Slot), mh_W D ks L (mh_A L s.heap.size) s.heap h H locs → lv_has ls 4 [(0, .ref o0), (1, .int x1), (2, .int x2)] → f_X11_put_e o0 x1 x2 h = some (r, h') → W p l e (mh_rx 7 2) s m args below meth c H locs 0 0 (vx_MQ below (mh_Qx D ks L s.heap.size (mh_em mh_eI r) h') (mh_XC D ks L s.heap.size (mh_em mh_eI r) h') args s 2 12 (mh_A L s.heap.size)) (F0 m 0 ls []) := by
  intro o0 x1 x2 h H locs ls wd hl hX
  have hx := cx.1.1
  have hb := cx.1.2.1
  unfold f_X11_put_e at hX
  refine lv_aload_n hx hb dX11_put_0 rfl (lv_at hl 0 rfl) ?_
  refine lv_iload_n hx hb dX11_put_1 rfl (lv_at hl 1 rfl) ?_
  refine mh_xV mh_eV mh_eI (K := 1) [.int x1] cx th ht wd (rfl : vwCl[11]? = some (RX11, TX11, 16)) yw_X11_checkHeld vw_X11_260 rfl hl.1 rfl (Nat.le_of_ble_eq_true rfl) dX11_put_2 ⟨Nat.le_of_ble_eq_true rfl, Nat.le_of_ble_eq_true rfl⟩ ⟨Nat.le_of_ble_eq_true rfl, Nat.le_of_ble_eq_true rfl⟩ ⟨Nat.le_of_ble_eq_true rfl, Nat.le_of_ble_eq_true rfl⟩ (fun _ _ q => c_X11_checkHeld q) hX (fun _ h1 H locs wd hX => ?_)
  refine W.eq (g2 := F0 m 5 ls []) rfl ?_
  refine lv_iload_n hx hb dX11_put_5 rfl (lv_at hl 2 rfl) ?_
  refine lv_if_lt (tgt := 16) hx hb dX11_put_6 rfl (fun hc => (fun hX => ?_) ((mh_if hX).1 hc)) (fun hc => (fun hX => ?_) ((mh_if hX).2 hc))
  · exact w_X11_put_b16 cx th ht hr  h1 _ _ ls wd (lv_sub hl [] rfl) hX
  · refine lv_iload_n hx hb dX11_put_9 rfl (lv_at hl 2 rfl) ?_
    refine lv_sipush (v := 3000) hx hb dX11_put_10 (by decide) ?_
    refine lv_icmp_le (tgt := 27) hx hb dX11_put_13 rfl (fun hc => (fun hX => ?_) ((mh_if hX).1 hc)) (fun hc => (fun hX => ?_) ((mh_if hX).2 hc))
    · refine lv_aload_n hx hb dX11_put_27 rfl (lv_at hl 0 rfl) ?_
      refine mh_getR cx wd fl_X11_95 dX11_put_28 hX (fun a2 hX => ?_)
      refine lv_iload_n hx hb dX11_put_31 rfl (lv_at hl 1 rfl) ?_
      refine mh_callVI cx wd [.int x1] (rfl : vwCl[7]? = some (RX7, TX7, 2)) yw_X7_often vw_X11_263 rfl hl.1 rfl (Nat.le_of_ble_eq_true rfl) dX11_put_32 ⟨Nat.le_of_ble_eq_true rfl, Nat.le_of_ble_eq_true rfl⟩ ⟨Nat.le_of_ble_eq_true rfl, Nat.le_of_ble_eq_true rfl⟩ (fun _ _ q => c_X7_often q) hX (fun v4 h3 H locs wd hX => ?_)
      refine lv_istore_n (lv' := [(3, .int v4), (0, .ref o0), (1, .int x1), (2, .int x2)]) hx hb dX11_put_35 rfl hl (Nat.le_of_ble_eq_true rfl) rfl (fun ls hl => ?_)
      refine lv_aload_n hx hb dX11_put_36 rfl (lv_at hl 1 rfl) ?_
      refine mh_getR cx wd fl_X11_95 dX11_put_37 hX (fun a5 hX => ?_)
      refine lv_iload_n hx hb dX11_put_40 rfl (lv_at hl 2 rfl) ?_
      refine lv_iload_n hx hb dX11_put_41 rfl (lv_at hl 3 rfl) ?_
      refine mh_callVV cx wd [.int x1, .int x2] (rfl : vwCl[7]? = some (RX7, TX7, 2)) yw_X7_set vw_X11_267 rfl hl.1 rfl (Nat.le_of_ble_eq_true rfl) dX11_put_42 ⟨Nat.le_of_ble_eq_true rfl, Nat.le_of_ble_eq_true rfl⟩ ⟨Nat.le_of_ble_eq_true rfl, Nat.le_of_ble_eq_true rfl⟩ (fun _ q => c_X7_set q) hX (fun h6 H locs wd hX => ?_)
      refine lv_iload_n hx hb dX11_put_45 rfl (lv_at hl 0 rfl) ?_
      exact mh_xiret cx wd hr hX dX11_put_46 ⟨Nat.le_of_ble_eq_true rfl, Nat.le_of_ble_eq_true rfl⟩
    · exact w_X11_put_b16 cx th ht hr  h1 _ _ ls wd (lv_sub hl [] rfl) hX
set_option maxRecDepth 100000 in
theorem c_X11_put {l : Launch} {L : List Nat} {h h' : mh_H} {r : Nat ⊕ Int32} {o0 : Nat} {x1 : Int32} {x2 : Int32} (hX : f_X11_put_e o0 x1 x2 h = some (r, h')) : mh_Mx l yX11_put (Cond.code yX11_put cX11_put 4 (some .int) :: mh_TB) (mh_rx 7 2) [.ref o0, .int x1, .int x2] L h (mh_em mh_eI r) h' 2 12 :=
  mh_xof (by decide) (Nat.le_of_ble_eq_true rfl) (fun p e s m below meth c D ks ls hr cx th ht wd hl => by
    have hl : lv_has ls 4 [(0, .ref o0), (1, .int x1), (2, .int x2)] := hl
    exact w_X11_put_e cx th ht hr o0 x1 x2 h _ _ ls wd hl hX)
def f_X11_rank_b52 (h : mh_H) : Option ((Nat ⊕ Int64) × mh_H) :=
  some (.inr (-1 : Int64), h)
def f_X11_rank_e (o0 : Nat) (h : mh_H) : Option ((Nat ⊕ Int64) × mh_H) :=
  (mh_gI h o0 11 15).bind fun v1 =>
  if v1 = 0 then (
  some (.inl 1, h)) else
  (mh_gR h o0 11 14).bind fun a2 =>
  mh_b2 (mh_cal h a2 7 (f_X7_total_e a2 h)) fun v4 h3 =>
  if (3000 : Int32) < v4 then (
  f_X11_rank_b52 h3) else
  (mh_gR h3 o0 11 14).bind fun a5 =>
  mh_b2 (mh_cal h3 a5 7 (f_X7_coins_e a5 h3)) fun a7 h6 =>
  mh_b2 (mh_cal h6 o0 11 (f_X11_countWays_e o0 a7 v4 h6)) fun w9 h8 =>
  if (lg_cmp w9 (-2 : Int64)) = 0 then (
  f_X11_rank_b52 h8) else
  (mh_gR h8 o0 11 7).bind fun a10 =>
  (mh_gR h8 o0 11 14).bind fun a11 =>
  mh_b2 (mh_cal h8 a10 10 (f_X10_rankOf_e a10 a11 h8)) fun w13 h12 =>
  some (.inr w13, h12)
set_option maxRecDepth 100000 in
set_option maxHeartbeats 4000000 in
theorem w_X11_rank_b52 {p : Program} {l : Launch} {e : Env} {s : State} {m : MethodId} {args : Array Value} {below : List Frame} {meth : Method} {c : Code} {D : va_G} {ks : Nat → ClassId} {L : List Nat} {r : Nat ⊕ Int64} {h' : mh_H} (cx : mh_C p m c cX11_rank 2 s args RX11 meth D ks (mh_A L s.heap.size)) (th : mh_Th l (mh_A L s.heap.size) s) (ht : ∀ x ∈ c.exceptionTable.toList, False) (hr : meth.sig.returnType = (some .long)) :
    ∀ (h : mh_H) (H : Heap) (locs : List Loc) (ls : Array Slot), mh_W D ks L (mh_A L s.heap.size) s.heap h H locs → lv_has ls 2 [] → f_X11_rank_b52  h = some (r, h') → W p l e (mh_rx 6 1) s m args below meth c H locs 0 0 (vx_MQ below (mh_Qx D ks L s.heap.size (mh_em mh_eJ r) h') (mh_XC D ks L s.heap.size (mh_em mh_eJ r) h') args s 1 6 (mh_A L s.heap.size)) (F0 m 52 ls []) := by
  intro  h H locs ls wd hl hX
  have hx := cx.1.1
  have hb := cx.1.2.1
  unfold f_X11_rank_b52 at hX
  refine mh_ldc2 cx kl_X11_174 dX11_rank_52 ?_
  exact mh_xlret cx wd hr hX dX11_rank_55 ⟨Nat.le_of_ble_eq_true rfl, Nat.le_of_ble_eq_true rfl⟩
set_option maxRecDepth 100000 in
set_option maxHeartbeats 4000000 in
theorem w_X11_rank_e {p : Program} {l : Launch} {e : Env} {s : State} {m : MethodId} {args : Array Value} {below : List Frame} {meth : Method} {c : Code} {D : va_G} {ks : Nat → ClassId} {L : List Nat} {r : Nat ⊕ Int64} {h' : mh_H} (cx : mh_C p m c cX11_rank 2 s args RX11 meth D ks (mh_A L s.heap.size)) (th : mh_Th l (mh_A L s.heap.size) s) (ht : ∀ x ∈ c.exceptionTable.toList, False) (hr : meth.sig.returnType = (some .long)) :
    ∀ (o0 : Nat) (h : mh_H) (H : Heap) (locs : List Loc) (ls : Array Slot), mh_W D ks L (mh_A L s.heap.size) s.heap h H locs → lv_has ls 2 [(0, .ref o0)] → f_X11_rank_e o0 h = some (r, h') → W p l e (mh_rx 6 1) s m args below meth c H locs 0 0 (vx_MQ below (mh_Qx D ks L s.heap.size (mh_em mh_eJ r) h') (mh_XC D ks L s.heap.size (mh_em mh_eJ r) h') args s 1 6 (mh_A L s.heap.size)) (F0 m 0 ls []) := by
  intro o0 h H locs ls wd hl hX
  have hx := cx.1.1
  have hb := cx.1.2.1
  unfold f_X11_rank_e at hX
  refine lv_aload_n hx hb dX11_rank_0 rfl (lv_at hl 0 rfl) ?_
  refine mh_getI cx wd fl_X11_98 dX11_rank_1 hX (fun v1 hX => ?_)
  refine lv_if_ne (tgt := 18) hx hb dX11_rank_4 rfl (fun hc => (fun hX => ?_) ((mh_if hX).2 hc)) (fun hc => (fun hX => ?_) ((mh_if hX).1 hc))
  · refine lv_aload_n hx hb dX11_rank_18 rfl (lv_at hl 0 rfl) ?_
    refine mh_getR cx wd fl_X11_95 dX11_rank_19 hX (fun a2 hX => ?_)
    refine mh_callVI cx wd [] (rfl : vwCl[7]? = some (RX7, TX7, 2)) yw_X7_total vw_X11_276 rfl hl.1 rfl (Nat.le_of_ble_eq_true rfl) dX11_rank_22 ⟨Nat.le_of_ble_eq_true rfl, Nat.le_of_ble_eq_true rfl⟩ ⟨Nat.le_of_ble_eq_true rfl, Nat.le_of_ble_eq_true rfl⟩ (fun _ _ q => c_X7_total q) hX (fun v4 h3 H locs wd hX => ?_)
    refine lv_istore_n (lv' := [(1, .int v4), (0, .ref o0)]) hx hb dX11_rank_25 rfl hl (Nat.le_of_ble_eq_true rfl) rfl (fun ls hl => ?_)
    refine lv_iload_n hx hb dX11_rank_26 rfl (lv_at hl 0 rfl) ?_
    refine lv_sipush (v := 3000) hx hb dX11_rank_27 (by decide) ?_
    refine lv_icmp_gt (tgt := 52) hx hb dX11_rank_30 rfl (fun hc => (fun hX => ?_) ((mh_if hX).1 hc)) (fun hc => (fun hX => ?_) ((mh_if hX).2 hc))
    · exact w_X11_rank_b52 cx th ht hr  h3 _ _ ls wd (lv_sub hl [] rfl) hX
    · refine lv_aload_n hx hb dX11_rank_33 rfl (lv_at hl 1 rfl) ?_
      refine lv_aload_n hx hb dX11_rank_34 rfl (lv_at hl 1 rfl) ?_
      refine mh_getR cx wd fl_X11_95 dX11_rank_35 hX (fun a5 hX => ?_)
      refine mh_callVR cx wd [] (rfl : vwCl[7]? = some (RX7, TX7, 2)) yw_X7_coins vw_X11_279 rfl hl.1 rfl (Nat.le_of_ble_eq_true rfl) dX11_rank_38 ⟨Nat.le_of_ble_eq_true rfl, Nat.le_of_ble_eq_true rfl⟩ ⟨Nat.le_of_ble_eq_true rfl, Nat.le_of_ble_eq_true rfl⟩ (fun _ _ q => c_X7_coins q) hX (fun a7 h6 H locs wd hX => ?_)
      refine lv_iload_n hx hb dX11_rank_41 rfl (lv_at hl 0 rfl) ?_
      refine mh_callVJ cx wd [.ref a7, .int v4] (rfl : vwCl[11]? = some (RX11, TX11, 16)) yw_X11_countWays vw_X11_249 rfl hl.1 rfl (Nat.le_of_ble_eq_true rfl) dX11_rank_42 ⟨Nat.le_of_ble_eq_true rfl, Nat.le_of_ble_eq_true rfl⟩ ⟨Nat.le_of_ble_eq_true rfl, Nat.le_of_ble_eq_true rfl⟩ (fun _ _ q => c_X11_countWays q) hX (fun w9 h8 H locs wd hX => ?_)
      refine mh_ldc2 cx kl_X11_282 dX11_rank_45 ?_
      refine W.lcmp hx hb dX11_rank_48 ?_
      refine lv_if_ne (tgt := 56) hx hb dX11_rank_49 rfl (fun hc => (fun hX => ?_) ((mh_if hX).2 hc)) (fun hc => (fun hX => ?_) ((mh_if hX).1 hc))
      · refine lv_aload_n hx hb dX11_rank_56 rfl (lv_at hl 1 rfl) ?_
        refine mh_getR cx wd fl_X11_57 dX11_rank_57 hX (fun a10 hX => ?_)
        refine lv_aload_n hx hb dX11_rank_60 rfl (lv_at hl 1 rfl) ?_
        refine mh_getR cx wd fl_X11_95 dX11_rank_61 hX (fun a11 hX => ?_)
        refine mh_callVJ cx wd [.ref a11] (rfl : vwCl[10]? = some (RX10, TX10, 3)) yw_X10_rankOf vw_X11_284 rfl hl.1 rfl (Nat.le_of_ble_eq_true rfl) dX11_rank_64 ⟨Nat.le_of_ble_eq_true rfl, Nat.le_of_ble_eq_true rfl⟩ ⟨Nat.le_of_ble_eq_true rfl, Nat.le_of_ble_eq_true rfl⟩ (fun _ _ q => c_X10_rankOf q) hX (fun w13 h12 H locs wd hX => ?_)
        exact mh_xlret cx wd hr hX dX11_rank_67 ⟨Nat.le_of_ble_eq_true rfl, Nat.le_of_ble_eq_true rfl⟩
      · exact w_X11_rank_b52 cx th ht hr  h8 _ _ ls wd (lv_sub hl [] rfl) hX
  · exact mh_xthW mh_eJ mh_kx1 cx th ht wd (text := "nothing lies in hand") (by decide) hl.1 dX11_rank_7 dX11_rank_10 dX11_rank_11 dX11_rank_14 dX11_rank_17 ⟨Nat.le_of_ble_eq_true rfl, Nat.le_of_ble_eq_true rfl⟩ ⟨Nat.le_of_ble_eq_true rfl, Nat.le_of_ble_eq_true rfl⟩ ⟨Nat.le_of_ble_eq_true rfl, Nat.le_of_ble_eq_true rfl⟩ hX
set_option maxRecDepth 100000 in
theorem c_X11_rank {l : Launch} {L : List Nat} {h h' : mh_H} {r : Nat ⊕ Int64} {o0 : Nat} (hX : f_X11_rank_e o0 h = some (r, h')) : mh_Mx l yX11_rank (Cond.code yX11_rank cX11_rank 2 (some .long) :: mh_TB) (mh_rx 6 1) [.ref o0] L h (mh_em mh_eJ r) h' 1 6 :=
  mh_xof (by decide) (Nat.le_of_ble_eq_true rfl) (fun p e s m below meth c D ks ls hr cx th ht wd hl => by
    have hl : lv_has ls 2 [(0, .ref o0)] := hl
    exact w_X11_rank_e cx th ht hr o0 h _ _ ls wd hl hX)
def f_X11_apart_b45 (h : mh_H) : Option ((Nat ⊕ Int32) × mh_H) :=
  some (.inr (-2 : Int32), h)
def f_X11_apart_e (o0 : Nat) (x1 : Int32) (x2 : Int32) (h : mh_H) : Option ((Nat ⊕ Int32) × mh_H) :=
  mh_bx (mh_cal h o0 11 (f_X11_mintAt_e o0 x1 h)) fun a2 h1 =>
  mh_bx (f_X11_checkCounted_e x2 h1) fun _ h3 =>
  mh_b2 (mh_cal h3 o0 11 (f_X11_countWays_e o0 a2 x2 h3)) fun w5 h4 =>
  if (lg_cmp w5 (0 : Int64)) = 0 then (
  some (.inr (-1 : Int32), h4)) else
  if (lg_cmp w5 (-2 : Int64)) = 0 then (
  f_X11_apart_b45 h4) else
  if (lg_cmp w5 (200 : Int64)) ≤ 0 then (
  (mh_gR h4 o0 11 8).bind fun a6 =>
  (mh_gR h4 o0 11 7).bind fun a7 =>
  (mh_cal h4 a6 6 (f_X6_list_e a6 a7 x2 ((w5).toInt32) h4)).bind fun h8 =>
  (mh_gR h8 o0 11 8).bind fun a9 =>
  mh_b2 (mh_cal h8 a9 6 (f_X6_widestStep_e a9 h8)) fun v11 h10 =>
  some (.inr v11, h10)) else
  f_X11_apart_b45 h4
set_option maxRecDepth 100000 in
set_option maxHeartbeats 4000000 in
theorem w_X11_apart_b45 {p : Program} {l : Launch} {e : Env} {s : State} {m : MethodId} {args : Array Value} {below : List Frame} {meth : Method} {c : Code} {D : va_G} {ks : Nat → ClassId} {L : List Nat} {r : Nat ⊕ Int32} {h' : mh_H} (cx : mh_C p m c cX11_apart 6 s args RX11 meth D ks (mh_A L s.heap.size)) (th : mh_Th l (mh_A L s.heap.size) s) (ht : ∀ x ∈ c.exceptionTable.toList, False) (hr : meth.sig.returnType = (some .int)) :
    ∀ (h : mh_H) (H : Heap) (locs : List Loc) (ls : Array Slot), mh_W D ks L (mh_A L s.heap.size) s.heap h H locs → lv_has ls 6 [] → f_X11_apart_b45  h = some (r, h') → W p l e (mh_rx 7 2) s m args below meth c H locs 2 12 (vx_MQ below (mh_Qx D ks L s.heap.size (mh_em mh_eI r) h') (mh_XC D ks L s.heap.size (mh_em mh_eI r) h') args s 2 12 (mh_A L s.heap.size)) (F0 m 45 ls []) := by
  intro  h H locs ls wd hl hX
  have hx := cx.1.1
  have hb := cx.1.2.1
  unfold f_X11_apart_b45 at hX
  refine lv_bipush (v := (-2)) hx hb dX11_apart_45 (by decide) ?_
  exact mh_xiret cx wd hr hX dX11_apart_47 ⟨Nat.le_of_ble_eq_true rfl, Nat.le_of_ble_eq_true rfl⟩
set_option maxRecDepth 100000 in
set_option maxHeartbeats 4000000 in
theorem w_X11_apart_e {p : Program} {l : Launch} {e : Env} {s : State} {m : MethodId} {args : Array Value} {below : List Frame} {meth : Method} {c : Code} {D : va_G} {ks : Nat → ClassId} {L : List Nat} {r : Nat ⊕ Int32} {h' : mh_H} (cx : mh_C p m c cX11_apart 6 s args RX11 meth D ks (mh_A L s.heap.size)) (th : mh_Th l (mh_A L s.heap.size) s) (ht : ∀ x ∈ c.exceptionTable.toList, False) (hr : meth.sig.returnType = (some .int)) :
    ∀ (o0 : Nat) (x1 : Int32) (x2 : Int32) (h : mh_H) (H : Heap) (locs : List Loc) (ls : Array Slot), mh_W D ks L (mh_A L s.heap.size) s.heap h H locs → lv_has ls 6 [(0, .ref o0), (1, .int x1), (2, .int x2)] → f_X11_apart_e o0 x1 x2 h = some (r, h') → W p l e (mh_rx 7 2) s m args below meth c H locs 0 0 (vx_MQ below (mh_Qx D ks L s.heap.size (mh_em mh_eI r) h') (mh_XC D ks L s.heap.size (mh_em mh_eI r) h') args s 2 12 (mh_A L s.heap.size)) (F0 m 0 ls []) := by
  intro o0 x1 x2 h H locs ls wd hl hX
  have hx := cx.1.1
  have hb := cx.1.2.1
  unfold f_X11_apart_e at hX
  refine lv_aload_n hx hb dX11_apart_0 rfl (lv_at hl 0 rfl) ?_
  refine lv_iload_n hx hb dX11_apart_1 rfl (lv_at hl 1 rfl) ?_
  refine mh_xV mh_eR mh_eI (K := 1) [.int x1] cx th ht wd (rfl : vwCl[11]? = some (RX11, TX11, 16)) yw_X11_mintAt vw_X11_131 rfl hl.1 rfl (Nat.le_of_ble_eq_true rfl) dX11_apart_2 ⟨Nat.le_of_ble_eq_true rfl, Nat.le_of_ble_eq_true rfl⟩ ⟨Nat.le_of_ble_eq_true rfl, Nat.le_of_ble_eq_true rfl⟩ ⟨Nat.le_of_ble_eq_true rfl, Nat.le_of_ble_eq_true rfl⟩ (fun _ _ q => c_X11_mintAt q) hX (fun a2 h1 H locs wd hX => ?_)
  refine W.eq (g2 := F0 m 5 ls [.ref a2]) rfl ?_
  refine lv_astore_n (lv' := [(3, .ref a2), (0, .ref o0), (1, .int x1), (2, .int x2)]) hx hb dX11_apart_5 rfl hl (Nat.le_of_ble_eq_true rfl) rfl (fun ls hl => ?_)
  refine lv_iload_n hx hb dX11_apart_6 rfl (lv_at hl 3 rfl) ?_
  refine mh_xS mh_eV mh_eI (K := 1) [.int x2] cx th ht wd yw_X11_checkCounted sw_X11_246 rfl hl.1 rfl (Nat.le_of_ble_eq_true rfl) dX11_apart_7 ⟨Nat.le_of_ble_eq_true rfl, Nat.le_of_ble_eq_true rfl⟩ ⟨Nat.le_of_ble_eq_true rfl, Nat.le_of_ble_eq_true rfl⟩ ⟨Nat.le_of_ble_eq_true rfl, Nat.le_of_ble_eq_true rfl⟩ (fun _ _ q => c_X11_checkCounted q) hX (fun _ h3 H locs wd hX => ?_)
  refine W.eq (g2 := F0 m 10 ls []) rfl ?_
  refine lv_aload_n hx hb dX11_apart_10 rfl (lv_at hl 1 rfl) ?_
  refine lv_aload_n hx hb dX11_apart_11 rfl (lv_at hl 0 rfl) ?_
  refine lv_iload_n hx hb dX11_apart_12 rfl (lv_at hl 3 rfl) ?_
  refine mh_callVJ cx wd [.ref a2, .int x2] (rfl : vwCl[11]? = some (RX11, TX11, 16)) yw_X11_countWays vw_X11_249 rfl hl.1 rfl (Nat.le_of_ble_eq_true rfl) dX11_apart_13 ⟨Nat.le_of_ble_eq_true rfl, Nat.le_of_ble_eq_true rfl⟩ ⟨Nat.le_of_ble_eq_true rfl, Nat.le_of_ble_eq_true rfl⟩ (fun _ _ q => c_X11_countWays q) hX (fun w5 h4 H locs wd hX => ?_)
  refine lv_lstore (lv' := [(4, .long w5), (3, .ref a2), (0, .ref o0), (1, .int x1), (2, .int x2)]) hx hb dX11_apart_16 hl (Nat.le_of_ble_eq_true rfl) rfl (fun ls hl => ?_)
  refine lv_lload hx hb dX11_apart_18 (lv_at hl 0 rfl) ?_
  refine lv_lconst (v := 0) hx hb dX11_apart_20 (by decide) ?_
  refine W.lcmp hx hb dX11_apart_21 ?_
  refine lv_if_ne (tgt := 27) hx hb dX11_apart_22 rfl (fun hc => (fun hX => ?_) ((mh_if hX).2 hc)) (fun hc => (fun hX => ?_) ((mh_if hX).1 hc))
  · refine lv_lload hx hb dX11_apart_27 (lv_at hl 0 rfl) ?_
    refine mh_ldc2 cx kl_X11_282 dX11_apart_29 ?_
    refine W.lcmp hx hb dX11_apart_32 ?_
    refine lv_if_eq (tgt := 45) hx hb dX11_apart_33 rfl (fun hc => (fun hX => ?_) ((mh_if hX).1 hc)) (fun hc => (fun hX => ?_) ((mh_if hX).2 hc))
    · exact w_X11_apart_b45 cx th ht hr  h4 _ _ ls wd (lv_sub hl [] rfl) hX
    · refine lv_lload hx hb dX11_apart_36 (lv_at hl 0 rfl) ?_
      refine mh_ldc2 cx kl_X11_288 dX11_apart_38 ?_
      refine W.lcmp hx hb dX11_apart_41 ?_
      refine lv_if_le (tgt := 48) hx hb dX11_apart_42 rfl (fun hc => (fun hX => ?_) ((mh_if hX).1 hc)) (fun hc => (fun hX => ?_) ((mh_if hX).2 hc))
      · refine lv_aload_n hx hb dX11_apart_48 rfl (lv_at hl 2 rfl) ?_
        refine mh_getR cx wd fl_X11_64 dX11_apart_49 hX (fun a6 hX => ?_)
        refine lv_aload_n hx hb dX11_apart_52 rfl (lv_at hl 2 rfl) ?_
        refine mh_getR cx wd fl_X11_57 dX11_apart_53 hX (fun a7 hX => ?_)
        refine lv_iload_n hx hb dX11_apart_56 rfl (lv_at hl 4 rfl) ?_
        refine lv_lload hx hb dX11_apart_57 (lv_at hl 0 rfl) ?_
        refine lv_l2i hx hb dX11_apart_59 rfl ?_
        refine mh_callVV cx wd [.ref a7, .int x2, .int ((w5).toInt32)] (rfl : vwCl[6]? = some (RX6, TX6, 5)) yw_X6_list vw_X11_290 rfl hl.1 rfl (Nat.le_of_ble_eq_true rfl) dX11_apart_60 ⟨Nat.le_of_ble_eq_true rfl, Nat.le_of_ble_eq_true rfl⟩ ⟨Nat.le_of_ble_eq_true rfl, Nat.le_of_ble_eq_true rfl⟩ (fun _ q => c_X6_list q) hX (fun h8 H locs wd hX => ?_)
        refine lv_aload_n hx hb dX11_apart_63 rfl (lv_at hl 2 rfl) ?_
        refine mh_getR cx wd fl_X11_64 dX11_apart_64 hX (fun a9 hX => ?_)
        refine mh_callVI cx wd [] (rfl : vwCl[6]? = some (RX6, TX6, 5)) yw_X6_widestStep vw_X11_294 rfl hl.1 rfl (Nat.le_of_ble_eq_true rfl) dX11_apart_67 ⟨Nat.le_of_ble_eq_true rfl, Nat.le_of_ble_eq_true rfl⟩ ⟨Nat.le_of_ble_eq_true rfl, Nat.le_of_ble_eq_true rfl⟩ (fun _ _ q => c_X6_widestStep q) hX (fun v11 h10 H locs wd hX => ?_)
        exact mh_xiret cx wd hr hX dX11_apart_70 ⟨Nat.le_of_ble_eq_true rfl, Nat.le_of_ble_eq_true rfl⟩
      · exact w_X11_apart_b45 cx th ht hr  h4 _ _ ls wd (lv_sub hl [] rfl) hX
  · refine lv_iconst (v := (-1)) hx hb dX11_apart_25 (by decide) ?_
    exact mh_xiret cx wd hr hX dX11_apart_26 ⟨Nat.le_of_ble_eq_true rfl, Nat.le_of_ble_eq_true rfl⟩
set_option maxRecDepth 100000 in
theorem c_X11_apart {l : Launch} {L : List Nat} {h h' : mh_H} {r : Nat ⊕ Int32} {o0 : Nat} {x1 : Int32} {x2 : Int32} (hX : f_X11_apart_e o0 x1 x2 h = some (r, h')) : mh_Mx l yX11_apart (Cond.code yX11_apart cX11_apart 6 (some .int) :: mh_TB) (mh_rx 7 2) [.ref o0, .int x1, .int x2] L h (mh_em mh_eI r) h' 2 12 :=
  mh_xof (by decide) (Nat.le_of_ble_eq_true rfl) (fun p e s m below meth c D ks ls hr cx th ht wd hl => by
    have hl : lv_has ls 6 [(0, .ref o0), (1, .int x1), (2, .int x2)] := hl
    exact w_X11_apart_e cx th ht hr o0 x1 x2 h _ _ ls wd hl hX)
def f_X11_stamps_b17 (h : mh_H) : Option ((Nat ⊕ Int32) × mh_H) :=
  some (.inl 2, h)
def f_X11_stamps_e (o0 : Nat) (x1 : Int32) (x2 : Int32) (h : mh_H) : Option ((Nat ⊕ Int32) × mh_H) :=
  mh_bx (mh_cal h o0 11 (f_X11_mintAt_e o0 x1 h)) fun a2 h1 =>
  if x2 < (1 : Int32) then (
  f_X11_stamps_b17 h1) else
  if x2 ≤ (50 : Int32) then (
  (mh_gR h1 o0 11 1).bind fun a3 =>
  (mh_cal h1 a3 2 (f_X2_take_e a3 a2 h1)).bind fun h4 =>
  (mh_gR h4 o0 11 1).bind fun a5 =>
  mh_b2 (mh_cal h4 a5 2 (f_X2_allUpTo_e a5 x2 h4)) fun v7 h6 =>
  some (.inr v7, h6)) else
  f_X11_stamps_b17 h1
set_option maxRecDepth 100000 in
set_option maxHeartbeats 4000000 in
theorem w_X11_stamps_b17 {p : Program} {l : Launch} {e : Env} {s : State} {m : MethodId} {args : Array Value} {below : List Frame} {meth : Method} {c : Code} {D : va_G} {ks : Nat → ClassId} {L : List Nat} {r : Nat ⊕ Int32} {h' : mh_H} (cx : mh_C p m c cX11_stamps 4 s args RX11 meth D ks (mh_A L s.heap.size)) (th : mh_Th l (mh_A L s.heap.size) s) (ht : ∀ x ∈ c.exceptionTable.toList, False) (hr : meth.sig.returnType = (some .int)) :
    ∀ (h : mh_H) (H : Heap) (locs : List Loc) (ls : Array Slot), mh_W D ks L (mh_A L s.heap.size) s.heap h H locs → lv_has ls 4 [] → f_X11_stamps_b17  h = some (r, h') → W p l e (mh_rx 7 2) s m args below meth c H locs 1 6 (vx_MQ below (mh_Qx D ks L s.heap.size (mh_em mh_eI r) h') (mh_XC D ks L s.heap.size (mh_em mh_eI r) h') args s 2 12 (mh_A L s.heap.size)) (F0 m 17 ls []) := by
  intro  h H locs ls wd hl hX
  have hx := cx.1.1
  have hb := cx.1.2.1
  unfold f_X11_stamps_b17 at hX
  exact mh_xthW mh_eI mh_kx2 cx th ht wd (text := "h is not 1 to 50") (by decide) hl.1 dX11_stamps_17 dX11_stamps_20 dX11_stamps_21 dX11_stamps_24 dX11_stamps_27 ⟨Nat.le_of_ble_eq_true rfl, Nat.le_of_ble_eq_true rfl⟩ ⟨Nat.le_of_ble_eq_true rfl, Nat.le_of_ble_eq_true rfl⟩ ⟨Nat.le_of_ble_eq_true rfl, Nat.le_of_ble_eq_true rfl⟩ hX
set_option maxRecDepth 100000 in
set_option maxHeartbeats 4000000 in
theorem w_X11_stamps_e {p : Program} {l : Launch} {e : Env} {s : State} {m : MethodId} {args : Array Value} {below : List Frame} {meth : Method} {c : Code} {D : va_G} {ks : Nat → ClassId} {L : List Nat} {r : Nat ⊕ Int32} {h' : mh_H} (cx : mh_C p m c cX11_stamps 4 s args RX11 meth D ks (mh_A L s.heap.size)) (th : mh_Th l (mh_A L s.heap.size) s) (ht : ∀ x ∈ c.exceptionTable.toList, False) (hr : meth.sig.returnType = (some .int)) :
    ∀ (o0 : Nat) (x1 : Int32) (x2 : Int32) (h : mh_H) (H : Heap) (locs : List Loc) (ls : Array Slot), mh_W D ks L (mh_A L s.heap.size) s.heap h H locs → lv_has ls 4 [(0, .ref o0), (1, .int x1), (2, .int x2)] → f_X11_stamps_e o0 x1 x2 h = some (r, h') → W p l e (mh_rx 7 2) s m args below meth c H locs 0 0 (vx_MQ below (mh_Qx D ks L s.heap.size (mh_em mh_eI r) h') (mh_XC D ks L s.heap.size (mh_em mh_eI r) h') args s 2 12 (mh_A L s.heap.size)) (F0 m 0 ls []) := by
  intro o0 x1 x2 h H locs ls wd hl hX
  have hx := cx.1.1
  have hb := cx.1.2.1
  unfold f_X11_stamps_e at hX
  refine lv_aload_n hx hb dX11_stamps_0 rfl (lv_at hl 0 rfl) ?_
  refine lv_iload_n hx hb dX11_stamps_1 rfl (lv_at hl 1 rfl) ?_
  refine mh_xV mh_eR mh_eI (K := 1) [.int x1] cx th ht wd (rfl : vwCl[11]? = some (RX11, TX11, 16)) yw_X11_mintAt vw_X11_131 rfl hl.1 rfl (Nat.le_of_ble_eq_true rfl) dX11_stamps_2 ⟨Nat.le_of_ble_eq_true rfl, Nat.le_of_ble_eq_true rfl⟩ ⟨Nat.le_of_ble_eq_true rfl, Nat.le_of_ble_eq_true rfl⟩ ⟨Nat.le_of_ble_eq_true rfl, Nat.le_of_ble_eq_true rfl⟩ (fun _ _ q => c_X11_mintAt q) hX (fun a2 h1 H locs wd hX => ?_)
  refine W.eq (g2 := F0 m 5 ls [.ref a2]) rfl ?_
  refine lv_astore_n (lv' := [(3, .ref a2), (0, .ref o0), (1, .int x1), (2, .int x2)]) hx hb dX11_stamps_5 rfl hl (Nat.le_of_ble_eq_true rfl) rfl (fun ls hl => ?_)
  refine lv_iload_n hx hb dX11_stamps_6 rfl (lv_at hl 3 rfl) ?_
  refine lv_iconst (v := 1) hx hb dX11_stamps_7 (by decide) ?_
  refine lv_icmp_lt (tgt := 17) hx hb dX11_stamps_8 rfl (fun hc => (fun hX => ?_) ((mh_if hX).1 hc)) (fun hc => (fun hX => ?_) ((mh_if hX).2 hc))
  · exact w_X11_stamps_b17 cx th ht hr  h1 _ _ ls wd (lv_sub hl [] rfl) hX
  · refine lv_iload_n hx hb dX11_stamps_11 rfl (lv_at hl 3 rfl) ?_
    refine lv_bipush (v := 50) hx hb dX11_stamps_12 (by decide) ?_
    refine lv_icmp_le (tgt := 28) hx hb dX11_stamps_14 rfl (fun hc => (fun hX => ?_) ((mh_if hX).1 hc)) (fun hc => (fun hX => ?_) ((mh_if hX).2 hc))
    · refine lv_aload_n hx hb dX11_stamps_28 rfl (lv_at hl 1 rfl) ?_
      refine mh_getR cx wd fl_X11_23 dX11_stamps_29 hX (fun a3 hX => ?_)
      refine lv_aload_n hx hb dX11_stamps_32 rfl (lv_at hl 0 rfl) ?_
      refine mh_callVV cx wd [.ref a2] (rfl : vwCl[2]? = some (RX2, TX2, 5)) yw_X2_take vw_X11_152 rfl hl.1 rfl (Nat.le_of_ble_eq_true rfl) dX11_stamps_33 ⟨Nat.le_of_ble_eq_true rfl, Nat.le_of_ble_eq_true rfl⟩ ⟨Nat.le_of_ble_eq_true rfl, Nat.le_of_ble_eq_true rfl⟩ (fun _ q => c_X2_take q) hX (fun h4 H locs wd hX => ?_)
      refine lv_aload_n hx hb dX11_stamps_36 rfl (lv_at hl 1 rfl) ?_
      refine mh_getR cx wd fl_X11_23 dX11_stamps_37 hX (fun a5 hX => ?_)
      refine lv_iload_n hx hb dX11_stamps_40 rfl (lv_at hl 3 rfl) ?_
      refine mh_callVI cx wd [.int x2] (rfl : vwCl[2]? = some (RX2, TX2, 5)) yw_X2_allUpTo vw_X11_299 rfl hl.1 rfl (Nat.le_of_ble_eq_true rfl) dX11_stamps_41 ⟨Nat.le_of_ble_eq_true rfl, Nat.le_of_ble_eq_true rfl⟩ ⟨Nat.le_of_ble_eq_true rfl, Nat.le_of_ble_eq_true rfl⟩ (fun _ _ q => c_X2_allUpTo q) hX (fun v7 h6 H locs wd hX => ?_)
      exact mh_xiret cx wd hr hX dX11_stamps_44 ⟨Nat.le_of_ble_eq_true rfl, Nat.le_of_ble_eq_true rfl⟩
    · exact w_X11_stamps_b17 cx th ht hr  h1 _ _ ls wd (lv_sub hl [] rfl) hX
set_option maxRecDepth 100000 in
theorem c_X11_stamps {l : Launch} {L : List Nat} {h h' : mh_H} {r : Nat ⊕ Int32} {o0 : Nat} {x1 : Int32} {x2 : Int32} (hX : f_X11_stamps_e o0 x1 x2 h = some (r, h')) : mh_Mx l yX11_stamps (Cond.code yX11_stamps cX11_stamps 4 (some .int) :: mh_TB) (mh_rx 7 2) [.ref o0, .int x1, .int x2] L h (mh_em mh_eI r) h' 2 12 :=
  mh_xof (by decide) (Nat.le_of_ble_eq_true rfl) (fun p e s m below meth c D ks ls hr cx th ht wd hl => by
    have hl : lv_has ls 4 [(0, .ref o0), (1, .int x1), (2, .int x2)] := hl
    exact w_X11_stamps_e cx th ht hr o0 x1 x2 h _ _ ls wd hl hX)
def f_X11_span_b23 (h : mh_H) : Option ((Nat ⊕ Int64) × mh_H) :=
  some (.inl 2, h)
def f_X11_span_e (o0 : Nat) (x1 : Int32) (x2 : Int32) (x3 : Int32) (h : mh_H) : Option ((Nat ⊕ Int64) × mh_H) :=
  mh_bx (mh_cal h o0 11 (f_X11_mintAt_e o0 x1 h)) fun a2 h1 =>
  if x2 < 0 then (
  f_X11_span_b23 h1) else
  if x3 < x2 then (
  f_X11_span_b23 h1) else
  if x3 ≤ (100000 : Int32) then (
  (mh_gR h1 o0 11 1).bind fun a3 =>
  (mh_cal h1 a3 2 (f_X2_take_e a3 a2 h1)).bind fun h4 =>
  (mh_gR h4 o0 11 1).bind fun a5 =>
  mh_b2 (mh_cal h4 a5 2 (f_X2_together_e a5 x2 x3 h4)) fun w7 h6 =>
  some (.inr w7, h6)) else
  f_X11_span_b23 h1
set_option maxRecDepth 100000 in
set_option maxHeartbeats 4000000 in
theorem w_X11_span_b23 {p : Program} {l : Launch} {e : Env} {s : State} {m : MethodId} {args : Array Value} {below : List Frame} {meth : Method} {c : Code} {D : va_G} {ks : Nat → ClassId} {L : List Nat} {r : Nat ⊕ Int64} {h' : mh_H} (cx : mh_C p m c cX11_span 5 s args RX11 meth D ks (mh_A L s.heap.size)) (th : mh_Th l (mh_A L s.heap.size) s) (ht : ∀ x ∈ c.exceptionTable.toList, False) (hr : meth.sig.returnType = (some .long)) :
    ∀ (h : mh_H) (H : Heap) (locs : List Loc) (ls : Array Slot), mh_W D ks L (mh_A L s.heap.size) s.heap h H locs → lv_has ls 5 [] → f_X11_span_b23  h = some (r, h') → W p l e (mh_rx 7 2) s m args below meth c H locs 1 6 (vx_MQ below (mh_Qx D ks L s.heap.size (mh_em mh_eJ r) h') (mh_XC D ks L s.heap.size (mh_em mh_eJ r) h') args s 2 12 (mh_A L s.heap.size)) (F0 m 23 ls []) := by
  intro  h H locs ls wd hl hX
  have hx := cx.1.1
  have hb := cx.1.2.1
  unfold f_X11_span_b23 at hX
  exact mh_xthW mh_eJ mh_kx2 cx th ht wd (text := "not 0 <= a <= b <= 100,000") (by decide) hl.1 dX11_span_23 dX11_span_26 dX11_span_27 dX11_span_30 dX11_span_33 ⟨Nat.le_of_ble_eq_true rfl, Nat.le_of_ble_eq_true rfl⟩ ⟨Nat.le_of_ble_eq_true rfl, Nat.le_of_ble_eq_true rfl⟩ ⟨Nat.le_of_ble_eq_true rfl, Nat.le_of_ble_eq_true rfl⟩ hX
set_option maxRecDepth 100000 in
set_option maxHeartbeats 4000000 in
theorem w_X11_span_e {p : Program} {l : Launch} {e : Env} {s : State} {m : MethodId} {args : Array Value} {below : List Frame} {meth : Method} {c : Code} {D : va_G} {ks : Nat → ClassId} {L : List Nat} {r : Nat ⊕ Int64} {h' : mh_H} (cx : mh_C p m c cX11_span 5 s args RX11 meth D ks (mh_A L s.heap.size)) (th : mh_Th l (mh_A L s.heap.size) s) (ht : ∀ x ∈ c.exceptionTable.toList, False) (hr : meth.sig.returnType = (some .long)) :
    ∀ (o0 : Nat) (x1 : Int32) (x2 : Int32) (x3 : Int32) (h : mh_H) (H : Heap) (locs : List Loc) (ls : Array Slot), mh_W D ks L (mh_A L s.heap.size) s.heap h H locs → lv_has ls 5 [(0, .ref o0), (1, .int x1), (2, .int x2), (3, .int x3)] → f_X11_span_e o0 x1 x2 x3 h = some (r, h') → W p l e (mh_rx 7 2) s m args below meth c H locs 0 0 (vx_MQ below (mh_Qx D ks L s.heap.size (mh_em mh_eJ r) h') (mh_XC D ks L s.heap.size (mh_em mh_eJ r) h') args s 2 12 (mh_A L s.heap.size)) (F0 m 0 ls []) := by
  intro o0 x1 x2 x3 h H locs ls wd hl hX
  have hx := cx.1.1
  have hb := cx.1.2.1
  unfold f_X11_span_e at hX
  refine lv_aload_n hx hb dX11_span_0 rfl (lv_at hl 0 rfl) ?_
  refine lv_iload_n hx hb dX11_span_1 rfl (lv_at hl 1 rfl) ?_
  refine mh_xV mh_eR mh_eJ (K := 1) [.int x1] cx th ht wd (rfl : vwCl[11]? = some (RX11, TX11, 16)) yw_X11_mintAt vw_X11_131 rfl hl.1 rfl (Nat.le_of_ble_eq_true rfl) dX11_span_2 ⟨Nat.le_of_ble_eq_true rfl, Nat.le_of_ble_eq_true rfl⟩ ⟨Nat.le_of_ble_eq_true rfl, Nat.le_of_ble_eq_true rfl⟩ ⟨Nat.le_of_ble_eq_true rfl, Nat.le_of_ble_eq_true rfl⟩ (fun _ _ q => c_X11_mintAt q) hX (fun a2 h1 H locs wd hX => ?_)
  refine W.eq (g2 := F0 m 5 ls [.ref a2]) rfl ?_
  refine lv_astore (lv' := [(4, .ref a2), (0, .ref o0), (1, .int x1), (2, .int x2), (3, .int x3)]) hx hb dX11_span_5 hl (Nat.le_of_ble_eq_true rfl) rfl (fun ls hl => ?_)
  refine lv_iload_n hx hb dX11_span_7 rfl (lv_at hl 3 rfl) ?_
  refine lv_if_lt (tgt := 23) hx hb dX11_span_8 rfl (fun hc => (fun hX => ?_) ((mh_if hX).1 hc)) (fun hc => (fun hX => ?_) ((mh_if hX).2 hc))
  · exact w_X11_span_b23 cx th ht hr  h1 _ _ ls wd (lv_sub hl [] rfl) hX
  · refine lv_iload_n hx hb dX11_span_11 rfl (lv_at hl 3 rfl) ?_
    refine lv_iload_n hx hb dX11_span_12 rfl (lv_at hl 4 rfl) ?_
    refine lv_icmp_gt (tgt := 23) hx hb dX11_span_13 rfl (fun hc => (fun hX => ?_) ((mh_if hX).1 hc)) (fun hc => (fun hX => ?_) ((mh_if hX).2 hc))
    · exact w_X11_span_b23 cx th ht hr  h1 _ _ ls wd (lv_sub hl [] rfl) hX
    · refine lv_iload_n hx hb dX11_span_16 rfl (lv_at hl 4 rfl) ?_
      refine mh_ldcw cx kc_X11_302 dX11_span_17 ?_
      refine lv_icmp_le (tgt := 34) hx hb dX11_span_20 rfl (fun hc => (fun hX => ?_) ((mh_if hX).1 hc)) (fun hc => (fun hX => ?_) ((mh_if hX).2 hc))
      · refine lv_aload_n hx hb dX11_span_34 rfl (lv_at hl 1 rfl) ?_
        refine mh_getR cx wd fl_X11_23 dX11_span_35 hX (fun a3 hX => ?_)
        refine lv_aload hx hb dX11_span_38 (lv_at hl 0 rfl) ?_
        refine mh_callVV cx wd [.ref a2] (rfl : vwCl[2]? = some (RX2, TX2, 5)) yw_X2_take vw_X11_152 rfl hl.1 rfl (Nat.le_of_ble_eq_true rfl) dX11_span_40 ⟨Nat.le_of_ble_eq_true rfl, Nat.le_of_ble_eq_true rfl⟩ ⟨Nat.le_of_ble_eq_true rfl, Nat.le_of_ble_eq_true rfl⟩ (fun _ q => c_X2_take q) hX (fun h4 H locs wd hX => ?_)
        refine lv_aload_n hx hb dX11_span_43 rfl (lv_at hl 1 rfl) ?_
        refine mh_getR cx wd fl_X11_23 dX11_span_44 hX (fun a5 hX => ?_)
        refine lv_iload_n hx hb dX11_span_47 rfl (lv_at hl 3 rfl) ?_
        refine lv_iload_n hx hb dX11_span_48 rfl (lv_at hl 4 rfl) ?_
        refine mh_callVJ cx wd [.int x2, .int x3] (rfl : vwCl[2]? = some (RX2, TX2, 5)) yw_X2_together vw_X11_305 rfl hl.1 rfl (Nat.le_of_ble_eq_true rfl) dX11_span_49 ⟨Nat.le_of_ble_eq_true rfl, Nat.le_of_ble_eq_true rfl⟩ ⟨Nat.le_of_ble_eq_true rfl, Nat.le_of_ble_eq_true rfl⟩ (fun _ _ q => c_X2_together q) hX (fun w7 h6 H locs wd hX => ?_)
        exact mh_xlret cx wd hr hX dX11_span_52 ⟨Nat.le_of_ble_eq_true rfl, Nat.le_of_ble_eq_true rfl⟩
      · exact w_X11_span_b23 cx th ht hr  h1 _ _ ls wd (lv_sub hl [] rfl) hX
set_option maxRecDepth 100000 in
theorem c_X11_span {l : Launch} {L : List Nat} {h h' : mh_H} {r : Nat ⊕ Int64} {o0 : Nat} {x1 : Int32} {x2 : Int32} {x3 : Int32} (hX : f_X11_span_e o0 x1 x2 x3 h = some (r, h')) : mh_Mx l yX11_span (Cond.code yX11_span cX11_span 5 (some .long) :: mh_TB) (mh_rx 7 2) [.ref o0, .int x1, .int x2, .int x3] L h (mh_em mh_eJ r) h' 2 12 :=
  mh_xof (by decide) (Nat.le_of_ble_eq_true rfl) (fun p e s m below meth c D ks ls hr cx th ht wd hl => by
    have hl : lv_has ls 5 [(0, .ref o0), (1, .int x1), (2, .int x2), (3, .int x3)] := hl
    exact w_X11_span_e cx th ht hr o0 x1 x2 x3 h _ _ ls wd hl hX)
def f_X11_best_b28 (h : mh_H) : Option ((Nat ⊕ Int32) × mh_H) :=
  some (.inl 2, h)
def f_X11_best_e (o0 : Nat) (x1 : Int32) (x2 : Int32) (x3 : Int32) (h : mh_H) : Option ((Nat ⊕ Int32) × mh_H) :=
  mh_bx (mh_cal h o0 11 (f_X11_mintAt_e o0 x3 h)) fun a2 h1 =>
  if x1 < (1 : Int32) then (
  f_X11_best_b28 h1) else
  if (6 : Int32) < x1 then (
  f_X11_best_b28 h1) else
  if x2 < (1 : Int32) then (
  f_X11_best_b28 h1) else
  if x2 ≤ (12 : Int32) then (
  (mh_gR h1 o0 11 9).bind fun a3 =>
  (mh_gR h1 o0 11 1).bind fun a4 =>
  mh_b2 (mh_cal h1 a3 9 (f_X9_run_e a3 x1 x2 a4 h1)) fun v6 h5 =>
  if v6 = 0 then (
  some (.inr (-2 : Int32), h5)) else
  (mh_gR h5 o0 11 0).bind fun a7 =>
  (mh_cal h5 a7 3 (f_X3_begin_e a7 h5)).bind fun h8 =>
  (mh_gR h8 o0 11 0).bind fun a9 =>
  mh_b2 (mh_cal h8 a9 3 (f_X3_mint_e a9 x3 h8)) fun a11 h10 =>
  (mh_gR h10 o0 11 9).bind fun a12 =>
  mh_b2 (mh_cal h10 a12 9 (f_X9_found_e a12 h10)) fun a14 h13 =>
  (mh_cal h13 a11 1 (f_X1_copy_e a11 a14 h13)).bind fun h15 =>
  (mh_gR h15 o0 11 9).bind fun a16 =>
  mh_b2 (mh_cal h15 a16 9 (f_X9_foundReach_e a16 h15)) fun v18 h17 =>
  some (.inr v18, h17)) else
  f_X11_best_b28 h1
set_option maxRecDepth 100000 in
set_option maxHeartbeats 4000000 in
theorem w_X11_best_b28 {p : Program} {l : Launch} {e : Env} {s : State} {m : MethodId} {args : Array Value} {below : List Frame} {meth : Method} {c : Code} {D : va_G} {ks : Nat → ClassId} {L : List Nat} {r : Nat ⊕ Int32} {h' : mh_H} (cx : mh_C p m c cX11_best 4 s args RX11 meth D ks (mh_A L s.heap.size)) (th : mh_Th l (mh_A L s.heap.size) s) (ht : ∀ x ∈ c.exceptionTable.toList, False) (hr : meth.sig.returnType = (some .int)) :
    ∀ (h : mh_H) (H : Heap) (locs : List Loc) (ls : Array Slot), mh_W D ks L (mh_A L s.heap.size) s.heap h H locs → lv_has ls 4 [] → f_X11_best_b28  h = some (r, h') → W p l e (mh_rx 7 2) s m args below meth c H locs 1 6 (vx_MQ below (mh_Qx D ks L s.heap.size (mh_em mh_eI r) h') (mh_XC D ks L s.heap.size (mh_em mh_eI r) h') args s 2 12 (mh_A L s.heap.size)) (F0 m 28 ls []) := by
  intro  h H locs ls wd hl hX
  have hx := cx.1.1
  have hb := cx.1.2.1
  unfold f_X11_best_b28 at hX
  exact mh_xthW mh_eI mh_kx2 cx th ht wd (text := "k is not 1 to 6, or h not 1 to 12") (by decide) hl.1 dX11_best_28 dX11_best_31 dX11_best_32 dX11_best_35 dX11_best_38 ⟨Nat.le_of_ble_eq_true rfl, Nat.le_of_ble_eq_true rfl⟩ ⟨Nat.le_of_ble_eq_true rfl, Nat.le_of_ble_eq_true rfl⟩ ⟨Nat.le_of_ble_eq_true rfl, Nat.le_of_ble_eq_true rfl⟩ hX
set_option maxRecDepth 100000 in
set_option maxHeartbeats 4000000 in
theorem w_X11_best_e {p : Program} {l : Launch} {e : Env} {s : State} {m : MethodId} {args : Array Value} {below : List Frame} {meth : Method} {c : Code} {D : va_G} {ks : Nat → ClassId} {L : List Nat} {r : Nat ⊕ Int32} {h' : mh_H} (cx : mh_C p m c cX11_best 4 s args RX11 meth D ks (mh_A L s.heap.size)) (th : mh_Th l (mh_A L s.heap.size) s) (ht : ∀ x ∈ c.exceptionTable.toList, False) (hr : meth.sig.returnType = (some .int)) :
    ∀ (o0 : Nat) (x1 : Int32) (x2 : Int32) (x3 : Int32) (h : mh_H) (H : Heap) (locs : List Loc) (ls : Array Slot), mh_W D ks L (mh_A L s.heap.size) s.heap h H locs → lv_has ls 4 [(0, .ref o0), (1, .int x1), (2, .int x2), (3, .int x3)] → f_X11_best_e o0 x1 x2 x3 h = some (r, h') → W p l e (mh_rx 7 2) s m args below meth c H locs 0 0 (vx_MQ below (mh_Qx D ks L s.heap.size (mh_em mh_eI r) h') (mh_XC D ks L s.heap.size (mh_em mh_eI r) h') args s 2 12 (mh_A L s.heap.size)) (F0 m 0 ls []) := by
  intro o0 x1 x2 x3 h H locs ls wd hl hX
  have hx := cx.1.1
  have hb := cx.1.2.1
  unfold f_X11_best_e at hX
  refine lv_aload_n hx hb dX11_best_0 rfl (lv_at hl 0 rfl) ?_
  refine lv_iload_n hx hb dX11_best_1 rfl (lv_at hl 3 rfl) ?_
  refine mh_xV mh_eR mh_eI (K := 1) [.int x3] cx th ht wd (rfl : vwCl[11]? = some (RX11, TX11, 16)) yw_X11_mintAt vw_X11_131 rfl hl.1 rfl (Nat.le_of_ble_eq_true rfl) dX11_best_2 ⟨Nat.le_of_ble_eq_true rfl, Nat.le_of_ble_eq_true rfl⟩ ⟨Nat.le_of_ble_eq_true rfl, Nat.le_of_ble_eq_true rfl⟩ ⟨Nat.le_of_ble_eq_true rfl, Nat.le_of_ble_eq_true rfl⟩ (fun _ _ q => c_X11_mintAt q) hX (fun a2 h1 H locs wd hX => ?_)
  refine W.eq (g2 := F0 m 5 ls [.ref a2]) rfl ?_
  refine lv_pop hx hb dX11_best_5 rfl ?_
  refine lv_iload_n hx hb dX11_best_6 rfl (lv_at hl 1 rfl) ?_
  refine lv_iconst (v := 1) hx hb dX11_best_7 (by decide) ?_
  refine lv_icmp_lt (tgt := 28) hx hb dX11_best_8 rfl (fun hc => (fun hX => ?_) ((mh_if hX).1 hc)) (fun hc => (fun hX => ?_) ((mh_if hX).2 hc))
  · exact w_X11_best_b28 cx th ht hr  h1 _ _ ls wd (lv_sub hl [] rfl) hX
  · refine lv_iload_n hx hb dX11_best_11 rfl (lv_at hl 1 rfl) ?_
    refine lv_bipush (v := 6) hx hb dX11_best_12 (by decide) ?_
    refine lv_icmp_gt (tgt := 28) hx hb dX11_best_14 rfl (fun hc => (fun hX => ?_) ((mh_if hX).1 hc)) (fun hc => (fun hX => ?_) ((mh_if hX).2 hc))
    · exact w_X11_best_b28 cx th ht hr  h1 _ _ ls wd (lv_sub hl [] rfl) hX
    · refine lv_iload_n hx hb dX11_best_17 rfl (lv_at hl 2 rfl) ?_
      refine lv_iconst (v := 1) hx hb dX11_best_18 (by decide) ?_
      refine lv_icmp_lt (tgt := 28) hx hb dX11_best_19 rfl (fun hc => (fun hX => ?_) ((mh_if hX).1 hc)) (fun hc => (fun hX => ?_) ((mh_if hX).2 hc))
      · exact w_X11_best_b28 cx th ht hr  h1 _ _ ls wd (lv_sub hl [] rfl) hX
      · refine lv_iload_n hx hb dX11_best_22 rfl (lv_at hl 2 rfl) ?_
        refine lv_bipush (v := 12) hx hb dX11_best_23 (by decide) ?_
        refine lv_icmp_le (tgt := 39) hx hb dX11_best_25 rfl (fun hc => (fun hX => ?_) ((mh_if hX).1 hc)) (fun hc => (fun hX => ?_) ((mh_if hX).2 hc))
        · refine lv_aload_n hx hb dX11_best_39 rfl (lv_at hl 0 rfl) ?_
          refine mh_getR cx wd fl_X11_71 dX11_best_40 hX (fun a3 hX => ?_)
          refine lv_iload_n hx hb dX11_best_43 rfl (lv_at hl 1 rfl) ?_
          refine lv_iload_n hx hb dX11_best_44 rfl (lv_at hl 2 rfl) ?_
          refine lv_aload_n hx hb dX11_best_45 rfl (lv_at hl 0 rfl) ?_
          refine mh_getR cx wd fl_X11_23 dX11_best_46 hX (fun a4 hX => ?_)
          refine mh_callVI cx wd [.int x1, .int x2, .ref a4] (rfl : vwCl[9]? = some (RX9, TX9, 6)) yw_X9_run vw_X11_311 rfl hl.1 rfl (Nat.le_of_ble_eq_true rfl) dX11_best_49 ⟨Nat.le_of_ble_eq_true rfl, Nat.le_of_ble_eq_true rfl⟩ ⟨Nat.le_of_ble_eq_true rfl, Nat.le_of_ble_eq_true rfl⟩ (fun _ _ q => c_X9_run q) hX (fun v6 h5 H locs wd hX => ?_)
          refine lv_if_ne (tgt := 58) hx hb dX11_best_52 rfl (fun hc => (fun hX => ?_) ((mh_if hX).2 hc)) (fun hc => (fun hX => ?_) ((mh_if hX).1 hc))
          · refine lv_aload_n hx hb dX11_best_58 rfl (lv_at hl 0 rfl) ?_
            refine mh_getR cx wd fl_X11_14 dX11_best_59 hX (fun a7 hX => ?_)
            refine mh_callVV cx wd [] (rfl : vwCl[3]? = some (RX3, TX3, 5)) yw_X3_begin vw_X11_117 rfl hl.1 rfl (Nat.le_of_ble_eq_true rfl) dX11_best_62 ⟨Nat.le_of_ble_eq_true rfl, Nat.le_of_ble_eq_true rfl⟩ ⟨Nat.le_of_ble_eq_true rfl, Nat.le_of_ble_eq_true rfl⟩ (fun _ q => c_X3_begin q) hX (fun h8 H locs wd hX => ?_)
            refine lv_aload_n hx hb dX11_best_65 rfl (lv_at hl 0 rfl) ?_
            refine mh_getR cx wd fl_X11_14 dX11_best_66 hX (fun a9 hX => ?_)
            refine lv_iload_n hx hb dX11_best_69 rfl (lv_at hl 3 rfl) ?_
            refine mh_callVR cx wd [.int x3] (rfl : vwCl[3]? = some (RX3, TX3, 5)) yw_X3_mint vw_X11_106 rfl hl.1 rfl (Nat.le_of_ble_eq_true rfl) dX11_best_70 ⟨Nat.le_of_ble_eq_true rfl, Nat.le_of_ble_eq_true rfl⟩ ⟨Nat.le_of_ble_eq_true rfl, Nat.le_of_ble_eq_true rfl⟩ (fun _ _ q => c_X3_mint q) hX (fun a11 h10 H locs wd hX => ?_)
            refine lv_aload_n hx hb dX11_best_73 rfl (lv_at hl 0 rfl) ?_
            refine mh_getR cx wd fl_X11_71 dX11_best_74 hX (fun a12 hX => ?_)
            refine mh_callVR cx wd [] (rfl : vwCl[9]? = some (RX9, TX9, 6)) yw_X9_found vw_X11_315 rfl hl.1 rfl (Nat.le_of_ble_eq_true rfl) dX11_best_77 ⟨Nat.le_of_ble_eq_true rfl, Nat.le_of_ble_eq_true rfl⟩ ⟨Nat.le_of_ble_eq_true rfl, Nat.le_of_ble_eq_true rfl⟩ (fun _ _ q => c_X9_found q) hX (fun a14 h13 H locs wd hX => ?_)
            refine mh_callVV cx wd [.ref a14] (rfl : vwCl[1]? = some (RX1, TX1, 2)) yw_X1_copy vw_X11_220 rfl hl.1 rfl (Nat.le_of_ble_eq_true rfl) dX11_best_80 ⟨Nat.le_of_ble_eq_true rfl, Nat.le_of_ble_eq_true rfl⟩ ⟨Nat.le_of_ble_eq_true rfl, Nat.le_of_ble_eq_true rfl⟩ (fun _ q => c_X1_copy q) hX (fun h15 H locs wd hX => ?_)
            refine lv_aload_n hx hb dX11_best_83 rfl (lv_at hl 0 rfl) ?_
            refine mh_getR cx wd fl_X11_71 dX11_best_84 hX (fun a16 hX => ?_)
            refine mh_callVI cx wd [] (rfl : vwCl[9]? = some (RX9, TX9, 6)) yw_X9_foundReach vw_X11_318 rfl hl.1 rfl (Nat.le_of_ble_eq_true rfl) dX11_best_87 ⟨Nat.le_of_ble_eq_true rfl, Nat.le_of_ble_eq_true rfl⟩ ⟨Nat.le_of_ble_eq_true rfl, Nat.le_of_ble_eq_true rfl⟩ (fun _ _ q => c_X9_foundReach q) hX (fun v18 h17 H locs wd hX => ?_)
            exact mh_xiret cx wd hr hX dX11_best_90 ⟨Nat.le_of_ble_eq_true rfl, Nat.le_of_ble_eq_true rfl⟩
          · refine lv_bipush (v := (-2)) hx hb dX11_best_55 (by decide) ?_
            exact mh_xiret cx wd hr hX dX11_best_57 ⟨Nat.le_of_ble_eq_true rfl, Nat.le_of_ble_eq_true rfl⟩
        · exact w_X11_best_b28 cx th ht hr  h1 _ _ ls wd (lv_sub hl [] rfl) hX
set_option maxRecDepth 100000 in
theorem c_X11_best {l : Launch} {L : List Nat} {h h' : mh_H} {r : Nat ⊕ Int32} {o0 : Nat} {x1 : Int32} {x2 : Int32} {x3 : Int32} (hX : f_X11_best_e o0 x1 x2 x3 h = some (r, h')) : mh_Mx l yX11_best (Cond.code yX11_best cX11_best 4 (some .int) :: mh_TB) (mh_rx 7 2) [.ref o0, .int x1, .int x2, .int x3] L h (mh_em mh_eI r) h' 2 12 :=
  mh_xof (by decide) (Nat.le_of_ble_eq_true rfl) (fun p e s m below meth c D ks ls hr cx th ht wd hl => by
    have hl : lv_has ls 4 [(0, .ref o0), (1, .int x1), (2, .int x2), (3, .int x3)] := hl
    exact w_X11_best_e cx th ht hr o0 x1 x2 x3 h _ _ ls wd hl hX)
def f_X11_purseAt_e (o0 : Nat) (x1 : Int32) (h : mh_H) : Option ((Nat ⊕ Nat) × mh_H) :=
  mh_b2 (f_X11_isPlace_e x1 h) fun v2 h1 =>
  if v2 = 0 then (
  some (.inl 1, h1)) else
  (mh_gR h1 o0 11 0).bind fun a3 =>
  mh_b2 (mh_cal h1 a3 3 (f_X3_purse_e a3 x1 h1)) fun a5 h4 =>
  some (.inr a5, h4)
set_option maxRecDepth 100000 in
set_option maxHeartbeats 4000000 in
theorem w_X11_purseAt_e {p : Program} {l : Launch} {e : Env} {s : State} {m : MethodId} {args : Array Value} {below : List Frame} {meth : Method} {c : Code} {D : va_G} {ks : Nat → ClassId} {L : List Nat} {r : Nat ⊕ Nat} {h' : mh_H} (cx : mh_C p m c cX11_purseAt 2 s args RX11 meth D ks (mh_A L s.heap.size)) (th : mh_Th l (mh_A L s.heap.size) s) (ht : ∀ x ∈ c.exceptionTable.toList, False) (hr : meth.sig.returnType = (some (.object "MintHouse$Purse"))) :
    ∀ (o0 : Nat) (x1 : Int32) (h : mh_H) (H : Heap) (locs : List Loc) (ls : Array Slot), mh_W D ks L (mh_A L s.heap.size) s.heap h H locs → lv_has ls 2 [(0, .ref o0), (1, .int x1)] → f_X11_purseAt_e o0 x1 h = some (r, h') → W p l e (mh_rx 6 1) s m args below meth c H locs 0 0 (vx_MQ below (mh_Qx D ks L s.heap.size (mh_em mh_eR r) h') (mh_XC D ks L s.heap.size (mh_em mh_eR r) h') args s 1 6 (mh_A L s.heap.size)) (F0 m 0 ls []) := by
  intro o0 x1 h H locs ls wd hl hX
  have hx := cx.1.1
  have hb := cx.1.2.1
  unfold f_X11_purseAt_e at hX
  refine lv_iload_n hx hb dX11_purseAt_0 rfl (lv_at hl 1 rfl) ?_
  refine mh_callSI cx wd [.int x1] yw_X11_isPlace sw_X11_102 rfl hl.1 rfl (Nat.le_of_ble_eq_true rfl) dX11_purseAt_1 ⟨Nat.le_of_ble_eq_true rfl, Nat.le_of_ble_eq_true rfl⟩ ⟨Nat.le_of_ble_eq_true rfl, Nat.le_of_ble_eq_true rfl⟩ (fun _ _ q => c_X11_isPlace q) hX (fun v2 h1 H locs wd hX => ?_)
  refine lv_if_ne (tgt := 18) hx hb dX11_purseAt_4 rfl (fun hc => (fun hX => ?_) ((mh_if hX).2 hc)) (fun hc => (fun hX => ?_) ((mh_if hX).1 hc))
  · refine lv_aload_n hx hb dX11_purseAt_18 rfl (lv_at hl 0 rfl) ?_
    refine mh_getR cx wd fl_X11_14 dX11_purseAt_19 hX (fun a3 hX => ?_)
    refine lv_iload_n hx hb dX11_purseAt_22 rfl (lv_at hl 1 rfl) ?_
    refine mh_callVR cx wd [.int x1] (rfl : vwCl[3]? = some (RX3, TX3, 5)) yw_X3_purse vw_X11_328 rfl hl.1 rfl (Nat.le_of_ble_eq_true rfl) dX11_purseAt_23 ⟨Nat.le_of_ble_eq_true rfl, Nat.le_of_ble_eq_true rfl⟩ ⟨Nat.le_of_ble_eq_true rfl, Nat.le_of_ble_eq_true rfl⟩ (fun _ _ q => c_X3_purse q) hX (fun a5 h4 H locs wd hX => ?_)
    exact mh_xaret cx wd hr (Or.inl ⟨_, rfl⟩) hX dX11_purseAt_26 ⟨Nat.le_of_ble_eq_true rfl, Nat.le_of_ble_eq_true rfl⟩
  · exact mh_xthW mh_eR mh_kx1 cx th ht wd (text := "no such purse") (by decide) hl.1 dX11_purseAt_7 dX11_purseAt_10 dX11_purseAt_11 dX11_purseAt_14 dX11_purseAt_17 ⟨Nat.le_of_ble_eq_true rfl, Nat.le_of_ble_eq_true rfl⟩ ⟨Nat.le_of_ble_eq_true rfl, Nat.le_of_ble_eq_true rfl⟩ ⟨Nat.le_of_ble_eq_true rfl, Nat.le_of_ble_eq_true rfl⟩ hX
set_option maxRecDepth 100000 in
theorem c_X11_purseAt {l : Launch} {L : List Nat} {h h' : mh_H} {r : Nat ⊕ Nat} {o0 : Nat} {x1 : Int32} (hX : f_X11_purseAt_e o0 x1 h = some (r, h')) : mh_Mx l yX11_purseAt (Cond.code yX11_purseAt cX11_purseAt 2 (some (.object "MintHouse$Purse")) :: mh_TB) (mh_rx 6 1) [.ref o0, .int x1] L h (mh_em mh_eR r) h' 1 6 :=
  mh_xof (by decide) (Nat.le_of_ble_eq_true rfl) (fun p e s m below meth c D ks ls hr cx th ht wd hl => by
    have hl : lv_has ls 2 [(0, .ref o0), (1, .int x1)] := hl
    exact w_X11_purseAt_e cx th ht hr o0 x1 h _ _ ls wd hl hX)
def f_X11_open_e (o0 : Nat) (x1 : Int32) (x2 : Int32) (h : mh_H) : Option ((Nat ⊕ Unit) × mh_H) :=
  mh_bx (mh_cal h o0 11 (f_X11_purseAt_e o0 x1 h)) fun a2 h1 =>
  mh_bx (mh_cal h1 o0 11 (f_X11_mintAt_e o0 x2 h1)) fun a4 h3 =>
  (mh_gR h3 o0 11 0).bind fun a5 =>
  (mh_cal h3 a5 3 (f_X3_begin_e a5 h3)).bind fun h6 =>
  (mh_gR h6 o0 11 0).bind fun a7 =>
  mh_b2 (mh_cal h6 a7 3 (f_X3_purse_e a7 x1 h6)) fun a9 h8 =>
  (mh_gR h8 o0 11 0).bind fun a10 =>
  mh_b2 (mh_cal h8 a10 3 (f_X3_mint_e a10 x2 h8)) fun a12 h11 =>
  (mh_cal h11 a9 7 (f_X7_refit_e a9 a12 h11)).bind fun h13 =>
  some (.inr (), h13)
set_option maxRecDepth 100000 in
set_option maxHeartbeats 4000000 in
theorem w_X11_open_e {p : Program} {l : Launch} {e : Env} {s : State} {m : MethodId} {args : Array Value} {below : List Frame} {meth : Method} {c : Code} {D : va_G} {ks : Nat → ClassId} {L : List Nat} {r : Nat ⊕ Unit} {h' : mh_H} (cx : mh_C p m c cX11_open 3 s args RX11 meth D ks (mh_A L s.heap.size)) (th : mh_Th l (mh_A L s.heap.size) s) (ht : ∀ x ∈ c.exceptionTable.toList, False) (hr : meth.sig.returnType = none) :
    ∀ (o0 : Nat) (x1 : Int32) (x2 : Int32) (h : mh_H) (H : Heap) (locs : List Loc) (ls : Array Slot), mh_W D ks L (mh_A L s.heap.size) s.heap h H locs → lv_has ls 3 [(0, .ref o0), (1, .int x1), (2, .int x2)] → f_X11_open_e o0 x1 x2 h = some (r, h') → W p l e (mh_rx 7 2) s m args below meth c H locs 0 0 (vx_MQ below (mh_Qx D ks L s.heap.size (mh_em mh_eV r) h') (mh_XC D ks L s.heap.size (mh_em mh_eV r) h') args s 2 12 (mh_A L s.heap.size)) (F0 m 0 ls []) := by
  intro o0 x1 x2 h H locs ls wd hl hX
  have hx := cx.1.1
  have hb := cx.1.2.1
  unfold f_X11_open_e at hX
  refine lv_aload_n hx hb dX11_open_0 rfl (lv_at hl 0 rfl) ?_
  refine lv_iload_n hx hb dX11_open_1 rfl (lv_at hl 1 rfl) ?_
  refine mh_xV mh_eR mh_eV (K := 1) [.int x1] cx th ht wd (rfl : vwCl[11]? = some (RX11, TX11, 16)) yw_X11_purseAt vw_X11_324 rfl hl.1 rfl (Nat.le_of_ble_eq_true rfl) dX11_open_2 ⟨Nat.le_of_ble_eq_true rfl, Nat.le_of_ble_eq_true rfl⟩ ⟨Nat.le_of_ble_eq_true rfl, Nat.le_of_ble_eq_true rfl⟩ ⟨Nat.le_of_ble_eq_true rfl, Nat.le_of_ble_eq_true rfl⟩ (fun _ _ q => c_X11_purseAt q) hX (fun a2 h1 H locs wd hX => ?_)
  refine W.eq (g2 := F0 m 5 ls [.ref a2]) rfl ?_
  refine lv_pop hx hb dX11_open_5 rfl ?_
  refine lv_aload_n hx hb dX11_open_6 rfl (lv_at hl 0 rfl) ?_
  refine lv_iload_n hx hb dX11_open_7 rfl (lv_at hl 2 rfl) ?_
  refine mh_xV mh_eR mh_eV (K := 1) [.int x2] cx th ht wd (rfl : vwCl[11]? = some (RX11, TX11, 16)) yw_X11_mintAt vw_X11_131 rfl hl.1 rfl (Nat.le_of_ble_eq_true rfl) dX11_open_8 ⟨Nat.le_of_ble_eq_true rfl, Nat.le_of_ble_eq_true rfl⟩ ⟨Nat.le_of_ble_eq_true rfl, Nat.le_of_ble_eq_true rfl⟩ ⟨Nat.le_of_ble_eq_true rfl, Nat.le_of_ble_eq_true rfl⟩ (fun _ _ q => c_X11_mintAt q) hX (fun a4 h3 H locs wd hX => ?_)
  refine W.eq (g2 := F0 m 11 ls [.ref a4]) rfl ?_
  refine lv_pop hx hb dX11_open_11 rfl ?_
  refine lv_aload_n hx hb dX11_open_12 rfl (lv_at hl 0 rfl) ?_
  refine mh_getR cx wd fl_X11_14 dX11_open_13 hX (fun a5 hX => ?_)
  refine mh_callVV cx wd [] (rfl : vwCl[3]? = some (RX3, TX3, 5)) yw_X3_begin vw_X11_117 rfl hl.1 rfl (Nat.le_of_ble_eq_true rfl) dX11_open_16 ⟨Nat.le_of_ble_eq_true rfl, Nat.le_of_ble_eq_true rfl⟩ ⟨Nat.le_of_ble_eq_true rfl, Nat.le_of_ble_eq_true rfl⟩ (fun _ q => c_X3_begin q) hX (fun h6 H locs wd hX => ?_)
  refine lv_aload_n hx hb dX11_open_19 rfl (lv_at hl 0 rfl) ?_
  refine mh_getR cx wd fl_X11_14 dX11_open_20 hX (fun a7 hX => ?_)
  refine lv_iload_n hx hb dX11_open_23 rfl (lv_at hl 1 rfl) ?_
  refine mh_callVR cx wd [.int x1] (rfl : vwCl[3]? = some (RX3, TX3, 5)) yw_X3_purse vw_X11_328 rfl hl.1 rfl (Nat.le_of_ble_eq_true rfl) dX11_open_24 ⟨Nat.le_of_ble_eq_true rfl, Nat.le_of_ble_eq_true rfl⟩ ⟨Nat.le_of_ble_eq_true rfl, Nat.le_of_ble_eq_true rfl⟩ (fun _ _ q => c_X3_purse q) hX (fun a9 h8 H locs wd hX => ?_)
  refine lv_aload_n hx hb dX11_open_27 rfl (lv_at hl 0 rfl) ?_
  refine mh_getR cx wd fl_X11_14 dX11_open_28 hX (fun a10 hX => ?_)
  refine lv_iload_n hx hb dX11_open_31 rfl (lv_at hl 2 rfl) ?_
  refine mh_callVR cx wd [.int x2] (rfl : vwCl[3]? = some (RX3, TX3, 5)) yw_X3_mint vw_X11_106 rfl hl.1 rfl (Nat.le_of_ble_eq_true rfl) dX11_open_32 ⟨Nat.le_of_ble_eq_true rfl, Nat.le_of_ble_eq_true rfl⟩ ⟨Nat.le_of_ble_eq_true rfl, Nat.le_of_ble_eq_true rfl⟩ (fun _ _ q => c_X3_mint q) hX (fun a12 h11 H locs wd hX => ?_)
  refine mh_callVV cx wd [.ref a12] (rfl : vwCl[7]? = some (RX7, TX7, 2)) yw_X7_refit vw_X11_253 rfl hl.1 rfl (Nat.le_of_ble_eq_true rfl) dX11_open_35 ⟨Nat.le_of_ble_eq_true rfl, Nat.le_of_ble_eq_true rfl⟩ ⟨Nat.le_of_ble_eq_true rfl, Nat.le_of_ble_eq_true rfl⟩ (fun _ q => c_X7_refit q) hX (fun h13 H locs wd hX => ?_)
  exact mh_xvret cx wd hr hX dX11_open_38 ⟨Nat.le_of_ble_eq_true rfl, Nat.le_of_ble_eq_true rfl⟩
set_option maxRecDepth 100000 in
theorem c_X11_open {l : Launch} {L : List Nat} {h h' : mh_H} {r : Nat ⊕ Unit} {o0 : Nat} {x1 : Int32} {x2 : Int32} (hX : f_X11_open_e o0 x1 x2 h = some (r, h')) : mh_Mx l yX11_open (Cond.code yX11_open cX11_open 3 none :: mh_TB) (mh_rx 7 2) [.ref o0, .int x1, .int x2] L h (mh_em mh_eV r) h' 2 12 :=
  mh_xof (by decide) (Nat.le_of_ble_eq_true rfl) (fun p e s m below meth c D ks ls hr cx th ht wd hl => by
    have hl : lv_has ls 3 [(0, .ref o0), (1, .int x1), (2, .int x2)] := hl
    exact w_X11_open_e cx th ht hr o0 x1 x2 h _ _ ls wd hl hX)
def f_X11_fill_b29 (h : mh_H) : Option ((Nat ⊕ Int32) × mh_H) :=
  some (.inr (-1 : Int32), h)
def f_X11_fill_e (o0 : Nat) (x1 : Int32) (x2 : Int32) (x3 : Int32) (h : mh_H) : Option ((Nat ⊕ Int32) × mh_H) :=
  mh_bx (mh_cal h o0 11 (f_X11_purseAt_e o0 x1 h)) fun a2 h1 =>
  mh_b2 (mh_cal h1 a2 7 (f_X7_coins_e a2 h1)) fun a4 h3 =>
  mh_b2 (mh_cal h3 a4 1 (f_X1_holds_e a4 x2 h3)) fun v6 h5 =>
  if v6 = 0 then (
  f_X11_fill_b29 h5) else
  if x3 < 0 then (
  f_X11_fill_b29 h5) else
  if x3 ≤ (20 : Int32) then (
  mh_b2 (mh_cal h5 a2 7 (f_X7_coins_e a2 h5)) fun a8 h7 =>
  mh_b2 (mh_cal h7 a8 1 (f_X1_placeFor_e a8 x2 h7)) fun v10 h9 =>
  mh_b2 (mh_cal h9 a2 7 (f_X7_often_e a2 v10 h9)) fun v12 h11 =>
  mh_b2 (mh_cal h11 a2 7 (f_X7_total_e a2 h11)) fun v14 h13 =>
  if (v14 + ((x3 - v12) * x2)) ≤ (20000 : Int32) then (
  (mh_gR h13 o0 11 0).bind fun a15 =>
  (mh_cal h13 a15 3 (f_X3_begin_e a15 h13)).bind fun h16 =>
  (mh_gR h16 o0 11 0).bind fun a17 =>
  mh_b2 (mh_cal h16 a17 3 (f_X3_purse_e a17 x1 h16)) fun a19 h18 =>
  (mh_cal h18 a19 7 (f_X7_set_e a19 v10 x3 h18)).bind fun h20 =>
  some (.inr v12, h20)) else
  some (.inr (-1 : Int32), h13)) else
  f_X11_fill_b29 h5
set_option maxRecDepth 100000 in
set_option maxHeartbeats 4000000 in
theorem w_X11_fill_b29 {p : Program} {l : Launch} {e : Env} {s : State} {m : MethodId} {args : Array Value} {below : List Frame} {meth : Method} {c : Code} {D : va_G} {ks : Nat → ClassId} {L : List Nat} {r : Nat ⊕ Int32} {h' : mh_H} (cx : mh_C p m c cX11_fill 7 s args RX11 meth D ks (mh_A L s.heap.size)) (th : mh_Th l (mh_A L s.heap.size) s) (ht : ∀ x ∈ c.exceptionTable.toList, False) (hr : meth.sig.returnType = (some .int)) :
    ∀ (h : mh_H) (H : Heap) (locs : List Loc) (ls : Array Slot), mh_W D ks L (mh_A L s.heap.size) s.heap h H locs → lv_has ls 7 [] → f_X11_fill_b29  h = some (r, h') → W p l e (mh_rx 7 1) s m args below meth c H locs 1 6 (vx_MQ below (mh_Qx D ks L s.heap.size (mh_em mh_eI r) h') (mh_XC D ks L s.heap.size (mh_em mh_eI r) h') args s 1 6 (mh_A L s.heap.size)) (F0 m 29 ls []) := by
  intro  h H locs ls wd hl hX
  have hx := cx.1.1
  have hb := cx.1.2.1
  unfold f_X11_fill_b29 at hX
  refine lv_iconst (v := (-1)) hx hb dX11_fill_29 (by decide) ?_
  exact mh_xiret cx wd hr hX dX11_fill_30 ⟨Nat.le_of_ble_eq_true rfl, Nat.le_of_ble_eq_true rfl⟩
set_option maxRecDepth 100000 in
set_option maxHeartbeats 4000000 in
theorem w_X11_fill_e {p : Program} {l : Launch} {e : Env} {s : State} {m : MethodId} {args : Array Value} {below : List Frame} {meth : Method} {c : Code} {D : va_G} {ks : Nat → ClassId} {L : List Nat} {r : Nat ⊕ Int32} {h' : mh_H} (cx : mh_C p m c cX11_fill 7 s args RX11 meth D ks (mh_A L s.heap.size)) (th : mh_Th l (mh_A L s.heap.size) s) (ht : ∀ x ∈ c.exceptionTable.toList, False) (hr : meth.sig.returnType = (some .int)) :
    ∀ (o0 : Nat) (x1 : Int32) (x2 : Int32) (x3 : Int32) (h : mh_H) (H : Heap) (locs : List Loc) (ls : Array Slot), mh_W D ks L (mh_A L s.heap.size) s.heap h H locs → lv_has ls 7 [(0, .ref o0), (1, .int x1), (2, .int x2), (3, .int x3)] → f_X11_fill_e o0 x1 x2 x3 h = some (r, h') → W p l e (mh_rx 7 1) s m args below meth c H locs 0 0 (vx_MQ below (mh_Qx D ks L s.heap.size (mh_em mh_eI r) h') (mh_XC D ks L s.heap.size (mh_em mh_eI r) h') args s 1 6 (mh_A L s.heap.size)) (F0 m 0 ls []) := by
  intro o0 x1 x2 x3 h H locs ls wd hl hX
  have hx := cx.1.1
  have hb := cx.1.2.1
  unfold f_X11_fill_e at hX
  refine lv_aload_n hx hb dX11_fill_0 rfl (lv_at hl 0 rfl) ?_
  refine lv_iload_n hx hb dX11_fill_1 rfl (lv_at hl 1 rfl) ?_
  refine mh_xV mh_eR mh_eI (K := 1) [.int x1] cx th ht wd (rfl : vwCl[11]? = some (RX11, TX11, 16)) yw_X11_purseAt vw_X11_324 rfl hl.1 rfl (Nat.le_of_ble_eq_true rfl) dX11_fill_2 ⟨Nat.le_of_ble_eq_true rfl, Nat.le_of_ble_eq_true rfl⟩ ⟨Nat.le_of_ble_eq_true rfl, Nat.le_of_ble_eq_true rfl⟩ ⟨Nat.le_of_ble_eq_true rfl, Nat.le_of_ble_eq_true rfl⟩ (fun _ _ q => c_X11_purseAt q) hX (fun a2 h1 H locs wd hX => ?_)
  refine W.eq (g2 := F0 m 5 ls [.ref a2]) rfl ?_
  refine lv_astore (lv' := [(4, .ref a2), (0, .ref o0), (1, .int x1), (2, .int x2), (3, .int x3)]) hx hb dX11_fill_5 hl (Nat.le_of_ble_eq_true rfl) rfl (fun ls hl => ?_)
  refine lv_aload hx hb dX11_fill_7 (lv_at hl 0 rfl) ?_
  refine mh_callVR cx wd [] (rfl : vwCl[7]? = some (RX7, TX7, 2)) yw_X7_coins vw_X11_279 rfl hl.1 rfl (Nat.le_of_ble_eq_true rfl) dX11_fill_9 ⟨Nat.le_of_ble_eq_true rfl, Nat.le_of_ble_eq_true rfl⟩ ⟨Nat.le_of_ble_eq_true rfl, Nat.le_of_ble_eq_true rfl⟩ (fun _ _ q => c_X7_coins q) hX (fun a4 h3 H locs wd hX => ?_)
  refine lv_iload_n hx hb dX11_fill_12 rfl (lv_at hl 3 rfl) ?_
  refine mh_callVI cx wd [.int x2] (rfl : vwCl[1]? = some (RX1, TX1, 2)) yw_X1_holds vw_X11_114 rfl hl.1 rfl (Nat.le_of_ble_eq_true rfl) dX11_fill_13 ⟨Nat.le_of_ble_eq_true rfl, Nat.le_of_ble_eq_true rfl⟩ ⟨Nat.le_of_ble_eq_true rfl, Nat.le_of_ble_eq_true rfl⟩ (fun _ _ q => c_X1_holds q) hX (fun v6 h5 H locs wd hX => ?_)
  refine lv_if_eq (tgt := 29) hx hb dX11_fill_16 rfl (fun hc => (fun hX => ?_) ((mh_if hX).1 hc)) (fun hc => (fun hX => ?_) ((mh_if hX).2 hc))
  · exact w_X11_fill_b29 cx th ht hr  h5 _ _ ls wd (lv_sub hl [] rfl) hX
  · refine lv_iload_n hx hb dX11_fill_19 rfl (lv_at hl 4 rfl) ?_
    refine lv_if_lt (tgt := 29) hx hb dX11_fill_20 rfl (fun hc => (fun hX => ?_) ((mh_if hX).1 hc)) (fun hc => (fun hX => ?_) ((mh_if hX).2 hc))
    · exact w_X11_fill_b29 cx th ht hr  h5 _ _ ls wd (lv_sub hl [] rfl) hX
    · refine lv_iload_n hx hb dX11_fill_23 rfl (lv_at hl 4 rfl) ?_
      refine lv_bipush (v := 20) hx hb dX11_fill_24 (by decide) ?_
      refine lv_icmp_le (tgt := 31) hx hb dX11_fill_26 rfl (fun hc => (fun hX => ?_) ((mh_if hX).1 hc)) (fun hc => (fun hX => ?_) ((mh_if hX).2 hc))
      · refine lv_aload hx hb dX11_fill_31 (lv_at hl 0 rfl) ?_
        refine mh_callVR cx wd [] (rfl : vwCl[7]? = some (RX7, TX7, 2)) yw_X7_coins vw_X11_279 rfl hl.1 rfl (Nat.le_of_ble_eq_true rfl) dX11_fill_33 ⟨Nat.le_of_ble_eq_true rfl, Nat.le_of_ble_eq_true rfl⟩ ⟨Nat.le_of_ble_eq_true rfl, Nat.le_of_ble_eq_true rfl⟩ (fun _ _ q => c_X7_coins q) hX (fun a8 h7 H locs wd hX => ?_)
        refine lv_iload_n hx hb dX11_fill_36 rfl (lv_at hl 3 rfl) ?_
        refine mh_callVI cx wd [.int x2] (rfl : vwCl[1]? = some (RX1, TX1, 2)) yw_X1_placeFor vw_X11_331 rfl hl.1 rfl (Nat.le_of_ble_eq_true rfl) dX11_fill_37 ⟨Nat.le_of_ble_eq_true rfl, Nat.le_of_ble_eq_true rfl⟩ ⟨Nat.le_of_ble_eq_true rfl, Nat.le_of_ble_eq_true rfl⟩ (fun _ _ q => c_X1_placeFor q) hX (fun v10 h9 H locs wd hX => ?_)
        refine lv_istore (lv' := [(5, .int v10), (4, .ref a2), (0, .ref o0), (1, .int x1), (2, .int x2), (3, .int x3)]) hx hb dX11_fill_40 hl (Nat.le_of_ble_eq_true rfl) rfl (fun ls hl => ?_)
        refine lv_aload hx hb dX11_fill_42 (lv_at hl 1 rfl) ?_
        refine lv_iload hx hb dX11_fill_44 (lv_at hl 0 rfl) ?_
        refine mh_callVI cx wd [.int v10] (rfl : vwCl[7]? = some (RX7, TX7, 2)) yw_X7_often vw_X11_263 rfl hl.1 rfl (Nat.le_of_ble_eq_true rfl) dX11_fill_46 ⟨Nat.le_of_ble_eq_true rfl, Nat.le_of_ble_eq_true rfl⟩ ⟨Nat.le_of_ble_eq_true rfl, Nat.le_of_ble_eq_true rfl⟩ (fun _ _ q => c_X7_often q) hX (fun v12 h11 H locs wd hX => ?_)
        refine lv_istore (lv' := [(6, .int v12), (5, .int v10), (4, .ref a2), (0, .ref o0), (1, .int x1), (2, .int x2), (3, .int x3)]) hx hb dX11_fill_49 hl (Nat.le_of_ble_eq_true rfl) rfl (fun ls hl => ?_)
        refine lv_aload hx hb dX11_fill_51 (lv_at hl 2 rfl) ?_
        refine mh_callVI cx wd [] (rfl : vwCl[7]? = some (RX7, TX7, 2)) yw_X7_total vw_X11_276 rfl hl.1 rfl (Nat.le_of_ble_eq_true rfl) dX11_fill_53 ⟨Nat.le_of_ble_eq_true rfl, Nat.le_of_ble_eq_true rfl⟩ ⟨Nat.le_of_ble_eq_true rfl, Nat.le_of_ble_eq_true rfl⟩ (fun _ _ q => c_X7_total q) hX (fun v14 h13 H locs wd hX => ?_)
        refine lv_iload_n hx hb dX11_fill_56 rfl (lv_at hl 6 rfl) ?_
        refine lv_iload hx hb dX11_fill_57 (lv_at hl 0 rfl) ?_
        refine lv_isub hx hb dX11_fill_59 ?_
        refine lv_iload_n hx hb dX11_fill_60 rfl (lv_at hl 5 rfl) ?_
        refine lv_imul hx hb dX11_fill_61 ?_
        refine lv_iadd hx hb dX11_fill_62 ?_
        refine lv_sipush (v := 20000) hx hb dX11_fill_63 (by decide) ?_
        refine lv_icmp_le (tgt := 71) hx hb dX11_fill_66 rfl (fun hc => (fun hX => ?_) ((mh_if hX).1 hc)) (fun hc => (fun hX => ?_) ((mh_if hX).2 hc))
        · refine lv_aload_n hx hb dX11_fill_71 rfl (lv_at hl 3 rfl) ?_
          refine mh_getR cx wd fl_X11_14 dX11_fill_72 hX (fun a15 hX => ?_)
          refine mh_callVV cx wd [] (rfl : vwCl[3]? = some (RX3, TX3, 5)) yw_X3_begin vw_X11_117 rfl hl.1 rfl (Nat.le_of_ble_eq_true rfl) dX11_fill_75 ⟨Nat.le_of_ble_eq_true rfl, Nat.le_of_ble_eq_true rfl⟩ ⟨Nat.le_of_ble_eq_true rfl, Nat.le_of_ble_eq_true rfl⟩ (fun _ q => c_X3_begin q) hX (fun h16 H locs wd hX => ?_)
          refine lv_aload_n hx hb dX11_fill_78 rfl (lv_at hl 3 rfl) ?_
          refine mh_getR cx wd fl_X11_14 dX11_fill_79 hX (fun a17 hX => ?_)
          refine lv_iload_n hx hb dX11_fill_82 rfl (lv_at hl 4 rfl) ?_
          refine mh_callVR cx wd [.int x1] (rfl : vwCl[3]? = some (RX3, TX3, 5)) yw_X3_purse vw_X11_328 rfl hl.1 rfl (Nat.le_of_ble_eq_true rfl) dX11_fill_83 ⟨Nat.le_of_ble_eq_true rfl, Nat.le_of_ble_eq_true rfl⟩ ⟨Nat.le_of_ble_eq_true rfl, Nat.le_of_ble_eq_true rfl⟩ (fun _ _ q => c_X3_purse q) hX (fun a19 h18 H locs wd hX => ?_)
          refine lv_iload hx hb dX11_fill_86 (lv_at hl 1 rfl) ?_
          refine lv_iload_n hx hb dX11_fill_88 rfl (lv_at hl 6 rfl) ?_
          refine mh_callVV cx wd [.int v10, .int x3] (rfl : vwCl[7]? = some (RX7, TX7, 2)) yw_X7_set vw_X11_267 rfl hl.1 rfl (Nat.le_of_ble_eq_true rfl) dX11_fill_89 ⟨Nat.le_of_ble_eq_true rfl, Nat.le_of_ble_eq_true rfl⟩ ⟨Nat.le_of_ble_eq_true rfl, Nat.le_of_ble_eq_true rfl⟩ (fun _ q => c_X7_set q) hX (fun h20 H locs wd hX => ?_)
          refine lv_iload hx hb dX11_fill_92 (lv_at hl 0 rfl) ?_
          exact mh_xiret cx wd hr hX dX11_fill_94 ⟨Nat.le_of_ble_eq_true rfl, Nat.le_of_ble_eq_true rfl⟩
        · refine lv_iconst (v := (-1)) hx hb dX11_fill_69 (by decide) ?_
          exact mh_xiret cx wd hr hX dX11_fill_70 ⟨Nat.le_of_ble_eq_true rfl, Nat.le_of_ble_eq_true rfl⟩
      · exact w_X11_fill_b29 cx th ht hr  h5 _ _ ls wd (lv_sub hl [] rfl) hX
set_option maxRecDepth 100000 in
theorem c_X11_fill {l : Launch} {L : List Nat} {h h' : mh_H} {r : Nat ⊕ Int32} {o0 : Nat} {x1 : Int32} {x2 : Int32} {x3 : Int32} (hX : f_X11_fill_e o0 x1 x2 x3 h = some (r, h')) : mh_Mx l yX11_fill (Cond.code yX11_fill cX11_fill 7 (some .int) :: mh_TB) (mh_rx 7 1) [.ref o0, .int x1, .int x2, .int x3] L h (mh_em mh_eI r) h' 1 6 :=
  mh_xof (by decide) (Nat.le_of_ble_eq_true rfl) (fun p e s m below meth c D ks ls hr cx th ht wd hl => by
    have hl : lv_has ls 7 [(0, .ref o0), (1, .int x1), (2, .int x2), (3, .int x3)] := hl
    exact w_X11_fill_e cx th ht hr o0 x1 x2 x3 h _ _ ls wd hl hX)
def f_X11_has_b75 (t0 : Int32) (h : mh_H) : Option ((Nat ⊕ Int32) × mh_H) :=
  some (.inr t0, h)
def f_X11_has_b42 (x2 : Int32) (o3 : Nat) (t0 : Int32) (h : mh_H) : Option ((Nat ⊕ Int32) × mh_H) :=
  mh_b2 (mh_cal h o3 7 (f_X7_coins_e o3 h)) fun a2 h1 =>
  mh_bx (f_X11_checkCoin_e a2 t0 h1) fun _ h3 =>
  if 0 ≤ x2 then (
  mh_b2 (mh_cal h3 o3 7 (f_X7_often_e o3 t0 h3)) fun v5 h4 =>
  f_X11_has_b75 v5 h4) else
  mh_b2 (mh_cal h3 o3 7 (f_X7_coins_e o3 h3)) fun a7 h6 =>
  mh_b2 (mh_cal h6 a7 1 (f_X1_value_e a7 t0 h6)) fun v9 h8 =>
  f_X11_has_b75 v9 h8
def f_X11_has_e (o0 : Nat) (x1 : Int32) (x2 : Int32) (h : mh_H) : Option ((Nat ⊕ Int32) × mh_H) :=
  mh_bx (mh_cal h o0 11 (f_X11_purseAt_e o0 x1 h)) fun a11 h10 =>
  if x2 = (-1 : Int32) then (
  mh_b2 (mh_cal h10 a11 7 (f_X7_coins_e a11 h10)) fun a15 h14 =>
  mh_b2 (mh_cal h14 a15 1 (f_X1_count_e a15 h14)) fun v17 h16 =>
  some (.inr v17, h16)) else
  if x2 = (-2 : Int32) then (
  mh_b2 (mh_cal h10 a11 7 (f_X7_total_e a11 h10)) fun v13 h12 =>
  some (.inr v13, h12)) else
  if 0 ≤ x2 then (
  f_X11_has_b42 x2 a11 x2 h10) else
  f_X11_has_b42 x2 a11 ((-3 : Int32) - x2) h10
set_option maxRecDepth 100000 in
set_option maxHeartbeats 4000000 in
theorem w_X11_has_b75 {p : Program} {l : Launch} {e : Env} {s : State} {m : MethodId} {args : Array Value} {below : List Frame} {meth : Method} {c : Code} {D : va_G} {ks : Nat → ClassId} {L : List Nat} {r : Nat ⊕ Int32} {h' : mh_H} (cx : mh_C p m c cX11_has 5 s args RX11 meth D ks (mh_A L s.heap.size)) (th : mh_Th l (mh_A L s.heap.size) s) (ht : ∀ x ∈ c.exceptionTable.toList, False) (hr : meth.sig.returnType = (some .int)) :
    ∀ (t0 : Int32) (h : mh_H) (H : Heap) (locs : List Loc) (ls : Array Slot), mh_W D ks L (mh_A L s.heap.size) s.heap h H locs → lv_has ls 5 [] → f_X11_has_b75 t0 h = some (r, h') → W p l e (mh_rx 7 2) s m args below meth c H locs 2 12 (vx_MQ below (mh_Qx D ks L s.heap.size (mh_em mh_eI r) h') (mh_XC D ks L s.heap.size (mh_em mh_eI r) h') args s 2 12 (mh_A L s.heap.size)) (F0 m 75 ls [.int t0]) := by
  intro t0 h H locs ls wd hl hX
  have hx := cx.1.1
  have hb := cx.1.2.1
  unfold f_X11_has_b75 at hX
  exact mh_xiret cx wd hr hX dX11_has_75 ⟨Nat.le_of_ble_eq_true rfl, Nat.le_of_ble_eq_true rfl⟩
set_option maxRecDepth 100000 in
set_option maxHeartbeats 4000000 in
theorem w_X11_has_b42 {p : Program} {l : Launch} {e : Env} {s : State} {m : MethodId} {args : Array Value} {below : List Frame} {meth : Method} {c : Code} {D : va_G} {ks : Nat → ClassId} {L : List Nat} {r : Nat ⊕ Int32} {h' : mh_H} (cx : mh_C p m c cX11_has 5 s args RX11 meth D ks (mh_A L s.heap.size)) (th : mh_Th l (mh_A L s.heap.size) s) (ht : ∀ x ∈ c.exceptionTable.toList, False) (hr : meth.sig.returnType = (some .int)) :
    ∀ (x2 : Int32) (o3 : Nat) (t0 : Int32) (h : mh_H) (H : Heap) (locs : List Loc) (ls : Array Slot), mh_W D ks L (mh_A L s.heap.size) s.heap h H locs → lv_has ls 5 [(2, .int x2), (3, .ref o3)] → f_X11_has_b42 x2 o3 t0 h = some (r, h') → W p l e (mh_rx 7 2) s m args below meth c H locs 1 6 (vx_MQ below (mh_Qx D ks L s.heap.size (mh_em mh_eI r) h') (mh_XC D ks L s.heap.size (mh_em mh_eI r) h') args s 2 12 (mh_A L s.heap.size)) (F0 m 42 ls [.int t0]) := by
  intro x2 o3 t0 h H locs ls wd hl hX
  have hx := cx.1.1
  have hb := cx.1.2.1
  unfold f_X11_has_b42 at hX
  refine lv_istore (lv' := [(4, .int t0), (2, .int x2), (3, .ref o3)]) hx hb dX11_has_42 hl (Nat.le_of_ble_eq_true rfl) rfl (fun ls hl => ?_)
  refine lv_aload_n hx hb dX11_has_44 rfl (lv_at hl 2 rfl) ?_
  refine mh_callVR cx wd [] (rfl : vwCl[7]? = some (RX7, TX7, 2)) yw_X7_coins vw_X11_279 rfl hl.1 rfl (Nat.le_of_ble_eq_true rfl) dX11_has_45 ⟨Nat.le_of_ble_eq_true rfl, Nat.le_of_ble_eq_true rfl⟩ ⟨Nat.le_of_ble_eq_true rfl, Nat.le_of_ble_eq_true rfl⟩ (fun _ _ q => c_X7_coins q) hX (fun a2 h1 H locs wd hX => ?_)
  refine lv_iload hx hb dX11_has_48 (lv_at hl 0 rfl) ?_
  refine mh_xS mh_eV mh_eI (K := 1) [.ref a2, .int t0] cx th ht wd yw_X11_checkCoin sw_X11_134 rfl hl.1 rfl (Nat.le_of_ble_eq_true rfl) dX11_has_50 ⟨Nat.le_of_ble_eq_true rfl, Nat.le_of_ble_eq_true rfl⟩ ⟨Nat.le_of_ble_eq_true rfl, Nat.le_of_ble_eq_true rfl⟩ ⟨Nat.le_of_ble_eq_true rfl, Nat.le_of_ble_eq_true rfl⟩ (fun _ _ q => c_X11_checkCoin q) hX (fun _ h3 H locs wd hX => ?_)
  refine W.eq (g2 := F0 m 53 ls []) rfl ?_
  refine lv_iload_n hx hb dX11_has_53 rfl (lv_at hl 1 rfl) ?_
  refine lv_if_ge (tgt := 69) hx hb dX11_has_54 rfl (fun hc => (fun hX => ?_) ((mh_if hX).1 hc)) (fun hc => (fun hX => ?_) ((mh_if hX).2 hc))
  · refine lv_aload_n hx hb dX11_has_69 rfl (lv_at hl 2 rfl) ?_
    refine lv_iload hx hb dX11_has_70 (lv_at hl 0 rfl) ?_
    refine mh_callVI cx wd [.int t0] (rfl : vwCl[7]? = some (RX7, TX7, 2)) yw_X7_often vw_X11_263 rfl hl.1 rfl (Nat.le_of_ble_eq_true rfl) dX11_has_72 ⟨Nat.le_of_ble_eq_true rfl, Nat.le_of_ble_eq_true rfl⟩ ⟨Nat.le_of_ble_eq_true rfl, Nat.le_of_ble_eq_true rfl⟩ (fun _ _ q => c_X7_often q) hX (fun v5 h4 H locs wd hX => ?_)
    exact w_X11_has_b75 cx th ht hr _ h4 _ _ ls wd (lv_sub hl [] rfl) hX
  · refine lv_aload_n hx hb dX11_has_57 rfl (lv_at hl 2 rfl) ?_
    refine mh_callVR cx wd [] (rfl : vwCl[7]? = some (RX7, TX7, 2)) yw_X7_coins vw_X11_279 rfl hl.1 rfl (Nat.le_of_ble_eq_true rfl) dX11_has_58 ⟨Nat.le_of_ble_eq_true rfl, Nat.le_of_ble_eq_true rfl⟩ ⟨Nat.le_of_ble_eq_true rfl, Nat.le_of_ble_eq_true rfl⟩ (fun _ _ q => c_X7_coins q) hX (fun a7 h6 H locs wd hX => ?_)
    refine lv_iload hx hb dX11_has_61 (lv_at hl 0 rfl) ?_
    refine mh_callVI cx wd [.int t0] (rfl : vwCl[1]? = some (RX1, TX1, 2)) yw_X1_value vw_X11_138 rfl hl.1 rfl (Nat.le_of_ble_eq_true rfl) dX11_has_63 ⟨Nat.le_of_ble_eq_true rfl, Nat.le_of_ble_eq_true rfl⟩ ⟨Nat.le_of_ble_eq_true rfl, Nat.le_of_ble_eq_true rfl⟩ (fun _ _ q => c_X1_value q) hX (fun v9 h8 H locs wd hX => ?_)
    refine lv_goto (tgt := 75) hx hb dX11_has_66 rfl ?_
    exact w_X11_has_b75 cx th ht hr _ h8 _ _ ls wd (lv_sub hl [] rfl) hX
set_option maxRecDepth 100000 in
set_option maxHeartbeats 4000000 in
theorem w_X11_has_e {p : Program} {l : Launch} {e : Env} {s : State} {m : MethodId} {args : Array Value} {below : List Frame} {meth : Method} {c : Code} {D : va_G} {ks : Nat → ClassId} {L : List Nat} {r : Nat ⊕ Int32} {h' : mh_H} (cx : mh_C p m c cX11_has 5 s args RX11 meth D ks (mh_A L s.heap.size)) (th : mh_Th l (mh_A L s.heap.size) s) (ht : ∀ x ∈ c.exceptionTable.toList, False) (hr : meth.sig.returnType = (some .int)) :
    ∀ (o0 : Nat) (x1 : Int32) (x2 : Int32) (h : mh_H) (H : Heap) (locs : List Loc) (ls : Array Slot), mh_W D ks L (mh_A L s.heap.size) s.heap h H locs → lv_has ls 5 [(0, .ref o0), (1, .int x1), (2, .int x2)] → f_X11_has_e o0 x1 x2 h = some (r, h') → W p l e (mh_rx 7 2) s m args below meth c H locs 0 0 (vx_MQ below (mh_Qx D ks L s.heap.size (mh_em mh_eI r) h') (mh_XC D ks L s.heap.size (mh_em mh_eI r) h') args s 2 12 (mh_A L s.heap.size)) (F0 m 0 ls []) := by
  intro o0 x1 x2 h H locs ls wd hl hX
  have hx := cx.1.1
  have hb := cx.1.2.1
  unfold f_X11_has_e at hX
  refine lv_aload_n hx hb dX11_has_0 rfl (lv_at hl 0 rfl) ?_
  refine lv_iload_n hx hb dX11_has_1 rfl (lv_at hl 1 rfl) ?_
  refine mh_xV mh_eR mh_eI (K := 1) [.int x1] cx th ht wd (rfl : vwCl[11]? = some (RX11, TX11, 16)) yw_X11_purseAt vw_X11_324 rfl hl.1 rfl (Nat.le_of_ble_eq_true rfl) dX11_has_2 ⟨Nat.le_of_ble_eq_true rfl, Nat.le_of_ble_eq_true rfl⟩ ⟨Nat.le_of_ble_eq_true rfl, Nat.le_of_ble_eq_true rfl⟩ ⟨Nat.le_of_ble_eq_true rfl, Nat.le_of_ble_eq_true rfl⟩ (fun _ _ q => c_X11_purseAt q) hX (fun a11 h10 H locs wd hX => ?_)
  refine W.eq (g2 := F0 m 5 ls [.ref a11]) rfl ?_
  refine lv_astore_n (lv' := [(3, .ref a11), (0, .ref o0), (1, .int x1), (2, .int x2)]) hx hb dX11_has_5 rfl hl (Nat.le_of_ble_eq_true rfl) rfl (fun ls hl => ?_)
  refine lv_iload_n hx hb dX11_has_6 rfl (lv_at hl 3 rfl) ?_
  refine lv_iconst (v := (-1)) hx hb dX11_has_7 (by decide) ?_
  refine lv_icmp_ne (tgt := 19) hx hb dX11_has_8 rfl (fun hc => (fun hX => ?_) ((mh_if hX).2 hc)) (fun hc => (fun hX => ?_) ((mh_if hX).1 hc))
  · refine lv_iload_n hx hb dX11_has_19 rfl (lv_at hl 3 rfl) ?_
    refine lv_bipush (v := (-2)) hx hb dX11_has_20 (by decide) ?_
    refine lv_icmp_ne (tgt := 30) hx hb dX11_has_22 rfl (fun hc => (fun hX => ?_) ((mh_if hX).2 hc)) (fun hc => (fun hX => ?_) ((mh_if hX).1 hc))
    · refine lv_iload_n hx hb dX11_has_30 rfl (lv_at hl 3 rfl) ?_
      refine lv_if_ge (tgt := 41) hx hb dX11_has_31 rfl (fun hc => (fun hX => ?_) ((mh_if hX).1 hc)) (fun hc => (fun hX => ?_) ((mh_if hX).2 hc))
      · refine lv_iload_n hx hb dX11_has_41 rfl (lv_at hl 3 rfl) ?_
        exact w_X11_has_b42 cx th ht hr _ _ _ h10 _ _ ls wd (lv_sub hl [3, 0] rfl) hX
      · refine lv_bipush (v := (-3)) hx hb dX11_has_34 (by decide) ?_
        refine lv_iload_n hx hb dX11_has_36 rfl (lv_at hl 3 rfl) ?_
        refine lv_isub hx hb dX11_has_37 ?_
        refine lv_goto (tgt := 42) hx hb dX11_has_38 rfl ?_
        exact w_X11_has_b42 cx th ht hr _ _ _ h10 _ _ ls wd (lv_sub hl [3, 0] rfl) hX
    · refine lv_aload_n hx hb dX11_has_25 rfl (lv_at hl 0 rfl) ?_
      refine mh_callVI cx wd [] (rfl : vwCl[7]? = some (RX7, TX7, 2)) yw_X7_total vw_X11_276 rfl hl.1 rfl (Nat.le_of_ble_eq_true rfl) dX11_has_26 ⟨Nat.le_of_ble_eq_true rfl, Nat.le_of_ble_eq_true rfl⟩ ⟨Nat.le_of_ble_eq_true rfl, Nat.le_of_ble_eq_true rfl⟩ (fun _ _ q => c_X7_total q) hX (fun v13 h12 H locs wd hX => ?_)
      exact mh_xiret cx wd hr hX dX11_has_29 ⟨Nat.le_of_ble_eq_true rfl, Nat.le_of_ble_eq_true rfl⟩
  · refine lv_aload_n hx hb dX11_has_11 rfl (lv_at hl 0 rfl) ?_
    refine mh_callVR cx wd [] (rfl : vwCl[7]? = some (RX7, TX7, 2)) yw_X7_coins vw_X11_279 rfl hl.1 rfl (Nat.le_of_ble_eq_true rfl) dX11_has_12 ⟨Nat.le_of_ble_eq_true rfl, Nat.le_of_ble_eq_true rfl⟩ ⟨Nat.le_of_ble_eq_true rfl, Nat.le_of_ble_eq_true rfl⟩ (fun _ _ q => c_X7_coins q) hX (fun a15 h14 H locs wd hX => ?_)
    refine mh_callVI cx wd [] (rfl : vwCl[1]? = some (RX1, TX1, 2)) yw_X1_count vw_X11_123 rfl hl.1 rfl (Nat.le_of_ble_eq_true rfl) dX11_has_15 ⟨Nat.le_of_ble_eq_true rfl, Nat.le_of_ble_eq_true rfl⟩ ⟨Nat.le_of_ble_eq_true rfl, Nat.le_of_ble_eq_true rfl⟩ (fun _ _ q => c_X1_count q) hX (fun v17 h16 H locs wd hX => ?_)
    exact mh_xiret cx wd hr hX dX11_has_18 ⟨Nat.le_of_ble_eq_true rfl, Nat.le_of_ble_eq_true rfl⟩
set_option maxRecDepth 100000 in
theorem c_X11_has {l : Launch} {L : List Nat} {h h' : mh_H} {r : Nat ⊕ Int32} {o0 : Nat} {x1 : Int32} {x2 : Int32} (hX : f_X11_has_e o0 x1 x2 h = some (r, h')) : mh_Mx l yX11_has (Cond.code yX11_has cX11_has 5 (some .int) :: mh_TB) (mh_rx 7 2) [.ref o0, .int x1, .int x2] L h (mh_em mh_eI r) h' 2 12 :=
  mh_xof (by decide) (Nat.le_of_ble_eq_true rfl) (fun p e s m below meth c D ks ls hr cx th ht wd hl => by
    have hl : lv_has ls 5 [(0, .ref o0), (1, .int x1), (2, .int x2)] := hl
    exact w_X11_has_e cx th ht hr o0 x1 x2 h _ _ ls wd hl hX)
def f_X11_pays_e (o0 : Nat) (x1 : Int32) (x2 : Int32) (h : mh_H) : Option ((Nat ⊕ Int32) × mh_H) :=
  (mh_gR h o0 11 10).bind fun a1 =>
  mh_bx (mh_cal h o0 11 (f_X11_purseAt_e o0 x1 h)) fun a3 h2 =>
  (mh_cal h2 a1 8 (f_X8_take_e a1 a3 h2)).bind fun h4 =>
  (mh_gR h4 o0 11 10).bind fun a5 =>
  mh_b2 (mh_cal h4 a5 8 (f_X8_size_e a5 x2 h4)) fun v7 h6 =>
  some (.inr v7, h6)
set_option maxRecDepth 100000 in
set_option maxHeartbeats 4000000 in
theorem w_X11_pays_e {p : Program} {l : Launch} {e : Env} {s : State} {m : MethodId} {args : Array Value} {below : List Frame} {meth : Method} {c : Code} {D : va_G} {ks : Nat → ClassId} {L : List Nat} {r : Nat ⊕ Int32} {h' : mh_H} (cx : mh_C p m c cX11_pays 3 s args RX11 meth D ks (mh_A L s.heap.size)) (th : mh_Th l (mh_A L s.heap.size) s) (ht : ∀ x ∈ c.exceptionTable.toList, False) (hr : meth.sig.returnType = (some .int)) :
    ∀ (o0 : Nat) (x1 : Int32) (x2 : Int32) (h : mh_H) (H : Heap) (locs : List Loc) (ls : Array Slot), mh_W D ks L (mh_A L s.heap.size) s.heap h H locs → lv_has ls 3 [(0, .ref o0), (1, .int x1), (2, .int x2)] → f_X11_pays_e o0 x1 x2 h = some (r, h') → W p l e (mh_rx 7 1) s m args below meth c H locs 0 0 (vx_MQ below (mh_Qx D ks L s.heap.size (mh_em mh_eI r) h') (mh_XC D ks L s.heap.size (mh_em mh_eI r) h') args s 1 6 (mh_A L s.heap.size)) (F0 m 0 ls []) := by
  intro o0 x1 x2 h H locs ls wd hl hX
  have hx := cx.1.1
  have hb := cx.1.2.1
  unfold f_X11_pays_e at hX
  refine lv_aload_n hx hb dX11_pays_0 rfl (lv_at hl 0 rfl) ?_
  refine mh_getR cx wd fl_X11_78 dX11_pays_1 hX (fun a1 hX => ?_)
  refine lv_aload_n hx hb dX11_pays_4 rfl (lv_at hl 0 rfl) ?_
  refine lv_iload_n hx hb dX11_pays_5 rfl (lv_at hl 1 rfl) ?_
  refine mh_xV mh_eR mh_eI (K := 1) [.int x1] cx th ht wd (rfl : vwCl[11]? = some (RX11, TX11, 16)) yw_X11_purseAt vw_X11_324 rfl hl.1 rfl (Nat.le_of_ble_eq_true rfl) dX11_pays_6 ⟨Nat.le_of_ble_eq_true rfl, Nat.le_of_ble_eq_true rfl⟩ ⟨Nat.le_of_ble_eq_true rfl, Nat.le_of_ble_eq_true rfl⟩ ⟨Nat.le_of_ble_eq_true rfl, Nat.le_of_ble_eq_true rfl⟩ (fun _ _ q => c_X11_purseAt q) hX (fun a3 h2 H locs wd hX => ?_)
  refine W.eq (g2 := F0 m 9 ls [.ref a3, .ref a1]) rfl ?_
  refine mh_callVV cx wd [.ref a3] (rfl : vwCl[8]? = some (RX8, TX8, 3)) yw_X8_take vw_X11_334 rfl hl.1 rfl (Nat.le_of_ble_eq_true rfl) dX11_pays_9 ⟨Nat.le_of_ble_eq_true rfl, Nat.le_of_ble_eq_true rfl⟩ ⟨Nat.le_of_ble_eq_true rfl, Nat.le_of_ble_eq_true rfl⟩ (fun _ q => c_X8_take q) hX (fun h4 H locs wd hX => ?_)
  refine lv_aload_n hx hb dX11_pays_12 rfl (lv_at hl 0 rfl) ?_
  refine mh_getR cx wd fl_X11_78 dX11_pays_13 hX (fun a5 hX => ?_)
  refine lv_iload_n hx hb dX11_pays_16 rfl (lv_at hl 2 rfl) ?_
  refine mh_callVI cx wd [.int x2] (rfl : vwCl[8]? = some (RX8, TX8, 3)) yw_X8_size vw_X11_337 rfl hl.1 rfl (Nat.le_of_ble_eq_true rfl) dX11_pays_17 ⟨Nat.le_of_ble_eq_true rfl, Nat.le_of_ble_eq_true rfl⟩ ⟨Nat.le_of_ble_eq_true rfl, Nat.le_of_ble_eq_true rfl⟩ (fun _ _ q => c_X8_size q) hX (fun v7 h6 H locs wd hX => ?_)
  exact mh_xiret cx wd hr hX dX11_pays_20 ⟨Nat.le_of_ble_eq_true rfl, Nat.le_of_ble_eq_true rfl⟩
set_option maxRecDepth 100000 in
theorem c_X11_pays {l : Launch} {L : List Nat} {h h' : mh_H} {r : Nat ⊕ Int32} {o0 : Nat} {x1 : Int32} {x2 : Int32} (hX : f_X11_pays_e o0 x1 x2 h = some (r, h')) : mh_Mx l yX11_pays (Cond.code yX11_pays cX11_pays 3 (some .int) :: mh_TB) (mh_rx 7 1) [.ref o0, .int x1, .int x2] L h (mh_em mh_eI r) h' 1 6 :=
  mh_xof (by decide) (Nat.le_of_ble_eq_true rfl) (fun p e s m below meth c D ks ls hr cx th ht wd hl => by
    have hl : lv_has ls 3 [(0, .ref o0), (1, .int x1), (2, .int x2)] := hl
    exact w_X11_pays_e cx th ht hr o0 x1 x2 h _ _ ls wd hl hX)
def f_X11_holes_e (o0 : Nat) (x1 : Int32) (h : mh_H) : Option ((Nat ⊕ Int32) × mh_H) :=
  (mh_gR h o0 11 10).bind fun a1 =>
  mh_bx (mh_cal h o0 11 (f_X11_purseAt_e o0 x1 h)) fun a3 h2 =>
  (mh_cal h2 a1 8 (f_X8_take_e a1 a3 h2)).bind fun h4 =>
  (mh_gR h4 o0 11 10).bind fun a5 =>
  mh_b2 (mh_cal h4 a5 8 (f_X8_unpaid_e a5 h4)) fun v7 h6 =>
  some (.inr v7, h6)
set_option maxRecDepth 100000 in
set_option maxHeartbeats 4000000 in
theorem w_X11_holes_e {p : Program} {l : Launch} {e : Env} {s : State} {m : MethodId} {args : Array Value} {below : List Frame} {meth : Method} {c : Code} {D : va_G} {ks : Nat → ClassId} {L : List Nat} {r : Nat ⊕ Int32} {h' : mh_H} (cx : mh_C p m c cX11_holes 2 s args RX11 meth D ks (mh_A L s.heap.size)) (th : mh_Th l (mh_A L s.heap.size) s) (ht : ∀ x ∈ c.exceptionTable.toList, False) (hr : meth.sig.returnType = (some .int)) :
    ∀ (o0 : Nat) (x1 : Int32) (h : mh_H) (H : Heap) (locs : List Loc) (ls : Array Slot), mh_W D ks L (mh_A L s.heap.size) s.heap h H locs → lv_has ls 2 [(0, .ref o0), (1, .int x1)] → f_X11_holes_e o0 x1 h = some (r, h') → W p l e (mh_rx 7 1) s m args below meth c H locs 0 0 (vx_MQ below (mh_Qx D ks L s.heap.size (mh_em mh_eI r) h') (mh_XC D ks L s.heap.size (mh_em mh_eI r) h') args s 1 6 (mh_A L s.heap.size)) (F0 m 0 ls []) := by
  intro o0 x1 h H locs ls wd hl hX
  have hx := cx.1.1
  have hb := cx.1.2.1
  unfold f_X11_holes_e at hX
  refine lv_aload_n hx hb dX11_holes_0 rfl (lv_at hl 0 rfl) ?_
  refine mh_getR cx wd fl_X11_78 dX11_holes_1 hX (fun a1 hX => ?_)
  refine lv_aload_n hx hb dX11_holes_4 rfl (lv_at hl 0 rfl) ?_
  refine lv_iload_n hx hb dX11_holes_5 rfl (lv_at hl 1 rfl) ?_
  refine mh_xV mh_eR mh_eI (K := 1) [.int x1] cx th ht wd (rfl : vwCl[11]? = some (RX11, TX11, 16)) yw_X11_purseAt vw_X11_324 rfl hl.1 rfl (Nat.le_of_ble_eq_true rfl) dX11_holes_6 ⟨Nat.le_of_ble_eq_true rfl, Nat.le_of_ble_eq_true rfl⟩ ⟨Nat.le_of_ble_eq_true rfl, Nat.le_of_ble_eq_true rfl⟩ ⟨Nat.le_of_ble_eq_true rfl, Nat.le_of_ble_eq_true rfl⟩ (fun _ _ q => c_X11_purseAt q) hX (fun a3 h2 H locs wd hX => ?_)
  refine W.eq (g2 := F0 m 9 ls [.ref a3, .ref a1]) rfl ?_
  refine mh_callVV cx wd [.ref a3] (rfl : vwCl[8]? = some (RX8, TX8, 3)) yw_X8_take vw_X11_334 rfl hl.1 rfl (Nat.le_of_ble_eq_true rfl) dX11_holes_9 ⟨Nat.le_of_ble_eq_true rfl, Nat.le_of_ble_eq_true rfl⟩ ⟨Nat.le_of_ble_eq_true rfl, Nat.le_of_ble_eq_true rfl⟩ (fun _ q => c_X8_take q) hX (fun h4 H locs wd hX => ?_)
  refine lv_aload_n hx hb dX11_holes_12 rfl (lv_at hl 0 rfl) ?_
  refine mh_getR cx wd fl_X11_78 dX11_holes_13 hX (fun a5 hX => ?_)
  refine mh_callVI cx wd [] (rfl : vwCl[8]? = some (RX8, TX8, 3)) yw_X8_unpaid vw_X11_339 rfl hl.1 rfl (Nat.le_of_ble_eq_true rfl) dX11_holes_16 ⟨Nat.le_of_ble_eq_true rfl, Nat.le_of_ble_eq_true rfl⟩ ⟨Nat.le_of_ble_eq_true rfl, Nat.le_of_ble_eq_true rfl⟩ (fun _ _ q => c_X8_unpaid q) hX (fun v7 h6 H locs wd hX => ?_)
  exact mh_xiret cx wd hr hX dX11_holes_19 ⟨Nat.le_of_ble_eq_true rfl, Nat.le_of_ble_eq_true rfl⟩
set_option maxRecDepth 100000 in
theorem c_X11_holes {l : Launch} {L : List Nat} {h h' : mh_H} {r : Nat ⊕ Int32} {o0 : Nat} {x1 : Int32} (hX : f_X11_holes_e o0 x1 h = some (r, h')) : mh_Mx l yX11_holes (Cond.code yX11_holes cX11_holes 2 (some .int) :: mh_TB) (mh_rx 7 1) [.ref o0, .int x1] L h (mh_em mh_eI r) h' 1 6 :=
  mh_xof (by decide) (Nat.le_of_ble_eq_true rfl) (fun p e s m below meth c D ks ls hr cx th ht wd hl => by
    have hl : lv_has ls 2 [(0, .ref o0), (1, .int x1)] := hl
    exact w_X11_holes_e cx th ht hr o0 x1 h _ _ ls wd hl hX)
def f_X11_changeBack_b23 (h : mh_H) : Option ((Nat ⊕ Int32) × mh_H) :=
  some (.inl 2, h)
def f_X11_changeBack_e (o0 : Nat) (x1 : Int32) (x2 : Int32) (x3 : Int32) (h : mh_H) : Option ((Nat ⊕ Int32) × mh_H) :=
  mh_bx (mh_cal h o0 11 (f_X11_purseAt_e o0 x1 h)) fun a2 h1 =>
  mh_bx (mh_cal h1 o0 11 (f_X11_purseAt_e o0 x2 h1)) fun a4 h3 =>
  if x3 < 0 then (
  f_X11_changeBack_b23 h3) else
  if x1 = x2 then (
  f_X11_changeBack_b23 h3) else
  (mh_gR h3 o0 11 10).bind fun a5 =>
  (mh_cal h3 a5 8 (f_X8_take_e a5 a2 h3)).bind fun h6 =>
  (mh_gR h6 o0 11 11).bind fun a7 =>
  (mh_cal h6 a7 8 (f_X8_take_e a7 a4 h6)).bind fun h8 =>
  (mh_gR h8 o0 11 10).bind fun a9 =>
  (mh_gR h8 o0 11 11).bind fun a10 =>
  mh_b2 (mh_cal h8 a9 8 (f_X8_backFrom_e a9 a10 x3 h8)) fun v12 h11 =>
  some (.inr v12, h11)
set_option maxRecDepth 100000 in
set_option maxHeartbeats 4000000 in
theorem w_X11_changeBack_b23 {p : Program} {l : Launch} {e : Env} {s : State} {m : MethodId} {args : Array Value} {below : List Frame} {meth : Method} {c : Code} {D : va_G} {ks : Nat → ClassId} {L : List Nat} {r : Nat ⊕ Int32} {h' : mh_H} (cx : mh_C p m c cX11_changeBack 6 s args RX11 meth D ks (mh_A L s.heap.size)) (th : mh_Th l (mh_A L s.heap.size) s) (ht : ∀ x ∈ c.exceptionTable.toList, False) (hr : meth.sig.returnType = (some .int)) :
    ∀ (h : mh_H) (H : Heap) (locs : List Loc) (ls : Array Slot), mh_W D ks L (mh_A L s.heap.size) s.heap h H locs → lv_has ls 6 [] → f_X11_changeBack_b23  h = some (r, h') → W p l e (mh_rx 7 3) s m args below meth c H locs 2 12 (vx_MQ below (mh_Qx D ks L s.heap.size (mh_em mh_eI r) h') (mh_XC D ks L s.heap.size (mh_em mh_eI r) h') args s 3 18 (mh_A L s.heap.size)) (F0 m 23 ls []) := by
  intro  h H locs ls wd hl hX
  have hx := cx.1.1
  have hb := cx.1.2.1
  unfold f_X11_changeBack_b23 at hX
  exact mh_xthW mh_eI mh_kx2 cx th ht wd (text := "s is below 0, or both are one purse") (by decide) hl.1 dX11_changeBack_23 dX11_changeBack_26 dX11_changeBack_27 dX11_changeBack_30 dX11_changeBack_33 ⟨Nat.le_of_ble_eq_true rfl, Nat.le_of_ble_eq_true rfl⟩ ⟨Nat.le_of_ble_eq_true rfl, Nat.le_of_ble_eq_true rfl⟩ ⟨Nat.le_of_ble_eq_true rfl, Nat.le_of_ble_eq_true rfl⟩ hX
set_option maxRecDepth 100000 in
set_option maxHeartbeats 4000000 in
theorem w_X11_changeBack_e {p : Program} {l : Launch} {e : Env} {s : State} {m : MethodId} {args : Array Value} {below : List Frame} {meth : Method} {c : Code} {D : va_G} {ks : Nat → ClassId} {L : List Nat} {r : Nat ⊕ Int32} {h' : mh_H} (cx : mh_C p m c cX11_changeBack 6 s args RX11 meth D ks (mh_A L s.heap.size)) (th : mh_Th l (mh_A L s.heap.size) s) (ht : ∀ x ∈ c.exceptionTable.toList, False) (hr : meth.sig.returnType = (some .int)) :
    ∀ (o0 : Nat) (x1 : Int32) (x2 : Int32) (x3 : Int32) (h : mh_H) (H : Heap) (locs : List Loc) (ls : Array Slot), mh_W D ks L (mh_A L s.heap.size) s.heap h H locs → lv_has ls 6 [(0, .ref o0), (1, .int x1), (2, .int x2), (3, .int x3)] → f_X11_changeBack_e o0 x1 x2 x3 h = some (r, h') → W p l e (mh_rx 7 3) s m args below meth c H locs 0 0 (vx_MQ below (mh_Qx D ks L s.heap.size (mh_em mh_eI r) h') (mh_XC D ks L s.heap.size (mh_em mh_eI r) h') args s 3 18 (mh_A L s.heap.size)) (F0 m 0 ls []) := by
  intro o0 x1 x2 x3 h H locs ls wd hl hX
  have hx := cx.1.1
  have hb := cx.1.2.1
  unfold f_X11_changeBack_e at hX
  refine lv_aload_n hx hb dX11_changeBack_0 rfl (lv_at hl 0 rfl) ?_
  refine lv_iload_n hx hb dX11_changeBack_1 rfl (lv_at hl 1 rfl) ?_
  refine mh_xV mh_eR mh_eI (K := 1) [.int x1] cx th ht wd (rfl : vwCl[11]? = some (RX11, TX11, 16)) yw_X11_purseAt vw_X11_324 rfl hl.1 rfl (Nat.le_of_ble_eq_true rfl) dX11_changeBack_2 ⟨Nat.le_of_ble_eq_true rfl, Nat.le_of_ble_eq_true rfl⟩ ⟨Nat.le_of_ble_eq_true rfl, Nat.le_of_ble_eq_true rfl⟩ ⟨Nat.le_of_ble_eq_true rfl, Nat.le_of_ble_eq_true rfl⟩ (fun _ _ q => c_X11_purseAt q) hX (fun a2 h1 H locs wd hX => ?_)
  refine W.eq (g2 := F0 m 5 ls [.ref a2]) rfl ?_
  refine lv_astore (lv' := [(4, .ref a2), (0, .ref o0), (1, .int x1), (2, .int x2), (3, .int x3)]) hx hb dX11_changeBack_5 hl (Nat.le_of_ble_eq_true rfl) rfl (fun ls hl => ?_)
  refine lv_aload_n hx hb dX11_changeBack_7 rfl (lv_at hl 1 rfl) ?_
  refine lv_iload_n hx hb dX11_changeBack_8 rfl (lv_at hl 3 rfl) ?_
  refine mh_xV mh_eR mh_eI (K := 1) [.int x2] cx th ht wd (rfl : vwCl[11]? = some (RX11, TX11, 16)) yw_X11_purseAt vw_X11_324 rfl hl.1 rfl (Nat.le_of_ble_eq_true rfl) dX11_changeBack_9 ⟨Nat.le_of_ble_eq_true rfl, Nat.le_of_ble_eq_true rfl⟩ ⟨Nat.le_of_ble_eq_true rfl, Nat.le_of_ble_eq_true rfl⟩ ⟨Nat.le_of_ble_eq_true rfl, Nat.le_of_ble_eq_true rfl⟩ (fun _ _ q => c_X11_purseAt q) hX (fun a4 h3 H locs wd hX => ?_)
  refine W.eq (g2 := F0 m 12 ls [.ref a4]) rfl ?_
  refine lv_astore (lv' := [(5, .ref a4), (4, .ref a2), (0, .ref o0), (1, .int x1), (2, .int x2), (3, .int x3)]) hx hb dX11_changeBack_12 hl (Nat.le_of_ble_eq_true rfl) rfl (fun ls hl => ?_)
  refine lv_iload_n hx hb dX11_changeBack_14 rfl (lv_at hl 5 rfl) ?_
  refine lv_if_lt (tgt := 23) hx hb dX11_changeBack_15 rfl (fun hc => (fun hX => ?_) ((mh_if hX).1 hc)) (fun hc => (fun hX => ?_) ((mh_if hX).2 hc))
  · exact w_X11_changeBack_b23 cx th ht hr  h3 _ _ ls wd (lv_sub hl [] rfl) hX
  · refine lv_iload_n hx hb dX11_changeBack_18 rfl (lv_at hl 3 rfl) ?_
    refine lv_iload_n hx hb dX11_changeBack_19 rfl (lv_at hl 4 rfl) ?_
    refine lv_icmp_ne (tgt := 34) hx hb dX11_changeBack_20 rfl (fun hc => (fun hX => ?_) ((mh_if hX).2 hc)) (fun hc => (fun hX => ?_) ((mh_if hX).1 hc))
    · refine lv_aload_n hx hb dX11_changeBack_34 rfl (lv_at hl 2 rfl) ?_
      refine mh_getR cx wd fl_X11_78 dX11_changeBack_35 hX (fun a5 hX => ?_)
      refine lv_aload hx hb dX11_changeBack_38 (lv_at hl 1 rfl) ?_
      refine mh_callVV cx wd [.ref a2] (rfl : vwCl[8]? = some (RX8, TX8, 3)) yw_X8_take vw_X11_334 rfl hl.1 rfl (Nat.le_of_ble_eq_true rfl) dX11_changeBack_40 ⟨Nat.le_of_ble_eq_true rfl, Nat.le_of_ble_eq_true rfl⟩ ⟨Nat.le_of_ble_eq_true rfl, Nat.le_of_ble_eq_true rfl⟩ (fun _ q => c_X8_take q) hX (fun h6 H locs wd hX => ?_)
      refine lv_aload_n hx hb dX11_changeBack_43 rfl (lv_at hl 2 rfl) ?_
      refine mh_getR cx wd fl_X11_82 dX11_changeBack_44 hX (fun a7 hX => ?_)
      refine lv_aload hx hb dX11_changeBack_47 (lv_at hl 0 rfl) ?_
      refine mh_callVV cx wd [.ref a4] (rfl : vwCl[8]? = some (RX8, TX8, 3)) yw_X8_take vw_X11_334 rfl hl.1 rfl (Nat.le_of_ble_eq_true rfl) dX11_changeBack_49 ⟨Nat.le_of_ble_eq_true rfl, Nat.le_of_ble_eq_true rfl⟩ ⟨Nat.le_of_ble_eq_true rfl, Nat.le_of_ble_eq_true rfl⟩ (fun _ q => c_X8_take q) hX (fun h8 H locs wd hX => ?_)
      refine lv_aload_n hx hb dX11_changeBack_52 rfl (lv_at hl 2 rfl) ?_
      refine mh_getR cx wd fl_X11_78 dX11_changeBack_53 hX (fun a9 hX => ?_)
      refine lv_aload_n hx hb dX11_changeBack_56 rfl (lv_at hl 2 rfl) ?_
      refine mh_getR cx wd fl_X11_82 dX11_changeBack_57 hX (fun a10 hX => ?_)
      refine lv_iload_n hx hb dX11_changeBack_60 rfl (lv_at hl 5 rfl) ?_
      refine mh_callVI cx wd [.ref a10, .int x3] (rfl : vwCl[8]? = some (RX8, TX8, 3)) yw_X8_backFrom vw_X11_388 rfl hl.1 rfl (Nat.le_of_ble_eq_true rfl) dX11_changeBack_61 ⟨Nat.le_of_ble_eq_true rfl, Nat.le_of_ble_eq_true rfl⟩ ⟨Nat.le_of_ble_eq_true rfl, Nat.le_of_ble_eq_true rfl⟩ (fun _ _ q => c_X8_backFrom q) hX (fun v12 h11 H locs wd hX => ?_)
      exact mh_xiret cx wd hr hX dX11_changeBack_64 ⟨Nat.le_of_ble_eq_true rfl, Nat.le_of_ble_eq_true rfl⟩
    · exact w_X11_changeBack_b23 cx th ht hr  h3 _ _ ls wd (lv_sub hl [] rfl) hX
set_option maxRecDepth 100000 in
theorem c_X11_changeBack {l : Launch} {L : List Nat} {h h' : mh_H} {r : Nat ⊕ Int32} {o0 : Nat} {x1 : Int32} {x2 : Int32} {x3 : Int32} (hX : f_X11_changeBack_e o0 x1 x2 x3 h = some (r, h')) : mh_Mx l yX11_changeBack (Cond.code yX11_changeBack cX11_changeBack 6 (some .int) :: mh_TB) (mh_rx 7 3) [.ref o0, .int x1, .int x2, .int x3] L h (mh_em mh_eI r) h' 3 18 :=
  mh_xof (by decide) (Nat.le_of_ble_eq_true rfl) (fun p e s m below meth c D ks ls hr cx th ht wd hl => by
    have hl : lv_has ls 6 [(0, .ref o0), (1, .int x1), (2, .int x2), (3, .int x3)] := hl
    exact w_X11_changeBack_e cx th ht hr o0 x1 x2 x3 h _ _ ls wd hl hX)
def f_X11_change_b26 (t0 : Int32) (h : mh_H) : Option ((Nat ⊕ Int32) × mh_H) :=
  some (.inr t0, h)
def f_X11_change_e (o0 : Nat) (x1 : Int32) (x2 : Int32) (x3 : Int32) (h : mh_H) : Option ((Nat ⊕ Int32) × mh_H) :=
  mh_bx (mh_cal h o0 11 (f_X11_changeBack_e o0 x1 x2 x3 h)) fun v2 h1 =>
  if v2 = (-1 : Int32) then (
  f_X11_change_b26 (-1 : Int32) h1) else
  mh_b2 (mh_cal h1 o0 11 (f_X11_moved_e o0 x3 v2 h1)) fun v4 h3 =>
  f_X11_change_b26 v4 h3
set_option maxRecDepth 100000 in
set_option maxHeartbeats 4000000 in
theorem w_X11_change_b26 {p : Program} {l : Launch} {e : Env} {s : State} {m : MethodId} {args : Array Value} {below : List Frame} {meth : Method} {c : Code} {D : va_G} {ks : Nat → ClassId} {L : List Nat} {r : Nat ⊕ Int32} {h' : mh_H} (cx : mh_C p m c cX11_change 5 s args RX11 meth D ks (mh_A L s.heap.size)) (th : mh_Th l (mh_A L s.heap.size) s) (ht : ∀ x ∈ c.exceptionTable.toList, False) (hr : meth.sig.returnType = (some .int)) :
    ∀ (t0 : Int32) (h : mh_H) (H : Heap) (locs : List Loc) (ls : Array Slot), mh_W D ks L (mh_A L s.heap.size) s.heap h H locs → lv_has ls 5 [] → f_X11_change_b26 t0 h = some (r, h') → W p l e (mh_rx 8 3) s m args below meth c H locs 3 18 (vx_MQ below (mh_Qx D ks L s.heap.size (mh_em mh_eI r) h') (mh_XC D ks L s.heap.size (mh_em mh_eI r) h') args s 3 18 (mh_A L s.heap.size)) (F0 m 26 ls [.int t0]) := by
  intro t0 h H locs ls wd hl hX
  have hx := cx.1.1
  have hb := cx.1.2.1
  unfold f_X11_change_b26 at hX
  exact mh_xiret cx wd hr hX dX11_change_26 ⟨Nat.le_of_ble_eq_true rfl, Nat.le_of_ble_eq_true rfl⟩
set_option maxRecDepth 100000 in
set_option maxHeartbeats 4000000 in
theorem w_X11_change_e {p : Program} {l : Launch} {e : Env} {s : State} {m : MethodId} {args : Array Value} {below : List Frame} {meth : Method} {c : Code} {D : va_G} {ks : Nat → ClassId} {L : List Nat} {r : Nat ⊕ Int32} {h' : mh_H} (cx : mh_C p m c cX11_change 5 s args RX11 meth D ks (mh_A L s.heap.size)) (th : mh_Th l (mh_A L s.heap.size) s) (ht : ∀ x ∈ c.exceptionTable.toList, False) (hr : meth.sig.returnType = (some .int)) :
    ∀ (o0 : Nat) (x1 : Int32) (x2 : Int32) (x3 : Int32) (h : mh_H) (H : Heap) (locs : List Loc) (ls : Array Slot), mh_W D ks L (mh_A L s.heap.size) s.heap h H locs → lv_has ls 5 [(0, .ref o0), (1, .int x1), (2, .int x2), (3, .int x3)] → f_X11_change_e o0 x1 x2 x3 h = some (r, h') → W p l e (mh_rx 8 3) s m args below meth c H locs 0 0 (vx_MQ below (mh_Qx D ks L s.heap.size (mh_em mh_eI r) h') (mh_XC D ks L s.heap.size (mh_em mh_eI r) h') args s 3 18 (mh_A L s.heap.size)) (F0 m 0 ls []) := by
  intro o0 x1 x2 x3 h H locs ls wd hl hX
  have hx := cx.1.1
  have hb := cx.1.2.1
  unfold f_X11_change_e at hX
  refine lv_aload_n hx hb dX11_change_0 rfl (lv_at hl 0 rfl) ?_
  refine lv_iload_n hx hb dX11_change_1 rfl (lv_at hl 1 rfl) ?_
  refine lv_iload_n hx hb dX11_change_2 rfl (lv_at hl 2 rfl) ?_
  refine lv_iload_n hx hb dX11_change_3 rfl (lv_at hl 3 rfl) ?_
  refine mh_xV mh_eI mh_eI (K := 3) [.int x1, .int x2, .int x3] cx th ht wd (rfl : vwCl[11]? = some (RX11, TX11, 16)) yw_X11_changeBack vw_X11_342 rfl hl.1 rfl (Nat.le_of_ble_eq_true rfl) dX11_change_4 ⟨Nat.le_of_ble_eq_true rfl, Nat.le_of_ble_eq_true rfl⟩ ⟨Nat.le_of_ble_eq_true rfl, Nat.le_of_ble_eq_true rfl⟩ ⟨Nat.le_of_ble_eq_true rfl, Nat.le_of_ble_eq_true rfl⟩ (fun _ _ q => c_X11_changeBack q) hX (fun v2 h1 H locs wd hX => ?_)
  refine W.eq (g2 := F0 m 7 ls [.int v2]) rfl ?_
  refine lv_istore (lv' := [(4, .int v2), (0, .ref o0), (1, .int x1), (2, .int x2), (3, .int x3)]) hx hb dX11_change_7 hl (Nat.le_of_ble_eq_true rfl) rfl (fun ls hl => ?_)
  refine lv_iload hx hb dX11_change_9 (lv_at hl 0 rfl) ?_
  refine lv_iconst (v := (-1)) hx hb dX11_change_11 (by decide) ?_
  refine lv_icmp_ne (tgt := 19) hx hb dX11_change_12 rfl (fun hc => (fun hX => ?_) ((mh_if hX).2 hc)) (fun hc => (fun hX => ?_) ((mh_if hX).1 hc))
  · refine lv_aload_n hx hb dX11_change_19 rfl (lv_at hl 1 rfl) ?_
    refine lv_iload_n hx hb dX11_change_20 rfl (lv_at hl 4 rfl) ?_
    refine lv_iload hx hb dX11_change_21 (lv_at hl 0 rfl) ?_
    refine mh_callVI cx wd [.int x3, .int v2] (rfl : vwCl[11]? = some (RX11, TX11, 16)) yw_X11_moved vw_X11_346 rfl hl.1 rfl (Nat.le_of_ble_eq_true rfl) dX11_change_23 ⟨Nat.le_of_ble_eq_true rfl, Nat.le_of_ble_eq_true rfl⟩ ⟨Nat.le_of_ble_eq_true rfl, Nat.le_of_ble_eq_true rfl⟩ (fun _ _ q => c_X11_moved q) hX (fun v4 h3 H locs wd hX => ?_)
    exact w_X11_change_b26 cx th ht hr _ h3 _ _ ls wd (lv_sub hl [] rfl) hX
  · refine lv_iconst (v := (-1)) hx hb dX11_change_15 (by decide) ?_
    refine lv_goto (tgt := 26) hx hb dX11_change_16 rfl ?_
    exact w_X11_change_b26 cx th ht hr _ h1 _ _ ls wd (lv_sub hl [] rfl) hX
set_option maxRecDepth 100000 in
theorem c_X11_change {l : Launch} {L : List Nat} {h h' : mh_H} {r : Nat ⊕ Int32} {o0 : Nat} {x1 : Int32} {x2 : Int32} {x3 : Int32} (hX : f_X11_change_e o0 x1 x2 x3 h = some (r, h')) : mh_Mx l yX11_change (Cond.code yX11_change cX11_change 5 (some .int) :: mh_TB) (mh_rx 8 3) [.ref o0, .int x1, .int x2, .int x3] L h (mh_em mh_eI r) h' 3 18 :=
  mh_xof (by decide) (Nat.le_of_ble_eq_true rfl) (fun p e s m below meth c D ks ls hr cx th ht wd hl => by
    have hl : lv_has ls 5 [(0, .ref o0), (1, .int x1), (2, .int x2), (3, .int x3)] := hl
    exact w_X11_change_e cx th ht hr o0 x1 x2 x3 h _ _ ls wd hl hX)
