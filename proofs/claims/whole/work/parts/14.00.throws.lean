def f_X11_checkCoin_b12 (h : mh_H) : Option ((Nat ⊕ Unit) × mh_H) :=
  some (.inl 1, h)
def f_X11_checkCoin_e (o0 : Nat) (x1 : Int32) (h : mh_H) : Option ((Nat ⊕ Unit) × mh_H) :=
  if x1 < 0 then (
  f_X11_checkCoin_b12 h) else
  mh_b2 (mh_cal h o0 1 (f_X1_count_e o0 h)) fun v2 h1 =>
  if x1 < v2 then (
  some (.inr (), h1)) else
  f_X11_checkCoin_b12 h1
set_option maxRecDepth 100000 in
set_option maxHeartbeats 4000000 in
theorem w_X11_checkCoin_b12 {p : Program} {l : Launch} {e : Env} {s : State} {m : MethodId} {args : Array Value} {below : List Frame} {meth : Method} {c : Code} {D : va_G} {ks : Nat → ClassId} {L : List Nat} {r : Nat ⊕ Unit} {h' : mh_H} (cx : mh_C p m c cX11_checkCoin 2 s args RX11 meth D ks (mh_A L s.heap.size)) (th : mh_Th l (mh_A L s.heap.size) s) (ht : ∀ x ∈ c.exceptionTable.toList, False) (hr : meth.sig.returnType = none) :
    ∀ (h : mh_H) (H : Heap) (locs : List Loc) (ls : Array Slot), mh_W D ks L (mh_A L s.heap.size) s.heap h H locs → lv_has ls 2 [] → f_X11_checkCoin_b12  h = some (r, h') → W p l e (mh_rx 6 1) s m args below meth c H locs 0 0 (vx_MQ below (mh_Qx D ks L s.heap.size (mh_em mh_eV r) h') (mh_XC D ks L s.heap.size (mh_em mh_eV r) h') args s 1 6 (mh_A L s.heap.size)) (F0 m 12 ls []) := by
  intro  h H locs ls wd hl hX
  have hx := cx.1.1
  have hb := cx.1.2.1
  unfold f_X11_checkCoin_b12 at hX
  exact mh_xthW mh_eV mh_kx1 cx th ht wd (text := "no such coin") (by decide) hl.1 dX11_checkCoin_12 dX11_checkCoin_15 dX11_checkCoin_16 dX11_checkCoin_19 dX11_checkCoin_22 ⟨Nat.le_of_ble_eq_true rfl, Nat.le_of_ble_eq_true rfl⟩ ⟨Nat.le_of_ble_eq_true rfl, Nat.le_of_ble_eq_true rfl⟩ ⟨Nat.le_of_ble_eq_true rfl, Nat.le_of_ble_eq_true rfl⟩ hX
set_option maxRecDepth 100000 in
set_option maxHeartbeats 4000000 in
theorem w_X11_checkCoin_e {p : Program} {l : Launch} {e : Env} {s : State} {m : MethodId} {args : Array Value} {below : List Frame} {meth : Method} {c : Code} {D : va_G} {ks : Nat → ClassId} {L : List Nat} {r : Nat ⊕ Unit} {h' : mh_H} (cx : mh_C p m c cX11_checkCoin 2 s args RX11 meth D ks (mh_A L s.heap.size)) (th : mh_Th l (mh_A L s.heap.size) s) (ht : ∀ x ∈ c.exceptionTable.toList, False) (hr : meth.sig.returnType = none) :
    ∀ (o0 : Nat) (x1 : Int32) (h : mh_H) (H : Heap) (locs : List Loc) (ls : Array Slot), mh_W D ks L (mh_A L s.heap.size) s.heap h H locs → lv_has ls 2 [(0, .ref o0), (1, .int x1)] → f_X11_checkCoin_e o0 x1 h = some (r, h') → W p l e (mh_rx 6 1) s m args below meth c H locs 0 0 (vx_MQ below (mh_Qx D ks L s.heap.size (mh_em mh_eV r) h') (mh_XC D ks L s.heap.size (mh_em mh_eV r) h') args s 1 6 (mh_A L s.heap.size)) (F0 m 0 ls []) := by
  intro o0 x1 h H locs ls wd hl hX
  have hx := cx.1.1
  have hb := cx.1.2.1
  unfold f_X11_checkCoin_e at hX
  refine lv_iload_n hx hb dX11_checkCoin_0 rfl (lv_at hl 1 rfl) ?_
  refine lv_if_lt (tgt := 12) hx hb dX11_checkCoin_1 rfl (fun hc => (fun hX => ?_) ((mh_if hX).1 hc)) (fun hc => (fun hX => ?_) ((mh_if hX).2 hc))
  · exact w_X11_checkCoin_b12 cx th ht hr  h _ _ ls wd (lv_sub hl [] rfl) hX
  · refine lv_iload_n hx hb dX11_checkCoin_4 rfl (lv_at hl 1 rfl) ?_
    refine lv_aload_n hx hb dX11_checkCoin_5 rfl (lv_at hl 0 rfl) ?_
    refine mh_callVI cx wd [] (rfl : vwCl[1]? = some (RX1, TX1, 2)) yw_X1_count vw_X11_123 rfl hl.1 rfl (Nat.le_of_ble_eq_true rfl) dX11_checkCoin_6 ⟨Nat.le_of_ble_eq_true rfl, Nat.le_of_ble_eq_true rfl⟩ ⟨Nat.le_of_ble_eq_true rfl, Nat.le_of_ble_eq_true rfl⟩ (fun _ _ q => c_X1_count q) hX (fun v2 h1 H locs wd hX => ?_)
    refine lv_icmp_lt (tgt := 23) hx hb dX11_checkCoin_9 rfl (fun hc => (fun hX => ?_) ((mh_if hX).1 hc)) (fun hc => (fun hX => ?_) ((mh_if hX).2 hc))
    · exact mh_xvret cx wd hr hX dX11_checkCoin_23 ⟨Nat.le_of_ble_eq_true rfl, Nat.le_of_ble_eq_true rfl⟩
    · exact w_X11_checkCoin_b12 cx th ht hr  h1 _ _ ls wd (lv_sub hl [] rfl) hX
set_option maxRecDepth 100000 in
theorem c_X11_checkCoin {l : Launch} {L : List Nat} {h h' : mh_H} {r : Nat ⊕ Unit} {o0 : Nat} {x1 : Int32} (hX : f_X11_checkCoin_e o0 x1 h = some (r, h')) : mh_Mx l yX11_checkCoin (Cond.code yX11_checkCoin cX11_checkCoin 2 none :: mh_TB) (mh_rx 6 1) [.ref o0, .int x1] L h (mh_em mh_eV r) h' 1 6 :=
  mh_xof (by decide) (Nat.le_of_ble_eq_true rfl) (fun p e s m below meth c D ks ls hr cx th ht wd hl => by
    have hl : lv_has ls 2 [(0, .ref o0), (1, .int x1)] := hl
    exact w_X11_checkCoin_e cx th ht hr o0 x1 h _ _ ls wd hl hX)
def f_X11_mintAt_e (o0 : Nat) (x1 : Int32) (h : mh_H) : Option ((Nat ⊕ Nat) × mh_H) :=
  mh_b2 (f_X11_isPlace_e x1 h) fun v2 h1 =>
  if v2 = 0 then (
  some (.inl 1, h1)) else
  (mh_gR h1 o0 11 0).bind fun a3 =>
  mh_b2 (mh_cal h1 a3 3 (f_X3_mint_e a3 x1 h1)) fun a5 h4 =>
  some (.inr a5, h4)
set_option maxRecDepth 100000 in
set_option maxHeartbeats 4000000 in
theorem w_X11_mintAt_e {p : Program} {l : Launch} {e : Env} {s : State} {m : MethodId} {args : Array Value} {below : List Frame} {meth : Method} {c : Code} {D : va_G} {ks : Nat → ClassId} {L : List Nat} {r : Nat ⊕ Nat} {h' : mh_H} (cx : mh_C p m c cX11_mintAt 2 s args RX11 meth D ks (mh_A L s.heap.size)) (th : mh_Th l (mh_A L s.heap.size) s) (ht : ∀ x ∈ c.exceptionTable.toList, False) (hr : meth.sig.returnType = (some (.object "MintHouse$Coins"))) :
    ∀ (o0 : Nat) (x1 : Int32) (h : mh_H) (H : Heap) (locs : List Loc) (ls : Array Slot), mh_W D ks L (mh_A L s.heap.size) s.heap h H locs → lv_has ls 2 [(0, .ref o0), (1, .int x1)] → f_X11_mintAt_e o0 x1 h = some (r, h') → W p l e (mh_rx 6 1) s m args below meth c H locs 0 0 (vx_MQ below (mh_Qx D ks L s.heap.size (mh_em mh_eR r) h') (mh_XC D ks L s.heap.size (mh_em mh_eR r) h') args s 1 6 (mh_A L s.heap.size)) (F0 m 0 ls []) := by
  intro o0 x1 h H locs ls wd hl hX
  have hx := cx.1.1
  have hb := cx.1.2.1
  unfold f_X11_mintAt_e at hX
  refine lv_iload_n hx hb dX11_mintAt_0 rfl (lv_at hl 1 rfl) ?_
  refine mh_callSI cx wd [.int x1] yw_X11_isPlace sw_X11_102 rfl hl.1 rfl (Nat.le_of_ble_eq_true rfl) dX11_mintAt_1 ⟨Nat.le_of_ble_eq_true rfl, Nat.le_of_ble_eq_true rfl⟩ ⟨Nat.le_of_ble_eq_true rfl, Nat.le_of_ble_eq_true rfl⟩ (fun _ _ q => c_X11_isPlace q) hX (fun v2 h1 H locs wd hX => ?_)
  refine lv_if_ne (tgt := 18) hx hb dX11_mintAt_4 rfl (fun hc => (fun hX => ?_) ((mh_if hX).2 hc)) (fun hc => (fun hX => ?_) ((mh_if hX).1 hc))
  · refine lv_aload_n hx hb dX11_mintAt_18 rfl (lv_at hl 0 rfl) ?_
    refine mh_getR cx wd fl_X11_14 dX11_mintAt_19 hX (fun a3 hX => ?_)
    refine lv_iload_n hx hb dX11_mintAt_22 rfl (lv_at hl 1 rfl) ?_
    refine mh_callVR cx wd [.int x1] (rfl : vwCl[3]? = some (RX3, TX3, 5)) yw_X3_mint vw_X11_106 rfl hl.1 rfl (Nat.le_of_ble_eq_true rfl) dX11_mintAt_23 ⟨Nat.le_of_ble_eq_true rfl, Nat.le_of_ble_eq_true rfl⟩ ⟨Nat.le_of_ble_eq_true rfl, Nat.le_of_ble_eq_true rfl⟩ (fun _ _ q => c_X3_mint q) hX (fun a5 h4 H locs wd hX => ?_)
    exact mh_xaret cx wd hr (Or.inl ⟨_, rfl⟩) hX dX11_mintAt_26 ⟨Nat.le_of_ble_eq_true rfl, Nat.le_of_ble_eq_true rfl⟩
  · exact mh_xthW mh_eR mh_kx1 cx th ht wd (text := "no such mint") (by decide) hl.1 dX11_mintAt_7 dX11_mintAt_10 dX11_mintAt_11 dX11_mintAt_14 dX11_mintAt_17 ⟨Nat.le_of_ble_eq_true rfl, Nat.le_of_ble_eq_true rfl⟩ ⟨Nat.le_of_ble_eq_true rfl, Nat.le_of_ble_eq_true rfl⟩ ⟨Nat.le_of_ble_eq_true rfl, Nat.le_of_ble_eq_true rfl⟩ hX
set_option maxRecDepth 100000 in
theorem c_X11_mintAt {l : Launch} {L : List Nat} {h h' : mh_H} {r : Nat ⊕ Nat} {o0 : Nat} {x1 : Int32} (hX : f_X11_mintAt_e o0 x1 h = some (r, h')) : mh_Mx l yX11_mintAt (Cond.code yX11_mintAt cX11_mintAt 2 (some (.object "MintHouse$Coins")) :: mh_TB) (mh_rx 6 1) [.ref o0, .int x1] L h (mh_em mh_eR r) h' 1 6 :=
  mh_xof (by decide) (Nat.le_of_ble_eq_true rfl) (fun p e s m below meth c D ks ls hr cx th ht wd hl => by
    have hl : lv_has ls 2 [(0, .ref o0), (1, .int x1)] := hl
    exact w_X11_mintAt_e cx th ht hr o0 x1 h _ _ ls wd hl hX)
def f_X11_at_e (o0 : Nat) (x1 : Int32) (x2 : Int32) (h : mh_H) : Option ((Nat ⊕ Int32) × mh_H) :=
  mh_bx (mh_cal h o0 11 (f_X11_mintAt_e o0 x1 h)) fun a2 h1 =>
  if x2 = (-1 : Int32) then (
  mh_b2 (mh_cal h1 a2 1 (f_X1_count_e a2 h1)) fun v7 h6 =>
  some (.inr v7, h6)) else
  mh_bx (f_X11_checkCoin_e a2 x2 h1) fun _ h3 =>
  mh_b2 (mh_cal h3 a2 1 (f_X1_value_e a2 x2 h3)) fun v5 h4 =>
  some (.inr v5, h4)
set_option maxRecDepth 100000 in
set_option maxHeartbeats 4000000 in
theorem w_X11_at_e {p : Program} {l : Launch} {e : Env} {s : State} {m : MethodId} {args : Array Value} {below : List Frame} {meth : Method} {c : Code} {D : va_G} {ks : Nat → ClassId} {L : List Nat} {r : Nat ⊕ Int32} {h' : mh_H} (cx : mh_C p m c cX11_at 4 s args RX11 meth D ks (mh_A L s.heap.size)) (th : mh_Th l (mh_A L s.heap.size) s) (ht : ∀ x ∈ c.exceptionTable.toList, False) (hr : meth.sig.returnType = (some .int)) :
    ∀ (o0 : Nat) (x1 : Int32) (x2 : Int32) (h : mh_H) (H : Heap) (locs : List Loc) (ls : Array Slot), mh_W D ks L (mh_A L s.heap.size) s.heap h H locs → lv_has ls 4 [(0, .ref o0), (1, .int x1), (2, .int x2)] → f_X11_at_e o0 x1 x2 h = some (r, h') → W p l e (mh_rx 7 2) s m args below meth c H locs 0 0 (vx_MQ below (mh_Qx D ks L s.heap.size (mh_em mh_eI r) h') (mh_XC D ks L s.heap.size (mh_em mh_eI r) h') args s 2 12 (mh_A L s.heap.size)) (F0 m 0 ls []) := by
  intro o0 x1 x2 h H locs ls wd hl hX
  have hx := cx.1.1
  have hb := cx.1.2.1
  unfold f_X11_at_e at hX
  refine lv_aload_n hx hb dX11_at_0 rfl (lv_at hl 0 rfl) ?_
  refine lv_iload_n hx hb dX11_at_1 rfl (lv_at hl 1 rfl) ?_
  refine mh_xV mh_eR mh_eI (K := 1) [.int x1] cx th ht wd (rfl : vwCl[11]? = some (RX11, TX11, 16)) yw_X11_mintAt vw_X11_131 rfl hl.1 rfl (Nat.le_of_ble_eq_true rfl) dX11_at_2 ⟨Nat.le_of_ble_eq_true rfl, Nat.le_of_ble_eq_true rfl⟩ ⟨Nat.le_of_ble_eq_true rfl, Nat.le_of_ble_eq_true rfl⟩ ⟨Nat.le_of_ble_eq_true rfl, Nat.le_of_ble_eq_true rfl⟩ (fun _ _ q => c_X11_mintAt q) hX (fun a2 h1 H locs wd hX => ?_)
  refine W.eq (g2 := F0 m 5 ls [.ref a2]) rfl ?_
  refine lv_astore_n (lv' := [(3, .ref a2), (0, .ref o0), (1, .int x1), (2, .int x2)]) hx hb dX11_at_5 rfl hl (Nat.le_of_ble_eq_true rfl) rfl (fun ls hl => ?_)
  refine lv_iload_n hx hb dX11_at_6 rfl (lv_at hl 3 rfl) ?_
  refine lv_iconst (v := (-1)) hx hb dX11_at_7 (by decide) ?_
  refine lv_icmp_ne (tgt := 16) hx hb dX11_at_8 rfl (fun hc => (fun hX => ?_) ((mh_if hX).2 hc)) (fun hc => (fun hX => ?_) ((mh_if hX).1 hc))
  · refine lv_aload_n hx hb dX11_at_16 rfl (lv_at hl 0 rfl) ?_
    refine lv_iload_n hx hb dX11_at_17 rfl (lv_at hl 3 rfl) ?_
    refine mh_xS mh_eV mh_eI (K := 1) [.ref a2, .int x2] cx th ht wd yw_X11_checkCoin sw_X11_134 rfl hl.1 rfl (Nat.le_of_ble_eq_true rfl) dX11_at_18 ⟨Nat.le_of_ble_eq_true rfl, Nat.le_of_ble_eq_true rfl⟩ ⟨Nat.le_of_ble_eq_true rfl, Nat.le_of_ble_eq_true rfl⟩ ⟨Nat.le_of_ble_eq_true rfl, Nat.le_of_ble_eq_true rfl⟩ (fun _ _ q => c_X11_checkCoin q) hX (fun _ h3 H locs wd hX => ?_)
    refine W.eq (g2 := F0 m 21 ls []) rfl ?_
    refine lv_aload_n hx hb dX11_at_21 rfl (lv_at hl 0 rfl) ?_
    refine lv_iload_n hx hb dX11_at_22 rfl (lv_at hl 3 rfl) ?_
    refine mh_callVI cx wd [.int x2] (rfl : vwCl[1]? = some (RX1, TX1, 2)) yw_X1_value vw_X11_138 rfl hl.1 rfl (Nat.le_of_ble_eq_true rfl) dX11_at_23 ⟨Nat.le_of_ble_eq_true rfl, Nat.le_of_ble_eq_true rfl⟩ ⟨Nat.le_of_ble_eq_true rfl, Nat.le_of_ble_eq_true rfl⟩ (fun _ _ q => c_X1_value q) hX (fun v5 h4 H locs wd hX => ?_)
    exact mh_xiret cx wd hr hX dX11_at_26 ⟨Nat.le_of_ble_eq_true rfl, Nat.le_of_ble_eq_true rfl⟩
  · refine lv_aload_n hx hb dX11_at_11 rfl (lv_at hl 0 rfl) ?_
    refine mh_callVI cx wd [] (rfl : vwCl[1]? = some (RX1, TX1, 2)) yw_X1_count vw_X11_123 rfl hl.1 rfl (Nat.le_of_ble_eq_true rfl) dX11_at_12 ⟨Nat.le_of_ble_eq_true rfl, Nat.le_of_ble_eq_true rfl⟩ ⟨Nat.le_of_ble_eq_true rfl, Nat.le_of_ble_eq_true rfl⟩ (fun _ _ q => c_X1_count q) hX (fun v7 h6 H locs wd hX => ?_)
    exact mh_xiret cx wd hr hX dX11_at_15 ⟨Nat.le_of_ble_eq_true rfl, Nat.le_of_ble_eq_true rfl⟩
set_option maxRecDepth 100000 in
theorem c_X11_at {l : Launch} {L : List Nat} {h h' : mh_H} {r : Nat ⊕ Int32} {o0 : Nat} {x1 : Int32} {x2 : Int32} (hX : f_X11_at_e o0 x1 x2 h = some (r, h')) : mh_Mx l yX11_at (Cond.code yX11_at cX11_at 4 (some .int) :: mh_TB) (mh_rx 7 2) [.ref o0, .int x1, .int x2] L h (mh_em mh_eI r) h' 2 12 :=
  mh_xof (by decide) (Nat.le_of_ble_eq_true rfl) (fun p e s m below meth c D ks ls hr cx th ht wd hl => by
    have hl : lv_has ls 4 [(0, .ref o0), (1, .int x1), (2, .int x2)] := hl
    exact w_X11_at_e cx th ht hr o0 x1 x2 h _ _ ls wd hl hX)
def f_X11_checkSum_b14 (h : mh_H) : Option ((Nat ⊕ Unit) × mh_H) :=
  some (.inl 2, h)
def f_X11_checkSum_e (y0 : Int64) (h : mh_H) : Option ((Nat ⊕ Unit) × mh_H) :=
  if (lg_cmp y0 (0 : Int64)) < 0 then (
  f_X11_checkSum_b14 h) else
  if (lg_cmp y0 (1000000000000000 : Int64)) ≤ 0 then (
  some (.inr (), h)) else
  f_X11_checkSum_b14 h
set_option maxRecDepth 100000 in
set_option maxHeartbeats 4000000 in
theorem w_X11_checkSum_b14 {p : Program} {l : Launch} {e : Env} {s : State} {m : MethodId} {args : Array Value} {below : List Frame} {meth : Method} {c : Code} {D : va_G} {ks : Nat → ClassId} {L : List Nat} {r : Nat ⊕ Unit} {h' : mh_H} (cx : mh_C p m c cX11_checkSum 2 s args RX11 meth D ks (mh_A L s.heap.size)) (th : mh_Th l (mh_A L s.heap.size) s) (ht : ∀ x ∈ c.exceptionTable.toList, False) (hr : meth.sig.returnType = none) :
    ∀ (h : mh_H) (H : Heap) (locs : List Loc) (ls : Array Slot), mh_W D ks L (mh_A L s.heap.size) s.heap h H locs → lv_has ls 2 [] → f_X11_checkSum_b14  h = some (r, h') → W p l e (mh_rx 6 1) s m args below meth c H locs 0 0 (vx_MQ below (mh_Qx D ks L s.heap.size (mh_em mh_eV r) h') (mh_XC D ks L s.heap.size (mh_em mh_eV r) h') args s 1 6 (mh_A L s.heap.size)) (F0 m 14 ls []) := by
  intro  h H locs ls wd hl hX
  have hx := cx.1.1
  have hb := cx.1.2.1
  unfold f_X11_checkSum_b14 at hX
  exact mh_xthW mh_eV mh_kx2 cx th ht wd (text := "s is not 0 to 1,000,000,000,000,000") (by decide) hl.1 dX11_checkSum_14 dX11_checkSum_17 dX11_checkSum_18 dX11_checkSum_21 dX11_checkSum_24 ⟨Nat.le_of_ble_eq_true rfl, Nat.le_of_ble_eq_true rfl⟩ ⟨Nat.le_of_ble_eq_true rfl, Nat.le_of_ble_eq_true rfl⟩ ⟨Nat.le_of_ble_eq_true rfl, Nat.le_of_ble_eq_true rfl⟩ hX
set_option maxRecDepth 100000 in
set_option maxHeartbeats 4000000 in
theorem w_X11_checkSum_e {p : Program} {l : Launch} {e : Env} {s : State} {m : MethodId} {args : Array Value} {below : List Frame} {meth : Method} {c : Code} {D : va_G} {ks : Nat → ClassId} {L : List Nat} {r : Nat ⊕ Unit} {h' : mh_H} (cx : mh_C p m c cX11_checkSum 2 s args RX11 meth D ks (mh_A L s.heap.size)) (th : mh_Th l (mh_A L s.heap.size) s) (ht : ∀ x ∈ c.exceptionTable.toList, False) (hr : meth.sig.returnType = none) :
    ∀ (y0 : Int64) (h : mh_H) (H : Heap) (locs : List Loc) (ls : Array Slot), mh_W D ks L (mh_A L s.heap.size) s.heap h H locs → lv_has ls 2 [(0, .long y0)] → f_X11_checkSum_e y0 h = some (r, h') → W p l e (mh_rx 6 1) s m args below meth c H locs 0 0 (vx_MQ below (mh_Qx D ks L s.heap.size (mh_em mh_eV r) h') (mh_XC D ks L s.heap.size (mh_em mh_eV r) h') args s 1 6 (mh_A L s.heap.size)) (F0 m 0 ls []) := by
  intro y0 h H locs ls wd hl hX
  have hx := cx.1.1
  have hb := cx.1.2.1
  unfold f_X11_checkSum_e at hX
  refine lv_lload_n hx hb dX11_checkSum_0 rfl (lv_at hl 0 rfl) ?_
  refine lv_lconst (v := 0) hx hb dX11_checkSum_1 (by decide) ?_
  refine W.lcmp hx hb dX11_checkSum_2 ?_
  refine lv_if_lt (tgt := 14) hx hb dX11_checkSum_3 rfl (fun hc => (fun hX => ?_) ((mh_if hX).1 hc)) (fun hc => (fun hX => ?_) ((mh_if hX).2 hc))
  · exact w_X11_checkSum_b14 cx th ht hr  h _ _ ls wd (lv_sub hl [] rfl) hX
  · refine lv_lload_n hx hb dX11_checkSum_6 rfl (lv_at hl 0 rfl) ?_
    refine mh_ldc2 cx kl_X11_363 dX11_checkSum_7 ?_
    refine W.lcmp hx hb dX11_checkSum_10 ?_
    refine lv_if_le (tgt := 25) hx hb dX11_checkSum_11 rfl (fun hc => (fun hX => ?_) ((mh_if hX).1 hc)) (fun hc => (fun hX => ?_) ((mh_if hX).2 hc))
    · exact mh_xvret cx wd hr hX dX11_checkSum_25 ⟨Nat.le_of_ble_eq_true rfl, Nat.le_of_ble_eq_true rfl⟩
    · exact w_X11_checkSum_b14 cx th ht hr  h _ _ ls wd (lv_sub hl [] rfl) hX
set_option maxRecDepth 100000 in
theorem c_X11_checkSum {l : Launch} {L : List Nat} {h h' : mh_H} {r : Nat ⊕ Unit} {y0 : Int64} (hX : f_X11_checkSum_e y0 h = some (r, h')) : mh_Mx l yX11_checkSum (Cond.code yX11_checkSum cX11_checkSum 2 none :: mh_TB) (mh_rx 6 1) [.long y0] L h (mh_em mh_eV r) h' 1 6 :=
  mh_xof (by decide) (Nat.le_of_ble_eq_true rfl) (fun p e s m below meth c D ks ls hr cx th ht wd hl => by
    have hl : lv_has ls 2 [(0, .long y0)] := hl
    exact w_X11_checkSum_e cx th ht hr y0 h _ _ ls wd hl hX)
def f_X11_fewest_e (o0 : Nat) (x1 : Int32) (y2 : Int64) (h : mh_H) : Option ((Nat ⊕ Int64) × mh_H) :=
  mh_bx (mh_cal h o0 11 (f_X11_mintAt_e o0 x1 h)) fun a2 h1 =>
  mh_bx (f_X11_checkSum_e y2 h1) fun _ h3 =>
  (mh_gR h3 o0 11 1).bind fun a4 =>
  (mh_cal h3 a4 2 (f_X2_take_e a4 a2 h3)).bind fun h5 =>
  (mh_gR h5 o0 11 1).bind fun a6 =>
  mh_b2 (mh_cal h5 a6 2 (f_X2_size_e a6 y2 h5)) fun w8 h7 =>
  some (.inr w8, h7)
set_option maxRecDepth 100000 in
set_option maxHeartbeats 4000000 in
theorem w_X11_fewest_e {p : Program} {l : Launch} {e : Env} {s : State} {m : MethodId} {args : Array Value} {below : List Frame} {meth : Method} {c : Code} {D : va_G} {ks : Nat → ClassId} {L : List Nat} {r : Nat ⊕ Int64} {h' : mh_H} (cx : mh_C p m c cX11_fewest 5 s args RX11 meth D ks (mh_A L s.heap.size)) (th : mh_Th l (mh_A L s.heap.size) s) (ht : ∀ x ∈ c.exceptionTable.toList, False) (hr : meth.sig.returnType = (some .long)) :
    ∀ (o0 : Nat) (x1 : Int32) (y2 : Int64) (h : mh_H) (H : Heap) (locs : List Loc) (ls : Array Slot), mh_W D ks L (mh_A L s.heap.size) s.heap h H locs → lv_has ls 5 [(0, .ref o0), (1, .int x1), (2, .long y2)] → f_X11_fewest_e o0 x1 y2 h = some (r, h') → W p l e (mh_rx 7 2) s m args below meth c H locs 0 0 (vx_MQ below (mh_Qx D ks L s.heap.size (mh_em mh_eJ r) h') (mh_XC D ks L s.heap.size (mh_em mh_eJ r) h') args s 2 12 (mh_A L s.heap.size)) (F0 m 0 ls []) := by
  intro o0 x1 y2 h H locs ls wd hl hX
  have hx := cx.1.1
  have hb := cx.1.2.1
  unfold f_X11_fewest_e at hX
  refine lv_aload_n hx hb dX11_fewest_0 rfl (lv_at hl 0 rfl) ?_
  refine lv_iload_n hx hb dX11_fewest_1 rfl (lv_at hl 1 rfl) ?_
  refine mh_xV mh_eR mh_eJ (K := 1) [.int x1] cx th ht wd (rfl : vwCl[11]? = some (RX11, TX11, 16)) yw_X11_mintAt vw_X11_131 rfl hl.1 rfl (Nat.le_of_ble_eq_true rfl) dX11_fewest_2 ⟨Nat.le_of_ble_eq_true rfl, Nat.le_of_ble_eq_true rfl⟩ ⟨Nat.le_of_ble_eq_true rfl, Nat.le_of_ble_eq_true rfl⟩ ⟨Nat.le_of_ble_eq_true rfl, Nat.le_of_ble_eq_true rfl⟩ (fun _ _ q => c_X11_mintAt q) hX (fun a2 h1 H locs wd hX => ?_)
  refine W.eq (g2 := F0 m 5 ls [.ref a2]) rfl ?_
  refine lv_astore (lv' := [(4, .ref a2), (0, .ref o0), (1, .int x1), (2, .long y2)]) hx hb dX11_fewest_5 hl (Nat.le_of_ble_eq_true rfl) rfl (fun ls hl => ?_)
  refine lv_lload_n hx hb dX11_fewest_7 rfl (lv_at hl 3 rfl) ?_
  refine mh_xS mh_eV mh_eJ (K := 1) [.long y2] cx th ht wd yw_X11_checkSum sw_X11_148 rfl hl.1 rfl (Nat.le_of_ble_eq_true rfl) dX11_fewest_8 ⟨Nat.le_of_ble_eq_true rfl, Nat.le_of_ble_eq_true rfl⟩ ⟨Nat.le_of_ble_eq_true rfl, Nat.le_of_ble_eq_true rfl⟩ ⟨Nat.le_of_ble_eq_true rfl, Nat.le_of_ble_eq_true rfl⟩ (fun _ _ q => c_X11_checkSum q) hX (fun _ h3 H locs wd hX => ?_)
  refine W.eq (g2 := F0 m 11 ls []) rfl ?_
  refine lv_aload_n hx hb dX11_fewest_11 rfl (lv_at hl 1 rfl) ?_
  refine mh_getR cx wd fl_X11_23 dX11_fewest_12 hX (fun a4 hX => ?_)
  refine lv_aload hx hb dX11_fewest_15 (lv_at hl 0 rfl) ?_
  refine mh_callVV cx wd [.ref a2] (rfl : vwCl[2]? = some (RX2, TX2, 5)) yw_X2_take vw_X11_152 rfl hl.1 rfl (Nat.le_of_ble_eq_true rfl) dX11_fewest_17 ⟨Nat.le_of_ble_eq_true rfl, Nat.le_of_ble_eq_true rfl⟩ ⟨Nat.le_of_ble_eq_true rfl, Nat.le_of_ble_eq_true rfl⟩ (fun _ q => c_X2_take q) hX (fun h5 H locs wd hX => ?_)
  refine lv_aload_n hx hb dX11_fewest_20 rfl (lv_at hl 1 rfl) ?_
  refine mh_getR cx wd fl_X11_23 dX11_fewest_21 hX (fun a6 hX => ?_)
  refine lv_lload_n hx hb dX11_fewest_24 rfl (lv_at hl 3 rfl) ?_
  refine mh_callVJ cx wd [.long y2] (rfl : vwCl[2]? = some (RX2, TX2, 5)) yw_X2_size vw_X11_156 rfl hl.1 rfl (Nat.le_of_ble_eq_true rfl) dX11_fewest_25 ⟨Nat.le_of_ble_eq_true rfl, Nat.le_of_ble_eq_true rfl⟩ ⟨Nat.le_of_ble_eq_true rfl, Nat.le_of_ble_eq_true rfl⟩ (fun _ _ q => c_X2_size q) hX (fun w8 h7 H locs wd hX => ?_)
  exact mh_xlret cx wd hr hX dX11_fewest_28 ⟨Nat.le_of_ble_eq_true rfl, Nat.le_of_ble_eq_true rfl⟩
set_option maxRecDepth 100000 in
theorem c_X11_fewest {l : Launch} {L : List Nat} {h h' : mh_H} {r : Nat ⊕ Int64} {o0 : Nat} {x1 : Int32} {y2 : Int64} (hX : f_X11_fewest_e o0 x1 y2 h = some (r, h')) : mh_Mx l yX11_fewest (Cond.code yX11_fewest cX11_fewest 5 (some .long) :: mh_TB) (mh_rx 7 2) [.ref o0, .int x1, .long y2] L h (mh_em mh_eJ r) h' 2 12 :=
  mh_xof (by decide) (Nat.le_of_ble_eq_true rfl) (fun p e s m below meth c D ks ls hr cx th ht wd hl => by
    have hl : lv_has ls 5 [(0, .ref o0), (1, .int x1), (2, .long y2)] := hl
    exact w_X11_fewest_e cx th ht hr o0 x1 y2 h _ _ ls wd hl hX)
def f_X11_with_e (o0 : Nat) (x1 : Int32) (y2 : Int64) (x4 : Int32) (h : mh_H) : Option ((Nat ⊕ Int64) × mh_H) :=
  mh_bx (mh_cal h o0 11 (f_X11_mintAt_e o0 x1 h)) fun a2 h1 =>
  mh_bx (f_X11_checkCoin_e a2 x4 h1) fun _ h3 =>
  mh_bx (f_X11_checkSum_e y2 h3) fun _ h4 =>
  (mh_gR h4 o0 11 1).bind fun a5 =>
  (mh_cal h4 a5 2 (f_X2_take_e a5 a2 h4)).bind fun h6 =>
  (mh_gR h6 o0 11 1).bind fun a7 =>
  mh_b2 (mh_cal h6 a7 2 (f_X2_often_e a7 y2 x4 h6)) fun w9 h8 =>
  some (.inr w9, h8)
set_option maxRecDepth 100000 in
set_option maxHeartbeats 4000000 in
theorem w_X11_with_e {p : Program} {l : Launch} {e : Env} {s : State} {m : MethodId} {args : Array Value} {below : List Frame} {meth : Method} {c : Code} {D : va_G} {ks : Nat → ClassId} {L : List Nat} {r : Nat ⊕ Int64} {h' : mh_H} (cx : mh_C p m c cX11_with 6 s args RX11 meth D ks (mh_A L s.heap.size)) (th : mh_Th l (mh_A L s.heap.size) s) (ht : ∀ x ∈ c.exceptionTable.toList, False) (hr : meth.sig.returnType = (some .long)) :
    ∀ (o0 : Nat) (x1 : Int32) (y2 : Int64) (x4 : Int32) (h : mh_H) (H : Heap) (locs : List Loc) (ls : Array Slot), mh_W D ks L (mh_A L s.heap.size) s.heap h H locs → lv_has ls 6 [(0, .ref o0), (1, .int x1), (2, .long y2), (4, .int x4)] → f_X11_with_e o0 x1 y2 x4 h = some (r, h') → W p l e (mh_rx 7 3) s m args below meth c H locs 0 0 (vx_MQ below (mh_Qx D ks L s.heap.size (mh_em mh_eJ r) h') (mh_XC D ks L s.heap.size (mh_em mh_eJ r) h') args s 3 18 (mh_A L s.heap.size)) (F0 m 0 ls []) := by
  intro o0 x1 y2 x4 h H locs ls wd hl hX
  have hx := cx.1.1
  have hb := cx.1.2.1
  unfold f_X11_with_e at hX
  refine lv_aload_n hx hb dX11_with_0 rfl (lv_at hl 0 rfl) ?_
  refine lv_iload_n hx hb dX11_with_1 rfl (lv_at hl 1 rfl) ?_
  refine mh_xV mh_eR mh_eJ (K := 1) [.int x1] cx th ht wd (rfl : vwCl[11]? = some (RX11, TX11, 16)) yw_X11_mintAt vw_X11_131 rfl hl.1 rfl (Nat.le_of_ble_eq_true rfl) dX11_with_2 ⟨Nat.le_of_ble_eq_true rfl, Nat.le_of_ble_eq_true rfl⟩ ⟨Nat.le_of_ble_eq_true rfl, Nat.le_of_ble_eq_true rfl⟩ ⟨Nat.le_of_ble_eq_true rfl, Nat.le_of_ble_eq_true rfl⟩ (fun _ _ q => c_X11_mintAt q) hX (fun a2 h1 H locs wd hX => ?_)
  refine W.eq (g2 := F0 m 5 ls [.ref a2]) rfl ?_
  refine lv_astore (lv' := [(5, .ref a2), (0, .ref o0), (1, .int x1), (2, .long y2), (4, .int x4)]) hx hb dX11_with_5 hl (Nat.le_of_ble_eq_true rfl) rfl (fun ls hl => ?_)
  refine lv_aload hx hb dX11_with_7 (lv_at hl 0 rfl) ?_
  refine lv_iload hx hb dX11_with_9 (lv_at hl 4 rfl) ?_
  refine mh_xS mh_eV mh_eJ (K := 1) [.ref a2, .int x4] cx th ht wd yw_X11_checkCoin sw_X11_134 rfl hl.1 rfl (Nat.le_of_ble_eq_true rfl) dX11_with_11 ⟨Nat.le_of_ble_eq_true rfl, Nat.le_of_ble_eq_true rfl⟩ ⟨Nat.le_of_ble_eq_true rfl, Nat.le_of_ble_eq_true rfl⟩ ⟨Nat.le_of_ble_eq_true rfl, Nat.le_of_ble_eq_true rfl⟩ (fun _ _ q => c_X11_checkCoin q) hX (fun _ h3 H locs wd hX => ?_)
  refine W.eq (g2 := F0 m 14 ls []) rfl ?_
  refine lv_lload_n hx hb dX11_with_14 rfl (lv_at hl 3 rfl) ?_
  refine mh_xS mh_eV mh_eJ (K := 1) [.long y2] cx th ht wd yw_X11_checkSum sw_X11_148 rfl hl.1 rfl (Nat.le_of_ble_eq_true rfl) dX11_with_15 ⟨Nat.le_of_ble_eq_true rfl, Nat.le_of_ble_eq_true rfl⟩ ⟨Nat.le_of_ble_eq_true rfl, Nat.le_of_ble_eq_true rfl⟩ ⟨Nat.le_of_ble_eq_true rfl, Nat.le_of_ble_eq_true rfl⟩ (fun _ _ q => c_X11_checkSum q) hX (fun _ h4 H locs wd hX => ?_)
  refine W.eq (g2 := F0 m 18 ls []) rfl ?_
  refine lv_aload_n hx hb dX11_with_18 rfl (lv_at hl 1 rfl) ?_
  refine mh_getR cx wd fl_X11_23 dX11_with_19 hX (fun a5 hX => ?_)
  refine lv_aload hx hb dX11_with_22 (lv_at hl 0 rfl) ?_
  refine mh_callVV cx wd [.ref a2] (rfl : vwCl[2]? = some (RX2, TX2, 5)) yw_X2_take vw_X11_152 rfl hl.1 rfl (Nat.le_of_ble_eq_true rfl) dX11_with_24 ⟨Nat.le_of_ble_eq_true rfl, Nat.le_of_ble_eq_true rfl⟩ ⟨Nat.le_of_ble_eq_true rfl, Nat.le_of_ble_eq_true rfl⟩ (fun _ q => c_X2_take q) hX (fun h6 H locs wd hX => ?_)
  refine lv_aload_n hx hb dX11_with_27 rfl (lv_at hl 1 rfl) ?_
  refine mh_getR cx wd fl_X11_23 dX11_with_28 hX (fun a7 hX => ?_)
  refine lv_lload_n hx hb dX11_with_31 rfl (lv_at hl 3 rfl) ?_
  refine lv_iload hx hb dX11_with_32 (lv_at hl 4 rfl) ?_
  refine mh_callVJ cx wd [.long y2, .int x4] (rfl : vwCl[2]? = some (RX2, TX2, 5)) yw_X2_often vw_X11_160 rfl hl.1 rfl (Nat.le_of_ble_eq_true rfl) dX11_with_34 ⟨Nat.le_of_ble_eq_true rfl, Nat.le_of_ble_eq_true rfl⟩ ⟨Nat.le_of_ble_eq_true rfl, Nat.le_of_ble_eq_true rfl⟩ (fun _ _ q => c_X2_often q) hX (fun w9 h8 H locs wd hX => ?_)
  exact mh_xlret cx wd hr hX dX11_with_37 ⟨Nat.le_of_ble_eq_true rfl, Nat.le_of_ble_eq_true rfl⟩
set_option maxRecDepth 100000 in
theorem c_X11_with {l : Launch} {L : List Nat} {h h' : mh_H} {r : Nat ⊕ Int64} {o0 : Nat} {x1 : Int32} {y2 : Int64} {x4 : Int32} (hX : f_X11_with_e o0 x1 y2 x4 h = some (r, h')) : mh_Mx l yX11_with (Cond.code yX11_with cX11_with 6 (some .long) :: mh_TB) (mh_rx 7 3) [.ref o0, .int x1, .long y2, .int x4] L h (mh_em mh_eJ r) h' 3 18 :=
  mh_xof (by decide) (Nat.le_of_ble_eq_true rfl) (fun p e s m below meth c D ks ls hr cx th ht wd hl => by
    have hl : lv_has ls 6 [(0, .ref o0), (1, .int x1), (2, .long y2), (4, .int x4)] := hl
    exact w_X11_with_e cx th ht hr o0 x1 y2 x4 h _ _ ls wd hl hX)
def f_X11_greedy_e (o0 : Nat) (x1 : Int32) (y2 : Int64) (h : mh_H) : Option ((Nat ⊕ Int64) × mh_H) :=
  mh_bx (mh_cal h o0 11 (f_X11_mintAt_e o0 x1 h)) fun a2 h1 =>
  mh_bx (f_X11_checkSum_e y2 h1) fun _ h3 =>
  mh_b2 (mh_cal h3 a2 1 (f_X1_greatestFirst_e a2 y2 h3)) fun w5 h4 =>
  some (.inr w5, h4)
set_option maxRecDepth 100000 in
set_option maxHeartbeats 4000000 in
theorem w_X11_greedy_e {p : Program} {l : Launch} {e : Env} {s : State} {m : MethodId} {args : Array Value} {below : List Frame} {meth : Method} {c : Code} {D : va_G} {ks : Nat → ClassId} {L : List Nat} {r : Nat ⊕ Int64} {h' : mh_H} (cx : mh_C p m c cX11_greedy 5 s args RX11 meth D ks (mh_A L s.heap.size)) (th : mh_Th l (mh_A L s.heap.size) s) (ht : ∀ x ∈ c.exceptionTable.toList, False) (hr : meth.sig.returnType = (some .long)) :
    ∀ (o0 : Nat) (x1 : Int32) (y2 : Int64) (h : mh_H) (H : Heap) (locs : List Loc) (ls : Array Slot), mh_W D ks L (mh_A L s.heap.size) s.heap h H locs → lv_has ls 5 [(0, .ref o0), (1, .int x1), (2, .long y2)] → f_X11_greedy_e o0 x1 y2 h = some (r, h') → W p l e (mh_rx 7 2) s m args below meth c H locs 0 0 (vx_MQ below (mh_Qx D ks L s.heap.size (mh_em mh_eJ r) h') (mh_XC D ks L s.heap.size (mh_em mh_eJ r) h') args s 2 12 (mh_A L s.heap.size)) (F0 m 0 ls []) := by
  intro o0 x1 y2 h H locs ls wd hl hX
  have hx := cx.1.1
  have hb := cx.1.2.1
  unfold f_X11_greedy_e at hX
  refine lv_aload_n hx hb dX11_greedy_0 rfl (lv_at hl 0 rfl) ?_
  refine lv_iload_n hx hb dX11_greedy_1 rfl (lv_at hl 1 rfl) ?_
  refine mh_xV mh_eR mh_eJ (K := 1) [.int x1] cx th ht wd (rfl : vwCl[11]? = some (RX11, TX11, 16)) yw_X11_mintAt vw_X11_131 rfl hl.1 rfl (Nat.le_of_ble_eq_true rfl) dX11_greedy_2 ⟨Nat.le_of_ble_eq_true rfl, Nat.le_of_ble_eq_true rfl⟩ ⟨Nat.le_of_ble_eq_true rfl, Nat.le_of_ble_eq_true rfl⟩ ⟨Nat.le_of_ble_eq_true rfl, Nat.le_of_ble_eq_true rfl⟩ (fun _ _ q => c_X11_mintAt q) hX (fun a2 h1 H locs wd hX => ?_)
  refine W.eq (g2 := F0 m 5 ls [.ref a2]) rfl ?_
  refine lv_astore (lv' := [(4, .ref a2), (0, .ref o0), (1, .int x1), (2, .long y2)]) hx hb dX11_greedy_5 hl (Nat.le_of_ble_eq_true rfl) rfl (fun ls hl => ?_)
  refine lv_lload_n hx hb dX11_greedy_7 rfl (lv_at hl 3 rfl) ?_
  refine mh_xS mh_eV mh_eJ (K := 1) [.long y2] cx th ht wd yw_X11_checkSum sw_X11_148 rfl hl.1 rfl (Nat.le_of_ble_eq_true rfl) dX11_greedy_8 ⟨Nat.le_of_ble_eq_true rfl, Nat.le_of_ble_eq_true rfl⟩ ⟨Nat.le_of_ble_eq_true rfl, Nat.le_of_ble_eq_true rfl⟩ ⟨Nat.le_of_ble_eq_true rfl, Nat.le_of_ble_eq_true rfl⟩ (fun _ _ q => c_X11_checkSum q) hX (fun _ h3 H locs wd hX => ?_)
  refine W.eq (g2 := F0 m 11 ls []) rfl ?_
  refine lv_aload hx hb dX11_greedy_11 (lv_at hl 0 rfl) ?_
  refine lv_lload_n hx hb dX11_greedy_13 rfl (lv_at hl 3 rfl) ?_
  refine mh_callVJ cx wd [.long y2] (rfl : vwCl[1]? = some (RX1, TX1, 2)) yw_X1_greatestFirst vw_X11_164 rfl hl.1 rfl (Nat.le_of_ble_eq_true rfl) dX11_greedy_14 ⟨Nat.le_of_ble_eq_true rfl, Nat.le_of_ble_eq_true rfl⟩ ⟨Nat.le_of_ble_eq_true rfl, Nat.le_of_ble_eq_true rfl⟩ (fun _ _ q => c_X1_greatestFirst q) hX (fun w5 h4 H locs wd hX => ?_)
  exact mh_xlret cx wd hr hX dX11_greedy_17 ⟨Nat.le_of_ble_eq_true rfl, Nat.le_of_ble_eq_true rfl⟩
set_option maxRecDepth 100000 in
theorem c_X11_greedy {l : Launch} {L : List Nat} {h h' : mh_H} {r : Nat ⊕ Int64} {o0 : Nat} {x1 : Int32} {y2 : Int64} (hX : f_X11_greedy_e o0 x1 y2 h = some (r, h')) : mh_Mx l yX11_greedy (Cond.code yX11_greedy cX11_greedy 5 (some .long) :: mh_TB) (mh_rx 7 2) [.ref o0, .int x1, .long y2] L h (mh_em mh_eJ r) h' 2 12 :=
  mh_xof (by decide) (Nat.le_of_ble_eq_true rfl) (fun p e s m below meth c D ks ls hr cx th ht wd hl => by
    have hl : lv_has ls 5 [(0, .ref o0), (1, .int x1), (2, .long y2)] := hl
    exact w_X11_greedy_e cx th ht hr o0 x1 y2 h _ _ ls wd hl hX)
def f_X11_always_b18 (t0 : Int32) (h : mh_H) : Option ((Nat ⊕ Int32) × mh_H) :=
  mh_rzx t0 h
def f_X11_always_e (o0 : Nat) (x1 : Int32) (h : mh_H) : Option ((Nat ⊕ Int32) × mh_H) :=
  mh_bx (mh_cal h o0 11 (f_X11_mintAt_e o0 x1 h)) fun a2 h1 =>
  mh_b2 (mh_cal h1 o0 11 (f_X11_leastFailure_e o0 a2 h1)) fun v4 h3 =>
  if v4 = (-1 : Int32) then (
  f_X11_always_b18 (1 : Int32) h3) else
  f_X11_always_b18 (0 : Int32) h3
set_option maxRecDepth 100000 in
set_option maxHeartbeats 4000000 in
theorem w_X11_always_b18 {p : Program} {l : Launch} {e : Env} {s : State} {m : MethodId} {args : Array Value} {below : List Frame} {meth : Method} {c : Code} {D : va_G} {ks : Nat → ClassId} {L : List Nat} {r : Nat ⊕ Int32} {h' : mh_H} (cx : mh_C p m c cX11_always 2 s args RX11 meth D ks (mh_A L s.heap.size)) (th : mh_Th l (mh_A L s.heap.size) s) (ht : ∀ x ∈ c.exceptionTable.toList, False) (hr : meth.sig.returnType = (some .boolean)) :
    ∀ (t0 : Int32) (h : mh_H) (H : Heap) (locs : List Loc) (ls : Array Slot), mh_W D ks L (mh_A L s.heap.size) s.heap h H locs → lv_has ls 2 [] → f_X11_always_b18 t0 h = some (r, h') → W p l e (mh_rx 7 1) s m args below meth c H locs 1 6 (vx_MQ below (mh_Qx D ks L s.heap.size (mh_em mh_eI r) h') (mh_XC D ks L s.heap.size (mh_em mh_eI r) h') args s 1 6 (mh_A L s.heap.size)) (F0 m 18 ls [.int t0]) := by
  intro t0 h H locs ls wd hl hX
  have hx := cx.1.1
  have hb := cx.1.2.1
  unfold f_X11_always_b18 at hX
  exact mh_xzret cx wd hr hX dX11_always_18 ⟨Nat.le_of_ble_eq_true rfl, Nat.le_of_ble_eq_true rfl⟩
set_option maxRecDepth 100000 in
set_option maxHeartbeats 4000000 in
theorem w_X11_always_e {p : Program} {l : Launch} {e : Env} {s : State} {m : MethodId} {args : Array Value} {below : List Frame} {meth : Method} {c : Code} {D : va_G} {ks : Nat → ClassId} {L : List Nat} {r : Nat ⊕ Int32} {h' : mh_H} (cx : mh_C p m c cX11_always 2 s args RX11 meth D ks (mh_A L s.heap.size)) (th : mh_Th l (mh_A L s.heap.size) s) (ht : ∀ x ∈ c.exceptionTable.toList, False) (hr : meth.sig.returnType = (some .boolean)) :
    ∀ (o0 : Nat) (x1 : Int32) (h : mh_H) (H : Heap) (locs : List Loc) (ls : Array Slot), mh_W D ks L (mh_A L s.heap.size) s.heap h H locs → lv_has ls 2 [(0, .ref o0), (1, .int x1)] → f_X11_always_e o0 x1 h = some (r, h') → W p l e (mh_rx 7 1) s m args below meth c H locs 0 0 (vx_MQ below (mh_Qx D ks L s.heap.size (mh_em mh_eI r) h') (mh_XC D ks L s.heap.size (mh_em mh_eI r) h') args s 1 6 (mh_A L s.heap.size)) (F0 m 0 ls []) := by
  intro o0 x1 h H locs ls wd hl hX
  have hx := cx.1.1
  have hb := cx.1.2.1
  unfold f_X11_always_e at hX
  refine lv_aload_n hx hb dX11_always_0 rfl (lv_at hl 0 rfl) ?_
  refine lv_aload_n hx hb dX11_always_1 rfl (lv_at hl 0 rfl) ?_
  refine lv_iload_n hx hb dX11_always_2 rfl (lv_at hl 1 rfl) ?_
  refine mh_xV mh_eR mh_eI (K := 1) [.int x1] cx th ht wd (rfl : vwCl[11]? = some (RX11, TX11, 16)) yw_X11_mintAt vw_X11_131 rfl hl.1 rfl (Nat.le_of_ble_eq_true rfl) dX11_always_3 ⟨Nat.le_of_ble_eq_true rfl, Nat.le_of_ble_eq_true rfl⟩ ⟨Nat.le_of_ble_eq_true rfl, Nat.le_of_ble_eq_true rfl⟩ ⟨Nat.le_of_ble_eq_true rfl, Nat.le_of_ble_eq_true rfl⟩ (fun _ _ q => c_X11_mintAt q) hX (fun a2 h1 H locs wd hX => ?_)
  refine W.eq (g2 := F0 m 6 ls [.ref a2, .ref o0]) rfl ?_
  refine mh_callVI cx wd [.ref a2] (rfl : vwCl[11]? = some (RX11, TX11, 16)) yw_X11_leastFailure vw_X11_167 rfl hl.1 rfl (Nat.le_of_ble_eq_true rfl) dX11_always_6 ⟨Nat.le_of_ble_eq_true rfl, Nat.le_of_ble_eq_true rfl⟩ ⟨Nat.le_of_ble_eq_true rfl, Nat.le_of_ble_eq_true rfl⟩ (fun _ _ q => c_X11_leastFailure q) hX (fun v4 h3 H locs wd hX => ?_)
  refine lv_iconst (v := (-1)) hx hb dX11_always_9 (by decide) ?_
  refine lv_icmp_ne (tgt := 17) hx hb dX11_always_10 rfl (fun hc => (fun hX => ?_) ((mh_if hX).2 hc)) (fun hc => (fun hX => ?_) ((mh_if hX).1 hc))
  · refine lv_iconst (v := 0) hx hb dX11_always_17 (by decide) ?_
    exact w_X11_always_b18 cx th ht hr _ h3 _ _ ls wd (lv_sub hl [] rfl) hX
  · refine lv_iconst (v := 1) hx hb dX11_always_13 (by decide) ?_
    refine lv_goto (tgt := 18) hx hb dX11_always_14 rfl ?_
    exact w_X11_always_b18 cx th ht hr _ h3 _ _ ls wd (lv_sub hl [] rfl) hX
set_option maxRecDepth 100000 in
theorem c_X11_always {l : Launch} {L : List Nat} {h h' : mh_H} {r : Nat ⊕ Int32} {o0 : Nat} {x1 : Int32} (hX : f_X11_always_e o0 x1 h = some (r, h')) : mh_Mx l yX11_always (Cond.code yX11_always cX11_always 2 (some .boolean) :: mh_TB) (mh_rx 7 1) [.ref o0, .int x1] L h (mh_em mh_eI r) h' 1 6 :=
  mh_xof (by decide) (Nat.le_of_ble_eq_true rfl) (fun p e s m below meth c D ks ls hr cx th ht wd hl => by
    have hl : lv_has ls 2 [(0, .ref o0), (1, .int x1)] := hl
    exact w_X11_always_e cx th ht hr o0 x1 h _ _ ls wd hl hX)
def f_X11_fails_e (o0 : Nat) (x1 : Int32) (h : mh_H) : Option ((Nat ⊕ Int32) × mh_H) :=
  mh_bx (mh_cal h o0 11 (f_X11_mintAt_e o0 x1 h)) fun a2 h1 =>
  mh_b2 (mh_cal h1 o0 11 (f_X11_leastFailure_e o0 a2 h1)) fun v4 h3 =>
  some (.inr v4, h3)
set_option maxRecDepth 100000 in
set_option maxHeartbeats 4000000 in
theorem w_X11_fails_e {p : Program} {l : Launch} {e : Env} {s : State} {m : MethodId} {args : Array Value} {below : List Frame} {meth : Method} {c : Code} {D : va_G} {ks : Nat → ClassId} {L : List Nat} {r : Nat ⊕ Int32} {h' : mh_H} (cx : mh_C p m c cX11_fails 2 s args RX11 meth D ks (mh_A L s.heap.size)) (th : mh_Th l (mh_A L s.heap.size) s) (ht : ∀ x ∈ c.exceptionTable.toList, False) (hr : meth.sig.returnType = (some .int)) :
    ∀ (o0 : Nat) (x1 : Int32) (h : mh_H) (H : Heap) (locs : List Loc) (ls : Array Slot), mh_W D ks L (mh_A L s.heap.size) s.heap h H locs → lv_has ls 2 [(0, .ref o0), (1, .int x1)] → f_X11_fails_e o0 x1 h = some (r, h') → W p l e (mh_rx 7 1) s m args below meth c H locs 0 0 (vx_MQ below (mh_Qx D ks L s.heap.size (mh_em mh_eI r) h') (mh_XC D ks L s.heap.size (mh_em mh_eI r) h') args s 1 6 (mh_A L s.heap.size)) (F0 m 0 ls []) := by
  intro o0 x1 h H locs ls wd hl hX
  have hx := cx.1.1
  have hb := cx.1.2.1
  unfold f_X11_fails_e at hX
  refine lv_aload_n hx hb dX11_fails_0 rfl (lv_at hl 0 rfl) ?_
  refine lv_aload_n hx hb dX11_fails_1 rfl (lv_at hl 0 rfl) ?_
  refine lv_iload_n hx hb dX11_fails_2 rfl (lv_at hl 1 rfl) ?_
  refine mh_xV mh_eR mh_eI (K := 1) [.int x1] cx th ht wd (rfl : vwCl[11]? = some (RX11, TX11, 16)) yw_X11_mintAt vw_X11_131 rfl hl.1 rfl (Nat.le_of_ble_eq_true rfl) dX11_fails_3 ⟨Nat.le_of_ble_eq_true rfl, Nat.le_of_ble_eq_true rfl⟩ ⟨Nat.le_of_ble_eq_true rfl, Nat.le_of_ble_eq_true rfl⟩ ⟨Nat.le_of_ble_eq_true rfl, Nat.le_of_ble_eq_true rfl⟩ (fun _ _ q => c_X11_mintAt q) hX (fun a2 h1 H locs wd hX => ?_)
  refine W.eq (g2 := F0 m 6 ls [.ref a2, .ref o0]) rfl ?_
  refine mh_callVI cx wd [.ref a2] (rfl : vwCl[11]? = some (RX11, TX11, 16)) yw_X11_leastFailure vw_X11_167 rfl hl.1 rfl (Nat.le_of_ble_eq_true rfl) dX11_fails_6 ⟨Nat.le_of_ble_eq_true rfl, Nat.le_of_ble_eq_true rfl⟩ ⟨Nat.le_of_ble_eq_true rfl, Nat.le_of_ble_eq_true rfl⟩ (fun _ _ q => c_X11_leastFailure q) hX (fun v4 h3 H locs wd hX => ?_)
  exact mh_xiret cx wd hr hX dX11_fails_9 ⟨Nat.le_of_ble_eq_true rfl, Nat.le_of_ble_eq_true rfl⟩
set_option maxRecDepth 100000 in
theorem c_X11_fails {l : Launch} {L : List Nat} {h h' : mh_H} {r : Nat ⊕ Int32} {o0 : Nat} {x1 : Int32} (hX : f_X11_fails_e o0 x1 h = some (r, h')) : mh_Mx l yX11_fails (Cond.code yX11_fails cX11_fails 2 (some .int) :: mh_TB) (mh_rx 7 1) [.ref o0, .int x1] L h (mh_em mh_eI r) h' 1 6 :=
  mh_xof (by decide) (Nat.le_of_ble_eq_true rfl) (fun p e s m below meth c D ks ls hr cx th ht wd hl => by
    have hl : lv_has ls 2 [(0, .ref o0), (1, .int x1)] := hl
    exact w_X11_fails_e cx th ht hr o0 x1 h _ _ ls wd hl hX)
def f_X11_divisor_e (o0 : Nat) (x1 : Int32) (h : mh_H) : Option ((Nat ⊕ Int32) × mh_H) :=
  mh_bx (mh_cal h o0 11 (f_X11_mintAt_e o0 x1 h)) fun a2 h1 =>
  mh_b2 (mh_cal h1 a2 1 (f_X1_commonDivisor_e a2 h1)) fun v4 h3 =>
  some (.inr v4, h3)
set_option maxRecDepth 100000 in
set_option maxHeartbeats 4000000 in
theorem w_X11_divisor_e {p : Program} {l : Launch} {e : Env} {s : State} {m : MethodId} {args : Array Value} {below : List Frame} {meth : Method} {c : Code} {D : va_G} {ks : Nat → ClassId} {L : List Nat} {r : Nat ⊕ Int32} {h' : mh_H} (cx : mh_C p m c cX11_divisor 2 s args RX11 meth D ks (mh_A L s.heap.size)) (th : mh_Th l (mh_A L s.heap.size) s) (ht : ∀ x ∈ c.exceptionTable.toList, False) (hr : meth.sig.returnType = (some .int)) :
    ∀ (o0 : Nat) (x1 : Int32) (h : mh_H) (H : Heap) (locs : List Loc) (ls : Array Slot), mh_W D ks L (mh_A L s.heap.size) s.heap h H locs → lv_has ls 2 [(0, .ref o0), (1, .int x1)] → f_X11_divisor_e o0 x1 h = some (r, h') → W p l e (mh_rx 7 1) s m args below meth c H locs 0 0 (vx_MQ below (mh_Qx D ks L s.heap.size (mh_em mh_eI r) h') (mh_XC D ks L s.heap.size (mh_em mh_eI r) h') args s 1 6 (mh_A L s.heap.size)) (F0 m 0 ls []) := by
  intro o0 x1 h H locs ls wd hl hX
  have hx := cx.1.1
  have hb := cx.1.2.1
  unfold f_X11_divisor_e at hX
  refine lv_aload_n hx hb dX11_divisor_0 rfl (lv_at hl 0 rfl) ?_
  refine lv_iload_n hx hb dX11_divisor_1 rfl (lv_at hl 1 rfl) ?_
  refine mh_xV mh_eR mh_eI (K := 1) [.int x1] cx th ht wd (rfl : vwCl[11]? = some (RX11, TX11, 16)) yw_X11_mintAt vw_X11_131 rfl hl.1 rfl (Nat.le_of_ble_eq_true rfl) dX11_divisor_2 ⟨Nat.le_of_ble_eq_true rfl, Nat.le_of_ble_eq_true rfl⟩ ⟨Nat.le_of_ble_eq_true rfl, Nat.le_of_ble_eq_true rfl⟩ ⟨Nat.le_of_ble_eq_true rfl, Nat.le_of_ble_eq_true rfl⟩ (fun _ _ q => c_X11_mintAt q) hX (fun a2 h1 H locs wd hX => ?_)
  refine W.eq (g2 := F0 m 5 ls [.ref a2]) rfl ?_
  refine mh_callVI cx wd [] (rfl : vwCl[1]? = some (RX1, TX1, 2)) yw_X1_commonDivisor vw_X11_171 rfl hl.1 rfl (Nat.le_of_ble_eq_true rfl) dX11_divisor_5 ⟨Nat.le_of_ble_eq_true rfl, Nat.le_of_ble_eq_true rfl⟩ ⟨Nat.le_of_ble_eq_true rfl, Nat.le_of_ble_eq_true rfl⟩ (fun _ _ q => c_X1_commonDivisor q) hX (fun v4 h3 H locs wd hX => ?_)
  exact mh_xiret cx wd hr hX dX11_divisor_8 ⟨Nat.le_of_ble_eq_true rfl, Nat.le_of_ble_eq_true rfl⟩
set_option maxRecDepth 100000 in
theorem c_X11_divisor {l : Launch} {L : List Nat} {h h' : mh_H} {r : Nat ⊕ Int32} {o0 : Nat} {x1 : Int32} (hX : f_X11_divisor_e o0 x1 h = some (r, h')) : mh_Mx l yX11_divisor (Cond.code yX11_divisor cX11_divisor 2 (some .int) :: mh_TB) (mh_rx 7 1) [.ref o0, .int x1] L h (mh_em mh_eI r) h' 1 6 :=
  mh_xof (by decide) (Nat.le_of_ble_eq_true rfl) (fun p e s m below meth c D ks ls hr cx th ht wd hl => by
    have hl : lv_has ls 2 [(0, .ref o0), (1, .int x1)] := hl
    exact w_X11_divisor_e cx th ht hr o0 x1 h _ _ ls wd hl hX)
def f_X11_many_e (o0 : Nat) (x1 : Int32) (h : mh_H) : Option ((Nat ⊕ Int64) × mh_H) :=
  mh_bx (mh_cal h o0 11 (f_X11_mintAt_e o0 x1 h)) fun a2 h1 =>
  mh_b2 (mh_cal h1 a2 1 (f_X1_commonDivisor_e a2 h1)) fun v4 h3 =>
  if v4 = (1 : Int32) then (
  (mh_gR h3 o0 11 2).bind fun a5 =>
  mh_b2 (mh_cal h3 a2 1 (f_X1_least_e a2 h3)) fun v7 h6 =>
  (mh_cal h6 a5 4 (f_X4_take_e a5 a2 v7 h6)).bind fun h8 =>
  (mh_gR h8 o0 11 2).bind fun a9 =>
  mh_b2 (mh_cal h8 a9 4 (f_X4_missing_e a9 h8)) fun v11 h10 =>
  some (.inr ((v11).toInt64), h10)) else
  some (.inr (-1 : Int64), h3)
set_option maxRecDepth 100000 in
set_option maxHeartbeats 4000000 in
theorem w_X11_many_e {p : Program} {l : Launch} {e : Env} {s : State} {m : MethodId} {args : Array Value} {below : List Frame} {meth : Method} {c : Code} {D : va_G} {ks : Nat → ClassId} {L : List Nat} {r : Nat ⊕ Int64} {h' : mh_H} (cx : mh_C p m c cX11_many 3 s args RX11 meth D ks (mh_A L s.heap.size)) (th : mh_Th l (mh_A L s.heap.size) s) (ht : ∀ x ∈ c.exceptionTable.toList, False) (hr : meth.sig.returnType = (some .long)) :
    ∀ (o0 : Nat) (x1 : Int32) (h : mh_H) (H : Heap) (locs : List Loc) (ls : Array Slot), mh_W D ks L (mh_A L s.heap.size) s.heap h H locs → lv_has ls 3 [(0, .ref o0), (1, .int x1)] → f_X11_many_e o0 x1 h = some (r, h') → W p l e (mh_rx 7 1) s m args below meth c H locs 0 0 (vx_MQ below (mh_Qx D ks L s.heap.size (mh_em mh_eJ r) h') (mh_XC D ks L s.heap.size (mh_em mh_eJ r) h') args s 1 6 (mh_A L s.heap.size)) (F0 m 0 ls []) := by
  intro o0 x1 h H locs ls wd hl hX
  have hx := cx.1.1
  have hb := cx.1.2.1
  unfold f_X11_many_e at hX
  refine lv_aload_n hx hb dX11_many_0 rfl (lv_at hl 0 rfl) ?_
  refine lv_iload_n hx hb dX11_many_1 rfl (lv_at hl 1 rfl) ?_
  refine mh_xV mh_eR mh_eJ (K := 1) [.int x1] cx th ht wd (rfl : vwCl[11]? = some (RX11, TX11, 16)) yw_X11_mintAt vw_X11_131 rfl hl.1 rfl (Nat.le_of_ble_eq_true rfl) dX11_many_2 ⟨Nat.le_of_ble_eq_true rfl, Nat.le_of_ble_eq_true rfl⟩ ⟨Nat.le_of_ble_eq_true rfl, Nat.le_of_ble_eq_true rfl⟩ ⟨Nat.le_of_ble_eq_true rfl, Nat.le_of_ble_eq_true rfl⟩ (fun _ _ q => c_X11_mintAt q) hX (fun a2 h1 H locs wd hX => ?_)
  refine W.eq (g2 := F0 m 5 ls [.ref a2]) rfl ?_
  refine lv_astore_n (lv' := [(2, .ref a2), (0, .ref o0), (1, .int x1)]) hx hb dX11_many_5 rfl hl (Nat.le_of_ble_eq_true rfl) rfl (fun ls hl => ?_)
  refine lv_aload_n hx hb dX11_many_6 rfl (lv_at hl 0 rfl) ?_
  refine mh_callVI cx wd [] (rfl : vwCl[1]? = some (RX1, TX1, 2)) yw_X1_commonDivisor vw_X11_171 rfl hl.1 rfl (Nat.le_of_ble_eq_true rfl) dX11_many_7 ⟨Nat.le_of_ble_eq_true rfl, Nat.le_of_ble_eq_true rfl⟩ ⟨Nat.le_of_ble_eq_true rfl, Nat.le_of_ble_eq_true rfl⟩ (fun _ _ q => c_X1_commonDivisor q) hX (fun v4 h3 H locs wd hX => ?_)
  refine lv_iconst (v := 1) hx hb dX11_many_10 (by decide) ?_
  refine lv_icmp_eq (tgt := 18) hx hb dX11_many_11 rfl (fun hc => (fun hX => ?_) ((mh_if hX).1 hc)) (fun hc => (fun hX => ?_) ((mh_if hX).2 hc))
  · refine lv_aload_n hx hb dX11_many_18 rfl (lv_at hl 1 rfl) ?_
    refine mh_getR cx wd fl_X11_30 dX11_many_19 hX (fun a5 hX => ?_)
    refine lv_aload_n hx hb dX11_many_22 rfl (lv_at hl 0 rfl) ?_
    refine lv_aload_n hx hb dX11_many_23 rfl (lv_at hl 0 rfl) ?_
    refine mh_callVI cx wd [] (rfl : vwCl[1]? = some (RX1, TX1, 2)) yw_X1_least vw_X11_176 rfl hl.1 rfl (Nat.le_of_ble_eq_true rfl) dX11_many_24 ⟨Nat.le_of_ble_eq_true rfl, Nat.le_of_ble_eq_true rfl⟩ ⟨Nat.le_of_ble_eq_true rfl, Nat.le_of_ble_eq_true rfl⟩ (fun _ _ q => c_X1_least q) hX (fun v7 h6 H locs wd hX => ?_)
    refine mh_callVV cx wd [.ref a2, .int v7] (rfl : vwCl[4]? = some (RX4, TX4, 1)) yw_X4_take vw_X11_179 rfl hl.1 rfl (Nat.le_of_ble_eq_true rfl) dX11_many_27 ⟨Nat.le_of_ble_eq_true rfl, Nat.le_of_ble_eq_true rfl⟩ ⟨Nat.le_of_ble_eq_true rfl, Nat.le_of_ble_eq_true rfl⟩ (fun _ q => c_X4_take q) hX (fun h8 H locs wd hX => ?_)
    refine lv_aload_n hx hb dX11_many_30 rfl (lv_at hl 1 rfl) ?_
    refine mh_getR cx wd fl_X11_30 dX11_many_31 hX (fun a9 hX => ?_)
    refine mh_callVI cx wd [] (rfl : vwCl[4]? = some (RX4, TX4, 1)) yw_X4_missing vw_X11_181 rfl hl.1 rfl (Nat.le_of_ble_eq_true rfl) dX11_many_34 ⟨Nat.le_of_ble_eq_true rfl, Nat.le_of_ble_eq_true rfl⟩ ⟨Nat.le_of_ble_eq_true rfl, Nat.le_of_ble_eq_true rfl⟩ (fun _ _ q => c_X4_missing q) hX (fun v11 h10 H locs wd hX => ?_)
    refine lv_i2l hx hb dX11_many_37 rfl ?_
    exact mh_xlret cx wd hr hX dX11_many_38 ⟨Nat.le_of_ble_eq_true rfl, Nat.le_of_ble_eq_true rfl⟩
  · refine mh_ldc2 cx kl_X11_174 dX11_many_14 ?_
    exact mh_xlret cx wd hr hX dX11_many_17 ⟨Nat.le_of_ble_eq_true rfl, Nat.le_of_ble_eq_true rfl⟩
set_option maxRecDepth 100000 in
theorem c_X11_many {l : Launch} {L : List Nat} {h h' : mh_H} {r : Nat ⊕ Int64} {o0 : Nat} {x1 : Int32} (hX : f_X11_many_e o0 x1 h = some (r, h')) : mh_Mx l yX11_many (Cond.code yX11_many cX11_many 3 (some .long) :: mh_TB) (mh_rx 7 1) [.ref o0, .int x1] L h (mh_em mh_eJ r) h' 1 6 :=
  mh_xof (by decide) (Nat.le_of_ble_eq_true rfl) (fun p e s m below meth c D ks ls hr cx th ht wd hl => by
    have hl : lv_has ls 3 [(0, .ref o0), (1, .int x1)] := hl
    exact w_X11_many_e cx th ht hr o0 x1 h _ _ ls wd hl hX)
def f_X11_last_e (o0 : Nat) (x1 : Int32) (h : mh_H) : Option ((Nat ⊕ Int32) × mh_H) :=
  mh_bx (mh_cal h o0 11 (f_X11_mintAt_e o0 x1 h)) fun a2 h1 =>
  mh_b2 (mh_cal h1 o0 11 (f_X11_lastGap_e o0 a2 h1)) fun v4 h3 =>
  some (.inr v4, h3)
set_option maxRecDepth 100000 in
set_option maxHeartbeats 4000000 in
theorem w_X11_last_e {p : Program} {l : Launch} {e : Env} {s : State} {m : MethodId} {args : Array Value} {below : List Frame} {meth : Method} {c : Code} {D : va_G} {ks : Nat → ClassId} {L : List Nat} {r : Nat ⊕ Int32} {h' : mh_H} (cx : mh_C p m c cX11_last 2 s args RX11 meth D ks (mh_A L s.heap.size)) (th : mh_Th l (mh_A L s.heap.size) s) (ht : ∀ x ∈ c.exceptionTable.toList, False) (hr : meth.sig.returnType = (some .int)) :
    ∀ (o0 : Nat) (x1 : Int32) (h : mh_H) (H : Heap) (locs : List Loc) (ls : Array Slot), mh_W D ks L (mh_A L s.heap.size) s.heap h H locs → lv_has ls 2 [(0, .ref o0), (1, .int x1)] → f_X11_last_e o0 x1 h = some (r, h') → W p l e (mh_rx 7 1) s m args below meth c H locs 0 0 (vx_MQ below (mh_Qx D ks L s.heap.size (mh_em mh_eI r) h') (mh_XC D ks L s.heap.size (mh_em mh_eI r) h') args s 1 6 (mh_A L s.heap.size)) (F0 m 0 ls []) := by
  intro o0 x1 h H locs ls wd hl hX
  have hx := cx.1.1
  have hb := cx.1.2.1
  unfold f_X11_last_e at hX
  refine lv_aload_n hx hb dX11_last_0 rfl (lv_at hl 0 rfl) ?_
  refine lv_aload_n hx hb dX11_last_1 rfl (lv_at hl 0 rfl) ?_
  refine lv_iload_n hx hb dX11_last_2 rfl (lv_at hl 1 rfl) ?_
  refine mh_xV mh_eR mh_eI (K := 1) [.int x1] cx th ht wd (rfl : vwCl[11]? = some (RX11, TX11, 16)) yw_X11_mintAt vw_X11_131 rfl hl.1 rfl (Nat.le_of_ble_eq_true rfl) dX11_last_3 ⟨Nat.le_of_ble_eq_true rfl, Nat.le_of_ble_eq_true rfl⟩ ⟨Nat.le_of_ble_eq_true rfl, Nat.le_of_ble_eq_true rfl⟩ ⟨Nat.le_of_ble_eq_true rfl, Nat.le_of_ble_eq_true rfl⟩ (fun _ _ q => c_X11_mintAt q) hX (fun a2 h1 H locs wd hX => ?_)
  refine W.eq (g2 := F0 m 6 ls [.ref a2, .ref o0]) rfl ?_
  refine mh_callVI cx wd [.ref a2] (rfl : vwCl[11]? = some (RX11, TX11, 16)) yw_X11_lastGap vw_X11_184 rfl hl.1 rfl (Nat.le_of_ble_eq_true rfl) dX11_last_6 ⟨Nat.le_of_ble_eq_true rfl, Nat.le_of_ble_eq_true rfl⟩ ⟨Nat.le_of_ble_eq_true rfl, Nat.le_of_ble_eq_true rfl⟩ (fun _ _ q => c_X11_lastGap q) hX (fun v4 h3 H locs wd hX => ?_)
  exact mh_xiret cx wd hr hX dX11_last_9 ⟨Nat.le_of_ble_eq_true rfl, Nat.le_of_ble_eq_true rfl⟩
set_option maxRecDepth 100000 in
theorem c_X11_last {l : Launch} {L : List Nat} {h h' : mh_H} {r : Nat ⊕ Int32} {o0 : Nat} {x1 : Int32} (hX : f_X11_last_e o0 x1 h = some (r, h')) : mh_Mx l yX11_last (Cond.code yX11_last cX11_last 2 (some .int) :: mh_TB) (mh_rx 7 1) [.ref o0, .int x1] L h (mh_em mh_eI r) h' 1 6 :=
  mh_xof (by decide) (Nat.le_of_ble_eq_true rfl) (fun p e s m below meth c D ks ls hr cx th ht wd hl => by
    have hl : lv_has ls 2 [(0, .ref o0), (1, .int x1)] := hl
    exact w_X11_last_e cx th ht hr o0 x1 h _ _ ls wd hl hX)
def f_X11_gap_b16 (h : mh_H) : Option ((Nat ⊕ Int32) × mh_H) :=
  some (.inl 2, h)
def f_X11_gap_b101 (t0 : Int32) (h : mh_H) : Option ((Nat ⊕ Int32) × mh_H) :=
  some (.inr t0, h)
def f_X11_gap_e (o0 : Nat) (x1 : Int32) (x2 : Int32) (h : mh_H) : Option ((Nat ⊕ Int32) × mh_H) :=
  mh_bx (mh_cal h o0 11 (f_X11_mintAt_e o0 x1 h)) fun a2 h1 =>
  if x2 < 0 then (
  f_X11_gap_b16 h1) else
  if x2 ≤ (1000000 : Int32) then (
  mh_b2 (mh_cal h1 a2 1 (f_X1_count_e a2 h1)) fun v4 h3 =>
  if v4 = 0 then (
  some (.inr (x2 + (1 : Int32)), h3)) else
  (mh_gR h3 o0 11 2).bind fun a5 =>
  mh_b2 (mh_cal h3 a2 1 (f_X1_least_e a2 h3)) fun v7 h6 =>
  (mh_cal h6 a5 4 (f_X4_take_e a5 a2 v7 h6)).bind fun h8 =>
  mh_b2 (mh_cal h8 a2 1 (f_X1_commonDivisor_e a2 h8)) fun v10 h9 =>
  if v10 = (1 : Int32) then (
  (mh_gR h9 o0 11 2).bind fun a11 =>
  mh_b2 (mh_cal h9 a11 4 (f_X4_missing_e a11 h9)) fun v13 h12 =>
  if v13 ≤ x2 then (
  f_X11_gap_b101 (-1 : Int32) h12) else
  (mh_gR h12 o0 11 2).bind fun a14 =>
  (mh_gR h12 o0 11 2).bind fun a15 =>
  mh_b2 (mh_cal h12 a15 4 (f_X4_lastMissing_e a15 h12)) fun v17 h16 =>
  mh_b2 (mh_cal h16 a14 4 (f_X4_missingAt_e a14 x2 v17 h16)) fun v19 h18 =>
  f_X11_gap_b101 v19 h18) else
  (mh_gR h9 o0 11 2).bind fun a20 =>
  mh_b2 (mh_cal h9 a20 4 (f_X4_missingAt_e a20 x2 ((2 : Int32) * (x2 + (1 : Int32))) h9)) fun v22 h21 =>
  some (.inr v22, h21)) else
  f_X11_gap_b16 h1
set_option maxRecDepth 100000 in
set_option maxHeartbeats 4000000 in
theorem w_X11_gap_b16 {p : Program} {l : Launch} {e : Env} {s : State} {m : MethodId} {args : Array Value} {below : List Frame} {meth : Method} {c : Code} {D : va_G} {ks : Nat → ClassId} {L : List Nat} {r : Nat ⊕ Int32} {h' : mh_H} (cx : mh_C p m c cX11_gap 4 s args RX11 meth D ks (mh_A L s.heap.size)) (th : mh_Th l (mh_A L s.heap.size) s) (ht : ∀ x ∈ c.exceptionTable.toList, False) (hr : meth.sig.returnType = (some .int)) :
    ∀ (h : mh_H) (H : Heap) (locs : List Loc) (ls : Array Slot), mh_W D ks L (mh_A L s.heap.size) s.heap h H locs → lv_has ls 4 [] → f_X11_gap_b16  h = some (r, h') → W p l e (mh_rx 7 2) s m args below meth c H locs 1 6 (vx_MQ below (mh_Qx D ks L s.heap.size (mh_em mh_eI r) h') (mh_XC D ks L s.heap.size (mh_em mh_eI r) h') args s 2 12 (mh_A L s.heap.size)) (F0 m 16 ls []) := by
  intro  h H locs ls wd hl hX
  have hx := cx.1.1
  have hb := cx.1.2.1
  unfold f_X11_gap_b16 at hX
  exact mh_xthS mh_eI mh_kx2 cx th ht wd (text := "i is not 0 to 1,000,000") (by decide) hl.1 dX11_gap_16 dX11_gap_19 dX11_gap_20 dX11_gap_22 dX11_gap_25 ⟨Nat.le_of_ble_eq_true rfl, Nat.le_of_ble_eq_true rfl⟩ ⟨Nat.le_of_ble_eq_true rfl, Nat.le_of_ble_eq_true rfl⟩ ⟨Nat.le_of_ble_eq_true rfl, Nat.le_of_ble_eq_true rfl⟩ hX
set_option maxRecDepth 100000 in
set_option maxHeartbeats 4000000 in
theorem w_X11_gap_b101 {p : Program} {l : Launch} {e : Env} {s : State} {m : MethodId} {args : Array Value} {below : List Frame} {meth : Method} {c : Code} {D : va_G} {ks : Nat → ClassId} {L : List Nat} {r : Nat ⊕ Int32} {h' : mh_H} (cx : mh_C p m c cX11_gap 4 s args RX11 meth D ks (mh_A L s.heap.size)) (th : mh_Th l (mh_A L s.heap.size) s) (ht : ∀ x ∈ c.exceptionTable.toList, False) (hr : meth.sig.returnType = (some .int)) :
    ∀ (t0 : Int32) (h : mh_H) (H : Heap) (locs : List Loc) (ls : Array Slot), mh_W D ks L (mh_A L s.heap.size) s.heap h H locs → lv_has ls 4 [] → f_X11_gap_b101 t0 h = some (r, h') → W p l e (mh_rx 7 2) s m args below meth c H locs 1 6 (vx_MQ below (mh_Qx D ks L s.heap.size (mh_em mh_eI r) h') (mh_XC D ks L s.heap.size (mh_em mh_eI r) h') args s 2 12 (mh_A L s.heap.size)) (F0 m 101 ls [.int t0]) := by
  intro t0 h H locs ls wd hl hX
  have hx := cx.1.1
  have hb := cx.1.2.1
  unfold f_X11_gap_b101 at hX
  exact mh_xiret cx wd hr hX dX11_gap_101 ⟨Nat.le_of_ble_eq_true rfl, Nat.le_of_ble_eq_true rfl⟩
set_option maxRecDepth 100000 in
set_option maxHeartbeats 4000000 in
theorem w_X11_gap_e {p : Program} {l : Launch} {e : Env} {s : State} {m : MethodId} {args : Array Value} {below : List Frame} {meth : Method} {c : Code} {D : va_G} {ks : Nat → ClassId} {L : List Nat} {r : Nat ⊕ Int32} {h' : mh_H} (cx : mh_C p m c cX11_gap 4 s args RX11 meth D ks (mh_A L s.heap.size)) (th : mh_Th l (mh_A L s.heap.size) s) (ht : ∀ x ∈ c.exceptionTable.toList, False) (hr : meth.sig.returnType = (some .int)) :
    ∀ (o0 : Nat) (x1 : Int32) (x2 : Int32) (h : mh_H) (H : Heap) (locs : List Loc) (ls : Array Slot), mh_W D ks L (mh_A L s.heap.size) s.heap h H locs → lv_has ls 4 [(0, .ref o0), (1, .int x1), (2, .int x2)] → f_X11_gap_e o0 x1 x2 h = some (r, h') → W p l e (mh_rx 7 2) s m args below meth c H locs 0 0 (vx_MQ below (mh_Qx D ks L s.heap.size (mh_em mh_eI r) h') (mh_XC D ks L s.heap.size (mh_em mh_eI r) h') args s 2 12 (mh_A L s.heap.size)) (F0 m 0 ls []) := by
  intro o0 x1 x2 h H locs ls wd hl hX
  have hx := cx.1.1
  have hb := cx.1.2.1
  unfold f_X11_gap_e at hX
  refine lv_aload_n hx hb dX11_gap_0 rfl (lv_at hl 0 rfl) ?_
  refine lv_iload_n hx hb dX11_gap_1 rfl (lv_at hl 1 rfl) ?_
  refine mh_xV mh_eR mh_eI (K := 1) [.int x1] cx th ht wd (rfl : vwCl[11]? = some (RX11, TX11, 16)) yw_X11_mintAt vw_X11_131 rfl hl.1 rfl (Nat.le_of_ble_eq_true rfl) dX11_gap_2 ⟨Nat.le_of_ble_eq_true rfl, Nat.le_of_ble_eq_true rfl⟩ ⟨Nat.le_of_ble_eq_true rfl, Nat.le_of_ble_eq_true rfl⟩ ⟨Nat.le_of_ble_eq_true rfl, Nat.le_of_ble_eq_true rfl⟩ (fun _ _ q => c_X11_mintAt q) hX (fun a2 h1 H locs wd hX => ?_)
  refine W.eq (g2 := F0 m 5 ls [.ref a2]) rfl ?_
  refine lv_astore_n (lv' := [(3, .ref a2), (0, .ref o0), (1, .int x1), (2, .int x2)]) hx hb dX11_gap_5 rfl hl (Nat.le_of_ble_eq_true rfl) rfl (fun ls hl => ?_)
  refine lv_iload_n hx hb dX11_gap_6 rfl (lv_at hl 3 rfl) ?_
  refine lv_if_lt (tgt := 16) hx hb dX11_gap_7 rfl (fun hc => (fun hX => ?_) ((mh_if hX).1 hc)) (fun hc => (fun hX => ?_) ((mh_if hX).2 hc))
  · exact w_X11_gap_b16 cx th ht hr  h1 _ _ ls wd (lv_sub hl [] rfl) hX
  · refine lv_iload_n hx hb dX11_gap_10 rfl (lv_at hl 3 rfl) ?_
    refine mh_ldc cx kc_X11_187 dX11_gap_11 ?_
    refine lv_icmp_le (tgt := 26) hx hb dX11_gap_13 rfl (fun hc => (fun hX => ?_) ((mh_if hX).1 hc)) (fun hc => (fun hX => ?_) ((mh_if hX).2 hc))
    · refine lv_aload_n hx hb dX11_gap_26 rfl (lv_at hl 0 rfl) ?_
      refine mh_callVI cx wd [] (rfl : vwCl[1]? = some (RX1, TX1, 2)) yw_X1_count vw_X11_123 rfl hl.1 rfl (Nat.le_of_ble_eq_true rfl) dX11_gap_27 ⟨Nat.le_of_ble_eq_true rfl, Nat.le_of_ble_eq_true rfl⟩ ⟨Nat.le_of_ble_eq_true rfl, Nat.le_of_ble_eq_true rfl⟩ (fun _ _ q => c_X1_count q) hX (fun v4 h3 H locs wd hX => ?_)
      refine lv_if_ne (tgt := 37) hx hb dX11_gap_30 rfl (fun hc => (fun hX => ?_) ((mh_if hX).2 hc)) (fun hc => (fun hX => ?_) ((mh_if hX).1 hc))
      · refine lv_aload_n hx hb dX11_gap_37 rfl (lv_at hl 1 rfl) ?_
        refine mh_getR cx wd fl_X11_30 dX11_gap_38 hX (fun a5 hX => ?_)
        refine lv_aload_n hx hb dX11_gap_41 rfl (lv_at hl 0 rfl) ?_
        refine lv_aload_n hx hb dX11_gap_42 rfl (lv_at hl 0 rfl) ?_
        refine mh_callVI cx wd [] (rfl : vwCl[1]? = some (RX1, TX1, 2)) yw_X1_least vw_X11_176 rfl hl.1 rfl (Nat.le_of_ble_eq_true rfl) dX11_gap_43 ⟨Nat.le_of_ble_eq_true rfl, Nat.le_of_ble_eq_true rfl⟩ ⟨Nat.le_of_ble_eq_true rfl, Nat.le_of_ble_eq_true rfl⟩ (fun _ _ q => c_X1_least q) hX (fun v7 h6 H locs wd hX => ?_)
        refine mh_callVV cx wd [.ref a2, .int v7] (rfl : vwCl[4]? = some (RX4, TX4, 1)) yw_X4_take vw_X11_179 rfl hl.1 rfl (Nat.le_of_ble_eq_true rfl) dX11_gap_46 ⟨Nat.le_of_ble_eq_true rfl, Nat.le_of_ble_eq_true rfl⟩ ⟨Nat.le_of_ble_eq_true rfl, Nat.le_of_ble_eq_true rfl⟩ (fun _ q => c_X4_take q) hX (fun h8 H locs wd hX => ?_)
        refine lv_aload_n hx hb dX11_gap_49 rfl (lv_at hl 0 rfl) ?_
        refine mh_callVI cx wd [] (rfl : vwCl[1]? = some (RX1, TX1, 2)) yw_X1_commonDivisor vw_X11_171 rfl hl.1 rfl (Nat.le_of_ble_eq_true rfl) dX11_gap_50 ⟨Nat.le_of_ble_eq_true rfl, Nat.le_of_ble_eq_true rfl⟩ ⟨Nat.le_of_ble_eq_true rfl, Nat.le_of_ble_eq_true rfl⟩ (fun _ _ q => c_X1_commonDivisor q) hX (fun v10 h9 H locs wd hX => ?_)
        refine lv_iconst (v := 1) hx hb dX11_gap_53 (by decide) ?_
        refine lv_icmp_eq (tgt := 71) hx hb dX11_gap_54 rfl (fun hc => (fun hX => ?_) ((mh_if hX).1 hc)) (fun hc => (fun hX => ?_) ((mh_if hX).2 hc))
        · refine lv_iload_n hx hb dX11_gap_71 rfl (lv_at hl 3 rfl) ?_
          refine lv_aload_n hx hb dX11_gap_72 rfl (lv_at hl 1 rfl) ?_
          refine mh_getR cx wd fl_X11_30 dX11_gap_73 hX (fun a11 hX => ?_)
          refine mh_callVI cx wd [] (rfl : vwCl[4]? = some (RX4, TX4, 1)) yw_X4_missing vw_X11_181 rfl hl.1 rfl (Nat.le_of_ble_eq_true rfl) dX11_gap_76 ⟨Nat.le_of_ble_eq_true rfl, Nat.le_of_ble_eq_true rfl⟩ ⟨Nat.le_of_ble_eq_true rfl, Nat.le_of_ble_eq_true rfl⟩ (fun _ _ q => c_X4_missing q) hX (fun v13 h12 H locs wd hX => ?_)
          refine lv_icmp_ge (tgt := 100) hx hb dX11_gap_79 rfl (fun hc => (fun hX => ?_) ((mh_if hX).1 hc)) (fun hc => (fun hX => ?_) ((mh_if hX).2 hc))
          · refine lv_iconst (v := (-1)) hx hb dX11_gap_100 (by decide) ?_
            exact w_X11_gap_b101 cx th ht hr _ h12 _ _ ls wd (lv_sub hl [] rfl) hX
          · refine lv_aload_n hx hb dX11_gap_82 rfl (lv_at hl 1 rfl) ?_
            refine mh_getR cx wd fl_X11_30 dX11_gap_83 hX (fun a14 hX => ?_)
            refine lv_iload_n hx hb dX11_gap_86 rfl (lv_at hl 3 rfl) ?_
            refine lv_aload_n hx hb dX11_gap_87 rfl (lv_at hl 1 rfl) ?_
            refine mh_getR cx wd fl_X11_30 dX11_gap_88 hX (fun a15 hX => ?_)
            refine mh_callVI cx wd [] (rfl : vwCl[4]? = some (RX4, TX4, 1)) yw_X4_lastMissing vw_X11_199 rfl hl.1 rfl (Nat.le_of_ble_eq_true rfl) dX11_gap_91 ⟨Nat.le_of_ble_eq_true rfl, Nat.le_of_ble_eq_true rfl⟩ ⟨Nat.le_of_ble_eq_true rfl, Nat.le_of_ble_eq_true rfl⟩ (fun _ _ q => c_X4_lastMissing q) hX (fun v17 h16 H locs wd hX => ?_)
            refine mh_callVI cx wd [.int x2, .int v17] (rfl : vwCl[4]? = some (RX4, TX4, 1)) yw_X4_missingAt vw_X11_195 rfl hl.1 rfl (Nat.le_of_ble_eq_true rfl) dX11_gap_94 ⟨Nat.le_of_ble_eq_true rfl, Nat.le_of_ble_eq_true rfl⟩ ⟨Nat.le_of_ble_eq_true rfl, Nat.le_of_ble_eq_true rfl⟩ (fun _ _ q => c_X4_missingAt q) hX (fun v19 h18 H locs wd hX => ?_)
            refine lv_goto (tgt := 101) hx hb dX11_gap_97 rfl ?_
            exact w_X11_gap_b101 cx th ht hr _ h18 _ _ ls wd (lv_sub hl [] rfl) hX
        · refine lv_aload_n hx hb dX11_gap_57 rfl (lv_at hl 1 rfl) ?_
          refine mh_getR cx wd fl_X11_30 dX11_gap_58 hX (fun a20 hX => ?_)
          refine lv_iload_n hx hb dX11_gap_61 rfl (lv_at hl 3 rfl) ?_
          refine lv_iconst (v := 2) hx hb dX11_gap_62 (by decide) ?_
          refine lv_iload_n hx hb dX11_gap_63 rfl (lv_at hl 3 rfl) ?_
          refine lv_iconst (v := 1) hx hb dX11_gap_64 (by decide) ?_
          refine lv_iadd hx hb dX11_gap_65 ?_
          refine lv_imul hx hb dX11_gap_66 ?_
          refine mh_callVI cx wd [.int x2, .int ((2 : Int32) * (x2 + (1 : Int32)))] (rfl : vwCl[4]? = some (RX4, TX4, 1)) yw_X4_missingAt vw_X11_195 rfl hl.1 rfl (Nat.le_of_ble_eq_true rfl) dX11_gap_67 ⟨Nat.le_of_ble_eq_true rfl, Nat.le_of_ble_eq_true rfl⟩ ⟨Nat.le_of_ble_eq_true rfl, Nat.le_of_ble_eq_true rfl⟩ (fun _ _ q => c_X4_missingAt q) hX (fun v22 h21 H locs wd hX => ?_)
          exact mh_xiret cx wd hr hX dX11_gap_70 ⟨Nat.le_of_ble_eq_true rfl, Nat.le_of_ble_eq_true rfl⟩
      · refine lv_iload_n hx hb dX11_gap_33 rfl (lv_at hl 3 rfl) ?_
        refine lv_iconst (v := 1) hx hb dX11_gap_34 (by decide) ?_
        refine lv_iadd hx hb dX11_gap_35 ?_
        exact mh_xiret cx wd hr hX dX11_gap_36 ⟨Nat.le_of_ble_eq_true rfl, Nat.le_of_ble_eq_true rfl⟩
    · exact w_X11_gap_b16 cx th ht hr  h1 _ _ ls wd (lv_sub hl [] rfl) hX
set_option maxRecDepth 100000 in
theorem c_X11_gap {l : Launch} {L : List Nat} {h h' : mh_H} {r : Nat ⊕ Int32} {o0 : Nat} {x1 : Int32} {x2 : Int32} (hX : f_X11_gap_e o0 x1 x2 h = some (r, h')) : mh_Mx l yX11_gap (Cond.code yX11_gap cX11_gap 4 (some .int) :: mh_TB) (mh_rx 7 2) [.ref o0, .int x1, .int x2] L h (mh_em mh_eI r) h' 2 12 :=
  mh_xof (by decide) (Nat.le_of_ble_eq_true rfl) (fun p e s m below meth c D ks ls hr cx th ht wd hl => by
    have hl : lv_has ls 4 [(0, .ref o0), (1, .int x1), (2, .int x2)] := hl
    exact w_X11_gap_e cx th ht hr o0 x1 x2 h _ _ ls wd hl hX)
def f_X11_rest_b18 (h : mh_H) : Option ((Nat ⊕ Int32) × mh_H) :=
  some (.inl 2, h)
def f_X11_rest_b63 (t0 : Int32) (h : mh_H) : Option ((Nat ⊕ Int32) × mh_H) :=
  some (.inr t0, h)
def f_X11_rest_e (o0 : Nat) (x1 : Int32) (x2 : Int32) (h : mh_H) : Option ((Nat ⊕ Int32) × mh_H) :=
  mh_bx (mh_cal h o0 11 (f_X11_mintAt_e o0 x1 h)) fun a2 h1 =>
  if x2 < 0 then (
  f_X11_rest_b18 h1) else
  mh_b2 (mh_cal h1 a2 1 (f_X1_least_e a2 h1)) fun v4 h3 =>
  if x2 < v4 then (
  (mh_gR h3 o0 11 2).bind fun a5 =>
  mh_b2 (mh_cal h3 a2 1 (f_X1_least_e a2 h3)) fun v7 h6 =>
  (mh_cal h6 a5 4 (f_X4_take_e a5 a2 v7 h6)).bind fun h8 =>
  (mh_gR h8 o0 11 2).bind fun a9 =>
  mh_b2 (mh_cal h8 a9 4 (f_X4_least_e a9 x2 h8)) fun v11 h10 =>
  if v11 = (2147483647 : Int32) then (
  f_X11_rest_b63 (-1 : Int32) h10) else
  f_X11_rest_b63 v11 h10) else
  f_X11_rest_b18 h3
set_option maxRecDepth 100000 in
set_option maxHeartbeats 4000000 in
theorem w_X11_rest_b18 {p : Program} {l : Launch} {e : Env} {s : State} {m : MethodId} {args : Array Value} {below : List Frame} {meth : Method} {c : Code} {D : va_G} {ks : Nat → ClassId} {L : List Nat} {r : Nat ⊕ Int32} {h' : mh_H} (cx : mh_C p m c cX11_rest 5 s args RX11 meth D ks (mh_A L s.heap.size)) (th : mh_Th l (mh_A L s.heap.size) s) (ht : ∀ x ∈ c.exceptionTable.toList, False) (hr : meth.sig.returnType = (some .int)) :
    ∀ (h : mh_H) (H : Heap) (locs : List Loc) (ls : Array Slot), mh_W D ks L (mh_A L s.heap.size) s.heap h H locs → lv_has ls 5 [] → f_X11_rest_b18  h = some (r, h') → W p l e (mh_rx 7 2) s m args below meth c H locs 1 6 (vx_MQ below (mh_Qx D ks L s.heap.size (mh_em mh_eI r) h') (mh_XC D ks L s.heap.size (mh_em mh_eI r) h') args s 2 12 (mh_A L s.heap.size)) (F0 m 18 ls []) := by
  intro  h H locs ls wd hl hX
  have hx := cx.1.1
  have hb := cx.1.2.1
  unfold f_X11_rest_b18 at hX
  exact mh_xthS mh_eI mh_kx2 cx th ht wd (text := "r is no rest of the least coin") (by decide) hl.1 dX11_rest_18 dX11_rest_21 dX11_rest_22 dX11_rest_24 dX11_rest_27 ⟨Nat.le_of_ble_eq_true rfl, Nat.le_of_ble_eq_true rfl⟩ ⟨Nat.le_of_ble_eq_true rfl, Nat.le_of_ble_eq_true rfl⟩ ⟨Nat.le_of_ble_eq_true rfl, Nat.le_of_ble_eq_true rfl⟩ hX
set_option maxRecDepth 100000 in
set_option maxHeartbeats 4000000 in
theorem w_X11_rest_b63 {p : Program} {l : Launch} {e : Env} {s : State} {m : MethodId} {args : Array Value} {below : List Frame} {meth : Method} {c : Code} {D : va_G} {ks : Nat → ClassId} {L : List Nat} {r : Nat ⊕ Int32} {h' : mh_H} (cx : mh_C p m c cX11_rest 5 s args RX11 meth D ks (mh_A L s.heap.size)) (th : mh_Th l (mh_A L s.heap.size) s) (ht : ∀ x ∈ c.exceptionTable.toList, False) (hr : meth.sig.returnType = (some .int)) :
    ∀ (t0 : Int32) (h : mh_H) (H : Heap) (locs : List Loc) (ls : Array Slot), mh_W D ks L (mh_A L s.heap.size) s.heap h H locs → lv_has ls 5 [] → f_X11_rest_b63 t0 h = some (r, h') → W p l e (mh_rx 7 2) s m args below meth c H locs 1 6 (vx_MQ below (mh_Qx D ks L s.heap.size (mh_em mh_eI r) h') (mh_XC D ks L s.heap.size (mh_em mh_eI r) h') args s 2 12 (mh_A L s.heap.size)) (F0 m 63 ls [.int t0]) := by
  intro t0 h H locs ls wd hl hX
  have hx := cx.1.1
  have hb := cx.1.2.1
  unfold f_X11_rest_b63 at hX
  exact mh_xiret cx wd hr hX dX11_rest_63 ⟨Nat.le_of_ble_eq_true rfl, Nat.le_of_ble_eq_true rfl⟩
set_option maxRecDepth 100000 in
set_option maxHeartbeats 4000000 in
theorem w_X11_rest_e {p : Program} {l : Launch} {e : Env} {s : State} {m : MethodId} {args : Array Value} {below : List Frame} {meth : Method} {c : Code} {D : va_G} {ks : Nat → ClassId} {L : List Nat} {r : Nat ⊕ Int32} {h' : mh_H} (cx : mh_C p m c cX11_rest 5 s args RX11 meth D ks (mh_A L s.heap.size)) (th : mh_Th l (mh_A L s.heap.size) s) (ht : ∀ x ∈ c.exceptionTable.toList, False) (hr : meth.sig.returnType = (some .int)) :
    ∀ (o0 : Nat) (x1 : Int32) (x2 : Int32) (h : mh_H) (H : Heap) (locs : List Loc) (ls : Array Slot), mh_W D ks L (mh_A L s.heap.size) s.heap h H locs → lv_has ls 5 [(0, .ref o0), (1, .int x1), (2, .int x2)] → f_X11_rest_e o0 x1 x2 h = some (r, h') → W p l e (mh_rx 7 2) s m args below meth c H locs 0 0 (vx_MQ below (mh_Qx D ks L s.heap.size (mh_em mh_eI r) h') (mh_XC D ks L s.heap.size (mh_em mh_eI r) h') args s 2 12 (mh_A L s.heap.size)) (F0 m 0 ls []) := by
  intro o0 x1 x2 h H locs ls wd hl hX
  have hx := cx.1.1
  have hb := cx.1.2.1
  unfold f_X11_rest_e at hX
  refine lv_aload_n hx hb dX11_rest_0 rfl (lv_at hl 0 rfl) ?_
  refine lv_iload_n hx hb dX11_rest_1 rfl (lv_at hl 1 rfl) ?_
  refine mh_xV mh_eR mh_eI (K := 1) [.int x1] cx th ht wd (rfl : vwCl[11]? = some (RX11, TX11, 16)) yw_X11_mintAt vw_X11_131 rfl hl.1 rfl (Nat.le_of_ble_eq_true rfl) dX11_rest_2 ⟨Nat.le_of_ble_eq_true rfl, Nat.le_of_ble_eq_true rfl⟩ ⟨Nat.le_of_ble_eq_true rfl, Nat.le_of_ble_eq_true rfl⟩ ⟨Nat.le_of_ble_eq_true rfl, Nat.le_of_ble_eq_true rfl⟩ (fun _ _ q => c_X11_mintAt q) hX (fun a2 h1 H locs wd hX => ?_)
  refine W.eq (g2 := F0 m 5 ls [.ref a2]) rfl ?_
  refine lv_astore_n (lv' := [(3, .ref a2), (0, .ref o0), (1, .int x1), (2, .int x2)]) hx hb dX11_rest_5 rfl hl (Nat.le_of_ble_eq_true rfl) rfl (fun ls hl => ?_)
  refine lv_iload_n hx hb dX11_rest_6 rfl (lv_at hl 3 rfl) ?_
  refine lv_if_lt (tgt := 18) hx hb dX11_rest_7 rfl (fun hc => (fun hX => ?_) ((mh_if hX).1 hc)) (fun hc => (fun hX => ?_) ((mh_if hX).2 hc))
  · exact w_X11_rest_b18 cx th ht hr  h1 _ _ ls wd (lv_sub hl [] rfl) hX
  · refine lv_iload_n hx hb dX11_rest_10 rfl (lv_at hl 3 rfl) ?_
    refine lv_aload_n hx hb dX11_rest_11 rfl (lv_at hl 0 rfl) ?_
    refine mh_callVI cx wd [] (rfl : vwCl[1]? = some (RX1, TX1, 2)) yw_X1_least vw_X11_176 rfl hl.1 rfl (Nat.le_of_ble_eq_true rfl) dX11_rest_12 ⟨Nat.le_of_ble_eq_true rfl, Nat.le_of_ble_eq_true rfl⟩ ⟨Nat.le_of_ble_eq_true rfl, Nat.le_of_ble_eq_true rfl⟩ (fun _ _ q => c_X1_least q) hX (fun v4 h3 H locs wd hX => ?_)
    refine lv_icmp_lt (tgt := 28) hx hb dX11_rest_15 rfl (fun hc => (fun hX => ?_) ((mh_if hX).1 hc)) (fun hc => (fun hX => ?_) ((mh_if hX).2 hc))
    · refine lv_aload_n hx hb dX11_rest_28 rfl (lv_at hl 1 rfl) ?_
      refine mh_getR cx wd fl_X11_30 dX11_rest_29 hX (fun a5 hX => ?_)
      refine lv_aload_n hx hb dX11_rest_32 rfl (lv_at hl 0 rfl) ?_
      refine lv_aload_n hx hb dX11_rest_33 rfl (lv_at hl 0 rfl) ?_
      refine mh_callVI cx wd [] (rfl : vwCl[1]? = some (RX1, TX1, 2)) yw_X1_least vw_X11_176 rfl hl.1 rfl (Nat.le_of_ble_eq_true rfl) dX11_rest_34 ⟨Nat.le_of_ble_eq_true rfl, Nat.le_of_ble_eq_true rfl⟩ ⟨Nat.le_of_ble_eq_true rfl, Nat.le_of_ble_eq_true rfl⟩ (fun _ _ q => c_X1_least q) hX (fun v7 h6 H locs wd hX => ?_)
      refine mh_callVV cx wd [.ref a2, .int v7] (rfl : vwCl[4]? = some (RX4, TX4, 1)) yw_X4_take vw_X11_179 rfl hl.1 rfl (Nat.le_of_ble_eq_true rfl) dX11_rest_37 ⟨Nat.le_of_ble_eq_true rfl, Nat.le_of_ble_eq_true rfl⟩ ⟨Nat.le_of_ble_eq_true rfl, Nat.le_of_ble_eq_true rfl⟩ (fun _ q => c_X4_take q) hX (fun h8 H locs wd hX => ?_)
      refine lv_aload_n hx hb dX11_rest_40 rfl (lv_at hl 1 rfl) ?_
      refine mh_getR cx wd fl_X11_30 dX11_rest_41 hX (fun a9 hX => ?_)
      refine lv_iload_n hx hb dX11_rest_44 rfl (lv_at hl 3 rfl) ?_
      refine mh_callVI cx wd [.int x2] (rfl : vwCl[4]? = some (RX4, TX4, 1)) yw_X4_least vw_X11_204 rfl hl.1 rfl (Nat.le_of_ble_eq_true rfl) dX11_rest_45 ⟨Nat.le_of_ble_eq_true rfl, Nat.le_of_ble_eq_true rfl⟩ ⟨Nat.le_of_ble_eq_true rfl, Nat.le_of_ble_eq_true rfl⟩ (fun _ _ q => c_X4_least q) hX (fun v11 h10 H locs wd hX => ?_)
      refine lv_istore (lv' := [(4, .int v11), (3, .ref a2), (0, .ref o0), (1, .int x1), (2, .int x2)]) hx hb dX11_rest_48 hl (Nat.le_of_ble_eq_true rfl) rfl (fun ls hl => ?_)
      refine lv_iload hx hb dX11_rest_50 (lv_at hl 0 rfl) ?_
      refine mh_ldc cx kc_X11_206 dX11_rest_52 ?_
      refine lv_icmp_ne (tgt := 61) hx hb dX11_rest_54 rfl (fun hc => (fun hX => ?_) ((mh_if hX).2 hc)) (fun hc => (fun hX => ?_) ((mh_if hX).1 hc))
      · refine lv_iload hx hb dX11_rest_61 (lv_at hl 0 rfl) ?_
        exact w_X11_rest_b63 cx th ht hr _ h10 _ _ ls wd (lv_sub hl [] rfl) hX
      · refine lv_iconst (v := (-1)) hx hb dX11_rest_57 (by decide) ?_
        refine lv_goto (tgt := 63) hx hb dX11_rest_58 rfl ?_
        exact w_X11_rest_b63 cx th ht hr _ h10 _ _ ls wd (lv_sub hl [] rfl) hX
    · exact w_X11_rest_b18 cx th ht hr  h3 _ _ ls wd (lv_sub hl [] rfl) hX
set_option maxRecDepth 100000 in
theorem c_X11_rest {l : Launch} {L : List Nat} {h h' : mh_H} {r : Nat ⊕ Int32} {o0 : Nat} {x1 : Int32} {x2 : Int32} (hX : f_X11_rest_e o0 x1 x2 h = some (r, h')) : mh_Mx l yX11_rest (Cond.code yX11_rest cX11_rest 5 (some .int) :: mh_TB) (mh_rx 7 2) [.ref o0, .int x1, .int x2] L h (mh_em mh_eI r) h' 2 12 :=
  mh_xof (by decide) (Nat.le_of_ble_eq_true rfl) (fun p e s m below meth c D ks ls hr cx th ht wd hl => by
    have hl : lv_has ls 5 [(0, .ref o0), (1, .int x1), (2, .int x2)] := hl
    exact w_X11_rest_e cx th ht hr o0 x1 x2 h _ _ ls wd hl hX)
def f_X11_mirror_b34 (t0 : Int32) (h : mh_H) : Option ((Nat ⊕ Int32) × mh_H) :=
  mh_rzx t0 h
def f_X11_mirror_b33 (k34 : Int32 → mh_H → Option ((Nat ⊕ Int32) × mh_H)) (h : mh_H) : Option ((Nat ⊕ Int32) × mh_H) :=
  k34 (0 : Int32) h
def f_X11_mirror_e (o0 : Nat) (x1 : Int32) (h : mh_H) : Option ((Nat ⊕ Int32) × mh_H) :=
  mh_bx (mh_cal h o0 11 (f_X11_mintAt_e o0 x1 h)) fun a2 h1 =>
  mh_b2 (mh_cal h1 o0 11 (f_X11_lastGap_e o0 a2 h1)) fun v4 h3 =>
  if v4 < 0 then (
  f_X11_mirror_b33 (f_X11_mirror_b34) h3) else
  (mh_gR h3 o0 11 2).bind fun a5 =>
  mh_b2 (mh_cal h3 a5 4 (f_X4_missing_e a5 h3)) fun v7 h6 =>
  if ((2 : Int32) * v7) = (v4 + (1 : Int32)) then (
  f_X11_mirror_b34 (1 : Int32) h6) else
  f_X11_mirror_b33 (f_X11_mirror_b34) h6
set_option maxRecDepth 100000 in
set_option maxHeartbeats 4000000 in
theorem w_X11_mirror_b34 {p : Program} {l : Launch} {e : Env} {s : State} {m : MethodId} {args : Array Value} {below : List Frame} {meth : Method} {c : Code} {D : va_G} {ks : Nat → ClassId} {L : List Nat} {r : Nat ⊕ Int32} {h' : mh_H} (cx : mh_C p m c cX11_mirror 3 s args RX11 meth D ks (mh_A L s.heap.size)) (th : mh_Th l (mh_A L s.heap.size) s) (ht : ∀ x ∈ c.exceptionTable.toList, False) (hr : meth.sig.returnType = (some .boolean)) :
    ∀ (t0 : Int32) (h : mh_H) (H : Heap) (locs : List Loc) (ls : Array Slot), mh_W D ks L (mh_A L s.heap.size) s.heap h H locs → lv_has ls 3 [] → f_X11_mirror_b34 t0 h = some (r, h') → W p l e (mh_rx 7 1) s m args below meth c H locs 1 6 (vx_MQ below (mh_Qx D ks L s.heap.size (mh_em mh_eI r) h') (mh_XC D ks L s.heap.size (mh_em mh_eI r) h') args s 1 6 (mh_A L s.heap.size)) (F0 m 34 ls [.int t0]) := by
  intro t0 h H locs ls wd hl hX
  have hx := cx.1.1
  have hb := cx.1.2.1
  unfold f_X11_mirror_b34 at hX
  exact mh_xzret cx wd hr hX dX11_mirror_34 ⟨Nat.le_of_ble_eq_true rfl, Nat.le_of_ble_eq_true rfl⟩
set_option maxRecDepth 100000 in
set_option maxHeartbeats 4000000 in
theorem w_X11_mirror_b33 {p : Program} {l : Launch} {e : Env} {s : State} {m : MethodId} {args : Array Value} {below : List Frame} {meth : Method} {c : Code} {D : va_G} {ks : Nat → ClassId} {L : List Nat} {r : Nat ⊕ Int32} {h' : mh_H} (k34 : Int32 → mh_H → Option ((Nat ⊕ Int32) × mh_H)) (cx : mh_C p m c cX11_mirror 3 s args RX11 meth D ks (mh_A L s.heap.size)) (th : mh_Th l (mh_A L s.heap.size) s) (ht : ∀ x ∈ c.exceptionTable.toList, False) (hr : meth.sig.returnType = (some .boolean))
    (hk34 : ∀ (t0 : Int32) (h : mh_H) (H : Heap) (locs : List Loc) (ls : Array Slot), mh_W D ks L (mh_A L s.heap.size) s.heap h H locs → lv_has ls 3 [] → k34 t0 h = some (r, h') → W p l e (mh_rx 7 1) s m args below meth c H locs 1 6 (vx_MQ below (mh_Qx D ks L s.heap.size (mh_em mh_eI r) h') (mh_XC D ks L s.heap.size (mh_em mh_eI r) h') args s 1 6 (mh_A L s.heap.size)) (F0 m 34 ls [.int t0])) :
    ∀ (h : mh_H) (H : Heap) (locs : List Loc) (ls : Array Slot), mh_W D ks L (mh_A L s.heap.size) s.heap h H locs → lv_has ls 3 [] → f_X11_mirror_b33 k34  h = some (r, h') → W p l e (mh_rx 7 1) s m args below meth c H locs 1 6 (vx_MQ below (mh_Qx D ks L s.heap.size (mh_em mh_eI r) h') (mh_XC D ks L s.heap.size (mh_em mh_eI r) h') args s 1 6 (mh_A L s.heap.size)) (F0 m 33 ls []) := by
  intro  h H locs ls wd hl hX
  have hx := cx.1.1
  have hb := cx.1.2.1
  unfold f_X11_mirror_b33 at hX
  refine lv_iconst (v := 0) hx hb dX11_mirror_33 (by decide) ?_
  exact hk34 _ h _ _ ls wd (lv_sub hl [] rfl) hX
set_option maxRecDepth 100000 in
set_option maxHeartbeats 4000000 in
theorem w_X11_mirror_e {p : Program} {l : Launch} {e : Env} {s : State} {m : MethodId} {args : Array Value} {below : List Frame} {meth : Method} {c : Code} {D : va_G} {ks : Nat → ClassId} {L : List Nat} {r : Nat ⊕ Int32} {h' : mh_H} (cx : mh_C p m c cX11_mirror 3 s args RX11 meth D ks (mh_A L s.heap.size)) (th : mh_Th l (mh_A L s.heap.size) s) (ht : ∀ x ∈ c.exceptionTable.toList, False) (hr : meth.sig.returnType = (some .boolean)) :
    ∀ (o0 : Nat) (x1 : Int32) (h : mh_H) (H : Heap) (locs : List Loc) (ls : Array Slot), mh_W D ks L (mh_A L s.heap.size) s.heap h H locs → lv_has ls 3 [(0, .ref o0), (1, .int x1)] → f_X11_mirror_e o0 x1 h = some (r, h') → W p l e (mh_rx 7 1) s m args below meth c H locs 0 0 (vx_MQ below (mh_Qx D ks L s.heap.size (mh_em mh_eI r) h') (mh_XC D ks L s.heap.size (mh_em mh_eI r) h') args s 1 6 (mh_A L s.heap.size)) (F0 m 0 ls []) := by
  intro o0 x1 h H locs ls wd hl hX
  have hx := cx.1.1
  have hb := cx.1.2.1
  unfold f_X11_mirror_e at hX
  refine lv_aload_n hx hb dX11_mirror_0 rfl (lv_at hl 0 rfl) ?_
  refine lv_aload_n hx hb dX11_mirror_1 rfl (lv_at hl 0 rfl) ?_
  refine lv_iload_n hx hb dX11_mirror_2 rfl (lv_at hl 1 rfl) ?_
  refine mh_xV mh_eR mh_eI (K := 1) [.int x1] cx th ht wd (rfl : vwCl[11]? = some (RX11, TX11, 16)) yw_X11_mintAt vw_X11_131 rfl hl.1 rfl (Nat.le_of_ble_eq_true rfl) dX11_mirror_3 ⟨Nat.le_of_ble_eq_true rfl, Nat.le_of_ble_eq_true rfl⟩ ⟨Nat.le_of_ble_eq_true rfl, Nat.le_of_ble_eq_true rfl⟩ ⟨Nat.le_of_ble_eq_true rfl, Nat.le_of_ble_eq_true rfl⟩ (fun _ _ q => c_X11_mintAt q) hX (fun a2 h1 H locs wd hX => ?_)
  refine W.eq (g2 := F0 m 6 ls [.ref a2, .ref o0]) rfl ?_
  refine mh_callVI cx wd [.ref a2] (rfl : vwCl[11]? = some (RX11, TX11, 16)) yw_X11_lastGap vw_X11_184 rfl hl.1 rfl (Nat.le_of_ble_eq_true rfl) dX11_mirror_6 ⟨Nat.le_of_ble_eq_true rfl, Nat.le_of_ble_eq_true rfl⟩ ⟨Nat.le_of_ble_eq_true rfl, Nat.le_of_ble_eq_true rfl⟩ (fun _ _ q => c_X11_lastGap q) hX (fun v4 h3 H locs wd hX => ?_)
  refine lv_istore_n (lv' := [(2, .int v4), (0, .ref o0), (1, .int x1)]) hx hb dX11_mirror_9 rfl hl (Nat.le_of_ble_eq_true rfl) rfl (fun ls hl => ?_)
  refine lv_iload_n hx hb dX11_mirror_10 rfl (lv_at hl 0 rfl) ?_
  refine lv_if_lt (tgt := 33) hx hb dX11_mirror_11 rfl (fun hc => (fun hX => ?_) ((mh_if hX).1 hc)) (fun hc => (fun hX => ?_) ((mh_if hX).2 hc))
  · exact w_X11_mirror_b33 (f_X11_mirror_b34) cx th ht hr (w_X11_mirror_b34 cx th ht hr)  h3 _ _ ls wd (lv_sub hl [] rfl) hX
  · refine lv_iconst (v := 2) hx hb dX11_mirror_14 (by decide) ?_
    refine lv_aload_n hx hb dX11_mirror_15 rfl (lv_at hl 1 rfl) ?_
    refine mh_getR cx wd fl_X11_30 dX11_mirror_16 hX (fun a5 hX => ?_)
    refine mh_callVI cx wd [] (rfl : vwCl[4]? = some (RX4, TX4, 1)) yw_X4_missing vw_X11_181 rfl hl.1 rfl (Nat.le_of_ble_eq_true rfl) dX11_mirror_19 ⟨Nat.le_of_ble_eq_true rfl, Nat.le_of_ble_eq_true rfl⟩ ⟨Nat.le_of_ble_eq_true rfl, Nat.le_of_ble_eq_true rfl⟩ (fun _ _ q => c_X4_missing q) hX (fun v7 h6 H locs wd hX => ?_)
    refine lv_imul hx hb dX11_mirror_22 ?_
    refine lv_iload_n hx hb dX11_mirror_23 rfl (lv_at hl 0 rfl) ?_
    refine lv_iconst (v := 1) hx hb dX11_mirror_24 (by decide) ?_
    refine lv_iadd hx hb dX11_mirror_25 ?_
    refine lv_icmp_ne (tgt := 33) hx hb dX11_mirror_26 rfl (fun hc => (fun hX => ?_) ((mh_if hX).2 hc)) (fun hc => (fun hX => ?_) ((mh_if hX).1 hc))
    · exact w_X11_mirror_b33 (f_X11_mirror_b34) cx th ht hr (w_X11_mirror_b34 cx th ht hr)  h6 _ _ ls wd (lv_sub hl [] rfl) hX
    · refine lv_iconst (v := 1) hx hb dX11_mirror_29 (by decide) ?_
      refine lv_goto (tgt := 34) hx hb dX11_mirror_30 rfl ?_
      exact w_X11_mirror_b34 cx th ht hr _ h6 _ _ ls wd (lv_sub hl [] rfl) hX
set_option maxRecDepth 100000 in
theorem c_X11_mirror {l : Launch} {L : List Nat} {h h' : mh_H} {r : Nat ⊕ Int32} {o0 : Nat} {x1 : Int32} (hX : f_X11_mirror_e o0 x1 h = some (r, h')) : mh_Mx l yX11_mirror (Cond.code yX11_mirror cX11_mirror 3 (some .boolean) :: mh_TB) (mh_rx 7 1) [.ref o0, .int x1] L h (mh_em mh_eI r) h' 1 6 :=
  mh_xof (by decide) (Nat.le_of_ble_eq_true rfl) (fun p e s m below meth c D ks ls hr cx th ht wd hl => by
    have hl : lv_has ls 3 [(0, .ref o0), (1, .int x1)] := hl
    exact w_X11_mirror_e cx th ht hr o0 x1 h _ _ ls wd hl hX)
def f_X11_needed_b69 (k34 : Nat → Nat → Int32 → Int32 → mh_H → Option ((Nat ⊕ Int32) × mh_H)) (o0 : Nat) (o2 : Nat) (x3 : Int32) (x4 : Int32) (h : mh_H) : Option ((Nat ⊕ Int32) × mh_H) :=
  mh_nm (x4 + Int32.ofInt (1)) fun v1 =>
  k34 o0 o2 x3 v1 h
def f_X11_needed_b75 (x3 : Int32) (h : mh_H) : Option ((Nat ⊕ Int32) × mh_H) :=
  some (.inr x3, h)
def f_X11_needed_b34 : Nat → Nat → Nat → Int32 → Int32 → mh_H → Option ((Nat ⊕ Int32) × mh_H)
  | 0, _, _, _, _, _ => none
  | n + 1, o0, o2, x3, x4, h =>
    mh_b2 (mh_cal h o2 1 (f_X1_count_e o2 h)) fun v3 h2 =>
    if v3 ≤ x4 then (
    f_X11_needed_b75 x3 h2) else
    (mh_gR h2 o0 11 5).bind fun a4 =>
    mh_b2 (mh_cal h2 a4 5 (f_X5_picked_e a4 h2)) fun a6 h5 =>
    mh_b2 (mh_cal h5 o2 1 (f_X1_value_e o2 x4 h5)) fun v8 h7 =>
    mh_b2 (mh_cal h7 a6 1 (f_X1_holds_e a6 v8 h7)) fun v10 h9 =>
    if v10 = 0 then (
    f_X11_needed_b69 (f_X11_needed_b34 n) o0 o2 x3 x4 h9) else
    mh_nm (x3 ||| ((1 : Int32) <<< (x4 &&& 31))) fun v11 =>
    f_X11_needed_b69 (f_X11_needed_b34 n) o0 o2 v11 x4 h9
def f_X11_needed_e (o0 : Nat) (x1 : Int32) (h : mh_H) : Option ((Nat ⊕ Int32) × mh_H) :=
  mh_bx (mh_cal h o0 11 (f_X11_mintAt_e o0 x1 h)) fun a13 h12 =>
  (mh_gR h12 o0 11 5).bind fun a14 =>
  (mh_cal h12 a14 5 (f_X5_clear_e a14 h12)).bind fun h15 =>
  (mh_gR h15 o0 11 5).bind fun a16 =>
  (mh_cal h15 a16 5 (f_X5_offerAll_e a16 a13 h15)).bind fun h17 =>
  (mh_gR h17 o0 11 5).bind fun a18 =>
  mh_b2 (mh_cal h17 a18 5 (f_X5_pick_e a18 h17)) fun v20 h19 =>
  mh_nm (0 : Int32) fun v21 =>
  mh_nm (0 : Int32) fun v22 =>
  f_X11_needed_b34 mh_fu o0 a13 v21 v22 h19
set_option maxRecDepth 100000 in
set_option maxHeartbeats 4000000 in
theorem w_X11_needed_b69 {p : Program} {l : Launch} {e : Env} {s : State} {m : MethodId} {args : Array Value} {below : List Frame} {meth : Method} {c : Code} {D : va_G} {ks : Nat → ClassId} {L : List Nat} {r : Nat ⊕ Int32} {h' : mh_H} (k34 : Nat → Nat → Int32 → Int32 → mh_H → Option ((Nat ⊕ Int32) × mh_H)) (cx : mh_C p m c cX11_needed 5 s args RX11 meth D ks (mh_A L s.heap.size)) (th : mh_Th l (mh_A L s.heap.size) s) (ht : ∀ x ∈ c.exceptionTable.toList, False) (hr : meth.sig.returnType = (some .int))
    (hk34 : ∀ (o0 : Nat) (o2 : Nat) (x3 : Int32) (x4 : Int32) (h : mh_H) (H : Heap) (locs : List Loc) (ls : Array Slot), mh_W D ks L (mh_A L s.heap.size) s.heap h H locs → lv_has ls 5 [(0, .ref o0), (2, .ref o2), (3, .int x3), (4, .int x4)] → k34 o0 o2 x3 x4 h = some (r, h') → W p l e (mh_rx 7 1) s m args below meth c H locs 1 6 (vx_MQ below (mh_Qx D ks L s.heap.size (mh_em mh_eI r) h') (mh_XC D ks L s.heap.size (mh_em mh_eI r) h') args s 1 6 (mh_A L s.heap.size)) (F0 m 34 ls [])) :
    ∀ (o0 : Nat) (o2 : Nat) (x3 : Int32) (x4 : Int32) (h : mh_H) (H : Heap) (locs : List Loc) (ls : Array Slot), mh_W D ks L (mh_A L s.heap.size) s.heap h H locs → lv_has ls 5 [(0, .ref o0), (2, .ref o2), (3, .int x3), (4, .int x4)] → f_X11_needed_b69 k34 o0 o2 x3 x4 h = some (r, h') → W p l e (mh_rx 7 1) s m args below meth c H locs 1 6 (vx_MQ below (mh_Qx D ks L s.heap.size (mh_em mh_eI r) h') (mh_XC D ks L s.heap.size (mh_em mh_eI r) h') args s 1 6 (mh_A L s.heap.size)) (F0 m 69 ls []) := by
  intro o0 o2 x3 x4 h H locs ls wd hl hX
  have hx := cx.1.1
  have hb := cx.1.2.1
  unfold f_X11_needed_b69 at hX
  obtain ⟨v1, ev1, hX⟩ := mh_nmx hX
  refine lv_iinc (k := 3) (v := v1) (lv' := [(4, .int v1), (0, .ref o0), (2, .ref o2), (3, .int x3)]) hx hb dX11_needed_69 hl rfl ev1 (Nat.le_of_ble_eq_true rfl) rfl (fun ls hl => ?_)
  refine lv_goto (tgt := 34) hx hb dX11_needed_72 rfl ?_
  exact hk34 _ _ _ _ h _ _ ls wd (lv_sub hl [1, 2, 3, 0] rfl) hX
set_option maxRecDepth 100000 in
set_option maxHeartbeats 4000000 in
theorem w_X11_needed_b75 {p : Program} {l : Launch} {e : Env} {s : State} {m : MethodId} {args : Array Value} {below : List Frame} {meth : Method} {c : Code} {D : va_G} {ks : Nat → ClassId} {L : List Nat} {r : Nat ⊕ Int32} {h' : mh_H} (cx : mh_C p m c cX11_needed 5 s args RX11 meth D ks (mh_A L s.heap.size)) (th : mh_Th l (mh_A L s.heap.size) s) (ht : ∀ x ∈ c.exceptionTable.toList, False) (hr : meth.sig.returnType = (some .int)) :
    ∀ (x3 : Int32) (h : mh_H) (H : Heap) (locs : List Loc) (ls : Array Slot), mh_W D ks L (mh_A L s.heap.size) s.heap h H locs → lv_has ls 5 [(3, .int x3)] → f_X11_needed_b75 x3 h = some (r, h') → W p l e (mh_rx 7 1) s m args below meth c H locs 1 6 (vx_MQ below (mh_Qx D ks L s.heap.size (mh_em mh_eI r) h') (mh_XC D ks L s.heap.size (mh_em mh_eI r) h') args s 1 6 (mh_A L s.heap.size)) (F0 m 75 ls []) := by
  intro x3 h H locs ls wd hl hX
  have hx := cx.1.1
  have hb := cx.1.2.1
  unfold f_X11_needed_b75 at hX
  refine lv_iload_n hx hb dX11_needed_75 rfl (lv_at hl 0 rfl) ?_
  exact mh_xiret cx wd hr hX dX11_needed_76 ⟨Nat.le_of_ble_eq_true rfl, Nat.le_of_ble_eq_true rfl⟩
set_option maxRecDepth 100000 in
set_option maxHeartbeats 4000000 in
theorem w_X11_needed_b34 {p : Program} {l : Launch} {e : Env} {s : State} {m : MethodId} {args : Array Value} {below : List Frame} {meth : Method} {c : Code} {D : va_G} {ks : Nat → ClassId} {L : List Nat} {r : Nat ⊕ Int32} {h' : mh_H} (cx : mh_C p m c cX11_needed 5 s args RX11 meth D ks (mh_A L s.heap.size)) (th : mh_Th l (mh_A L s.heap.size) s) (ht : ∀ x ∈ c.exceptionTable.toList, False) (hr : meth.sig.returnType = (some .int)) :
    ∀ n : Nat, ∀ (o0 : Nat) (o2 : Nat) (x3 : Int32) (x4 : Int32) (h : mh_H) (H : Heap) (locs : List Loc) (ls : Array Slot), mh_W D ks L (mh_A L s.heap.size) s.heap h H locs → lv_has ls 5 [(0, .ref o0), (2, .ref o2), (3, .int x3), (4, .int x4)] → f_X11_needed_b34 n o0 o2 x3 x4 h = some (r, h') → W p l e (mh_rx 7 1) s m args below meth c H locs 1 6 (vx_MQ below (mh_Qx D ks L s.heap.size (mh_em mh_eI r) h') (mh_XC D ks L s.heap.size (mh_em mh_eI r) h') args s 1 6 (mh_A L s.heap.size)) (F0 m 34 ls []) := by
  intro n
  induction n with
  | zero =>
    intro o0 o2 x3 x4 h H locs ls wd hl hX
    cases hX
  | succ n ih =>
    intro o0 o2 x3 x4 h H locs ls wd hl hX
    have hx := cx.1.1
    have hb := cx.1.2.1
    rw [f_X11_needed_b34] at hX
    refine lv_iload hx hb dX11_needed_34 (lv_at hl 3 rfl) ?_
    refine lv_aload_n hx hb dX11_needed_36 rfl (lv_at hl 1 rfl) ?_
    refine mh_callVI cx wd [] (rfl : vwCl[1]? = some (RX1, TX1, 2)) yw_X1_count vw_X11_123 rfl hl.1 rfl (Nat.le_of_ble_eq_true rfl) dX11_needed_37 ⟨Nat.le_of_ble_eq_true rfl, Nat.le_of_ble_eq_true rfl⟩ ⟨Nat.le_of_ble_eq_true rfl, Nat.le_of_ble_eq_true rfl⟩ (fun _ _ q => c_X1_count q) hX (fun v3 h2 H locs wd hX => ?_)
    refine lv_icmp_ge (tgt := 75) hx hb dX11_needed_40 rfl (fun hc => (fun hX => ?_) ((mh_if hX).1 hc)) (fun hc => (fun hX => ?_) ((mh_if hX).2 hc))
    · exact w_X11_needed_b75 cx th ht hr _ h2 _ _ ls wd (lv_sub hl [2] rfl) hX
    · refine lv_aload_n hx hb dX11_needed_43 rfl (lv_at hl 0 rfl) ?_
      refine mh_getR cx wd fl_X11_43 dX11_needed_44 hX (fun a4 hX => ?_)
      refine mh_callVR cx wd [] (rfl : vwCl[5]? = some (RX5, TX5, 3)) yw_X5_picked vw_X11_216 rfl hl.1 rfl (Nat.le_of_ble_eq_true rfl) dX11_needed_47 ⟨Nat.le_of_ble_eq_true rfl, Nat.le_of_ble_eq_true rfl⟩ ⟨Nat.le_of_ble_eq_true rfl, Nat.le_of_ble_eq_true rfl⟩ (fun _ _ q => c_X5_picked q) hX (fun a6 h5 H locs wd hX => ?_)
      refine lv_aload_n hx hb dX11_needed_50 rfl (lv_at hl 1 rfl) ?_
      refine lv_iload hx hb dX11_needed_51 (lv_at hl 3 rfl) ?_
      refine mh_callVI cx wd [.int x4] (rfl : vwCl[1]? = some (RX1, TX1, 2)) yw_X1_value vw_X11_138 rfl hl.1 rfl (Nat.le_of_ble_eq_true rfl) dX11_needed_53 ⟨Nat.le_of_ble_eq_true rfl, Nat.le_of_ble_eq_true rfl⟩ ⟨Nat.le_of_ble_eq_true rfl, Nat.le_of_ble_eq_true rfl⟩ (fun _ _ q => c_X1_value q) hX (fun v8 h7 H locs wd hX => ?_)
      refine mh_callVI cx wd [.int v8] (rfl : vwCl[1]? = some (RX1, TX1, 2)) yw_X1_holds vw_X11_114 rfl hl.1 rfl (Nat.le_of_ble_eq_true rfl) dX11_needed_56 ⟨Nat.le_of_ble_eq_true rfl, Nat.le_of_ble_eq_true rfl⟩ ⟨Nat.le_of_ble_eq_true rfl, Nat.le_of_ble_eq_true rfl⟩ (fun _ _ q => c_X1_holds q) hX (fun v10 h9 H locs wd hX => ?_)
      refine lv_if_eq (tgt := 69) hx hb dX11_needed_59 rfl (fun hc => (fun hX => ?_) ((mh_if hX).1 hc)) (fun hc => (fun hX => ?_) ((mh_if hX).2 hc))
      · exact w_X11_needed_b69 (f_X11_needed_b34 n) cx th ht hr ih _ _ _ _ h9 _ _ ls wd (lv_sub hl [0, 1, 2, 3] rfl) hX
      · refine lv_iload_n hx hb dX11_needed_62 rfl (lv_at hl 2 rfl) ?_
        refine lv_iconst (v := 1) hx hb dX11_needed_63 (by decide) ?_
        refine lv_iload hx hb dX11_needed_64 (lv_at hl 3 rfl) ?_
        refine lv_ishl hx hb dX11_needed_66 ?_
        refine lv_ior hx hb dX11_needed_67 ?_
        refine mh_topi hX (fun v11 hX => ?_)
        refine lv_istore_n (lv' := [(3, .int v11), (0, .ref o0), (2, .ref o2), (4, .int x4)]) hx hb dX11_needed_68 rfl hl (Nat.le_of_ble_eq_true rfl) rfl (fun ls hl => ?_)
        exact w_X11_needed_b69 (f_X11_needed_b34 n) cx th ht hr ih _ _ _ _ h9 _ _ ls wd (lv_sub hl [1, 2, 0, 3] rfl) hX
set_option maxRecDepth 100000 in
set_option maxHeartbeats 4000000 in
theorem w_X11_needed_e {p : Program} {l : Launch} {e : Env} {s : State} {m : MethodId} {args : Array Value} {below : List Frame} {meth : Method} {c : Code} {D : va_G} {ks : Nat → ClassId} {L : List Nat} {r : Nat ⊕ Int32} {h' : mh_H} (cx : mh_C p m c cX11_needed 5 s args RX11 meth D ks (mh_A L s.heap.size)) (th : mh_Th l (mh_A L s.heap.size) s) (ht : ∀ x ∈ c.exceptionTable.toList, False) (hr : meth.sig.returnType = (some .int)) :
    ∀ (o0 : Nat) (x1 : Int32) (h : mh_H) (H : Heap) (locs : List Loc) (ls : Array Slot), mh_W D ks L (mh_A L s.heap.size) s.heap h H locs → lv_has ls 5 [(0, .ref o0), (1, .int x1)] → f_X11_needed_e o0 x1 h = some (r, h') → W p l e (mh_rx 7 1) s m args below meth c H locs 0 0 (vx_MQ below (mh_Qx D ks L s.heap.size (mh_em mh_eI r) h') (mh_XC D ks L s.heap.size (mh_em mh_eI r) h') args s 1 6 (mh_A L s.heap.size)) (F0 m 0 ls []) := by
  intro o0 x1 h H locs ls wd hl hX
  have hx := cx.1.1
  have hb := cx.1.2.1
  unfold f_X11_needed_e at hX
  refine lv_aload_n hx hb dX11_needed_0 rfl (lv_at hl 0 rfl) ?_
  refine lv_iload_n hx hb dX11_needed_1 rfl (lv_at hl 1 rfl) ?_
  refine mh_xV mh_eR mh_eI (K := 1) [.int x1] cx th ht wd (rfl : vwCl[11]? = some (RX11, TX11, 16)) yw_X11_mintAt vw_X11_131 rfl hl.1 rfl (Nat.le_of_ble_eq_true rfl) dX11_needed_2 ⟨Nat.le_of_ble_eq_true rfl, Nat.le_of_ble_eq_true rfl⟩ ⟨Nat.le_of_ble_eq_true rfl, Nat.le_of_ble_eq_true rfl⟩ ⟨Nat.le_of_ble_eq_true rfl, Nat.le_of_ble_eq_true rfl⟩ (fun _ _ q => c_X11_mintAt q) hX (fun a13 h12 H locs wd hX => ?_)
  refine W.eq (g2 := F0 m 5 ls [.ref a13]) rfl ?_
  refine lv_astore_n (lv' := [(2, .ref a13), (0, .ref o0), (1, .int x1)]) hx hb dX11_needed_5 rfl hl (Nat.le_of_ble_eq_true rfl) rfl (fun ls hl => ?_)
  refine lv_aload_n hx hb dX11_needed_6 rfl (lv_at hl 1 rfl) ?_
  refine mh_getR cx wd fl_X11_43 dX11_needed_7 hX (fun a14 hX => ?_)
  refine mh_callVV cx wd [] (rfl : vwCl[5]? = some (RX5, TX5, 3)) yw_X5_clear vw_X11_207 rfl hl.1 rfl (Nat.le_of_ble_eq_true rfl) dX11_needed_10 ⟨Nat.le_of_ble_eq_true rfl, Nat.le_of_ble_eq_true rfl⟩ ⟨Nat.le_of_ble_eq_true rfl, Nat.le_of_ble_eq_true rfl⟩ (fun _ q => c_X5_clear q) hX (fun h15 H locs wd hX => ?_)
  refine lv_aload_n hx hb dX11_needed_13 rfl (lv_at hl 1 rfl) ?_
  refine mh_getR cx wd fl_X11_43 dX11_needed_14 hX (fun a16 hX => ?_)
  refine lv_aload_n hx hb dX11_needed_17 rfl (lv_at hl 0 rfl) ?_
  refine mh_callVV cx wd [.ref a13] (rfl : vwCl[5]? = some (RX5, TX5, 3)) yw_X5_offerAll vw_X11_210 rfl hl.1 rfl (Nat.le_of_ble_eq_true rfl) dX11_needed_18 ⟨Nat.le_of_ble_eq_true rfl, Nat.le_of_ble_eq_true rfl⟩ ⟨Nat.le_of_ble_eq_true rfl, Nat.le_of_ble_eq_true rfl⟩ (fun _ q => c_X5_offerAll q) hX (fun h17 H locs wd hX => ?_)
  refine lv_aload_n hx hb dX11_needed_21 rfl (lv_at hl 1 rfl) ?_
  refine mh_getR cx wd fl_X11_43 dX11_needed_22 hX (fun a18 hX => ?_)
  refine mh_callVI cx wd [] (rfl : vwCl[5]? = some (RX5, TX5, 3)) yw_X5_pick vw_X11_213 rfl hl.1 rfl (Nat.le_of_ble_eq_true rfl) dX11_needed_25 ⟨Nat.le_of_ble_eq_true rfl, Nat.le_of_ble_eq_true rfl⟩ ⟨Nat.le_of_ble_eq_true rfl, Nat.le_of_ble_eq_true rfl⟩ (fun _ _ q => c_X5_pick q) hX (fun v20 h19 H locs wd hX => ?_)
  refine lv_pop hx hb dX11_needed_28 rfl ?_
  refine lv_iconst (v := 0) hx hb dX11_needed_29 (by decide) ?_
  refine mh_topi hX (fun v21 hX => ?_)
  refine lv_istore_n (lv' := [(3, .int v21), (2, .ref a13), (0, .ref o0), (1, .int x1)]) hx hb dX11_needed_30 rfl hl (Nat.le_of_ble_eq_true rfl) rfl (fun ls hl => ?_)
  refine lv_iconst (v := 0) hx hb dX11_needed_31 (by decide) ?_
  refine mh_topi hX (fun v22 hX => ?_)
  refine lv_istore (lv' := [(4, .int v22), (3, .int v21), (2, .ref a13), (0, .ref o0), (1, .int x1)]) hx hb dX11_needed_32 hl (Nat.le_of_ble_eq_true rfl) rfl (fun ls hl => ?_)
  exact w_X11_needed_b34 cx th ht hr mh_fu _ _ _ _ h19 _ _ ls wd (lv_sub hl [3, 2, 1, 0] rfl) hX
set_option maxRecDepth 100000 in
theorem c_X11_needed {l : Launch} {L : List Nat} {h h' : mh_H} {r : Nat ⊕ Int32} {o0 : Nat} {x1 : Int32} (hX : f_X11_needed_e o0 x1 h = some (r, h')) : mh_Mx l yX11_needed (Cond.code yX11_needed cX11_needed 5 (some .int) :: mh_TB) (mh_rx 7 1) [.ref o0, .int x1] L h (mh_em mh_eI r) h' 1 6 :=
  mh_xof (by decide) (Nat.le_of_ble_eq_true rfl) (fun p e s m below meth c D ks ls hr cx th ht wd hl => by
    have hl : lv_has ls 5 [(0, .ref o0), (1, .int x1)] := hl
    exact w_X11_needed_e cx th ht hr o0 x1 h _ _ ls wd hl hX)
def f_X11_same_e (o0 : Nat) (x1 : Int32) (x2 : Int32) (h : mh_H) : Option ((Nat ⊕ Int32) × mh_H) :=
  mh_bx (mh_cal h o0 11 (f_X11_mintAt_e o0 x1 h)) fun a2 h1 =>
  mh_bx (mh_cal h1 o0 11 (f_X11_mintAt_e o0 x2 h1)) fun a4 h3 =>
  (mh_gR h3 o0 11 5).bind fun a5 =>
  (mh_cal h3 a5 5 (f_X5_clear_e a5 h3)).bind fun h6 =>
  (mh_gR h6 o0 11 5).bind fun a7 =>
  (mh_cal h6 a7 5 (f_X5_offerAll_e a7 a2 h6)).bind fun h8 =>
  (mh_gR h8 o0 11 5).bind fun a9 =>
  mh_b2 (mh_cal h8 a9 5 (f_X5_pick_e a9 h8)) fun v11 h10 =>
  (mh_gR h10 o0 11 6).bind fun a12 =>
  (mh_gR h10 o0 11 5).bind fun a13 =>
  mh_b2 (mh_cal h10 a13 5 (f_X5_picked_e a13 h10)) fun a15 h14 =>
  (mh_cal h14 a12 1 (f_X1_copy_e a12 a15 h14)).bind fun h16 =>
  (mh_gR h16 o0 11 5).bind fun a17 =>
  (mh_cal h16 a17 5 (f_X5_clear_e a17 h16)).bind fun h18 =>
  (mh_gR h18 o0 11 5).bind fun a19 =>
  (mh_cal h18 a19 5 (f_X5_offerAll_e a19 a4 h18)).bind fun h20 =>
  (mh_gR h20 o0 11 5).bind fun a21 =>
  mh_b2 (mh_cal h20 a21 5 (f_X5_pick_e a21 h20)) fun v23 h22 =>
  (mh_gR h22 o0 11 6).bind fun a24 =>
  (mh_gR h22 o0 11 5).bind fun a25 =>
  mh_b2 (mh_cal h22 a25 5 (f_X5_picked_e a25 h22)) fun a27 h26 =>
  mh_b2 (mh_cal h26 a24 1 (f_X1_alike_e a24 a27 h26)) fun v29 h28 =>
  mh_rzx v29 h28
set_option maxRecDepth 100000 in
set_option maxHeartbeats 4000000 in
theorem w_X11_same_e {p : Program} {l : Launch} {e : Env} {s : State} {m : MethodId} {args : Array Value} {below : List Frame} {meth : Method} {c : Code} {D : va_G} {ks : Nat → ClassId} {L : List Nat} {r : Nat ⊕ Int32} {h' : mh_H} (cx : mh_C p m c cX11_same 5 s args RX11 meth D ks (mh_A L s.heap.size)) (th : mh_Th l (mh_A L s.heap.size) s) (ht : ∀ x ∈ c.exceptionTable.toList, False) (hr : meth.sig.returnType = (some .boolean)) :
    ∀ (o0 : Nat) (x1 : Int32) (x2 : Int32) (h : mh_H) (H : Heap) (locs : List Loc) (ls : Array Slot), mh_W D ks L (mh_A L s.heap.size) s.heap h H locs → lv_has ls 5 [(0, .ref o0), (1, .int x1), (2, .int x2)] → f_X11_same_e o0 x1 x2 h = some (r, h') → W p l e (mh_rx 7 2) s m args below meth c H locs 0 0 (vx_MQ below (mh_Qx D ks L s.heap.size (mh_em mh_eI r) h') (mh_XC D ks L s.heap.size (mh_em mh_eI r) h') args s 2 12 (mh_A L s.heap.size)) (F0 m 0 ls []) := by
  intro o0 x1 x2 h H locs ls wd hl hX
  have hx := cx.1.1
  have hb := cx.1.2.1
  unfold f_X11_same_e at hX
  refine lv_aload_n hx hb dX11_same_0 rfl (lv_at hl 0 rfl) ?_
  refine lv_iload_n hx hb dX11_same_1 rfl (lv_at hl 1 rfl) ?_
  refine mh_xV mh_eR mh_eI (K := 1) [.int x1] cx th ht wd (rfl : vwCl[11]? = some (RX11, TX11, 16)) yw_X11_mintAt vw_X11_131 rfl hl.1 rfl (Nat.le_of_ble_eq_true rfl) dX11_same_2 ⟨Nat.le_of_ble_eq_true rfl, Nat.le_of_ble_eq_true rfl⟩ ⟨Nat.le_of_ble_eq_true rfl, Nat.le_of_ble_eq_true rfl⟩ ⟨Nat.le_of_ble_eq_true rfl, Nat.le_of_ble_eq_true rfl⟩ (fun _ _ q => c_X11_mintAt q) hX (fun a2 h1 H locs wd hX => ?_)
  refine W.eq (g2 := F0 m 5 ls [.ref a2]) rfl ?_
  refine lv_astore_n (lv' := [(3, .ref a2), (0, .ref o0), (1, .int x1), (2, .int x2)]) hx hb dX11_same_5 rfl hl (Nat.le_of_ble_eq_true rfl) rfl (fun ls hl => ?_)
  refine lv_aload_n hx hb dX11_same_6 rfl (lv_at hl 1 rfl) ?_
  refine lv_iload_n hx hb dX11_same_7 rfl (lv_at hl 3 rfl) ?_
  refine mh_xV mh_eR mh_eI (K := 1) [.int x2] cx th ht wd (rfl : vwCl[11]? = some (RX11, TX11, 16)) yw_X11_mintAt vw_X11_131 rfl hl.1 rfl (Nat.le_of_ble_eq_true rfl) dX11_same_8 ⟨Nat.le_of_ble_eq_true rfl, Nat.le_of_ble_eq_true rfl⟩ ⟨Nat.le_of_ble_eq_true rfl, Nat.le_of_ble_eq_true rfl⟩ ⟨Nat.le_of_ble_eq_true rfl, Nat.le_of_ble_eq_true rfl⟩ (fun _ _ q => c_X11_mintAt q) hX (fun a4 h3 H locs wd hX => ?_)
  refine W.eq (g2 := F0 m 11 ls [.ref a4]) rfl ?_
  refine lv_astore (lv' := [(4, .ref a4), (3, .ref a2), (0, .ref o0), (1, .int x1), (2, .int x2)]) hx hb dX11_same_11 hl (Nat.le_of_ble_eq_true rfl) rfl (fun ls hl => ?_)
  refine lv_aload_n hx hb dX11_same_13 rfl (lv_at hl 2 rfl) ?_
  refine mh_getR cx wd fl_X11_43 dX11_same_14 hX (fun a5 hX => ?_)
  refine mh_callVV cx wd [] (rfl : vwCl[5]? = some (RX5, TX5, 3)) yw_X5_clear vw_X11_207 rfl hl.1 rfl (Nat.le_of_ble_eq_true rfl) dX11_same_17 ⟨Nat.le_of_ble_eq_true rfl, Nat.le_of_ble_eq_true rfl⟩ ⟨Nat.le_of_ble_eq_true rfl, Nat.le_of_ble_eq_true rfl⟩ (fun _ q => c_X5_clear q) hX (fun h6 H locs wd hX => ?_)
  refine lv_aload_n hx hb dX11_same_20 rfl (lv_at hl 2 rfl) ?_
  refine mh_getR cx wd fl_X11_43 dX11_same_21 hX (fun a7 hX => ?_)
  refine lv_aload_n hx hb dX11_same_24 rfl (lv_at hl 1 rfl) ?_
  refine mh_callVV cx wd [.ref a2] (rfl : vwCl[5]? = some (RX5, TX5, 3)) yw_X5_offerAll vw_X11_210 rfl hl.1 rfl (Nat.le_of_ble_eq_true rfl) dX11_same_25 ⟨Nat.le_of_ble_eq_true rfl, Nat.le_of_ble_eq_true rfl⟩ ⟨Nat.le_of_ble_eq_true rfl, Nat.le_of_ble_eq_true rfl⟩ (fun _ q => c_X5_offerAll q) hX (fun h8 H locs wd hX => ?_)
  refine lv_aload_n hx hb dX11_same_28 rfl (lv_at hl 2 rfl) ?_
  refine mh_getR cx wd fl_X11_43 dX11_same_29 hX (fun a9 hX => ?_)
  refine mh_callVI cx wd [] (rfl : vwCl[5]? = some (RX5, TX5, 3)) yw_X5_pick vw_X11_213 rfl hl.1 rfl (Nat.le_of_ble_eq_true rfl) dX11_same_32 ⟨Nat.le_of_ble_eq_true rfl, Nat.le_of_ble_eq_true rfl⟩ ⟨Nat.le_of_ble_eq_true rfl, Nat.le_of_ble_eq_true rfl⟩ (fun _ _ q => c_X5_pick q) hX (fun v11 h10 H locs wd hX => ?_)
  refine lv_pop hx hb dX11_same_35 rfl ?_
  refine lv_aload_n hx hb dX11_same_36 rfl (lv_at hl 2 rfl) ?_
  refine mh_getR cx wd fl_X11_50 dX11_same_37 hX (fun a12 hX => ?_)
  refine lv_aload_n hx hb dX11_same_40 rfl (lv_at hl 2 rfl) ?_
  refine mh_getR cx wd fl_X11_43 dX11_same_41 hX (fun a13 hX => ?_)
  refine mh_callVR cx wd [] (rfl : vwCl[5]? = some (RX5, TX5, 3)) yw_X5_picked vw_X11_216 rfl hl.1 rfl (Nat.le_of_ble_eq_true rfl) dX11_same_44 ⟨Nat.le_of_ble_eq_true rfl, Nat.le_of_ble_eq_true rfl⟩ ⟨Nat.le_of_ble_eq_true rfl, Nat.le_of_ble_eq_true rfl⟩ (fun _ _ q => c_X5_picked q) hX (fun a15 h14 H locs wd hX => ?_)
  refine mh_callVV cx wd [.ref a15] (rfl : vwCl[1]? = some (RX1, TX1, 2)) yw_X1_copy vw_X11_220 rfl hl.1 rfl (Nat.le_of_ble_eq_true rfl) dX11_same_47 ⟨Nat.le_of_ble_eq_true rfl, Nat.le_of_ble_eq_true rfl⟩ ⟨Nat.le_of_ble_eq_true rfl, Nat.le_of_ble_eq_true rfl⟩ (fun _ q => c_X1_copy q) hX (fun h16 H locs wd hX => ?_)
  refine lv_aload_n hx hb dX11_same_50 rfl (lv_at hl 2 rfl) ?_
  refine mh_getR cx wd fl_X11_43 dX11_same_51 hX (fun a17 hX => ?_)
  refine mh_callVV cx wd [] (rfl : vwCl[5]? = some (RX5, TX5, 3)) yw_X5_clear vw_X11_207 rfl hl.1 rfl (Nat.le_of_ble_eq_true rfl) dX11_same_54 ⟨Nat.le_of_ble_eq_true rfl, Nat.le_of_ble_eq_true rfl⟩ ⟨Nat.le_of_ble_eq_true rfl, Nat.le_of_ble_eq_true rfl⟩ (fun _ q => c_X5_clear q) hX (fun h18 H locs wd hX => ?_)
  refine lv_aload_n hx hb dX11_same_57 rfl (lv_at hl 2 rfl) ?_
  refine mh_getR cx wd fl_X11_43 dX11_same_58 hX (fun a19 hX => ?_)
  refine lv_aload hx hb dX11_same_61 (lv_at hl 0 rfl) ?_
  refine mh_callVV cx wd [.ref a4] (rfl : vwCl[5]? = some (RX5, TX5, 3)) yw_X5_offerAll vw_X11_210 rfl hl.1 rfl (Nat.le_of_ble_eq_true rfl) dX11_same_63 ⟨Nat.le_of_ble_eq_true rfl, Nat.le_of_ble_eq_true rfl⟩ ⟨Nat.le_of_ble_eq_true rfl, Nat.le_of_ble_eq_true rfl⟩ (fun _ q => c_X5_offerAll q) hX (fun h20 H locs wd hX => ?_)
  refine lv_aload_n hx hb dX11_same_66 rfl (lv_at hl 2 rfl) ?_
  refine mh_getR cx wd fl_X11_43 dX11_same_67 hX (fun a21 hX => ?_)
  refine mh_callVI cx wd [] (rfl : vwCl[5]? = some (RX5, TX5, 3)) yw_X5_pick vw_X11_213 rfl hl.1 rfl (Nat.le_of_ble_eq_true rfl) dX11_same_70 ⟨Nat.le_of_ble_eq_true rfl, Nat.le_of_ble_eq_true rfl⟩ ⟨Nat.le_of_ble_eq_true rfl, Nat.le_of_ble_eq_true rfl⟩ (fun _ _ q => c_X5_pick q) hX (fun v23 h22 H locs wd hX => ?_)
  refine lv_pop hx hb dX11_same_73 rfl ?_
  refine lv_aload_n hx hb dX11_same_74 rfl (lv_at hl 2 rfl) ?_
  refine mh_getR cx wd fl_X11_50 dX11_same_75 hX (fun a24 hX => ?_)
  refine lv_aload_n hx hb dX11_same_78 rfl (lv_at hl 2 rfl) ?_
  refine mh_getR cx wd fl_X11_43 dX11_same_79 hX (fun a25 hX => ?_)
  refine mh_callVR cx wd [] (rfl : vwCl[5]? = some (RX5, TX5, 3)) yw_X5_picked vw_X11_216 rfl hl.1 rfl (Nat.le_of_ble_eq_true rfl) dX11_same_82 ⟨Nat.le_of_ble_eq_true rfl, Nat.le_of_ble_eq_true rfl⟩ ⟨Nat.le_of_ble_eq_true rfl, Nat.le_of_ble_eq_true rfl⟩ (fun _ _ q => c_X5_picked q) hX (fun a27 h26 H locs wd hX => ?_)
  refine mh_callVI cx wd [.ref a27] (rfl : vwCl[1]? = some (RX1, TX1, 2)) yw_X1_alike vw_X11_223 rfl hl.1 rfl (Nat.le_of_ble_eq_true rfl) dX11_same_85 ⟨Nat.le_of_ble_eq_true rfl, Nat.le_of_ble_eq_true rfl⟩ ⟨Nat.le_of_ble_eq_true rfl, Nat.le_of_ble_eq_true rfl⟩ (fun _ _ q => c_X1_alike q) hX (fun v29 h28 H locs wd hX => ?_)
  exact mh_xzret cx wd hr hX dX11_same_88 ⟨Nat.le_of_ble_eq_true rfl, Nat.le_of_ble_eq_true rfl⟩
set_option maxRecDepth 100000 in
theorem c_X11_same {l : Launch} {L : List Nat} {h h' : mh_H} {r : Nat ⊕ Int32} {o0 : Nat} {x1 : Int32} {x2 : Int32} (hX : f_X11_same_e o0 x1 x2 h = some (r, h')) : mh_Mx l yX11_same (Cond.code yX11_same cX11_same 5 (some .boolean) :: mh_TB) (mh_rx 7 2) [.ref o0, .int x1, .int x2] L h (mh_em mh_eI r) h' 2 12 :=
  mh_xof (by decide) (Nat.le_of_ble_eq_true rfl) (fun p e s m below meth c D ks ls hr cx th ht wd hl => by
    have hl : lv_has ls 5 [(0, .ref o0), (1, .int x1), (2, .int x2)] := hl
    exact w_X11_same_e cx th ht hr o0 x1 x2 h _ _ ls wd hl hX)
def f_X11_join_b64 (t0 : Int32) (h : mh_H) : Option ((Nat ⊕ Int32) × mh_H) :=
  some (.inr t0, h)
def f_X11_join_e (o0 : Nat) (x1 : Int32) (x2 : Int32) (x3 : Int32) (h : mh_H) : Option ((Nat ⊕ Int32) × mh_H) :=
  mh_bx (mh_cal h o0 11 (f_X11_mintAt_e o0 x1 h)) fun a2 h1 =>
  mh_bx (mh_cal h1 o0 11 (f_X11_mintAt_e o0 x2 h1)) fun a4 h3 =>
  mh_bx (mh_cal h3 o0 11 (f_X11_mintAt_e o0 x3 h3)) fun a6 h5 =>
  (mh_gR h5 o0 11 5).bind fun a7 =>
  (mh_cal h5 a7 5 (f_X5_clear_e a7 h5)).bind fun h8 =>
  (mh_gR h8 o0 11 5).bind fun a9 =>
  (mh_cal h8 a9 5 (f_X5_offerAll_e a9 a2 h8)).bind fun h10 =>
  (mh_gR h10 o0 11 5).bind fun a11 =>
  (mh_cal h10 a11 5 (f_X5_offerAll_e a11 a4 h10)).bind fun h12 =>
  (mh_gR h12 o0 11 5).bind fun a13 =>
  mh_b2 (mh_cal h12 a13 5 (f_X5_pick_e a13 h12)) fun v15 h14 =>
  if v15 = 0 then (
  f_X11_join_b64 (-1 : Int32) h14) else
  mh_b2 (mh_cal h14 o0 11 (f_X11_becomePicked_e o0 x3 h14)) fun v17 h16 =>
  f_X11_join_b64 v17 h16
set_option maxRecDepth 100000 in
set_option maxHeartbeats 4000000 in
theorem w_X11_join_b64 {p : Program} {l : Launch} {e : Env} {s : State} {m : MethodId} {args : Array Value} {below : List Frame} {meth : Method} {c : Code} {D : va_G} {ks : Nat → ClassId} {L : List Nat} {r : Nat ⊕ Int32} {h' : mh_H} (cx : mh_C p m c cX11_join 6 s args RX11 meth D ks (mh_A L s.heap.size)) (th : mh_Th l (mh_A L s.heap.size) s) (ht : ∀ x ∈ c.exceptionTable.toList, False) (hr : meth.sig.returnType = (some .int)) :
    ∀ (t0 : Int32) (h : mh_H) (H : Heap) (locs : List Loc) (ls : Array Slot), mh_W D ks L (mh_A L s.heap.size) s.heap h H locs → lv_has ls 6 [] → f_X11_join_b64 t0 h = some (r, h') → W p l e (mh_rx 7 3) s m args below meth c H locs 3 18 (vx_MQ below (mh_Qx D ks L s.heap.size (mh_em mh_eI r) h') (mh_XC D ks L s.heap.size (mh_em mh_eI r) h') args s 3 18 (mh_A L s.heap.size)) (F0 m 64 ls [.int t0]) := by
  intro t0 h H locs ls wd hl hX
  have hx := cx.1.1
  have hb := cx.1.2.1
  unfold f_X11_join_b64 at hX
  exact mh_xiret cx wd hr hX dX11_join_64 ⟨Nat.le_of_ble_eq_true rfl, Nat.le_of_ble_eq_true rfl⟩
set_option maxRecDepth 100000 in
set_option maxHeartbeats 4000000 in
theorem w_X11_join_e {p : Program} {l : Launch} {e : Env} {s : State} {m : MethodId} {args : Array Value} {below : List Frame} {meth : Method} {c : Code} {D : va_G} {ks : Nat → ClassId} {L : List Nat} {r : Nat ⊕ Int32} {h' : mh_H} (cx : mh_C p m c cX11_join 6 s args RX11 meth D ks (mh_A L s.heap.size)) (th : mh_Th l (mh_A L s.heap.size) s) (ht : ∀ x ∈ c.exceptionTable.toList, False) (hr : meth.sig.returnType = (some .int)) :
    ∀ (o0 : Nat) (x1 : Int32) (x2 : Int32) (x3 : Int32) (h : mh_H) (H : Heap) (locs : List Loc) (ls : Array Slot), mh_W D ks L (mh_A L s.heap.size) s.heap h H locs → lv_has ls 6 [(0, .ref o0), (1, .int x1), (2, .int x2), (3, .int x3)] → f_X11_join_e o0 x1 x2 x3 h = some (r, h') → W p l e (mh_rx 7 3) s m args below meth c H locs 0 0 (vx_MQ below (mh_Qx D ks L s.heap.size (mh_em mh_eI r) h') (mh_XC D ks L s.heap.size (mh_em mh_eI r) h') args s 3 18 (mh_A L s.heap.size)) (F0 m 0 ls []) := by
  intro o0 x1 x2 x3 h H locs ls wd hl hX
  have hx := cx.1.1
  have hb := cx.1.2.1
  unfold f_X11_join_e at hX
  refine lv_aload_n hx hb dX11_join_0 rfl (lv_at hl 0 rfl) ?_
  refine lv_iload_n hx hb dX11_join_1 rfl (lv_at hl 1 rfl) ?_
  refine mh_xV mh_eR mh_eI (K := 1) [.int x1] cx th ht wd (rfl : vwCl[11]? = some (RX11, TX11, 16)) yw_X11_mintAt vw_X11_131 rfl hl.1 rfl (Nat.le_of_ble_eq_true rfl) dX11_join_2 ⟨Nat.le_of_ble_eq_true rfl, Nat.le_of_ble_eq_true rfl⟩ ⟨Nat.le_of_ble_eq_true rfl, Nat.le_of_ble_eq_true rfl⟩ ⟨Nat.le_of_ble_eq_true rfl, Nat.le_of_ble_eq_true rfl⟩ (fun _ _ q => c_X11_mintAt q) hX (fun a2 h1 H locs wd hX => ?_)
  refine W.eq (g2 := F0 m 5 ls [.ref a2]) rfl ?_
  refine lv_astore (lv' := [(4, .ref a2), (0, .ref o0), (1, .int x1), (2, .int x2), (3, .int x3)]) hx hb dX11_join_5 hl (Nat.le_of_ble_eq_true rfl) rfl (fun ls hl => ?_)
  refine lv_aload_n hx hb dX11_join_7 rfl (lv_at hl 1 rfl) ?_
  refine lv_iload_n hx hb dX11_join_8 rfl (lv_at hl 3 rfl) ?_
  refine mh_xV mh_eR mh_eI (K := 1) [.int x2] cx th ht wd (rfl : vwCl[11]? = some (RX11, TX11, 16)) yw_X11_mintAt vw_X11_131 rfl hl.1 rfl (Nat.le_of_ble_eq_true rfl) dX11_join_9 ⟨Nat.le_of_ble_eq_true rfl, Nat.le_of_ble_eq_true rfl⟩ ⟨Nat.le_of_ble_eq_true rfl, Nat.le_of_ble_eq_true rfl⟩ ⟨Nat.le_of_ble_eq_true rfl, Nat.le_of_ble_eq_true rfl⟩ (fun _ _ q => c_X11_mintAt q) hX (fun a4 h3 H locs wd hX => ?_)
  refine W.eq (g2 := F0 m 12 ls [.ref a4]) rfl ?_
  refine lv_astore (lv' := [(5, .ref a4), (4, .ref a2), (0, .ref o0), (1, .int x1), (2, .int x2), (3, .int x3)]) hx hb dX11_join_12 hl (Nat.le_of_ble_eq_true rfl) rfl (fun ls hl => ?_)
  refine lv_aload_n hx hb dX11_join_14 rfl (lv_at hl 2 rfl) ?_
  refine lv_iload_n hx hb dX11_join_15 rfl (lv_at hl 5 rfl) ?_
  refine mh_xV mh_eR mh_eI (K := 1) [.int x3] cx th ht wd (rfl : vwCl[11]? = some (RX11, TX11, 16)) yw_X11_mintAt vw_X11_131 rfl hl.1 rfl (Nat.le_of_ble_eq_true rfl) dX11_join_16 ⟨Nat.le_of_ble_eq_true rfl, Nat.le_of_ble_eq_true rfl⟩ ⟨Nat.le_of_ble_eq_true rfl, Nat.le_of_ble_eq_true rfl⟩ ⟨Nat.le_of_ble_eq_true rfl, Nat.le_of_ble_eq_true rfl⟩ (fun _ _ q => c_X11_mintAt q) hX (fun a6 h5 H locs wd hX => ?_)
  refine W.eq (g2 := F0 m 19 ls [.ref a6]) rfl ?_
  refine lv_pop hx hb dX11_join_19 rfl ?_
  refine lv_aload_n hx hb dX11_join_20 rfl (lv_at hl 2 rfl) ?_
  refine mh_getR cx wd fl_X11_43 dX11_join_21 hX (fun a7 hX => ?_)
  refine mh_callVV cx wd [] (rfl : vwCl[5]? = some (RX5, TX5, 3)) yw_X5_clear vw_X11_207 rfl hl.1 rfl (Nat.le_of_ble_eq_true rfl) dX11_join_24 ⟨Nat.le_of_ble_eq_true rfl, Nat.le_of_ble_eq_true rfl⟩ ⟨Nat.le_of_ble_eq_true rfl, Nat.le_of_ble_eq_true rfl⟩ (fun _ q => c_X5_clear q) hX (fun h8 H locs wd hX => ?_)
  refine lv_aload_n hx hb dX11_join_27 rfl (lv_at hl 2 rfl) ?_
  refine mh_getR cx wd fl_X11_43 dX11_join_28 hX (fun a9 hX => ?_)
  refine lv_aload hx hb dX11_join_31 (lv_at hl 1 rfl) ?_
  refine mh_callVV cx wd [.ref a2] (rfl : vwCl[5]? = some (RX5, TX5, 3)) yw_X5_offerAll vw_X11_210 rfl hl.1 rfl (Nat.le_of_ble_eq_true rfl) dX11_join_33 ⟨Nat.le_of_ble_eq_true rfl, Nat.le_of_ble_eq_true rfl⟩ ⟨Nat.le_of_ble_eq_true rfl, Nat.le_of_ble_eq_true rfl⟩ (fun _ q => c_X5_offerAll q) hX (fun h10 H locs wd hX => ?_)
  refine lv_aload_n hx hb dX11_join_36 rfl (lv_at hl 2 rfl) ?_
  refine mh_getR cx wd fl_X11_43 dX11_join_37 hX (fun a11 hX => ?_)
  refine lv_aload hx hb dX11_join_40 (lv_at hl 0 rfl) ?_
  refine mh_callVV cx wd [.ref a4] (rfl : vwCl[5]? = some (RX5, TX5, 3)) yw_X5_offerAll vw_X11_210 rfl hl.1 rfl (Nat.le_of_ble_eq_true rfl) dX11_join_42 ⟨Nat.le_of_ble_eq_true rfl, Nat.le_of_ble_eq_true rfl⟩ ⟨Nat.le_of_ble_eq_true rfl, Nat.le_of_ble_eq_true rfl⟩ (fun _ q => c_X5_offerAll q) hX (fun h12 H locs wd hX => ?_)
  refine lv_aload_n hx hb dX11_join_45 rfl (lv_at hl 2 rfl) ?_
  refine mh_getR cx wd fl_X11_43 dX11_join_46 hX (fun a13 hX => ?_)
  refine mh_callVI cx wd [] (rfl : vwCl[5]? = some (RX5, TX5, 3)) yw_X5_pick vw_X11_213 rfl hl.1 rfl (Nat.le_of_ble_eq_true rfl) dX11_join_49 ⟨Nat.le_of_ble_eq_true rfl, Nat.le_of_ble_eq_true rfl⟩ ⟨Nat.le_of_ble_eq_true rfl, Nat.le_of_ble_eq_true rfl⟩ (fun _ _ q => c_X5_pick q) hX (fun v15 h14 H locs wd hX => ?_)
  refine lv_if_eq (tgt := 63) hx hb dX11_join_52 rfl (fun hc => (fun hX => ?_) ((mh_if hX).1 hc)) (fun hc => (fun hX => ?_) ((mh_if hX).2 hc))
  · refine lv_iconst (v := (-1)) hx hb dX11_join_63 (by decide) ?_
    exact w_X11_join_b64 cx th ht hr _ h14 _ _ ls wd (lv_sub hl [] rfl) hX
  · refine lv_aload_n hx hb dX11_join_55 rfl (lv_at hl 2 rfl) ?_
    refine lv_iload_n hx hb dX11_join_56 rfl (lv_at hl 5 rfl) ?_
    refine mh_callVI cx wd [.int x3] (rfl : vwCl[11]? = some (RX11, TX11, 16)) yw_X11_becomePicked vw_X11_227 rfl hl.1 rfl (Nat.le_of_ble_eq_true rfl) dX11_join_57 ⟨Nat.le_of_ble_eq_true rfl, Nat.le_of_ble_eq_true rfl⟩ ⟨Nat.le_of_ble_eq_true rfl, Nat.le_of_ble_eq_true rfl⟩ (fun _ _ q => c_X11_becomePicked q) hX (fun v17 h16 H locs wd hX => ?_)
    refine lv_goto (tgt := 64) hx hb dX11_join_60 rfl ?_
    exact w_X11_join_b64 cx th ht hr _ h16 _ _ ls wd (lv_sub hl [] rfl) hX
set_option maxRecDepth 100000 in
theorem c_X11_join {l : Launch} {L : List Nat} {h h' : mh_H} {r : Nat ⊕ Int32} {o0 : Nat} {x1 : Int32} {x2 : Int32} {x3 : Int32} (hX : f_X11_join_e o0 x1 x2 x3 h = some (r, h')) : mh_Mx l yX11_join (Cond.code yX11_join cX11_join 6 (some .int) :: mh_TB) (mh_rx 7 3) [.ref o0, .int x1, .int x2, .int x3] L h (mh_em mh_eI r) h' 3 18 :=
  mh_xof (by decide) (Nat.le_of_ble_eq_true rfl) (fun p e s m below meth c D ks ls hr cx th ht wd hl => by
    have hl : lv_has ls 6 [(0, .ref o0), (1, .int x1), (2, .int x2), (3, .int x3)] := hl
    exact w_X11_join_e cx th ht hr o0 x1 x2 x3 h _ _ ls wd hl hX)
def f_X11_part_b43 (o0 : Nat) (x3 : Int32) (h : mh_H) : Option ((Nat ⊕ Int32) × mh_H) :=
  (mh_gR h o0 11 5).bind fun a1 =>
  mh_b2 (mh_cal h a1 5 (f_X5_pick_e a1 h)) fun v3 h2 =>
  mh_b2 (mh_cal h2 o0 11 (f_X11_becomePicked_e o0 x3 h2)) fun v5 h4 =>
  some (.inr v5, h4)
def f_X11_part_b95 (t0 : Int32) (h : mh_H) : Option ((Nat ⊕ Int32) × mh_H) :=
  some (.inr t0, h)
def f_X11_part_b94 (k95 : Int32 → mh_H → Option ((Nat ⊕ Int32) × mh_H)) (h : mh_H) : Option ((Nat ⊕ Int32) × mh_H) :=
  k95 (-1 : Int32) h
def f_X11_part_e (o0 : Nat) (x1 : Int32) (x2 : Int32) (x3 : Int32) (h : mh_H) : Option ((Nat ⊕ Int32) × mh_H) :=
  mh_bx (mh_cal h o0 11 (f_X11_mintAt_e o0 x1 h)) fun a7 h6 =>
  mh_bx (mh_cal h6 o0 11 (f_X11_mintAt_e o0 x2 h6)) fun a9 h8 =>
  mh_bx (mh_cal h8 o0 11 (f_X11_mintAt_e o0 x3 h8)) fun a11 h10 =>
  (mh_gR h10 o0 11 5).bind fun a12 =>
  (mh_cal h10 a12 5 (f_X5_clear_e a12 h10)).bind fun h13 =>
  mh_b2 (mh_cal h13 a7 1 (f_X1_count_e a7 h13)) fun v15 h14 =>
  if v15 = 0 then (
  f_X11_part_b43 o0 x3 h14) else
  mh_b2 (mh_cal h14 a9 1 (f_X1_count_e a9 h14)) fun v17 h16 =>
  if v17 = 0 then (
  f_X11_part_b43 o0 x3 h16) else
  (mh_cal h16 o0 11 (f_X11_offerCommon_e o0 a7 a9 h16)).bind fun h18 =>
  (mh_gR h18 o0 11 5).bind fun a19 =>
  mh_b2 (mh_cal h18 a19 5 (f_X5_pick_e a19 h18)) fun v21 h20 =>
  if v21 = 0 then (
  f_X11_part_b94 (f_X11_part_b95) h20) else
  mh_b2 (mh_cal h20 o0 11 (f_X11_pickedPayCommon_e o0 a7 a9 h20)) fun v23 h22 =>
  if v23 = 0 then (
  f_X11_part_b94 (f_X11_part_b95) h22) else
  mh_b2 (mh_cal h22 o0 11 (f_X11_becomePicked_e o0 x3 h22)) fun v25 h24 =>
  f_X11_part_b95 v25 h24
set_option maxRecDepth 100000 in
set_option maxHeartbeats 4000000 in
theorem w_X11_part_b43 {p : Program} {l : Launch} {e : Env} {s : State} {m : MethodId} {args : Array Value} {below : List Frame} {meth : Method} {c : Code} {D : va_G} {ks : Nat → ClassId} {L : List Nat} {r : Nat ⊕ Int32} {h' : mh_H} (cx : mh_C p m c cX11_part 6 s args RX11 meth D ks (mh_A L s.heap.size)) (th : mh_Th l (mh_A L s.heap.size) s) (ht : ∀ x ∈ c.exceptionTable.toList, False) (hr : meth.sig.returnType = (some .int)) :
    ∀ (o0 : Nat) (x3 : Int32) (h : mh_H) (H : Heap) (locs : List Loc) (ls : Array Slot), mh_W D ks L (mh_A L s.heap.size) s.heap h H locs → lv_has ls 6 [(0, .ref o0), (3, .int x3)] → f_X11_part_b43 o0 x3 h = some (r, h') → W p l e (mh_rx 7 3) s m args below meth c H locs 3 18 (vx_MQ below (mh_Qx D ks L s.heap.size (mh_em mh_eI r) h') (mh_XC D ks L s.heap.size (mh_em mh_eI r) h') args s 3 18 (mh_A L s.heap.size)) (F0 m 43 ls []) := by
  intro o0 x3 h H locs ls wd hl hX
  have hx := cx.1.1
  have hb := cx.1.2.1
  unfold f_X11_part_b43 at hX
  refine lv_aload_n hx hb dX11_part_43 rfl (lv_at hl 0 rfl) ?_
  refine mh_getR cx wd fl_X11_43 dX11_part_44 hX (fun a1 hX => ?_)
  refine mh_callVI cx wd [] (rfl : vwCl[5]? = some (RX5, TX5, 3)) yw_X5_pick vw_X11_213 rfl hl.1 rfl (Nat.le_of_ble_eq_true rfl) dX11_part_47 ⟨Nat.le_of_ble_eq_true rfl, Nat.le_of_ble_eq_true rfl⟩ ⟨Nat.le_of_ble_eq_true rfl, Nat.le_of_ble_eq_true rfl⟩ (fun _ _ q => c_X5_pick q) hX (fun v3 h2 H locs wd hX => ?_)
  refine lv_pop hx hb dX11_part_50 rfl ?_
  refine lv_aload_n hx hb dX11_part_51 rfl (lv_at hl 0 rfl) ?_
  refine lv_iload_n hx hb dX11_part_52 rfl (lv_at hl 1 rfl) ?_
  refine mh_callVI cx wd [.int x3] (rfl : vwCl[11]? = some (RX11, TX11, 16)) yw_X11_becomePicked vw_X11_227 rfl hl.1 rfl (Nat.le_of_ble_eq_true rfl) dX11_part_53 ⟨Nat.le_of_ble_eq_true rfl, Nat.le_of_ble_eq_true rfl⟩ ⟨Nat.le_of_ble_eq_true rfl, Nat.le_of_ble_eq_true rfl⟩ (fun _ _ q => c_X11_becomePicked q) hX (fun v5 h4 H locs wd hX => ?_)
  exact mh_xiret cx wd hr hX dX11_part_56 ⟨Nat.le_of_ble_eq_true rfl, Nat.le_of_ble_eq_true rfl⟩
set_option maxRecDepth 100000 in
set_option maxHeartbeats 4000000 in
theorem w_X11_part_b95 {p : Program} {l : Launch} {e : Env} {s : State} {m : MethodId} {args : Array Value} {below : List Frame} {meth : Method} {c : Code} {D : va_G} {ks : Nat → ClassId} {L : List Nat} {r : Nat ⊕ Int32} {h' : mh_H} (cx : mh_C p m c cX11_part 6 s args RX11 meth D ks (mh_A L s.heap.size)) (th : mh_Th l (mh_A L s.heap.size) s) (ht : ∀ x ∈ c.exceptionTable.toList, False) (hr : meth.sig.returnType = (some .int)) :
    ∀ (t0 : Int32) (h : mh_H) (H : Heap) (locs : List Loc) (ls : Array Slot), mh_W D ks L (mh_A L s.heap.size) s.heap h H locs → lv_has ls 6 [] → f_X11_part_b95 t0 h = some (r, h') → W p l e (mh_rx 7 3) s m args below meth c H locs 3 18 (vx_MQ below (mh_Qx D ks L s.heap.size (mh_em mh_eI r) h') (mh_XC D ks L s.heap.size (mh_em mh_eI r) h') args s 3 18 (mh_A L s.heap.size)) (F0 m 95 ls [.int t0]) := by
  intro t0 h H locs ls wd hl hX
  have hx := cx.1.1
  have hb := cx.1.2.1
  unfold f_X11_part_b95 at hX
  exact mh_xiret cx wd hr hX dX11_part_95 ⟨Nat.le_of_ble_eq_true rfl, Nat.le_of_ble_eq_true rfl⟩
set_option maxRecDepth 100000 in
set_option maxHeartbeats 4000000 in
theorem w_X11_part_b94 {p : Program} {l : Launch} {e : Env} {s : State} {m : MethodId} {args : Array Value} {below : List Frame} {meth : Method} {c : Code} {D : va_G} {ks : Nat → ClassId} {L : List Nat} {r : Nat ⊕ Int32} {h' : mh_H} (k95 : Int32 → mh_H → Option ((Nat ⊕ Int32) × mh_H)) (cx : mh_C p m c cX11_part 6 s args RX11 meth D ks (mh_A L s.heap.size)) (th : mh_Th l (mh_A L s.heap.size) s) (ht : ∀ x ∈ c.exceptionTable.toList, False) (hr : meth.sig.returnType = (some .int))
    (hk95 : ∀ (t0 : Int32) (h : mh_H) (H : Heap) (locs : List Loc) (ls : Array Slot), mh_W D ks L (mh_A L s.heap.size) s.heap h H locs → lv_has ls 6 [] → k95 t0 h = some (r, h') → W p l e (mh_rx 7 3) s m args below meth c H locs 3 18 (vx_MQ below (mh_Qx D ks L s.heap.size (mh_em mh_eI r) h') (mh_XC D ks L s.heap.size (mh_em mh_eI r) h') args s 3 18 (mh_A L s.heap.size)) (F0 m 95 ls [.int t0])) :
    ∀ (h : mh_H) (H : Heap) (locs : List Loc) (ls : Array Slot), mh_W D ks L (mh_A L s.heap.size) s.heap h H locs → lv_has ls 6 [] → f_X11_part_b94 k95  h = some (r, h') → W p l e (mh_rx 7 3) s m args below meth c H locs 3 18 (vx_MQ below (mh_Qx D ks L s.heap.size (mh_em mh_eI r) h') (mh_XC D ks L s.heap.size (mh_em mh_eI r) h') args s 3 18 (mh_A L s.heap.size)) (F0 m 94 ls []) := by
  intro  h H locs ls wd hl hX
  have hx := cx.1.1
  have hb := cx.1.2.1
  unfold f_X11_part_b94 at hX
  refine lv_iconst (v := (-1)) hx hb dX11_part_94 (by decide) ?_
  exact hk95 _ h _ _ ls wd (lv_sub hl [] rfl) hX
set_option maxRecDepth 100000 in
set_option maxHeartbeats 4000000 in
theorem w_X11_part_e {p : Program} {l : Launch} {e : Env} {s : State} {m : MethodId} {args : Array Value} {below : List Frame} {meth : Method} {c : Code} {D : va_G} {ks : Nat → ClassId} {L : List Nat} {r : Nat ⊕ Int32} {h' : mh_H} (cx : mh_C p m c cX11_part 6 s args RX11 meth D ks (mh_A L s.heap.size)) (th : mh_Th l (mh_A L s.heap.size) s) (ht : ∀ x ∈ c.exceptionTable.toList, False) (hr : meth.sig.returnType = (some .int)) :
    ∀ (o0 : Nat) (x1 : Int32) (x2 : Int32) (x3 : Int32) (h : mh_H) (H : Heap) (locs : List Loc) (ls : Array Slot), mh_W D ks L (mh_A L s.heap.size) s.heap h H locs → lv_has ls 6 [(0, .ref o0), (1, .int x1), (2, .int x2), (3, .int x3)] → f_X11_part_e o0 x1 x2 x3 h = some (r, h') → W p l e (mh_rx 7 3) s m args below meth c H locs 0 0 (vx_MQ below (mh_Qx D ks L s.heap.size (mh_em mh_eI r) h') (mh_XC D ks L s.heap.size (mh_em mh_eI r) h') args s 3 18 (mh_A L s.heap.size)) (F0 m 0 ls []) := by
  intro o0 x1 x2 x3 h H locs ls wd hl hX
  have hx := cx.1.1
  have hb := cx.1.2.1
  unfold f_X11_part_e at hX
  refine lv_aload_n hx hb dX11_part_0 rfl (lv_at hl 0 rfl) ?_
  refine lv_iload_n hx hb dX11_part_1 rfl (lv_at hl 1 rfl) ?_
  refine mh_xV mh_eR mh_eI (K := 1) [.int x1] cx th ht wd (rfl : vwCl[11]? = some (RX11, TX11, 16)) yw_X11_mintAt vw_X11_131 rfl hl.1 rfl (Nat.le_of_ble_eq_true rfl) dX11_part_2 ⟨Nat.le_of_ble_eq_true rfl, Nat.le_of_ble_eq_true rfl⟩ ⟨Nat.le_of_ble_eq_true rfl, Nat.le_of_ble_eq_true rfl⟩ ⟨Nat.le_of_ble_eq_true rfl, Nat.le_of_ble_eq_true rfl⟩ (fun _ _ q => c_X11_mintAt q) hX (fun a7 h6 H locs wd hX => ?_)
  refine W.eq (g2 := F0 m 5 ls [.ref a7]) rfl ?_
  refine lv_astore (lv' := [(4, .ref a7), (0, .ref o0), (1, .int x1), (2, .int x2), (3, .int x3)]) hx hb dX11_part_5 hl (Nat.le_of_ble_eq_true rfl) rfl (fun ls hl => ?_)
  refine lv_aload_n hx hb dX11_part_7 rfl (lv_at hl 1 rfl) ?_
  refine lv_iload_n hx hb dX11_part_8 rfl (lv_at hl 3 rfl) ?_
  refine mh_xV mh_eR mh_eI (K := 1) [.int x2] cx th ht wd (rfl : vwCl[11]? = some (RX11, TX11, 16)) yw_X11_mintAt vw_X11_131 rfl hl.1 rfl (Nat.le_of_ble_eq_true rfl) dX11_part_9 ⟨Nat.le_of_ble_eq_true rfl, Nat.le_of_ble_eq_true rfl⟩ ⟨Nat.le_of_ble_eq_true rfl, Nat.le_of_ble_eq_true rfl⟩ ⟨Nat.le_of_ble_eq_true rfl, Nat.le_of_ble_eq_true rfl⟩ (fun _ _ q => c_X11_mintAt q) hX (fun a9 h8 H locs wd hX => ?_)
  refine W.eq (g2 := F0 m 12 ls [.ref a9]) rfl ?_
  refine lv_astore (lv' := [(5, .ref a9), (4, .ref a7), (0, .ref o0), (1, .int x1), (2, .int x2), (3, .int x3)]) hx hb dX11_part_12 hl (Nat.le_of_ble_eq_true rfl) rfl (fun ls hl => ?_)
  refine lv_aload_n hx hb dX11_part_14 rfl (lv_at hl 2 rfl) ?_
  refine lv_iload_n hx hb dX11_part_15 rfl (lv_at hl 5 rfl) ?_
  refine mh_xV mh_eR mh_eI (K := 1) [.int x3] cx th ht wd (rfl : vwCl[11]? = some (RX11, TX11, 16)) yw_X11_mintAt vw_X11_131 rfl hl.1 rfl (Nat.le_of_ble_eq_true rfl) dX11_part_16 ⟨Nat.le_of_ble_eq_true rfl, Nat.le_of_ble_eq_true rfl⟩ ⟨Nat.le_of_ble_eq_true rfl, Nat.le_of_ble_eq_true rfl⟩ ⟨Nat.le_of_ble_eq_true rfl, Nat.le_of_ble_eq_true rfl⟩ (fun _ _ q => c_X11_mintAt q) hX (fun a11 h10 H locs wd hX => ?_)
  refine W.eq (g2 := F0 m 19 ls [.ref a11]) rfl ?_
  refine lv_pop hx hb dX11_part_19 rfl ?_
  refine lv_aload_n hx hb dX11_part_20 rfl (lv_at hl 2 rfl) ?_
  refine mh_getR cx wd fl_X11_43 dX11_part_21 hX (fun a12 hX => ?_)
  refine mh_callVV cx wd [] (rfl : vwCl[5]? = some (RX5, TX5, 3)) yw_X5_clear vw_X11_207 rfl hl.1 rfl (Nat.le_of_ble_eq_true rfl) dX11_part_24 ⟨Nat.le_of_ble_eq_true rfl, Nat.le_of_ble_eq_true rfl⟩ ⟨Nat.le_of_ble_eq_true rfl, Nat.le_of_ble_eq_true rfl⟩ (fun _ q => c_X5_clear q) hX (fun h13 H locs wd hX => ?_)
  refine lv_aload hx hb dX11_part_27 (lv_at hl 1 rfl) ?_
  refine mh_callVI cx wd [] (rfl : vwCl[1]? = some (RX1, TX1, 2)) yw_X1_count vw_X11_123 rfl hl.1 rfl (Nat.le_of_ble_eq_true rfl) dX11_part_29 ⟨Nat.le_of_ble_eq_true rfl, Nat.le_of_ble_eq_true rfl⟩ ⟨Nat.le_of_ble_eq_true rfl, Nat.le_of_ble_eq_true rfl⟩ (fun _ _ q => c_X1_count q) hX (fun v15 h14 H locs wd hX => ?_)
  refine lv_if_eq (tgt := 43) hx hb dX11_part_32 rfl (fun hc => (fun hX => ?_) ((mh_if hX).1 hc)) (fun hc => (fun hX => ?_) ((mh_if hX).2 hc))
  · exact w_X11_part_b43 cx th ht hr _ _ h14 _ _ ls wd (lv_sub hl [2, 5] rfl) hX
  · refine lv_aload hx hb dX11_part_35 (lv_at hl 0 rfl) ?_
    refine mh_callVI cx wd [] (rfl : vwCl[1]? = some (RX1, TX1, 2)) yw_X1_count vw_X11_123 rfl hl.1 rfl (Nat.le_of_ble_eq_true rfl) dX11_part_37 ⟨Nat.le_of_ble_eq_true rfl, Nat.le_of_ble_eq_true rfl⟩ ⟨Nat.le_of_ble_eq_true rfl, Nat.le_of_ble_eq_true rfl⟩ (fun _ _ q => c_X1_count q) hX (fun v17 h16 H locs wd hX => ?_)
    refine lv_if_ne (tgt := 57) hx hb dX11_part_40 rfl (fun hc => (fun hX => ?_) ((mh_if hX).2 hc)) (fun hc => (fun hX => ?_) ((mh_if hX).1 hc))
    · refine lv_aload_n hx hb dX11_part_57 rfl (lv_at hl 2 rfl) ?_
      refine lv_aload hx hb dX11_part_58 (lv_at hl 1 rfl) ?_
      refine lv_aload hx hb dX11_part_60 (lv_at hl 0 rfl) ?_
      refine mh_callVV cx wd [.ref a7, .ref a9] (rfl : vwCl[11]? = some (RX11, TX11, 16)) yw_X11_offerCommon vw_X11_230 rfl hl.1 rfl (Nat.le_of_ble_eq_true rfl) dX11_part_62 ⟨Nat.le_of_ble_eq_true rfl, Nat.le_of_ble_eq_true rfl⟩ ⟨Nat.le_of_ble_eq_true rfl, Nat.le_of_ble_eq_true rfl⟩ (fun _ q => c_X11_offerCommon q) hX (fun h18 H locs wd hX => ?_)
      refine lv_aload_n hx hb dX11_part_65 rfl (lv_at hl 2 rfl) ?_
      refine mh_getR cx wd fl_X11_43 dX11_part_66 hX (fun a19 hX => ?_)
      refine mh_callVI cx wd [] (rfl : vwCl[5]? = some (RX5, TX5, 3)) yw_X5_pick vw_X11_213 rfl hl.1 rfl (Nat.le_of_ble_eq_true rfl) dX11_part_69 ⟨Nat.le_of_ble_eq_true rfl, Nat.le_of_ble_eq_true rfl⟩ ⟨Nat.le_of_ble_eq_true rfl, Nat.le_of_ble_eq_true rfl⟩ (fun _ _ q => c_X5_pick q) hX (fun v21 h20 H locs wd hX => ?_)
      refine lv_if_eq (tgt := 94) hx hb dX11_part_72 rfl (fun hc => (fun hX => ?_) ((mh_if hX).1 hc)) (fun hc => (fun hX => ?_) ((mh_if hX).2 hc))
      · exact w_X11_part_b94 (f_X11_part_b95) cx th ht hr (w_X11_part_b95 cx th ht hr)  h20 _ _ ls wd (lv_sub hl [] rfl) hX
      · refine lv_aload_n hx hb dX11_part_75 rfl (lv_at hl 2 rfl) ?_
        refine lv_aload hx hb dX11_part_76 (lv_at hl 1 rfl) ?_
        refine lv_aload hx hb dX11_part_78 (lv_at hl 0 rfl) ?_
        refine mh_callVI cx wd [.ref a7, .ref a9] (rfl : vwCl[11]? = some (RX11, TX11, 16)) yw_X11_pickedPayCommon vw_X11_234 rfl hl.1 rfl (Nat.le_of_ble_eq_true rfl) dX11_part_80 ⟨Nat.le_of_ble_eq_true rfl, Nat.le_of_ble_eq_true rfl⟩ ⟨Nat.le_of_ble_eq_true rfl, Nat.le_of_ble_eq_true rfl⟩ (fun _ _ q => c_X11_pickedPayCommon q) hX (fun v23 h22 H locs wd hX => ?_)
        refine lv_if_eq (tgt := 94) hx hb dX11_part_83 rfl (fun hc => (fun hX => ?_) ((mh_if hX).1 hc)) (fun hc => (fun hX => ?_) ((mh_if hX).2 hc))
        · exact w_X11_part_b94 (f_X11_part_b95) cx th ht hr (w_X11_part_b95 cx th ht hr)  h22 _ _ ls wd (lv_sub hl [] rfl) hX
        · refine lv_aload_n hx hb dX11_part_86 rfl (lv_at hl 2 rfl) ?_
          refine lv_iload_n hx hb dX11_part_87 rfl (lv_at hl 5 rfl) ?_
          refine mh_callVI cx wd [.int x3] (rfl : vwCl[11]? = some (RX11, TX11, 16)) yw_X11_becomePicked vw_X11_227 rfl hl.1 rfl (Nat.le_of_ble_eq_true rfl) dX11_part_88 ⟨Nat.le_of_ble_eq_true rfl, Nat.le_of_ble_eq_true rfl⟩ ⟨Nat.le_of_ble_eq_true rfl, Nat.le_of_ble_eq_true rfl⟩ (fun _ _ q => c_X11_becomePicked q) hX (fun v25 h24 H locs wd hX => ?_)
          refine lv_goto (tgt := 95) hx hb dX11_part_91 rfl ?_
          exact w_X11_part_b95 cx th ht hr _ h24 _ _ ls wd (lv_sub hl [] rfl) hX
    · exact w_X11_part_b43 cx th ht hr _ _ h16 _ _ ls wd (lv_sub hl [2, 5] rfl) hX
set_option maxRecDepth 100000 in
theorem c_X11_part {l : Launch} {L : List Nat} {h h' : mh_H} {r : Nat ⊕ Int32} {o0 : Nat} {x1 : Int32} {x2 : Int32} {x3 : Int32} (hX : f_X11_part_e o0 x1 x2 x3 h = some (r, h')) : mh_Mx l yX11_part (Cond.code yX11_part cX11_part 6 (some .int) :: mh_TB) (mh_rx 7 3) [.ref o0, .int x1, .int x2, .int x3] L h (mh_em mh_eI r) h' 3 18 :=
  mh_xof (by decide) (Nat.le_of_ble_eq_true rfl) (fun p e s m below meth c D ks ls hr cx th ht wd hl => by
    have hl : lv_has ls 6 [(0, .ref o0), (1, .int x1), (2, .int x2), (3, .int x3)] := hl
    exact w_X11_part_e cx th ht hr o0 x1 x2 x3 h _ _ ls wd hl hX)
def f_X11_factor_b25 (h : mh_H) : Option ((Nat ⊕ Int32) × mh_H) :=
  some (.inl 2, h)
def f_X11_factor_b123 (t0 : Int32) (h : mh_H) : Option ((Nat ⊕ Int32) × mh_H) :=
  some (.inr t0, h)
def f_X11_factor_b104 (o0 : Nat) (x3 : Int32) (h : mh_H) : Option ((Nat ⊕ Int32) × mh_H) :=
  (mh_gR h o0 11 5).bind fun a1 =>
  mh_b2 (mh_cal h a1 5 (f_X5_pick_e a1 h)) fun v3 h2 =>
  if v3 = 0 then (
  f_X11_factor_b123 (-1 : Int32) h2) else
  mh_b2 (mh_cal h2 o0 11 (f_X11_becomePicked_e o0 x3 h2)) fun v5 h4 =>
  f_X11_factor_b123 v5 h4
def f_X11_factor_b98 (k67 : Nat → Int32 → Int32 → Int32 → mh_H → Option ((Nat ⊕ Int32) × mh_H)) (o0 : Nat) (x2 : Int32) (x3 : Int32) (x5 : Int32) (h : mh_H) : Option ((Nat ⊕ Int32) × mh_H) :=
  mh_nm (x5 + Int32.ofInt (1)) fun v6 =>
  k67 o0 x2 x3 v6 h
def f_X11_factor_b67 (k104 : Nat → Int32 → mh_H → Option ((Nat ⊕ Int32) × mh_H)) : Nat → Nat → Int32 → Int32 → Int32 → mh_H → Option ((Nat ⊕ Int32) × mh_H)
  | 0, _, _, _, _, _ => none
  | n + 1, o0, x2, x3, x5, h =>
    if (300 : Int32) < x5 then (
    k104 o0 x3 h) else
    (mh_gR h o0 11 2).bind fun a7 =>
    mh_b2 (mh_cal h a7 4 (f_X4_reaches_e a7 (x2 * x5) h)) fun v9 h8 =>
    if v9 = 0 then (
    f_X11_factor_b98 (f_X11_factor_b67 k104 n) o0 x2 x3 x5 h8) else
    (mh_gR h8 o0 11 5).bind fun a10 =>
    (mh_cal h8 a10 5 (f_X5_offer_e a10 x5 h8)).bind fun h11 =>
    f_X11_factor_b98 (f_X11_factor_b67 k104 n) o0 x2 x3 x5 h11
def f_X11_factor_e (o0 : Nat) (x1 : Int32) (x2 : Int32) (x3 : Int32) (h : mh_H) : Option ((Nat ⊕ Int32) × mh_H) :=
  mh_bx (mh_cal h o0 11 (f_X11_mintAt_e o0 x1 h)) fun a13 h12 =>
  mh_bx (mh_cal h12 o0 11 (f_X11_mintAt_e o0 x3 h12)) fun a15 h14 =>
  if x2 < (1 : Int32) then (
  f_X11_factor_b25 h14) else
  if x2 ≤ (300 : Int32) then (
  (mh_gR h14 o0 11 5).bind fun a16 =>
  (mh_cal h14 a16 5 (f_X5_clear_e a16 h14)).bind fun h17 =>
  mh_b2 (mh_cal h17 a13 1 (f_X1_count_e a13 h17)) fun v19 h18 =>
  if v19 ≤ 0 then (
  f_X11_factor_b104 o0 x3 h18) else
  (mh_gR h18 o0 11 2).bind fun a20 =>
  mh_b2 (mh_cal h18 a13 1 (f_X1_least_e a13 h18)) fun v22 h21 =>
  (mh_cal h21 a20 4 (f_X4_take_e a20 a13 v22 h21)).bind fun h23 =>
  mh_nm (1 : Int32) fun v24 =>
  f_X11_factor_b67 (f_X11_factor_b104) mh_fu o0 x2 x3 v24 h23) else
  f_X11_factor_b25 h14
set_option maxRecDepth 100000 in
set_option maxHeartbeats 4000000 in
theorem w_X11_factor_b25 {p : Program} {l : Launch} {e : Env} {s : State} {m : MethodId} {args : Array Value} {below : List Frame} {meth : Method} {c : Code} {D : va_G} {ks : Nat → ClassId} {L : List Nat} {r : Nat ⊕ Int32} {h' : mh_H} (cx : mh_C p m c cX11_factor 6 s args RX11 meth D ks (mh_A L s.heap.size)) (th : mh_Th l (mh_A L s.heap.size) s) (ht : ∀ x ∈ c.exceptionTable.toList, False) (hr : meth.sig.returnType = (some .int)) :
    ∀ (h : mh_H) (H : Heap) (locs : List Loc) (ls : Array Slot), mh_W D ks L (mh_A L s.heap.size) s.heap h H locs → lv_has ls 6 [] → f_X11_factor_b25  h = some (r, h') → W p l e (mh_rx 7 3) s m args below meth c H locs 2 12 (vx_MQ below (mh_Qx D ks L s.heap.size (mh_em mh_eI r) h') (mh_XC D ks L s.heap.size (mh_em mh_eI r) h') args s 3 18 (mh_A L s.heap.size)) (F0 m 25 ls []) := by
  intro  h H locs ls wd hl hX
  have hx := cx.1.1
  have hb := cx.1.2.1
  unfold f_X11_factor_b25 at hX
  exact mh_xthS mh_eI mh_kx2 cx th ht wd (text := "d is not 1 to 300") (by decide) hl.1 dX11_factor_25 dX11_factor_28 dX11_factor_29 dX11_factor_31 dX11_factor_34 ⟨Nat.le_of_ble_eq_true rfl, Nat.le_of_ble_eq_true rfl⟩ ⟨Nat.le_of_ble_eq_true rfl, Nat.le_of_ble_eq_true rfl⟩ ⟨Nat.le_of_ble_eq_true rfl, Nat.le_of_ble_eq_true rfl⟩ hX
set_option maxRecDepth 100000 in
set_option maxHeartbeats 4000000 in
theorem w_X11_factor_b123 {p : Program} {l : Launch} {e : Env} {s : State} {m : MethodId} {args : Array Value} {below : List Frame} {meth : Method} {c : Code} {D : va_G} {ks : Nat → ClassId} {L : List Nat} {r : Nat ⊕ Int32} {h' : mh_H} (cx : mh_C p m c cX11_factor 6 s args RX11 meth D ks (mh_A L s.heap.size)) (th : mh_Th l (mh_A L s.heap.size) s) (ht : ∀ x ∈ c.exceptionTable.toList, False) (hr : meth.sig.returnType = (some .int)) :
    ∀ (t0 : Int32) (h : mh_H) (H : Heap) (locs : List Loc) (ls : Array Slot), mh_W D ks L (mh_A L s.heap.size) s.heap h H locs → lv_has ls 6 [] → f_X11_factor_b123 t0 h = some (r, h') → W p l e (mh_rx 7 3) s m args below meth c H locs 2 12 (vx_MQ below (mh_Qx D ks L s.heap.size (mh_em mh_eI r) h') (mh_XC D ks L s.heap.size (mh_em mh_eI r) h') args s 3 18 (mh_A L s.heap.size)) (F0 m 123 ls [.int t0]) := by
  intro t0 h H locs ls wd hl hX
  have hx := cx.1.1
  have hb := cx.1.2.1
  unfold f_X11_factor_b123 at hX
  exact mh_xiret cx wd hr hX dX11_factor_123 ⟨Nat.le_of_ble_eq_true rfl, Nat.le_of_ble_eq_true rfl⟩
set_option maxRecDepth 100000 in
set_option maxHeartbeats 4000000 in
theorem w_X11_factor_b104 {p : Program} {l : Launch} {e : Env} {s : State} {m : MethodId} {args : Array Value} {below : List Frame} {meth : Method} {c : Code} {D : va_G} {ks : Nat → ClassId} {L : List Nat} {r : Nat ⊕ Int32} {h' : mh_H} (cx : mh_C p m c cX11_factor 6 s args RX11 meth D ks (mh_A L s.heap.size)) (th : mh_Th l (mh_A L s.heap.size) s) (ht : ∀ x ∈ c.exceptionTable.toList, False) (hr : meth.sig.returnType = (some .int)) :
    ∀ (o0 : Nat) (x3 : Int32) (h : mh_H) (H : Heap) (locs : List Loc) (ls : Array Slot), mh_W D ks L (mh_A L s.heap.size) s.heap h H locs → lv_has ls 6 [(0, .ref o0), (3, .int x3)] → f_X11_factor_b104 o0 x3 h = some (r, h') → W p l e (mh_rx 7 3) s m args below meth c H locs 2 12 (vx_MQ below (mh_Qx D ks L s.heap.size (mh_em mh_eI r) h') (mh_XC D ks L s.heap.size (mh_em mh_eI r) h') args s 3 18 (mh_A L s.heap.size)) (F0 m 104 ls []) := by
  intro o0 x3 h H locs ls wd hl hX
  have hx := cx.1.1
  have hb := cx.1.2.1
  unfold f_X11_factor_b104 at hX
  refine lv_aload_n hx hb dX11_factor_104 rfl (lv_at hl 0 rfl) ?_
  refine mh_getR cx wd fl_X11_43 dX11_factor_105 hX (fun a1 hX => ?_)
  refine mh_callVI cx wd [] (rfl : vwCl[5]? = some (RX5, TX5, 3)) yw_X5_pick vw_X11_213 rfl hl.1 rfl (Nat.le_of_ble_eq_true rfl) dX11_factor_108 ⟨Nat.le_of_ble_eq_true rfl, Nat.le_of_ble_eq_true rfl⟩ ⟨Nat.le_of_ble_eq_true rfl, Nat.le_of_ble_eq_true rfl⟩ (fun _ _ q => c_X5_pick q) hX (fun v3 h2 H locs wd hX => ?_)
  refine lv_if_eq (tgt := 122) hx hb dX11_factor_111 rfl (fun hc => (fun hX => ?_) ((mh_if hX).1 hc)) (fun hc => (fun hX => ?_) ((mh_if hX).2 hc))
  · refine lv_iconst (v := (-1)) hx hb dX11_factor_122 (by decide) ?_
    exact w_X11_factor_b123 cx th ht hr _ h2 _ _ ls wd (lv_sub hl [] rfl) hX
  · refine lv_aload_n hx hb dX11_factor_114 rfl (lv_at hl 0 rfl) ?_
    refine lv_iload_n hx hb dX11_factor_115 rfl (lv_at hl 1 rfl) ?_
    refine mh_callVI cx wd [.int x3] (rfl : vwCl[11]? = some (RX11, TX11, 16)) yw_X11_becomePicked vw_X11_227 rfl hl.1 rfl (Nat.le_of_ble_eq_true rfl) dX11_factor_116 ⟨Nat.le_of_ble_eq_true rfl, Nat.le_of_ble_eq_true rfl⟩ ⟨Nat.le_of_ble_eq_true rfl, Nat.le_of_ble_eq_true rfl⟩ (fun _ _ q => c_X11_becomePicked q) hX (fun v5 h4 H locs wd hX => ?_)
    refine lv_goto (tgt := 123) hx hb dX11_factor_119 rfl ?_
    exact w_X11_factor_b123 cx th ht hr _ h4 _ _ ls wd (lv_sub hl [] rfl) hX
set_option maxRecDepth 100000 in
set_option maxHeartbeats 4000000 in
theorem w_X11_factor_b98 {p : Program} {l : Launch} {e : Env} {s : State} {m : MethodId} {args : Array Value} {below : List Frame} {meth : Method} {c : Code} {D : va_G} {ks : Nat → ClassId} {L : List Nat} {r : Nat ⊕ Int32} {h' : mh_H} (k67 : Nat → Int32 → Int32 → Int32 → mh_H → Option ((Nat ⊕ Int32) × mh_H)) (cx : mh_C p m c cX11_factor 6 s args RX11 meth D ks (mh_A L s.heap.size)) (th : mh_Th l (mh_A L s.heap.size) s) (ht : ∀ x ∈ c.exceptionTable.toList, False) (hr : meth.sig.returnType = (some .int))
    (hk67 : ∀ (o0 : Nat) (x2 : Int32) (x3 : Int32) (x5 : Int32) (h : mh_H) (H : Heap) (locs : List Loc) (ls : Array Slot), mh_W D ks L (mh_A L s.heap.size) s.heap h H locs → lv_has ls 6 [(0, .ref o0), (2, .int x2), (3, .int x3), (5, .int x5)] → k67 o0 x2 x3 x5 h = some (r, h') → W p l e (mh_rx 7 3) s m args below meth c H locs 2 12 (vx_MQ below (mh_Qx D ks L s.heap.size (mh_em mh_eI r) h') (mh_XC D ks L s.heap.size (mh_em mh_eI r) h') args s 3 18 (mh_A L s.heap.size)) (F0 m 67 ls [])) :
    ∀ (o0 : Nat) (x2 : Int32) (x3 : Int32) (x5 : Int32) (h : mh_H) (H : Heap) (locs : List Loc) (ls : Array Slot), mh_W D ks L (mh_A L s.heap.size) s.heap h H locs → lv_has ls 6 [(0, .ref o0), (2, .int x2), (3, .int x3), (5, .int x5)] → f_X11_factor_b98 k67 o0 x2 x3 x5 h = some (r, h') → W p l e (mh_rx 7 3) s m args below meth c H locs 2 12 (vx_MQ below (mh_Qx D ks L s.heap.size (mh_em mh_eI r) h') (mh_XC D ks L s.heap.size (mh_em mh_eI r) h') args s 3 18 (mh_A L s.heap.size)) (F0 m 98 ls []) := by
  intro o0 x2 x3 x5 h H locs ls wd hl hX
  have hx := cx.1.1
  have hb := cx.1.2.1
  unfold f_X11_factor_b98 at hX
  obtain ⟨v6, ev6, hX⟩ := mh_nmx hX
  refine lv_iinc (k := 3) (v := v6) (lv' := [(5, .int v6), (0, .ref o0), (2, .int x2), (3, .int x3)]) hx hb dX11_factor_98 hl rfl ev6 (Nat.le_of_ble_eq_true rfl) rfl (fun ls hl => ?_)
  refine lv_goto (tgt := 67) hx hb dX11_factor_101 rfl ?_
  exact hk67 _ _ _ _ h _ _ ls wd (lv_sub hl [1, 2, 3, 0] rfl) hX
set_option maxRecDepth 100000 in
set_option maxHeartbeats 4000000 in
theorem w_X11_factor_b67 {p : Program} {l : Launch} {e : Env} {s : State} {m : MethodId} {args : Array Value} {below : List Frame} {meth : Method} {c : Code} {D : va_G} {ks : Nat → ClassId} {L : List Nat} {r : Nat ⊕ Int32} {h' : mh_H} (k104 : Nat → Int32 → mh_H → Option ((Nat ⊕ Int32) × mh_H)) (cx : mh_C p m c cX11_factor 6 s args RX11 meth D ks (mh_A L s.heap.size)) (th : mh_Th l (mh_A L s.heap.size) s) (ht : ∀ x ∈ c.exceptionTable.toList, False) (hr : meth.sig.returnType = (some .int))
    (hk104 : ∀ (o0 : Nat) (x3 : Int32) (h : mh_H) (H : Heap) (locs : List Loc) (ls : Array Slot), mh_W D ks L (mh_A L s.heap.size) s.heap h H locs → lv_has ls 6 [(0, .ref o0), (3, .int x3)] → k104 o0 x3 h = some (r, h') → W p l e (mh_rx 7 3) s m args below meth c H locs 2 12 (vx_MQ below (mh_Qx D ks L s.heap.size (mh_em mh_eI r) h') (mh_XC D ks L s.heap.size (mh_em mh_eI r) h') args s 3 18 (mh_A L s.heap.size)) (F0 m 104 ls [])) :
    ∀ n : Nat, ∀ (o0 : Nat) (x2 : Int32) (x3 : Int32) (x5 : Int32) (h : mh_H) (H : Heap) (locs : List Loc) (ls : Array Slot), mh_W D ks L (mh_A L s.heap.size) s.heap h H locs → lv_has ls 6 [(0, .ref o0), (2, .int x2), (3, .int x3), (5, .int x5)] → f_X11_factor_b67 k104 n o0 x2 x3 x5 h = some (r, h') → W p l e (mh_rx 7 3) s m args below meth c H locs 2 12 (vx_MQ below (mh_Qx D ks L s.heap.size (mh_em mh_eI r) h') (mh_XC D ks L s.heap.size (mh_em mh_eI r) h') args s 3 18 (mh_A L s.heap.size)) (F0 m 67 ls []) := by
  intro n
  induction n with
  | zero =>
    intro o0 x2 x3 x5 h H locs ls wd hl hX
    cases hX
  | succ n ih =>
    intro o0 x2 x3 x5 h H locs ls wd hl hX
    have hx := cx.1.1
    have hb := cx.1.2.1
    rw [f_X11_factor_b67] at hX
    refine lv_iload hx hb dX11_factor_67 (lv_at hl 3 rfl) ?_
    refine lv_sipush (v := 300) hx hb dX11_factor_69 (by decide) ?_
    refine lv_icmp_gt (tgt := 104) hx hb dX11_factor_72 rfl (fun hc => (fun hX => ?_) ((mh_if hX).1 hc)) (fun hc => (fun hX => ?_) ((mh_if hX).2 hc))
    · exact hk104 _ _ h _ _ ls wd (lv_sub hl [0, 2] rfl) hX
    · refine lv_aload_n hx hb dX11_factor_75 rfl (lv_at hl 0 rfl) ?_
      refine mh_getR cx wd fl_X11_30 dX11_factor_76 hX (fun a7 hX => ?_)
      refine lv_iload_n hx hb dX11_factor_79 rfl (lv_at hl 1 rfl) ?_
      refine lv_iload hx hb dX11_factor_80 (lv_at hl 3 rfl) ?_
      refine lv_imul hx hb dX11_factor_82 ?_
      refine mh_callVI cx wd [.int (x2 * x5)] (rfl : vwCl[4]? = some (RX4, TX4, 1)) yw_X4_reaches vw_X11_240 rfl hl.1 rfl (Nat.le_of_ble_eq_true rfl) dX11_factor_83 ⟨Nat.le_of_ble_eq_true rfl, Nat.le_of_ble_eq_true rfl⟩ ⟨Nat.le_of_ble_eq_true rfl, Nat.le_of_ble_eq_true rfl⟩ (fun _ _ q => c_X4_reaches q) hX (fun v9 h8 H locs wd hX => ?_)
      refine lv_if_eq (tgt := 98) hx hb dX11_factor_86 rfl (fun hc => (fun hX => ?_) ((mh_if hX).1 hc)) (fun hc => (fun hX => ?_) ((mh_if hX).2 hc))
      · exact w_X11_factor_b98 (f_X11_factor_b67 k104 n) cx th ht hr ih _ _ _ _ h8 _ _ ls wd (lv_sub hl [0, 1, 2, 3] rfl) hX
      · refine lv_aload_n hx hb dX11_factor_89 rfl (lv_at hl 0 rfl) ?_
        refine mh_getR cx wd fl_X11_43 dX11_factor_90 hX (fun a10 hX => ?_)
        refine lv_iload hx hb dX11_factor_93 (lv_at hl 3 rfl) ?_
        refine mh_callVV cx wd [.int x5] (rfl : vwCl[5]? = some (RX5, TX5, 3)) yw_X5_offer vw_X11_243 rfl hl.1 rfl (Nat.le_of_ble_eq_true rfl) dX11_factor_95 ⟨Nat.le_of_ble_eq_true rfl, Nat.le_of_ble_eq_true rfl⟩ ⟨Nat.le_of_ble_eq_true rfl, Nat.le_of_ble_eq_true rfl⟩ (fun _ q => c_X5_offer q) hX (fun h11 H locs wd hX => ?_)
        exact w_X11_factor_b98 (f_X11_factor_b67 k104 n) cx th ht hr ih _ _ _ _ h11 _ _ ls wd (lv_sub hl [0, 1, 2, 3] rfl) hX
set_option maxRecDepth 100000 in
set_option maxHeartbeats 4000000 in
theorem w_X11_factor_e {p : Program} {l : Launch} {e : Env} {s : State} {m : MethodId} {args : Array Value} {below : List Frame} {meth : Method} {c : Code} {D : va_G} {ks : Nat → ClassId} {L : List Nat} {r : Nat ⊕ Int32} {h' : mh_H} (cx : mh_C p m c cX11_factor 6 s args RX11 meth D ks (mh_A L s.heap.size)) (th : mh_Th l (mh_A L s.heap.size) s) (ht : ∀ x ∈ c.exceptionTable.toList, False) (hr : meth.sig.returnType = (some .int)) :
    ∀ (o0 : Nat) (x1 : Int32) (x2 : Int32) (x3 : Int32) (h : mh_H) (H : Heap) (locs : List Loc) (ls : Array Slot), mh_W D ks L (mh_A L s.heap.size) s.heap h H locs → lv_has ls 6 [(0, .ref o0), (1, .int x1), (2, .int x2), (3, .int x3)] → f_X11_factor_e o0 x1 x2 x3 h = some (r, h') → W p l e (mh_rx 7 3) s m args below meth c H locs 0 0 (vx_MQ below (mh_Qx D ks L s.heap.size (mh_em mh_eI r) h') (mh_XC D ks L s.heap.size (mh_em mh_eI r) h') args s 3 18 (mh_A L s.heap.size)) (F0 m 0 ls []) := by
  intro o0 x1 x2 x3 h H locs ls wd hl hX
  have hx := cx.1.1
  have hb := cx.1.2.1
  unfold f_X11_factor_e at hX
  refine lv_aload_n hx hb dX11_factor_0 rfl (lv_at hl 0 rfl) ?_
  refine lv_iload_n hx hb dX11_factor_1 rfl (lv_at hl 1 rfl) ?_
  refine mh_xV mh_eR mh_eI (K := 1) [.int x1] cx th ht wd (rfl : vwCl[11]? = some (RX11, TX11, 16)) yw_X11_mintAt vw_X11_131 rfl hl.1 rfl (Nat.le_of_ble_eq_true rfl) dX11_factor_2 ⟨Nat.le_of_ble_eq_true rfl, Nat.le_of_ble_eq_true rfl⟩ ⟨Nat.le_of_ble_eq_true rfl, Nat.le_of_ble_eq_true rfl⟩ ⟨Nat.le_of_ble_eq_true rfl, Nat.le_of_ble_eq_true rfl⟩ (fun _ _ q => c_X11_mintAt q) hX (fun a13 h12 H locs wd hX => ?_)
  refine W.eq (g2 := F0 m 5 ls [.ref a13]) rfl ?_
  refine lv_astore (lv' := [(4, .ref a13), (0, .ref o0), (1, .int x1), (2, .int x2), (3, .int x3)]) hx hb dX11_factor_5 hl (Nat.le_of_ble_eq_true rfl) rfl (fun ls hl => ?_)
  refine lv_aload_n hx hb dX11_factor_7 rfl (lv_at hl 1 rfl) ?_
  refine lv_iload_n hx hb dX11_factor_8 rfl (lv_at hl 4 rfl) ?_
  refine mh_xV mh_eR mh_eI (K := 1) [.int x3] cx th ht wd (rfl : vwCl[11]? = some (RX11, TX11, 16)) yw_X11_mintAt vw_X11_131 rfl hl.1 rfl (Nat.le_of_ble_eq_true rfl) dX11_factor_9 ⟨Nat.le_of_ble_eq_true rfl, Nat.le_of_ble_eq_true rfl⟩ ⟨Nat.le_of_ble_eq_true rfl, Nat.le_of_ble_eq_true rfl⟩ ⟨Nat.le_of_ble_eq_true rfl, Nat.le_of_ble_eq_true rfl⟩ (fun _ _ q => c_X11_mintAt q) hX (fun a15 h14 H locs wd hX => ?_)
  refine W.eq (g2 := F0 m 12 ls [.ref a15]) rfl ?_
  refine lv_pop hx hb dX11_factor_12 rfl ?_
  refine lv_iload_n hx hb dX11_factor_13 rfl (lv_at hl 3 rfl) ?_
  refine lv_iconst (v := 1) hx hb dX11_factor_14 (by decide) ?_
  refine lv_icmp_lt (tgt := 25) hx hb dX11_factor_15 rfl (fun hc => (fun hX => ?_) ((mh_if hX).1 hc)) (fun hc => (fun hX => ?_) ((mh_if hX).2 hc))
  · exact w_X11_factor_b25 cx th ht hr  h14 _ _ ls wd (lv_sub hl [] rfl) hX
  · refine lv_iload_n hx hb dX11_factor_18 rfl (lv_at hl 3 rfl) ?_
    refine lv_sipush (v := 300) hx hb dX11_factor_19 (by decide) ?_
    refine lv_icmp_le (tgt := 35) hx hb dX11_factor_22 rfl (fun hc => (fun hX => ?_) ((mh_if hX).1 hc)) (fun hc => (fun hX => ?_) ((mh_if hX).2 hc))
    · refine lv_aload_n hx hb dX11_factor_35 rfl (lv_at hl 1 rfl) ?_
      refine mh_getR cx wd fl_X11_43 dX11_factor_36 hX (fun a16 hX => ?_)
      refine mh_callVV cx wd [] (rfl : vwCl[5]? = some (RX5, TX5, 3)) yw_X5_clear vw_X11_207 rfl hl.1 rfl (Nat.le_of_ble_eq_true rfl) dX11_factor_39 ⟨Nat.le_of_ble_eq_true rfl, Nat.le_of_ble_eq_true rfl⟩ ⟨Nat.le_of_ble_eq_true rfl, Nat.le_of_ble_eq_true rfl⟩ (fun _ q => c_X5_clear q) hX (fun h17 H locs wd hX => ?_)
      refine lv_aload hx hb dX11_factor_42 (lv_at hl 0 rfl) ?_
      refine mh_callVI cx wd [] (rfl : vwCl[1]? = some (RX1, TX1, 2)) yw_X1_count vw_X11_123 rfl hl.1 rfl (Nat.le_of_ble_eq_true rfl) dX11_factor_44 ⟨Nat.le_of_ble_eq_true rfl, Nat.le_of_ble_eq_true rfl⟩ ⟨Nat.le_of_ble_eq_true rfl, Nat.le_of_ble_eq_true rfl⟩ (fun _ _ q => c_X1_count q) hX (fun v19 h18 H locs wd hX => ?_)
      refine lv_if_le (tgt := 104) hx hb dX11_factor_47 rfl (fun hc => (fun hX => ?_) ((mh_if hX).1 hc)) (fun hc => (fun hX => ?_) ((mh_if hX).2 hc))
      · exact w_X11_factor_b104 cx th ht hr _ _ h18 _ _ ls wd (lv_sub hl [1, 4] rfl) hX
      · refine lv_aload_n hx hb dX11_factor_50 rfl (lv_at hl 1 rfl) ?_
        refine mh_getR cx wd fl_X11_30 dX11_factor_51 hX (fun a20 hX => ?_)
        refine lv_aload hx hb dX11_factor_54 (lv_at hl 0 rfl) ?_
        refine lv_aload hx hb dX11_factor_56 (lv_at hl 0 rfl) ?_
        refine mh_callVI cx wd [] (rfl : vwCl[1]? = some (RX1, TX1, 2)) yw_X1_least vw_X11_176 rfl hl.1 rfl (Nat.le_of_ble_eq_true rfl) dX11_factor_58 ⟨Nat.le_of_ble_eq_true rfl, Nat.le_of_ble_eq_true rfl⟩ ⟨Nat.le_of_ble_eq_true rfl, Nat.le_of_ble_eq_true rfl⟩ (fun _ _ q => c_X1_least q) hX (fun v22 h21 H locs wd hX => ?_)
        refine mh_callVV cx wd [.ref a13, .int v22] (rfl : vwCl[4]? = some (RX4, TX4, 1)) yw_X4_take vw_X11_179 rfl hl.1 rfl (Nat.le_of_ble_eq_true rfl) dX11_factor_61 ⟨Nat.le_of_ble_eq_true rfl, Nat.le_of_ble_eq_true rfl⟩ ⟨Nat.le_of_ble_eq_true rfl, Nat.le_of_ble_eq_true rfl⟩ (fun _ q => c_X4_take q) hX (fun h23 H locs wd hX => ?_)
        refine lv_iconst (v := 1) hx hb dX11_factor_64 (by decide) ?_
        refine mh_topi hX (fun v24 hX => ?_)
        refine lv_istore (lv' := [(5, .int v24), (4, .ref a13), (0, .ref o0), (1, .int x1), (2, .int x2), (3, .int x3)]) hx hb dX11_factor_65 hl (Nat.le_of_ble_eq_true rfl) rfl (fun ls hl => ?_)
        exact w_X11_factor_b67 (f_X11_factor_b104) cx th ht hr (w_X11_factor_b104 cx th ht hr) mh_fu _ _ _ _ h23 _ _ ls wd (lv_sub hl [2, 4, 5, 0] rfl) hX
    · exact w_X11_factor_b25 cx th ht hr  h14 _ _ ls wd (lv_sub hl [] rfl) hX
set_option maxRecDepth 100000 in
theorem c_X11_factor {l : Launch} {L : List Nat} {h h' : mh_H} {r : Nat ⊕ Int32} {o0 : Nat} {x1 : Int32} {x2 : Int32} {x3 : Int32} (hX : f_X11_factor_e o0 x1 x2 x3 h = some (r, h')) : mh_Mx l yX11_factor (Cond.code yX11_factor cX11_factor 6 (some .int) :: mh_TB) (mh_rx 7 3) [.ref o0, .int x1, .int x2, .int x3] L h (mh_em mh_eI r) h' 3 18 :=
  mh_xof (by decide) (Nat.le_of_ble_eq_true rfl) (fun p e s m below meth c D ks ls hr cx th ht wd hl => by
    have hl : lv_has ls 6 [(0, .ref o0), (1, .int x1), (2, .int x2), (3, .int x3)] := hl
    exact w_X11_factor_e cx th ht hr o0 x1 x2 x3 h _ _ ls wd hl hX)
def f_X11_checkCounted_b11 (h : mh_H) : Option ((Nat ⊕ Unit) × mh_H) :=
  some (.inl 2, h)
def f_X11_checkCounted_e (x0 : Int32) (h : mh_H) : Option ((Nat ⊕ Unit) × mh_H) :=
  if x0 < 0 then (
  f_X11_checkCounted_b11 h) else
  if x0 ≤ (3000 : Int32) then (
  some (.inr (), h)) else
  f_X11_checkCounted_b11 h
set_option maxRecDepth 100000 in
set_option maxHeartbeats 4000000 in
theorem w_X11_checkCounted_b11 {p : Program} {l : Launch} {e : Env} {s : State} {m : MethodId} {args : Array Value} {below : List Frame} {meth : Method} {c : Code} {D : va_G} {ks : Nat → ClassId} {L : List Nat} {r : Nat ⊕ Unit} {h' : mh_H} (cx : mh_C p m c cX11_checkCounted 1 s args RX11 meth D ks (mh_A L s.heap.size)) (th : mh_Th l (mh_A L s.heap.size) s) (ht : ∀ x ∈ c.exceptionTable.toList, False) (hr : meth.sig.returnType = none) :
    ∀ (h : mh_H) (H : Heap) (locs : List Loc) (ls : Array Slot), mh_W D ks L (mh_A L s.heap.size) s.heap h H locs → lv_has ls 1 [] → f_X11_checkCounted_b11  h = some (r, h') → W p l e (mh_rx 6 1) s m args below meth c H locs 0 0 (vx_MQ below (mh_Qx D ks L s.heap.size (mh_em mh_eV r) h') (mh_XC D ks L s.heap.size (mh_em mh_eV r) h') args s 1 6 (mh_A L s.heap.size)) (F0 m 11 ls []) := by
  intro  h H locs ls wd hl hX
  have hx := cx.1.1
  have hb := cx.1.2.1
  unfold f_X11_checkCounted_b11 at hX
  exact mh_xthW mh_eV mh_kx2 cx th ht wd (text := "s is not 0 to 3000") (by decide) hl.1 dX11_checkCounted_11 dX11_checkCounted_14 dX11_checkCounted_15 dX11_checkCounted_18 dX11_checkCounted_21 ⟨Nat.le_of_ble_eq_true rfl, Nat.le_of_ble_eq_true rfl⟩ ⟨Nat.le_of_ble_eq_true rfl, Nat.le_of_ble_eq_true rfl⟩ ⟨Nat.le_of_ble_eq_true rfl, Nat.le_of_ble_eq_true rfl⟩ hX
set_option maxRecDepth 100000 in
set_option maxHeartbeats 4000000 in
theorem w_X11_checkCounted_e {p : Program} {l : Launch} {e : Env} {s : State} {m : MethodId} {args : Array Value} {below : List Frame} {meth : Method} {c : Code} {D : va_G} {ks : Nat → ClassId} {L : List Nat} {r : Nat ⊕ Unit} {h' : mh_H} (cx : mh_C p m c cX11_checkCounted 1 s args RX11 meth D ks (mh_A L s.heap.size)) (th : mh_Th l (mh_A L s.heap.size) s) (ht : ∀ x ∈ c.exceptionTable.toList, False) (hr : meth.sig.returnType = none) :
    ∀ (x0 : Int32) (h : mh_H) (H : Heap) (locs : List Loc) (ls : Array Slot), mh_W D ks L (mh_A L s.heap.size) s.heap h H locs → lv_has ls 1 [(0, .int x0)] → f_X11_checkCounted_e x0 h = some (r, h') → W p l e (mh_rx 6 1) s m args below meth c H locs 0 0 (vx_MQ below (mh_Qx D ks L s.heap.size (mh_em mh_eV r) h') (mh_XC D ks L s.heap.size (mh_em mh_eV r) h') args s 1 6 (mh_A L s.heap.size)) (F0 m 0 ls []) := by
  intro x0 h H locs ls wd hl hX
  have hx := cx.1.1
  have hb := cx.1.2.1
  unfold f_X11_checkCounted_e at hX
  refine lv_iload_n hx hb dX11_checkCounted_0 rfl (lv_at hl 0 rfl) ?_
  refine lv_if_lt (tgt := 11) hx hb dX11_checkCounted_1 rfl (fun hc => (fun hX => ?_) ((mh_if hX).1 hc)) (fun hc => (fun hX => ?_) ((mh_if hX).2 hc))
  · exact w_X11_checkCounted_b11 cx th ht hr  h _ _ ls wd (lv_sub hl [] rfl) hX
  · refine lv_iload_n hx hb dX11_checkCounted_4 rfl (lv_at hl 0 rfl) ?_
    refine lv_sipush (v := 3000) hx hb dX11_checkCounted_5 (by decide) ?_
    refine lv_icmp_le (tgt := 22) hx hb dX11_checkCounted_8 rfl (fun hc => (fun hX => ?_) ((mh_if hX).1 hc)) (fun hc => (fun hX => ?_) ((mh_if hX).2 hc))
    · exact mh_xvret cx wd hr hX dX11_checkCounted_22 ⟨Nat.le_of_ble_eq_true rfl, Nat.le_of_ble_eq_true rfl⟩
    · exact w_X11_checkCounted_b11 cx th ht hr  h _ _ ls wd (lv_sub hl [] rfl) hX
set_option maxRecDepth 100000 in
theorem c_X11_checkCounted {l : Launch} {L : List Nat} {h h' : mh_H} {r : Nat ⊕ Unit} {x0 : Int32} (hX : f_X11_checkCounted_e x0 h = some (r, h')) : mh_Mx l yX11_checkCounted (Cond.code yX11_checkCounted cX11_checkCounted 1 none :: mh_TB) (mh_rx 6 1) [.int x0] L h (mh_em mh_eV r) h' 1 6 :=
  mh_xof (by decide) (Nat.le_of_ble_eq_true rfl) (fun p e s m below meth c D ks ls hr cx th ht wd hl => by
    have hl : lv_has ls 1 [(0, .int x0)] := hl
    exact w_X11_checkCounted_e cx th ht hr x0 h _ _ ls wd hl hX)
