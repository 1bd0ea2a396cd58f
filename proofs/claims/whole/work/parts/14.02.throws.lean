def f_X11_deal_b114 (h : mh_H) : Option ((Nat ⊕ Int32) × mh_H) :=
  some (.inr (-2 : Int32), h)
def f_X11_deal_b94 (o0 : Nat) (x1 : Int32) (x2 : Int32) (x3 : Int32) (x4 : Int32) (t0 : Int32) (h : mh_H) : Option ((Nat ⊕ Int32) × mh_H) :=
  if t0 = 0 then (
  f_X11_deal_b114 h) else
  (mh_gR h o0 11 13).bind fun a1 =>
  mh_b2 (mh_cal h a1 7 (f_X7_total_e a1 h)) fun v3 h2 =>
  if v3 ≤ (20000 : Int32) then (
  (mh_gR h2 o0 11 0).bind fun a4 =>
  (mh_cal h2 a4 3 (f_X3_begin_e a4 h2)).bind fun h5 =>
  (mh_gR h5 o0 11 0).bind fun a6 =>
  mh_b2 (mh_cal h5 a6 3 (f_X3_purse_e a6 x1 h5)) fun a8 h7 =>
  (mh_gR h7 o0 11 12).bind fun a9 =>
  (mh_cal h7 a8 7 (f_X7_copy_e a8 a9 h7)).bind fun h10 =>
  (mh_gR h10 o0 11 0).bind fun a11 =>
  mh_b2 (mh_cal h10 a11 3 (f_X3_purse_e a11 x2 h10)) fun a13 h12 =>
  (mh_gR h12 o0 11 13).bind fun a14 =>
  (mh_cal h12 a13 7 (f_X7_copy_e a13 a14 h12)).bind fun h15 =>
  mh_b2 (mh_cal h15 o0 11 (f_X11_moved_e o0 x3 x4 h15)) fun v17 h16 =>
  some (.inr v17, h16)) else
  f_X11_deal_b114 h2
def f_X11_deal_b93 (k94 : Nat → Int32 → Int32 → Int32 → Int32 → Int32 → mh_H → Option ((Nat ⊕ Int32) × mh_H)) (o0 : Nat) (x1 : Int32) (x2 : Int32) (x3 : Int32) (x4 : Int32) (h : mh_H) : Option ((Nat ⊕ Int32) × mh_H) :=
  k94 o0 x1 x2 x3 x4 (0 : Int32) h
def f_X11_deal_e (o0 : Nat) (x1 : Int32) (x2 : Int32) (x3 : Int32) (h : mh_H) : Option ((Nat ⊕ Int32) × mh_H) :=
  mh_bx (mh_cal h o0 11 (f_X11_changeBack_e o0 x1 x2 x3 h)) fun v19 h18 =>
  if v19 = (-1 : Int32) then (
  some (.inr (-1 : Int32), h18)) else
  (mh_gR h18 o0 11 12).bind fun a20 =>
  (mh_gR h18 o0 11 0).bind fun a21 =>
  mh_b2 (mh_cal h18 a21 3 (f_X3_purse_e a21 x1 h18)) fun a23 h22 =>
  (mh_cal h22 a20 7 (f_X7_copy_e a20 a23 h22)).bind fun h24 =>
  (mh_gR h24 o0 11 13).bind fun a25 =>
  (mh_gR h24 o0 11 0).bind fun a26 =>
  mh_b2 (mh_cal h24 a26 3 (f_X3_purse_e a26 x2 h24)) fun a28 h27 =>
  (mh_cal h27 a25 7 (f_X7_copy_e a25 a28 h27)).bind fun h29 =>
  (mh_gR h29 o0 11 10).bind fun a30 =>
  (mh_gR h29 o0 11 12).bind fun a31 =>
  (mh_gR h29 o0 11 13).bind fun a32 =>
  mh_b2 (mh_cal h29 a30 8 (f_X8_move_e a30 (x3 + v19) a31 a32 h29)) fun v34 h33 =>
  if v34 = 0 then (
  f_X11_deal_b93 (f_X11_deal_b94) o0 x1 x2 x3 v19 h33) else
  (mh_gR h33 o0 11 11).bind fun a35 =>
  (mh_gR h33 o0 11 13).bind fun a36 =>
  (mh_gR h33 o0 11 12).bind fun a37 =>
  mh_b2 (mh_cal h33 a35 8 (f_X8_move_e a35 v19 a36 a37 h33)) fun v39 h38 =>
  if v39 = 0 then (
  f_X11_deal_b93 (f_X11_deal_b94) o0 x1 x2 x3 v19 h38) else
  f_X11_deal_b94 o0 x1 x2 x3 v19 (1 : Int32) h38
set_option maxRecDepth 100000 in
set_option maxHeartbeats 4000000 in
theorem w_X11_deal_b114 {p : Program} {l : Launch} {e : Env} {s : State} {m : MethodId} {args : Array Value} {below : List Frame} {meth : Method} {c : Code} {D : va_G} {ks : Nat → ClassId} {L : List Nat} {r : Nat ⊕ Int32} {h' : mh_H} (cx : mh_C p m c cX11_deal 6 s args RX11 meth D ks (mh_A L s.heap.size)) (th : mh_Th l (mh_A L s.heap.size) s) (ht : ∀ x ∈ c.exceptionTable.toList, False) (hr : meth.sig.returnType = (some .int)) :
    ∀ (h : mh_H) (H : Heap) (locs : List Loc) (ls : Array Slot), mh_W D ks L (mh_A L s.heap.size) s.heap h H locs → lv_has ls 6 [] → f_X11_deal_b114  h = some (r, h') → W p l e (mh_rx 8 3) s m args below meth c H locs 3 18 (vx_MQ below (mh_Qx D ks L s.heap.size (mh_em mh_eI r) h') (mh_XC D ks L s.heap.size (mh_em mh_eI r) h') args s 3 18 (mh_A L s.heap.size)) (F0 m 114 ls []) := by
  intro  h H locs ls wd hl hX
  have hx := cx.1.1
  have hb := cx.1.2.1
  unfold f_X11_deal_b114 at hX
  refine lv_bipush (v := (-2)) hx hb dX11_deal_114 (by decide) ?_
  exact mh_xiret cx wd hr hX dX11_deal_116 ⟨Nat.le_of_ble_eq_true rfl, Nat.le_of_ble_eq_true rfl⟩
set_option maxRecDepth 100000 in
set_option maxHeartbeats 4000000 in
theorem w_X11_deal_b94 {p : Program} {l : Launch} {e : Env} {s : State} {m : MethodId} {args : Array Value} {below : List Frame} {meth : Method} {c : Code} {D : va_G} {ks : Nat → ClassId} {L : List Nat} {r : Nat ⊕ Int32} {h' : mh_H} (cx : mh_C p m c cX11_deal 6 s args RX11 meth D ks (mh_A L s.heap.size)) (th : mh_Th l (mh_A L s.heap.size) s) (ht : ∀ x ∈ c.exceptionTable.toList, False) (hr : meth.sig.returnType = (some .int)) :
    ∀ (o0 : Nat) (x1 : Int32) (x2 : Int32) (x3 : Int32) (x4 : Int32) (t0 : Int32) (h : mh_H) (H : Heap) (locs : List Loc) (ls : Array Slot), mh_W D ks L (mh_A L s.heap.size) s.heap h H locs → lv_has ls 6 [(0, .ref o0), (1, .int x1), (2, .int x2), (3, .int x3), (4, .int x4)] → f_X11_deal_b94 o0 x1 x2 x3 x4 t0 h = some (r, h') → W p l e (mh_rx 8 3) s m args below meth c H locs 3 18 (vx_MQ below (mh_Qx D ks L s.heap.size (mh_em mh_eI r) h') (mh_XC D ks L s.heap.size (mh_em mh_eI r) h') args s 3 18 (mh_A L s.heap.size)) (F0 m 94 ls [.int t0]) := by
  intro o0 x1 x2 x3 x4 t0 h H locs ls wd hl hX
  have hx := cx.1.1
  have hb := cx.1.2.1
  unfold f_X11_deal_b94 at hX
  refine lv_istore (lv' := [(5, .int t0), (0, .ref o0), (1, .int x1), (2, .int x2), (3, .int x3), (4, .int x4)]) hx hb dX11_deal_94 hl (Nat.le_of_ble_eq_true rfl) rfl (fun ls hl => ?_)
  refine lv_iload hx hb dX11_deal_96 (lv_at hl 0 rfl) ?_
  refine lv_if_eq (tgt := 114) hx hb dX11_deal_98 rfl (fun hc => (fun hX => ?_) ((mh_if hX).1 hc)) (fun hc => (fun hX => ?_) ((mh_if hX).2 hc))
  · exact w_X11_deal_b114 cx th ht hr  h _ _ ls wd (lv_sub hl [] rfl) hX
  · refine lv_aload_n hx hb dX11_deal_101 rfl (lv_at hl 1 rfl) ?_
    refine mh_getR cx wd fl_X11_92 dX11_deal_102 hX (fun a1 hX => ?_)
    refine mh_callVI cx wd [] (rfl : vwCl[7]? = some (RX7, TX7, 2)) yw_X7_total vw_X11_276 rfl hl.1 rfl (Nat.le_of_ble_eq_true rfl) dX11_deal_105 ⟨Nat.le_of_ble_eq_true rfl, Nat.le_of_ble_eq_true rfl⟩ ⟨Nat.le_of_ble_eq_true rfl, Nat.le_of_ble_eq_true rfl⟩ (fun _ _ q => c_X7_total q) hX (fun v3 h2 H locs wd hX => ?_)
    refine lv_sipush (v := 20000) hx hb dX11_deal_108 (by decide) ?_
    refine lv_icmp_le (tgt := 117) hx hb dX11_deal_111 rfl (fun hc => (fun hX => ?_) ((mh_if hX).1 hc)) (fun hc => (fun hX => ?_) ((mh_if hX).2 hc))
    · refine lv_aload_n hx hb dX11_deal_117 rfl (lv_at hl 1 rfl) ?_
      refine mh_getR cx wd fl_X11_14 dX11_deal_118 hX (fun a4 hX => ?_)
      refine mh_callVV cx wd [] (rfl : vwCl[3]? = some (RX3, TX3, 5)) yw_X3_begin vw_X11_117 rfl hl.1 rfl (Nat.le_of_ble_eq_true rfl) dX11_deal_121 ⟨Nat.le_of_ble_eq_true rfl, Nat.le_of_ble_eq_true rfl⟩ ⟨Nat.le_of_ble_eq_true rfl, Nat.le_of_ble_eq_true rfl⟩ (fun _ q => c_X3_begin q) hX (fun h5 H locs wd hX => ?_)
      refine lv_aload_n hx hb dX11_deal_124 rfl (lv_at hl 1 rfl) ?_
      refine mh_getR cx wd fl_X11_14 dX11_deal_125 hX (fun a6 hX => ?_)
      refine lv_iload_n hx hb dX11_deal_128 rfl (lv_at hl 2 rfl) ?_
      refine mh_callVR cx wd [.int x1] (rfl : vwCl[3]? = some (RX3, TX3, 5)) yw_X3_purse vw_X11_328 rfl hl.1 rfl (Nat.le_of_ble_eq_true rfl) dX11_deal_129 ⟨Nat.le_of_ble_eq_true rfl, Nat.le_of_ble_eq_true rfl⟩ ⟨Nat.le_of_ble_eq_true rfl, Nat.le_of_ble_eq_true rfl⟩ (fun _ _ q => c_X3_purse q) hX (fun a8 h7 H locs wd hX => ?_)
      refine lv_aload_n hx hb dX11_deal_132 rfl (lv_at hl 1 rfl) ?_
      refine mh_getR cx wd fl_X11_88 dX11_deal_133 hX (fun a9 hX => ?_)
      refine mh_callVV cx wd [.ref a9] (rfl : vwCl[7]? = some (RX7, TX7, 2)) yw_X7_copy vw_X11_349 rfl hl.1 rfl (Nat.le_of_ble_eq_true rfl) dX11_deal_136 ⟨Nat.le_of_ble_eq_true rfl, Nat.le_of_ble_eq_true rfl⟩ ⟨Nat.le_of_ble_eq_true rfl, Nat.le_of_ble_eq_true rfl⟩ (fun _ q => c_X7_copy q) hX (fun h10 H locs wd hX => ?_)
      refine lv_aload_n hx hb dX11_deal_139 rfl (lv_at hl 1 rfl) ?_
      refine mh_getR cx wd fl_X11_14 dX11_deal_140 hX (fun a11 hX => ?_)
      refine lv_iload_n hx hb dX11_deal_143 rfl (lv_at hl 3 rfl) ?_
      refine mh_callVR cx wd [.int x2] (rfl : vwCl[3]? = some (RX3, TX3, 5)) yw_X3_purse vw_X11_328 rfl hl.1 rfl (Nat.le_of_ble_eq_true rfl) dX11_deal_144 ⟨Nat.le_of_ble_eq_true rfl, Nat.le_of_ble_eq_true rfl⟩ ⟨Nat.le_of_ble_eq_true rfl, Nat.le_of_ble_eq_true rfl⟩ (fun _ _ q => c_X3_purse q) hX (fun a13 h12 H locs wd hX => ?_)
      refine lv_aload_n hx hb dX11_deal_147 rfl (lv_at hl 1 rfl) ?_
      refine mh_getR cx wd fl_X11_92 dX11_deal_148 hX (fun a14 hX => ?_)
      refine mh_callVV cx wd [.ref a14] (rfl : vwCl[7]? = some (RX7, TX7, 2)) yw_X7_copy vw_X11_349 rfl hl.1 rfl (Nat.le_of_ble_eq_true rfl) dX11_deal_151 ⟨Nat.le_of_ble_eq_true rfl, Nat.le_of_ble_eq_true rfl⟩ ⟨Nat.le_of_ble_eq_true rfl, Nat.le_of_ble_eq_true rfl⟩ (fun _ q => c_X7_copy q) hX (fun h15 H locs wd hX => ?_)
      refine lv_aload_n hx hb dX11_deal_154 rfl (lv_at hl 1 rfl) ?_
      refine lv_iload_n hx hb dX11_deal_155 rfl (lv_at hl 4 rfl) ?_
      refine lv_iload hx hb dX11_deal_156 (lv_at hl 5 rfl) ?_
      refine mh_callVI cx wd [.int x3, .int x4] (rfl : vwCl[11]? = some (RX11, TX11, 16)) yw_X11_moved vw_X11_346 rfl hl.1 rfl (Nat.le_of_ble_eq_true rfl) dX11_deal_158 ⟨Nat.le_of_ble_eq_true rfl, Nat.le_of_ble_eq_true rfl⟩ ⟨Nat.le_of_ble_eq_true rfl, Nat.le_of_ble_eq_true rfl⟩ (fun _ _ q => c_X11_moved q) hX (fun v17 h16 H locs wd hX => ?_)
      exact mh_xiret cx wd hr hX dX11_deal_161 ⟨Nat.le_of_ble_eq_true rfl, Nat.le_of_ble_eq_true rfl⟩
    · exact w_X11_deal_b114 cx th ht hr  h2 _ _ ls wd (lv_sub hl [] rfl) hX
set_option maxRecDepth 100000 in
set_option maxHeartbeats 4000000 in
theorem w_X11_deal_b93 {p : Program} {l : Launch} {e : Env} {s : State} {m : MethodId} {args : Array Value} {below : List Frame} {meth : Method} {c : Code} {D : va_G} {ks : Nat → ClassId} {L : List Nat} {r : Nat ⊕ Int32} {h' : mh_H} (k94 : Nat → Int32 → Int32 → Int32 → Int32 → Int32 → mh_H → Option ((Nat ⊕ Int32) × mh_H)) (cx : mh_C p m c cX11_deal 6 s args RX11 meth D ks (mh_A L s.heap.size)) (th : mh_Th l (mh_A L s.heap.size) s) (ht : ∀ x ∈ c.exceptionTable.toList, False) (hr : meth.sig.returnType = (some .int))
    (hk94 : ∀ (o0 : Nat) (x1 : Int32) (x2 : Int32) (x3 : Int32) (x4 : Int32) (t0 : Int32) (h : mh_H) (H : Heap) (locs : List Loc) (ls : Array Slot), mh_W D ks L (mh_A L s.heap.size) s.heap h H locs → lv_has ls 6 [(0, .ref o0), (1, .int x1), (2, .int x2), (3, .int x3), (4, .int x4)] → k94 o0 x1 x2 x3 x4 t0 h = some (r, h') → W p l e (mh_rx 8 3) s m args below meth c H locs 3 18 (vx_MQ below (mh_Qx D ks L s.heap.size (mh_em mh_eI r) h') (mh_XC D ks L s.heap.size (mh_em mh_eI r) h') args s 3 18 (mh_A L s.heap.size)) (F0 m 94 ls [.int t0])) :
    ∀ (o0 : Nat) (x1 : Int32) (x2 : Int32) (x3 : Int32) (x4 : Int32) (h : mh_H) (H : Heap) (locs : List Loc) (ls : Array Slot), mh_W D ks L (mh_A L s.heap.size) s.heap h H locs → lv_has ls 6 [(0, .ref o0), (1, .int x1), (2, .int x2), (3, .int x3), (4, .int x4)] → f_X11_deal_b93 k94 o0 x1 x2 x3 x4 h = some (r, h') → W p l e (mh_rx 8 3) s m args below meth c H locs 3 18 (vx_MQ below (mh_Qx D ks L s.heap.size (mh_em mh_eI r) h') (mh_XC D ks L s.heap.size (mh_em mh_eI r) h') args s 3 18 (mh_A L s.heap.size)) (F0 m 93 ls []) := by
  intro o0 x1 x2 x3 x4 h H locs ls wd hl hX
  have hx := cx.1.1
  have hb := cx.1.2.1
  unfold f_X11_deal_b93 at hX
  refine lv_iconst (v := 0) hx hb dX11_deal_93 (by decide) ?_
  exact hk94 _ _ _ _ _ _ h _ _ ls wd (lv_sub hl [0, 1, 2, 3, 4] rfl) hX
set_option maxRecDepth 100000 in
set_option maxHeartbeats 4000000 in
theorem w_X11_deal_e {p : Program} {l : Launch} {e : Env} {s : State} {m : MethodId} {args : Array Value} {below : List Frame} {meth : Method} {c : Code} {D : va_G} {ks : Nat → ClassId} {L : List Nat} {r : Nat ⊕ Int32} {h' : mh_H} (cx : mh_C p m c cX11_deal 6 s args RX11 meth D ks (mh_A L s.heap.size)) (th : mh_Th l (mh_A L s.heap.size) s) (ht : ∀ x ∈ c.exceptionTable.toList, False) (hr : meth.sig.returnType = (some .int)) :
    ∀ (o0 : Nat) (x1 : Int32) (x2 : Int32) (x3 : Int32) (h : mh_H) (H : Heap) (locs : List Loc) (ls : Array Slot), mh_W D ks L (mh_A L s.heap.size) s.heap h H locs → lv_has ls 6 [(0, .ref o0), (1, .int x1), (2, .int x2), (3, .int x3)] → f_X11_deal_e o0 x1 x2 x3 h = some (r, h') → W p l e (mh_rx 8 3) s m args below meth c H locs 0 0 (vx_MQ below (mh_Qx D ks L s.heap.size (mh_em mh_eI r) h') (mh_XC D ks L s.heap.size (mh_em mh_eI r) h') args s 3 18 (mh_A L s.heap.size)) (F0 m 0 ls []) := by
  intro o0 x1 x2 x3 h H locs ls wd hl hX
  have hx := cx.1.1
  have hb := cx.1.2.1
  unfold f_X11_deal_e at hX
  refine lv_aload_n hx hb dX11_deal_0 rfl (lv_at hl 0 rfl) ?_
  refine lv_iload_n hx hb dX11_deal_1 rfl (lv_at hl 1 rfl) ?_
  refine lv_iload_n hx hb dX11_deal_2 rfl (lv_at hl 2 rfl) ?_
  refine lv_iload_n hx hb dX11_deal_3 rfl (lv_at hl 3 rfl) ?_
  refine mh_xV mh_eI mh_eI (K := 3) [.int x1, .int x2, .int x3] cx th ht wd (rfl : vwCl[11]? = some (RX11, TX11, 16)) yw_X11_changeBack vw_X11_342 rfl hl.1 rfl (Nat.le_of_ble_eq_true rfl) dX11_deal_4 ⟨Nat.le_of_ble_eq_true rfl, Nat.le_of_ble_eq_true rfl⟩ ⟨Nat.le_of_ble_eq_true rfl, Nat.le_of_ble_eq_true rfl⟩ ⟨Nat.le_of_ble_eq_true rfl, Nat.le_of_ble_eq_true rfl⟩ (fun _ _ q => c_X11_changeBack q) hX (fun v19 h18 H locs wd hX => ?_)
  refine W.eq (g2 := F0 m 7 ls [.int v19]) rfl ?_
  refine lv_istore (lv' := [(4, .int v19), (0, .ref o0), (1, .int x1), (2, .int x2), (3, .int x3)]) hx hb dX11_deal_7 hl (Nat.le_of_ble_eq_true rfl) rfl (fun ls hl => ?_)
  refine lv_iload hx hb dX11_deal_9 (lv_at hl 0 rfl) ?_
  refine lv_iconst (v := (-1)) hx hb dX11_deal_11 (by decide) ?_
  refine lv_icmp_ne (tgt := 17) hx hb dX11_deal_12 rfl (fun hc => (fun hX => ?_) ((mh_if hX).2 hc)) (fun hc => (fun hX => ?_) ((mh_if hX).1 hc))
  · refine lv_aload_n hx hb dX11_deal_17 rfl (lv_at hl 1 rfl) ?_
    refine mh_getR cx wd fl_X11_88 dX11_deal_18 hX (fun a20 hX => ?_)
    refine lv_aload_n hx hb dX11_deal_21 rfl (lv_at hl 1 rfl) ?_
    refine mh_getR cx wd fl_X11_14 dX11_deal_22 hX (fun a21 hX => ?_)
    refine lv_iload_n hx hb dX11_deal_25 rfl (lv_at hl 2 rfl) ?_
    refine mh_callVR cx wd [.int x1] (rfl : vwCl[3]? = some (RX3, TX3, 5)) yw_X3_purse vw_X11_328 rfl hl.1 rfl (Nat.le_of_ble_eq_true rfl) dX11_deal_26 ⟨Nat.le_of_ble_eq_true rfl, Nat.le_of_ble_eq_true rfl⟩ ⟨Nat.le_of_ble_eq_true rfl, Nat.le_of_ble_eq_true rfl⟩ (fun _ _ q => c_X3_purse q) hX (fun a23 h22 H locs wd hX => ?_)
    refine mh_callVV cx wd [.ref a23] (rfl : vwCl[7]? = some (RX7, TX7, 2)) yw_X7_copy vw_X11_349 rfl hl.1 rfl (Nat.le_of_ble_eq_true rfl) dX11_deal_29 ⟨Nat.le_of_ble_eq_true rfl, Nat.le_of_ble_eq_true rfl⟩ ⟨Nat.le_of_ble_eq_true rfl, Nat.le_of_ble_eq_true rfl⟩ (fun _ q => c_X7_copy q) hX (fun h24 H locs wd hX => ?_)
    refine lv_aload_n hx hb dX11_deal_32 rfl (lv_at hl 1 rfl) ?_
    refine mh_getR cx wd fl_X11_92 dX11_deal_33 hX (fun a25 hX => ?_)
    refine lv_aload_n hx hb dX11_deal_36 rfl (lv_at hl 1 rfl) ?_
    refine mh_getR cx wd fl_X11_14 dX11_deal_37 hX (fun a26 hX => ?_)
    refine lv_iload_n hx hb dX11_deal_40 rfl (lv_at hl 3 rfl) ?_
    refine mh_callVR cx wd [.int x2] (rfl : vwCl[3]? = some (RX3, TX3, 5)) yw_X3_purse vw_X11_328 rfl hl.1 rfl (Nat.le_of_ble_eq_true rfl) dX11_deal_41 ⟨Nat.le_of_ble_eq_true rfl, Nat.le_of_ble_eq_true rfl⟩ ⟨Nat.le_of_ble_eq_true rfl, Nat.le_of_ble_eq_true rfl⟩ (fun _ _ q => c_X3_purse q) hX (fun a28 h27 H locs wd hX => ?_)
    refine mh_callVV cx wd [.ref a28] (rfl : vwCl[7]? = some (RX7, TX7, 2)) yw_X7_copy vw_X11_349 rfl hl.1 rfl (Nat.le_of_ble_eq_true rfl) dX11_deal_44 ⟨Nat.le_of_ble_eq_true rfl, Nat.le_of_ble_eq_true rfl⟩ ⟨Nat.le_of_ble_eq_true rfl, Nat.le_of_ble_eq_true rfl⟩ (fun _ q => c_X7_copy q) hX (fun h29 H locs wd hX => ?_)
    refine lv_aload_n hx hb dX11_deal_47 rfl (lv_at hl 1 rfl) ?_
    refine mh_getR cx wd fl_X11_78 dX11_deal_48 hX (fun a30 hX => ?_)
    refine lv_iload_n hx hb dX11_deal_51 rfl (lv_at hl 4 rfl) ?_
    refine lv_iload hx hb dX11_deal_52 (lv_at hl 0 rfl) ?_
    refine lv_iadd hx hb dX11_deal_54 ?_
    refine lv_aload_n hx hb dX11_deal_55 rfl (lv_at hl 1 rfl) ?_
    refine mh_getR cx wd fl_X11_88 dX11_deal_56 hX (fun a31 hX => ?_)
    refine lv_aload_n hx hb dX11_deal_59 rfl (lv_at hl 1 rfl) ?_
    refine mh_getR cx wd fl_X11_92 dX11_deal_60 hX (fun a32 hX => ?_)
    refine mh_callVI cx wd [.int (x3 + v19), .ref a31, .ref a32] (rfl : vwCl[8]? = some (RX8, TX8, 3)) yw_X8_move vw_X11_351 rfl hl.1 rfl (Nat.le_of_ble_eq_true rfl) dX11_deal_63 ⟨Nat.le_of_ble_eq_true rfl, Nat.le_of_ble_eq_true rfl⟩ ⟨Nat.le_of_ble_eq_true rfl, Nat.le_of_ble_eq_true rfl⟩ (fun _ _ q => c_X8_move q) hX (fun v34 h33 H locs wd hX => ?_)
    refine lv_if_eq (tgt := 93) hx hb dX11_deal_66 rfl (fun hc => (fun hX => ?_) ((mh_if hX).1 hc)) (fun hc => (fun hX => ?_) ((mh_if hX).2 hc))
    · exact w_X11_deal_b93 (f_X11_deal_b94) cx th ht hr (w_X11_deal_b94 cx th ht hr) _ _ _ _ _ h33 _ _ ls wd (lv_sub hl [1, 2, 3, 4, 0] rfl) hX
    · refine lv_aload_n hx hb dX11_deal_69 rfl (lv_at hl 1 rfl) ?_
      refine mh_getR cx wd fl_X11_82 dX11_deal_70 hX (fun a35 hX => ?_)
      refine lv_iload hx hb dX11_deal_73 (lv_at hl 0 rfl) ?_
      refine lv_aload_n hx hb dX11_deal_75 rfl (lv_at hl 1 rfl) ?_
      refine mh_getR cx wd fl_X11_92 dX11_deal_76 hX (fun a36 hX => ?_)
      refine lv_aload_n hx hb dX11_deal_79 rfl (lv_at hl 1 rfl) ?_
      refine mh_getR cx wd fl_X11_88 dX11_deal_80 hX (fun a37 hX => ?_)
      refine mh_callVI cx wd [.int v19, .ref a36, .ref a37] (rfl : vwCl[8]? = some (RX8, TX8, 3)) yw_X8_move vw_X11_351 rfl hl.1 rfl (Nat.le_of_ble_eq_true rfl) dX11_deal_83 ⟨Nat.le_of_ble_eq_true rfl, Nat.le_of_ble_eq_true rfl⟩ ⟨Nat.le_of_ble_eq_true rfl, Nat.le_of_ble_eq_true rfl⟩ (fun _ _ q => c_X8_move q) hX (fun v39 h38 H locs wd hX => ?_)
      refine lv_if_eq (tgt := 93) hx hb dX11_deal_86 rfl (fun hc => (fun hX => ?_) ((mh_if hX).1 hc)) (fun hc => (fun hX => ?_) ((mh_if hX).2 hc))
      · exact w_X11_deal_b93 (f_X11_deal_b94) cx th ht hr (w_X11_deal_b94 cx th ht hr) _ _ _ _ _ h38 _ _ ls wd (lv_sub hl [1, 2, 3, 4, 0] rfl) hX
      · refine lv_iconst (v := 1) hx hb dX11_deal_89 (by decide) ?_
        refine lv_goto (tgt := 94) hx hb dX11_deal_90 rfl ?_
        exact w_X11_deal_b94 cx th ht hr _ _ _ _ _ _ h38 _ _ ls wd (lv_sub hl [1, 2, 3, 4, 0] rfl) hX
  · refine lv_iconst (v := (-1)) hx hb dX11_deal_15 (by decide) ?_
    exact mh_xiret cx wd hr hX dX11_deal_16 ⟨Nat.le_of_ble_eq_true rfl, Nat.le_of_ble_eq_true rfl⟩
set_option maxRecDepth 100000 in
theorem c_X11_deal {l : Launch} {L : List Nat} {h h' : mh_H} {r : Nat ⊕ Int32} {o0 : Nat} {x1 : Int32} {x2 : Int32} {x3 : Int32} (hX : f_X11_deal_e o0 x1 x2 x3 h = some (r, h')) : mh_Mx l yX11_deal (Cond.code yX11_deal cX11_deal 6 (some .int) :: mh_TB) (mh_rx 8 3) [.ref o0, .int x1, .int x2, .int x3] L h (mh_em mh_eI r) h' 3 18 :=
  mh_xof (by decide) (Nat.le_of_ble_eq_true rfl) (fun p e s m below meth c D ks ls hr cx th ht wd hl => by
    have hl : lv_has ls 6 [(0, .ref o0), (1, .int x1), (2, .int x2), (3, .int x3)] := hl
    exact w_X11_deal_e cx th ht hr o0 x1 x2 x3 h _ _ ls wd hl hX)
