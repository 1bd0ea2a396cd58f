def f_X12_hand_b24 (o0 : Nat) (h : mh_H) : Option (Int32 × mh_H) :=
  mh_b2 (mh_cal h o0 12 (f_X12_fail_e o0 (1 : Int32) h)) fun v2 h1 =>
  some (v2, h1)
def f_X12_hand_e (o0 : Nat) (x1 : Int32) (h : mh_H) : Option (Int32 × mh_H) :=
  (mh_pI h o0 12 0 (0 : Int32)).bind fun h3 =>
  (mh_gI h3 o0 12 15).bind fun v4 =>
  if v4 = 0 then (
  f_X12_hand_b24 o0 h3) else
  if x1 < 0 then (
  f_X12_hand_b24 o0 h3) else
  (mh_gI h3 o0 12 16).bind fun v5 =>
  if x1 < v5 then (
  (mh_gR h3 o0 12 18).bind fun a6 =>
  (mh_aI h3 a6 0 x1).bind fun v7 =>
  some (v7, h3)) else
  f_X12_hand_b24 o0 h3
set_option maxRecDepth 100000 in
set_option maxHeartbeats 4000000 in
theorem w_X12_hand_b24 {p : Program} {l : Launch} {e : Env} {s : State} {m : MethodId} {args : Array Value} {below : List Frame} {meth : Method} {c : Code} {D : va_G} {ks : Nat → ClassId} {L : List Nat} {r : Int32} {h' : mh_H} (cx : mh_C p m c cX12_hand 2 s args RX12 meth D ks (mh_A L s.heap.size)) (hr : meth.sig.returnType = (some .int)) :
    ∀ (o0 : Nat) (h : mh_H) (H : Heap) (locs : List Loc) (ls : Array Slot), mh_W D ks L (mh_A L s.heap.size) s.heap h H locs → lv_has ls 2 [(0, .ref o0)] → f_X12_hand_b24 o0 h = some (r, h') → W p l e (mh_rm 1) s m args below meth c H locs 0 0 (MQ below (mh_Qi D ks L s.heap.size r h') args s 0 0 (mh_A L s.heap.size)) (F0 m 24 ls []) := by
  intro o0 h H locs ls wd hl hX
  have hx := cx.1.1
  have hb := cx.1.2.1
  unfold f_X12_hand_b24 at hX
  refine lv_aload_n hx hb dX12_hand_24 rfl (lv_at hl 0 rfl) ?_
  refine lv_iconst (v := 1) hx hb dX12_hand_25 (by decide) ?_
  refine mh_callVI cx wd [.int (1 : Int32)] (rfl : vwCl[12]? = some (RX12, TX12, 38)) yw_X12_fail vw_X12_122 rfl hl.1 rfl (Nat.le_of_ble_eq_true rfl) dX12_hand_26 ⟨Nat.le_of_ble_eq_true rfl, Nat.le_of_ble_eq_true rfl⟩ ⟨Nat.le_refl _, Nat.le_refl _⟩ (fun _ _ q => c_X12_fail q) hX (fun v2 h1 H locs wd hX => ?_)
  exact mh_iret cx wd hr hX dX12_hand_29
set_option maxRecDepth 100000 in
set_option maxHeartbeats 4000000 in
theorem w_X12_hand_e {p : Program} {l : Launch} {e : Env} {s : State} {m : MethodId} {args : Array Value} {below : List Frame} {meth : Method} {c : Code} {D : va_G} {ks : Nat → ClassId} {L : List Nat} {r : Int32} {h' : mh_H} (cx : mh_C p m c cX12_hand 2 s args RX12 meth D ks (mh_A L s.heap.size)) (hr : meth.sig.returnType = (some .int)) :
    ∀ (o0 : Nat) (x1 : Int32) (h : mh_H) (H : Heap) (locs : List Loc) (ls : Array Slot), mh_W D ks L (mh_A L s.heap.size) s.heap h H locs → lv_has ls 2 [(0, .ref o0), (1, .int x1)] → f_X12_hand_e o0 x1 h = some (r, h') → W p l e (mh_rm 1) s m args below meth c H locs 0 0 (MQ below (mh_Qi D ks L s.heap.size r h') args s 0 0 (mh_A L s.heap.size)) (F0 m 0 ls []) := by
  intro o0 x1 h H locs ls wd hl hX
  have hx := cx.1.1
  have hb := cx.1.2.1
  unfold f_X12_hand_e at hX
  refine lv_aload_n hx hb dX12_hand_0 rfl (lv_at hl 0 rfl) ?_
  refine lv_iconst (v := 0) hx hb dX12_hand_1 (by decide) ?_
  refine mh_putI cx wd fp_X12_96 dX12_hand_2 hX (fun h3 H locs wd hX => ?_)
  refine lv_aload_n hx hb dX12_hand_5 rfl (lv_at hl 0 rfl) ?_
  refine mh_getI cx wd fl_X12_220 dX12_hand_6 hX (fun v4 hX => ?_)
  refine lv_if_eq (tgt := 24) hx hb dX12_hand_9 rfl (fun hc => (fun hX => ?_) ((mh_if hX).1 hc)) (fun hc => (fun hX => ?_) ((mh_if hX).2 hc))
  · exact w_X12_hand_b24 cx hr _ h3 _ _ ls wd (lv_sub hl [0] rfl) hX
  · refine lv_iload_n hx hb dX12_hand_12 rfl (lv_at hl 1 rfl) ?_
    refine lv_if_lt (tgt := 24) hx hb dX12_hand_13 rfl (fun hc => (fun hX => ?_) ((mh_if hX).1 hc)) (fun hc => (fun hX => ?_) ((mh_if hX).2 hc))
    · exact w_X12_hand_b24 cx hr _ h3 _ _ ls wd (lv_sub hl [0] rfl) hX
    · refine lv_iload_n hx hb dX12_hand_16 rfl (lv_at hl 1 rfl) ?_
      refine lv_aload_n hx hb dX12_hand_17 rfl (lv_at hl 0 rfl) ?_
      refine mh_getI cx wd fl_X12_217 dX12_hand_18 hX (fun v5 hX => ?_)
      refine lv_icmp_lt (tgt := 30) hx hb dX12_hand_21 rfl (fun hc => (fun hX => ?_) ((mh_if hX).1 hc)) (fun hc => (fun hX => ?_) ((mh_if hX).2 hc))
      · refine lv_aload_n hx hb dX12_hand_30 rfl (lv_at hl 0 rfl) ?_
        refine mh_getR cx wd fl_X12_51 dX12_hand_31 hX (fun a6 hX => ?_)
        refine lv_iload_n hx hb dX12_hand_34 rfl (lv_at hl 1 rfl) ?_
        refine mh_iald cx wd dX12_hand_35 hX (fun v7 hX => ?_)
        exact mh_iret cx wd hr hX dX12_hand_36
      · exact w_X12_hand_b24 cx hr _ h3 _ _ ls wd (lv_sub hl [0] rfl) hX
set_option maxRecDepth 100000 in
theorem c_X12_hand {l : Launch} {L : List Nat} {h h' : mh_H} {r : Int32} {o0 : Nat} {x1 : Int32} (hX : f_X12_hand_e o0 x1 h = some (r, h')) : mh_MI l yX12_hand (Cond.code yX12_hand cX12_hand 2 (some .int) :: mh_TB) (mh_rm 1) [.ref o0, .int x1] L h r h' :=
  mh_of (mc := 0) (ms := 0) (Qc := fun D ks sz => mh_Qi D ks L sz r h') (plainFor_of_name (by decide)) (Nat.le_of_ble_eq_true rfl) (fun p e s m below meth c D ks ls hr cx wd hl => by
    have hl : lv_has ls 2 [(0, .ref o0), (1, .int x1)] := hl
    exact w_X12_hand_e cx hr o0 x1 h _ _ ls wd hl hX)
def f_X12_put_b24 (o0 : Nat) (h : mh_H) : Option (Int32 × mh_H) :=
  mh_b2 (mh_cal h o0 12 (f_X12_fail_e o0 (1 : Int32) h)) fun v2 h1 =>
  some (v2, h1)
def f_X12_put_b41 (o0 : Nat) (h : mh_H) : Option (Int32 × mh_H) :=
  mh_b2 (mh_cal h o0 12 (f_X12_fail_e o0 (2 : Int32) h)) fun v4 h3 =>
  some (v4, h3)
def f_X12_put_e (o0 : Nat) (x1 : Int32) (x2 : Int32) (h : mh_H) : Option (Int32 × mh_H) :=
  (mh_pI h o0 12 0 (0 : Int32)).bind fun h5 =>
  (mh_gI h5 o0 12 15).bind fun v6 =>
  if v6 = 0 then (
  f_X12_put_b24 o0 h5) else
  if x1 < 0 then (
  f_X12_put_b24 o0 h5) else
  (mh_gI h5 o0 12 16).bind fun v7 =>
  if x1 < v7 then (
  if x2 < 0 then (
  f_X12_put_b41 o0 h5) else
  if x2 ≤ (3000 : Int32) then (
  (mh_gR h5 o0 12 18).bind fun a8 =>
  (mh_aI h5 a8 0 x1).bind fun v9 =>
  (mh_gR h5 o0 12 18).bind fun a10 =>
  (mh_sI h5 a10 x1 x2).bind fun h11 =>
  some (v9, h11)) else
  f_X12_put_b41 o0 h5) else
  f_X12_put_b24 o0 h5
set_option maxRecDepth 100000 in
set_option maxHeartbeats 4000000 in
theorem w_X12_put_b24 {p : Program} {l : Launch} {e : Env} {s : State} {m : MethodId} {args : Array Value} {below : List Frame} {meth : Method} {c : Code} {D : va_G} {ks : Nat → ClassId} {L : List Nat} {r : Int32} {h' : mh_H} (cx : mh_C p m c cX12_put 4 s args RX12 meth D ks (mh_A L s.heap.size)) (hr : meth.sig.returnType = (some .int)) :
    ∀ (o0 : Nat) (h : mh_H) (H : Heap) (locs : List Loc) (ls : Array Slot), mh_W D ks L (mh_A L s.heap.size) s.heap h H locs → lv_has ls 4 [(0, .ref o0)] → f_X12_put_b24 o0 h = some (r, h') → W p l e (mh_rm 1) s m args below meth c H locs 0 0 (MQ below (mh_Qi D ks L s.heap.size r h') args s 0 0 (mh_A L s.heap.size)) (F0 m 24 ls []) := by
  intro o0 h H locs ls wd hl hX
  have hx := cx.1.1
  have hb := cx.1.2.1
  unfold f_X12_put_b24 at hX
  refine lv_aload_n hx hb dX12_put_24 rfl (lv_at hl 0 rfl) ?_
  refine lv_iconst (v := 1) hx hb dX12_put_25 (by decide) ?_
  refine mh_callVI cx wd [.int (1 : Int32)] (rfl : vwCl[12]? = some (RX12, TX12, 38)) yw_X12_fail vw_X12_122 rfl hl.1 rfl (Nat.le_of_ble_eq_true rfl) dX12_put_26 ⟨Nat.le_of_ble_eq_true rfl, Nat.le_of_ble_eq_true rfl⟩ ⟨Nat.le_refl _, Nat.le_refl _⟩ (fun _ _ q => c_X12_fail q) hX (fun v2 h1 H locs wd hX => ?_)
  exact mh_iret cx wd hr hX dX12_put_29
set_option maxRecDepth 100000 in
set_option maxHeartbeats 4000000 in
theorem w_X12_put_b41 {p : Program} {l : Launch} {e : Env} {s : State} {m : MethodId} {args : Array Value} {below : List Frame} {meth : Method} {c : Code} {D : va_G} {ks : Nat → ClassId} {L : List Nat} {r : Int32} {h' : mh_H} (cx : mh_C p m c cX12_put 4 s args RX12 meth D ks (mh_A L s.heap.size)) (hr : meth.sig.returnType = (some .int)) :
    ∀ (o0 : Nat) (h : mh_H) (H : Heap) (locs : List Loc) (ls : Array Slot), mh_W D ks L (mh_A L s.heap.size) s.heap h H locs → lv_has ls 4 [(0, .ref o0)] → f_X12_put_b41 o0 h = some (r, h') → W p l e (mh_rm 1) s m args below meth c H locs 0 0 (MQ below (mh_Qi D ks L s.heap.size r h') args s 0 0 (mh_A L s.heap.size)) (F0 m 41 ls []) := by
  intro o0 h H locs ls wd hl hX
  have hx := cx.1.1
  have hb := cx.1.2.1
  unfold f_X12_put_b41 at hX
  refine lv_aload_n hx hb dX12_put_41 rfl (lv_at hl 0 rfl) ?_
  refine lv_iconst (v := 2) hx hb dX12_put_42 (by decide) ?_
  refine mh_callVI cx wd [.int (2 : Int32)] (rfl : vwCl[12]? = some (RX12, TX12, 38)) yw_X12_fail vw_X12_122 rfl hl.1 rfl (Nat.le_of_ble_eq_true rfl) dX12_put_43 ⟨Nat.le_of_ble_eq_true rfl, Nat.le_of_ble_eq_true rfl⟩ ⟨Nat.le_refl _, Nat.le_refl _⟩ (fun _ _ q => c_X12_fail q) hX (fun v4 h3 H locs wd hX => ?_)
  exact mh_iret cx wd hr hX dX12_put_46
set_option maxRecDepth 100000 in
set_option maxHeartbeats 4000000 in
theorem w_X12_put_e {p : Program} {l : Launch} {e : Env} {s : State} {m : MethodId} {args : Array Value} {below : List Frame} {meth : Method} {c : Code} {D : va_G} {ks : Nat → ClassId} {L : List Nat} {r : Int32} {h' : mh_H} (cx : mh_C p m c cX12_put 4 s args RX12 meth D ks (mh_A L s.heap.size)) (hr : meth.sig.returnType = (some .int)) :
    ∀ (o0 : Nat) (x1 : Int32) (x2 : Int32) (h : mh_H) (H : Heap) (locs : List Loc) (ls : Array Slot), mh_W D ks L (mh_A L s.heap.size) s.heap h H locs → lv_has ls 4 [(0, .ref o0), (1, .int x1), (2, .int x2)] → f_X12_put_e o0 x1 x2 h = some (r, h') → W p l e (mh_rm 1) s m args below meth c H locs 0 0 (MQ below (mh_Qi D ks L s.heap.size r h') args s 0 0 (mh_A L s.heap.size)) (F0 m 0 ls []) := by
  intro o0 x1 x2 h H locs ls wd hl hX
  have hx := cx.1.1
  have hb := cx.1.2.1
  unfold f_X12_put_e at hX
  refine lv_aload_n hx hb dX12_put_0 rfl (lv_at hl 0 rfl) ?_
  refine lv_iconst (v := 0) hx hb dX12_put_1 (by decide) ?_
  refine mh_putI cx wd fp_X12_96 dX12_put_2 hX (fun h5 H locs wd hX => ?_)
  refine lv_aload_n hx hb dX12_put_5 rfl (lv_at hl 0 rfl) ?_
  refine mh_getI cx wd fl_X12_220 dX12_put_6 hX (fun v6 hX => ?_)
  refine lv_if_eq (tgt := 24) hx hb dX12_put_9 rfl (fun hc => (fun hX => ?_) ((mh_if hX).1 hc)) (fun hc => (fun hX => ?_) ((mh_if hX).2 hc))
  · exact w_X12_put_b24 cx hr _ h5 _ _ ls wd (lv_sub hl [0] rfl) hX
  · refine lv_iload_n hx hb dX12_put_12 rfl (lv_at hl 1 rfl) ?_
    refine lv_if_lt (tgt := 24) hx hb dX12_put_13 rfl (fun hc => (fun hX => ?_) ((mh_if hX).1 hc)) (fun hc => (fun hX => ?_) ((mh_if hX).2 hc))
    · exact w_X12_put_b24 cx hr _ h5 _ _ ls wd (lv_sub hl [0] rfl) hX
    · refine lv_iload_n hx hb dX12_put_16 rfl (lv_at hl 1 rfl) ?_
      refine lv_aload_n hx hb dX12_put_17 rfl (lv_at hl 0 rfl) ?_
      refine mh_getI cx wd fl_X12_217 dX12_put_18 hX (fun v7 hX => ?_)
      refine lv_icmp_lt (tgt := 30) hx hb dX12_put_21 rfl (fun hc => (fun hX => ?_) ((mh_if hX).1 hc)) (fun hc => (fun hX => ?_) ((mh_if hX).2 hc))
      · refine lv_iload_n hx hb dX12_put_30 rfl (lv_at hl 2 rfl) ?_
        refine lv_if_lt (tgt := 41) hx hb dX12_put_31 rfl (fun hc => (fun hX => ?_) ((mh_if hX).1 hc)) (fun hc => (fun hX => ?_) ((mh_if hX).2 hc))
        · exact w_X12_put_b41 cx hr _ h5 _ _ ls wd (lv_sub hl [0] rfl) hX
        · refine lv_iload_n hx hb dX12_put_34 rfl (lv_at hl 2 rfl) ?_
          refine lv_sipush (v := 3000) hx hb dX12_put_35 (by decide) ?_
          refine lv_icmp_le (tgt := 47) hx hb dX12_put_38 rfl (fun hc => (fun hX => ?_) ((mh_if hX).1 hc)) (fun hc => (fun hX => ?_) ((mh_if hX).2 hc))
          · refine lv_aload_n hx hb dX12_put_47 rfl (lv_at hl 0 rfl) ?_
            refine mh_getR cx wd fl_X12_51 dX12_put_48 hX (fun a8 hX => ?_)
            refine lv_iload_n hx hb dX12_put_51 rfl (lv_at hl 1 rfl) ?_
            refine mh_iald cx wd dX12_put_52 hX (fun v9 hX => ?_)
            refine lv_istore_n (lv' := [(3, .int v9), (0, .ref o0), (1, .int x1), (2, .int x2)]) hx hb dX12_put_53 rfl hl (Nat.le_of_ble_eq_true rfl) rfl (fun ls hl => ?_)
            refine lv_aload_n hx hb dX12_put_54 rfl (lv_at hl 1 rfl) ?_
            refine mh_getR cx wd fl_X12_51 dX12_put_55 hX (fun a10 hX => ?_)
            refine lv_iload_n hx hb dX12_put_58 rfl (lv_at hl 2 rfl) ?_
            refine lv_iload_n hx hb dX12_put_59 rfl (lv_at hl 3 rfl) ?_
            refine mh_iast cx wd dX12_put_60 hX (fun h11 H locs wd hX => ?_)
            refine lv_iload_n hx hb dX12_put_61 rfl (lv_at hl 0 rfl) ?_
            exact mh_iret cx wd hr hX dX12_put_62
          · exact w_X12_put_b41 cx hr _ h5 _ _ ls wd (lv_sub hl [0] rfl) hX
      · exact w_X12_put_b24 cx hr _ h5 _ _ ls wd (lv_sub hl [0] rfl) hX
set_option maxRecDepth 100000 in
theorem c_X12_put {l : Launch} {L : List Nat} {h h' : mh_H} {r : Int32} {o0 : Nat} {x1 : Int32} {x2 : Int32} (hX : f_X12_put_e o0 x1 x2 h = some (r, h')) : mh_MI l yX12_put (Cond.code yX12_put cX12_put 4 (some .int) :: mh_TB) (mh_rm 1) [.ref o0, .int x1, .int x2] L h r h' :=
  mh_of (mc := 0) (ms := 0) (Qc := fun D ks sz => mh_Qi D ks L sz r h') (plainFor_of_name (by decide)) (Nat.le_of_ble_eq_true rfl) (fun p e s m below meth c D ks ls hr cx wd hl => by
    have hl : lv_has ls 4 [(0, .ref o0), (1, .int x1), (2, .int x2)] := hl
    exact w_X12_put_e cx hr o0 x1 x2 h _ _ ls wd hl hX)
def f_X12_rank_b178 (k114 : Nat → Int32 → Int64 → Int32 → mh_H → Option (Int64 × mh_H)) (o0 : Nat) (x3 : Int32) (y4 : Int64) (x6 : Int32) (x7 : Int32) (h : mh_H) : Option (Int64 × mh_H) :=
  (mh_gR h o0 12 18).bind fun a1 =>
  (mh_aI h a1 0 (x6 - (1 : Int32))).bind fun v2 =>
  mh_nm (x3 - (v2 * x7)) fun v3 =>
  mh_nm (x6 + Int32.ofInt (-1)) fun v4 =>
  k114 o0 v3 y4 v4 h
def f_X12_rank_b136 (k114 : Nat → Int32 → Int64 → Int32 → mh_H → Option (Int64 × mh_H)) : Nat → Nat → Int32 → Int64 → Int32 → Int32 → Int32 → mh_H → Option (Int64 × mh_H)
  | 0, _, _, _, _, _, _, _ => none
  | n + 1, o0, x3, y4, x6, x7, x8, h =>
    (mh_gR h o0 12 18).bind fun a5 =>
    (mh_aI h a5 0 (x6 - (1 : Int32))).bind fun v6 =>
    if x8 ≤ v6 then (
    f_X12_rank_b178 k114 o0 x3 y4 x6 x7 h) else
    (mh_gR h o0 12 12).bind fun a7 =>
    (mh_aR h a7 6 (x6 - (1 : Int32))).bind fun a8 =>
    (mh_aJ h a8 (x3 - (x8 * x7))).bind fun w9 =>
    mh_nm (y4 + w9) fun w10 =>
    mh_nm (x8 + Int32.ofInt (-1)) fun v11 =>
    f_X12_rank_b136 k114 n o0 x3 w10 x6 x7 v11 h
def f_X12_rank_b199 (y4 : Int64) (h : mh_H) : Option (Int64 × mh_H) :=
  some (y4, h)
def f_X12_rank_b114 : Nat → Nat → Int32 → Int64 → Int32 → mh_H → Option (Int64 × mh_H)
  | 0, _, _, _, _, _ => none
  | n + 1, o0, x3, y4, x6, h =>
    if x6 ≤ 0 then (
    f_X12_rank_b199 y4 h) else
    (mh_gR h o0 12 17).bind fun a12 =>
    (mh_aI h a12 0 (x6 - (1 : Int32))).bind fun v13 =>
    mh_nz (v13 = 0) <|
    mh_nm (x3 / v13) fun v14 =>
    f_X12_rank_b136 (f_X12_rank_b114 n) mh_fu o0 x3 y4 x6 v13 v14 h
def f_X12_rank_b55 (o0 : Nat) (y1 : Int64) (h : mh_H) : Option (Int64 × mh_H) :=
  if (lg_cmp y1 (3001 : Int64)) < 0 then (
  (mh_gR h o0 12 17).bind fun a15 =>
  (mh_gI h o0 12 16).bind fun v16 =>
  (mh_cal h o0 12 (f_X12_count_e o0 a15 (0 : Int32) v16 h)).bind fun h17 =>
  mh_nm ((y1).toInt32) fun v18 =>
  (mh_gR h17 o0 12 12).bind fun a19 =>
  (mh_gI h17 o0 12 16).bind fun v20 =>
  (mh_aR h17 a19 6 v20).bind fun a21 =>
  (mh_aJ h17 a21 v18).bind fun w22 =>
  if (lg_cmp w22 (4000000000000000000 : Int64)) ≤ 0 then (
  mh_nm (0 : Int64) fun w23 =>
  (mh_gI h17 o0 12 16).bind fun v24 =>
  f_X12_rank_b114 mh_fu o0 v18 w23 v24 h17) else
  some ((-1 : Int64), h17)) else
  some ((-1 : Int64), h)
def f_X12_rank_b23 : Nat → Nat → Int64 → Int32 → mh_H → Option (Int64 × mh_H)
  | 0, _, _, _, _ => none
  | n + 1, o0, y1, x3, h =>
    (mh_gI h o0 12 16).bind fun v25 =>
    if v25 ≤ x3 then (
    f_X12_rank_b55 o0 y1 h) else
    (mh_gR h o0 12 18).bind fun a26 =>
    (mh_aI h a26 0 x3).bind fun v27 =>
    (mh_gR h o0 12 17).bind fun a28 =>
    (mh_aI h a28 0 x3).bind fun v29 =>
    mh_nm (y1 + ((v27).toInt64 * (v29).toInt64)) fun w30 =>
    mh_nm (x3 + Int32.ofInt (1)) fun v31 =>
    f_X12_rank_b23 n o0 w30 v31 h
def f_X12_rank_e (o0 : Nat) (h : mh_H) : Option (Int64 × mh_H) :=
  (mh_pI h o0 12 0 (0 : Int32)).bind fun h32 =>
  (mh_gI h32 o0 12 15).bind fun v33 =>
  if v33 = 0 then (
  mh_b2 (mh_cal h32 o0 12 (f_X12_fail_e o0 (1 : Int32) h32)) fun v37 h36 =>
  some ((v37).toInt64, h36)) else
  mh_nm (0 : Int64) fun w34 =>
  mh_nm (0 : Int32) fun v35 =>
  f_X12_rank_b23 mh_fu o0 w34 v35 h32
set_option maxRecDepth 100000 in
set_option maxHeartbeats 4000000 in
theorem w_X12_rank_b178 {p : Program} {l : Launch} {e : Env} {s : State} {m : MethodId} {args : Array Value} {below : List Frame} {meth : Method} {c : Code} {D : va_G} {ks : Nat → ClassId} {L : List Nat} {r : Int64} {h' : mh_H} (k114 : Nat → Int32 → Int64 → Int32 → mh_H → Option (Int64 × mh_H)) (cx : mh_C p m c cX12_rank 9 s args RX12 meth D ks (mh_A L s.heap.size)) (hr : meth.sig.returnType = (some .long))
    (hk114 : ∀ (o0 : Nat) (x3 : Int32) (y4 : Int64) (x6 : Int32) (h : mh_H) (H : Heap) (locs : List Loc) (ls : Array Slot), mh_W D ks L (mh_A L s.heap.size) s.heap h H locs → lv_has ls 9 [(0, .ref o0), (3, .int x3), (4, .long y4), (6, .int x6)] → k114 o0 x3 y4 x6 h = some (r, h') → W p l e (mh_rm 2) s m args below meth c H locs 0 0 (MQ below (mh_Ql D ks L s.heap.size r h') args s 0 0 (mh_A L s.heap.size)) (F0 m 114 ls [])) :
    ∀ (o0 : Nat) (x3 : Int32) (y4 : Int64) (x6 : Int32) (x7 : Int32) (h : mh_H) (H : Heap) (locs : List Loc) (ls : Array Slot), mh_W D ks L (mh_A L s.heap.size) s.heap h H locs → lv_has ls 9 [(0, .ref o0), (3, .int x3), (4, .long y4), (6, .int x6), (7, .int x7)] → f_X12_rank_b178 k114 o0 x3 y4 x6 x7 h = some (r, h') → W p l e (mh_rm 2) s m args below meth c H locs 0 0 (MQ below (mh_Ql D ks L s.heap.size r h') args s 0 0 (mh_A L s.heap.size)) (F0 m 178 ls []) := by
  intro o0 x3 y4 x6 x7 h H locs ls wd hl hX
  have hx := cx.1.1
  have hb := cx.1.2.1
  unfold f_X12_rank_b178 at hX
  refine lv_iload_n hx hb dX12_rank_178 rfl (lv_at hl 1 rfl) ?_
  refine lv_aload_n hx hb dX12_rank_179 rfl (lv_at hl 0 rfl) ?_
  refine mh_getR cx wd fl_X12_51 dX12_rank_180 hX (fun a1 hX => ?_)
  refine lv_iload hx hb dX12_rank_183 (lv_at hl 3 rfl) ?_
  refine lv_iconst (v := 1) hx hb dX12_rank_185 (by decide) ?_
  refine lv_isub hx hb dX12_rank_186 ?_
  refine mh_iald cx wd dX12_rank_187 hX (fun v2 hX => ?_)
  refine lv_iload hx hb dX12_rank_188 (lv_at hl 4 rfl) ?_
  refine lv_imul hx hb dX12_rank_190 ?_
  refine lv_isub hx hb dX12_rank_191 ?_
  refine mh_topi hX (fun v3 hX => ?_)
  refine lv_istore_n (lv' := [(3, .int v3), (0, .ref o0), (4, .long y4), (6, .int x6), (7, .int x7)]) hx hb dX12_rank_192 rfl hl (Nat.le_of_ble_eq_true rfl) rfl (fun ls hl => ?_)
  obtain ⟨v4, ev4, hX⟩ := mh_nmx hX
  refine lv_iinc (k := 3) (v := v4) (lv' := [(6, .int v4), (3, .int v3), (0, .ref o0), (4, .long y4), (7, .int x7)]) hx hb dX12_rank_193 hl rfl ev4 (Nat.le_of_ble_eq_true rfl) rfl (fun ls hl => ?_)
  refine lv_goto (tgt := 114) hx hb dX12_rank_196 rfl ?_
  exact hk114 _ _ _ _ h _ _ ls wd (lv_sub hl [2, 1, 3, 0] rfl) hX
set_option maxRecDepth 100000 in
set_option maxHeartbeats 4000000 in
theorem w_X12_rank_b136 {p : Program} {l : Launch} {e : Env} {s : State} {m : MethodId} {args : Array Value} {below : List Frame} {meth : Method} {c : Code} {D : va_G} {ks : Nat → ClassId} {L : List Nat} {r : Int64} {h' : mh_H} (k114 : Nat → Int32 → Int64 → Int32 → mh_H → Option (Int64 × mh_H)) (cx : mh_C p m c cX12_rank 9 s args RX12 meth D ks (mh_A L s.heap.size)) (hr : meth.sig.returnType = (some .long))
    (hk114 : ∀ (o0 : Nat) (x3 : Int32) (y4 : Int64) (x6 : Int32) (h : mh_H) (H : Heap) (locs : List Loc) (ls : Array Slot), mh_W D ks L (mh_A L s.heap.size) s.heap h H locs → lv_has ls 9 [(0, .ref o0), (3, .int x3), (4, .long y4), (6, .int x6)] → k114 o0 x3 y4 x6 h = some (r, h') → W p l e (mh_rm 2) s m args below meth c H locs 0 0 (MQ below (mh_Ql D ks L s.heap.size r h') args s 0 0 (mh_A L s.heap.size)) (F0 m 114 ls [])) :
    ∀ n : Nat, ∀ (o0 : Nat) (x3 : Int32) (y4 : Int64) (x6 : Int32) (x7 : Int32) (x8 : Int32) (h : mh_H) (H : Heap) (locs : List Loc) (ls : Array Slot), mh_W D ks L (mh_A L s.heap.size) s.heap h H locs → lv_has ls 9 [(0, .ref o0), (3, .int x3), (4, .long y4), (6, .int x6), (7, .int x7), (8, .int x8)] → f_X12_rank_b136 k114 n o0 x3 y4 x6 x7 x8 h = some (r, h') → W p l e (mh_rm 2) s m args below meth c H locs 0 0 (MQ below (mh_Ql D ks L s.heap.size r h') args s 0 0 (mh_A L s.heap.size)) (F0 m 136 ls []) := by
  intro n
  induction n with
  | zero =>
    intro o0 x3 y4 x6 x7 x8 h H locs ls wd hl hX
    cases hX
  | succ n ih =>
    intro o0 x3 y4 x6 x7 x8 h H locs ls wd hl hX
    have hx := cx.1.1
    have hb := cx.1.2.1
    rw [f_X12_rank_b136] at hX
    refine lv_iload hx hb dX12_rank_136 (lv_at hl 5 rfl) ?_
    refine lv_aload_n hx hb dX12_rank_138 rfl (lv_at hl 0 rfl) ?_
    refine mh_getR cx wd fl_X12_51 dX12_rank_139 hX (fun a5 hX => ?_)
    refine lv_iload hx hb dX12_rank_142 (lv_at hl 3 rfl) ?_
    refine lv_iconst (v := 1) hx hb dX12_rank_144 (by decide) ?_
    refine lv_isub hx hb dX12_rank_145 ?_
    refine mh_iald cx wd dX12_rank_146 hX (fun v6 hX => ?_)
    refine lv_icmp_le (tgt := 178) hx hb dX12_rank_147 rfl (fun hc => (fun hX => ?_) ((mh_if hX).1 hc)) (fun hc => (fun hX => ?_) ((mh_if hX).2 hc))
    · exact w_X12_rank_b178 k114 cx hr hk114 _ _ _ _ _ h _ _ ls wd (lv_sub hl [0, 1, 2, 3, 4] rfl) hX
    · refine lv_lload hx hb dX12_rank_150 (lv_at hl 2 rfl) ?_
      refine lv_aload_n hx hb dX12_rank_152 rfl (lv_at hl 0 rfl) ?_
      refine mh_getR cx wd fl_X12_42 dX12_rank_153 hX (fun a7 hX => ?_)
      refine lv_iload hx hb dX12_rank_156 (lv_at hl 3 rfl) ?_
      refine lv_iconst (v := 1) hx hb dX12_rank_158 (by decide) ?_
      refine lv_isub hx hb dX12_rank_159 ?_
      refine mh_aald cx wd 6 rfl rfl dX12_rank_160 hX (fun a8 hX => ?_)
      refine lv_iload_n hx hb dX12_rank_161 rfl (lv_at hl 1 rfl) ?_
      refine lv_iload hx hb dX12_rank_162 (lv_at hl 5 rfl) ?_
      refine lv_iload hx hb dX12_rank_164 (lv_at hl 4 rfl) ?_
      refine lv_imul hx hb dX12_rank_166 ?_
      refine lv_isub hx hb dX12_rank_167 ?_
      refine mh_lald cx wd dX12_rank_168 hX (fun w9 hX => ?_)
      refine lv_ladd hx hb dX12_rank_169 ?_
      refine mh_topl hX (fun w10 hX => ?_)
      refine lv_lstore (lv' := [(4, .long w10), (0, .ref o0), (3, .int x3), (6, .int x6), (7, .int x7), (8, .int x8)]) hx hb dX12_rank_170 hl (Nat.le_of_ble_eq_true rfl) rfl (fun ls hl => ?_)
      obtain ⟨v11, ev11, hX⟩ := mh_nmx hX
      refine lv_iinc (k := 5) (v := v11) (lv' := [(8, .int v11), (4, .long w10), (0, .ref o0), (3, .int x3), (6, .int x6), (7, .int x7)]) hx hb dX12_rank_172 hl rfl ev11 (Nat.le_of_ble_eq_true rfl) rfl (fun ls hl => ?_)
      refine lv_goto (tgt := 136) hx hb dX12_rank_175 rfl ?_
      exact ih _ _ _ _ _ _ h _ _ ls wd (lv_sub hl [2, 3, 1, 4, 5, 0] rfl) hX
set_option maxRecDepth 100000 in
set_option maxHeartbeats 4000000 in
theorem w_X12_rank_b199 {p : Program} {l : Launch} {e : Env} {s : State} {m : MethodId} {args : Array Value} {below : List Frame} {meth : Method} {c : Code} {D : va_G} {ks : Nat → ClassId} {L : List Nat} {r : Int64} {h' : mh_H} (cx : mh_C p m c cX12_rank 9 s args RX12 meth D ks (mh_A L s.heap.size)) (hr : meth.sig.returnType = (some .long)) :
    ∀ (y4 : Int64) (h : mh_H) (H : Heap) (locs : List Loc) (ls : Array Slot), mh_W D ks L (mh_A L s.heap.size) s.heap h H locs → lv_has ls 9 [(4, .long y4)] → f_X12_rank_b199 y4 h = some (r, h') → W p l e (mh_rm 2) s m args below meth c H locs 0 0 (MQ below (mh_Ql D ks L s.heap.size r h') args s 0 0 (mh_A L s.heap.size)) (F0 m 199 ls []) := by
  intro y4 h H locs ls wd hl hX
  have hx := cx.1.1
  have hb := cx.1.2.1
  unfold f_X12_rank_b199 at hX
  refine lv_lload hx hb dX12_rank_199 (lv_at hl 0 rfl) ?_
  exact mh_lret cx wd hr hX dX12_rank_201
set_option maxRecDepth 100000 in
set_option maxHeartbeats 4000000 in
theorem w_X12_rank_b114 {p : Program} {l : Launch} {e : Env} {s : State} {m : MethodId} {args : Array Value} {below : List Frame} {meth : Method} {c : Code} {D : va_G} {ks : Nat → ClassId} {L : List Nat} {r : Int64} {h' : mh_H} (cx : mh_C p m c cX12_rank 9 s args RX12 meth D ks (mh_A L s.heap.size)) (hr : meth.sig.returnType = (some .long)) :
    ∀ n : Nat, ∀ (o0 : Nat) (x3 : Int32) (y4 : Int64) (x6 : Int32) (h : mh_H) (H : Heap) (locs : List Loc) (ls : Array Slot), mh_W D ks L (mh_A L s.heap.size) s.heap h H locs → lv_has ls 9 [(0, .ref o0), (3, .int x3), (4, .long y4), (6, .int x6)] → f_X12_rank_b114 n o0 x3 y4 x6 h = some (r, h') → W p l e (mh_rm 2) s m args below meth c H locs 0 0 (MQ below (mh_Ql D ks L s.heap.size r h') args s 0 0 (mh_A L s.heap.size)) (F0 m 114 ls []) := by
  intro n
  induction n with
  | zero =>
    intro o0 x3 y4 x6 h H locs ls wd hl hX
    cases hX
  | succ n ih =>
    intro o0 x3 y4 x6 h H locs ls wd hl hX
    have hx := cx.1.1
    have hb := cx.1.2.1
    rw [f_X12_rank_b114] at hX
    refine lv_iload hx hb dX12_rank_114 (lv_at hl 3 rfl) ?_
    refine lv_if_le (tgt := 199) hx hb dX12_rank_116 rfl (fun hc => (fun hX => ?_) ((mh_if hX).1 hc)) (fun hc => (fun hX => ?_) ((mh_if hX).2 hc))
    · exact w_X12_rank_b199 cx hr _ h _ _ ls wd (lv_sub hl [2] rfl) hX
    · refine lv_aload_n hx hb dX12_rank_119 rfl (lv_at hl 0 rfl) ?_
      refine mh_getR cx wd fl_X12_48 dX12_rank_120 hX (fun a12 hX => ?_)
      refine lv_iload hx hb dX12_rank_123 (lv_at hl 3 rfl) ?_
      refine lv_iconst (v := 1) hx hb dX12_rank_125 (by decide) ?_
      refine lv_isub hx hb dX12_rank_126 ?_
      refine mh_iald cx wd dX12_rank_127 hX (fun v13 hX => ?_)
      refine lv_istore (lv' := [(7, .int v13), (0, .ref o0), (3, .int x3), (4, .long y4), (6, .int x6)]) hx hb dX12_rank_128 hl (Nat.le_of_ble_eq_true rfl) rfl (fun ls hl => ?_)
      refine lv_iload_n hx hb dX12_rank_130 rfl (lv_at hl 2 rfl) ?_
      refine lv_iload hx hb dX12_rank_131 (lv_at hl 0 rfl) ?_
      obtain ⟨hz, hX⟩ := mh_nzk hX
      refine lv_idiv hx hb dX12_rank_133 hz ?_
      refine mh_topi hX (fun v14 hX => ?_)
      refine lv_istore (lv' := [(8, .int v14), (7, .int v13), (0, .ref o0), (3, .int x3), (4, .long y4), (6, .int x6)]) hx hb dX12_rank_134 hl (Nat.le_of_ble_eq_true rfl) rfl (fun ls hl => ?_)
      exact w_X12_rank_b136 (f_X12_rank_b114 n) cx hr ih mh_fu _ _ _ _ _ _ h _ _ ls wd (lv_sub hl [2, 3, 4, 5, 1, 0] rfl) hX
set_option maxRecDepth 100000 in
set_option maxHeartbeats 4000000 in
theorem w_X12_rank_b55 {p : Program} {l : Launch} {e : Env} {s : State} {m : MethodId} {args : Array Value} {below : List Frame} {meth : Method} {c : Code} {D : va_G} {ks : Nat → ClassId} {L : List Nat} {r : Int64} {h' : mh_H} (cx : mh_C p m c cX12_rank 9 s args RX12 meth D ks (mh_A L s.heap.size)) (hr : meth.sig.returnType = (some .long)) :
    ∀ (o0 : Nat) (y1 : Int64) (h : mh_H) (H : Heap) (locs : List Loc) (ls : Array Slot), mh_W D ks L (mh_A L s.heap.size) s.heap h H locs → lv_has ls 9 [(0, .ref o0), (1, .long y1)] → f_X12_rank_b55 o0 y1 h = some (r, h') → W p l e (mh_rm 2) s m args below meth c H locs 0 0 (MQ below (mh_Ql D ks L s.heap.size r h') args s 0 0 (mh_A L s.heap.size)) (F0 m 55 ls []) := by
  intro o0 y1 h H locs ls wd hl hX
  have hx := cx.1.1
  have hb := cx.1.2.1
  unfold f_X12_rank_b55 at hX
  refine lv_lload_n hx hb dX12_rank_55 rfl (lv_at hl 1 rfl) ?_
  refine mh_ldc2 cx kl_X12_224 dX12_rank_56 ?_
  refine W.lcmp hx hb dX12_rank_59 ?_
  refine lv_if_lt (tgt := 67) hx hb dX12_rank_60 rfl (fun hc => (fun hX => ?_) ((mh_if hX).1 hc)) (fun hc => (fun hX => ?_) ((mh_if hX).2 hc))
  · refine lv_aload_n hx hb dX12_rank_67 rfl (lv_at hl 0 rfl) ?_
    refine lv_aload_n hx hb dX12_rank_68 rfl (lv_at hl 0 rfl) ?_
    refine mh_getR cx wd fl_X12_48 dX12_rank_69 hX (fun a15 hX => ?_)
    refine lv_iconst (v := 0) hx hb dX12_rank_72 (by decide) ?_
    refine lv_aload_n hx hb dX12_rank_73 rfl (lv_at hl 0 rfl) ?_
    refine mh_getI cx wd fl_X12_217 dX12_rank_74 hX (fun v16 hX => ?_)
    refine mh_callVV cx wd [.ref a15, .int (0 : Int32), .int v16] (rfl : vwCl[12]? = some (RX12, TX12, 38)) yw_X12_count vw_X12_209 rfl hl.1 rfl (Nat.le_of_ble_eq_true rfl) dX12_rank_77 ⟨Nat.le_of_ble_eq_true rfl, Nat.le_of_ble_eq_true rfl⟩ ⟨Nat.le_refl _, Nat.le_refl _⟩ (fun _ q => c_X12_count q) hX (fun h17 H locs wd hX => ?_)
    refine lv_lload_n hx hb dX12_rank_80 rfl (lv_at hl 1 rfl) ?_
    refine lv_l2i hx hb dX12_rank_81 rfl ?_
    refine mh_topi hX (fun v18 hX => ?_)
    refine lv_istore_n (lv' := [(3, .int v18), (0, .ref o0), (1, .long y1)]) hx hb dX12_rank_82 rfl hl (Nat.le_of_ble_eq_true rfl) rfl (fun ls hl => ?_)
    refine lv_aload_n hx hb dX12_rank_83 rfl (lv_at hl 1 rfl) ?_
    refine mh_getR cx wd fl_X12_42 dX12_rank_84 hX (fun a19 hX => ?_)
    refine lv_aload_n hx hb dX12_rank_87 rfl (lv_at hl 1 rfl) ?_
    refine mh_getI cx wd fl_X12_217 dX12_rank_88 hX (fun v20 hX => ?_)
    refine mh_aald cx wd 6 rfl rfl dX12_rank_91 hX (fun a21 hX => ?_)
    refine lv_iload_n hx hb dX12_rank_92 rfl (lv_at hl 0 rfl) ?_
    refine mh_lald cx wd dX12_rank_93 hX (fun w22 hX => ?_)
    refine mh_ldc2 cx kl_X12_213 dX12_rank_94 ?_
    refine W.lcmp hx hb dX12_rank_97 ?_
    refine lv_if_le (tgt := 105) hx hb dX12_rank_98 rfl (fun hc => (fun hX => ?_) ((mh_if hX).1 hc)) (fun hc => (fun hX => ?_) ((mh_if hX).2 hc))
    · refine lv_lconst (v := 0) hx hb dX12_rank_105 (by decide) ?_
      refine mh_topl hX (fun w23 hX => ?_)
      refine lv_lstore (lv' := [(4, .long w23), (3, .int v18), (0, .ref o0), (1, .long y1)]) hx hb dX12_rank_106 hl (Nat.le_of_ble_eq_true rfl) rfl (fun ls hl => ?_)
      refine lv_aload_n hx hb dX12_rank_108 rfl (lv_at hl 2 rfl) ?_
      refine mh_getI cx wd fl_X12_217 dX12_rank_109 hX (fun v24 hX => ?_)
      refine lv_istore (lv' := [(6, .int v24), (4, .long w23), (3, .int v18), (0, .ref o0), (1, .long y1)]) hx hb dX12_rank_112 hl (Nat.le_of_ble_eq_true rfl) rfl (fun ls hl => ?_)
      exact w_X12_rank_b114 cx hr mh_fu _ _ _ _ h17 _ _ ls wd (lv_sub hl [3, 2, 1, 0] rfl) hX
    · refine mh_ldc2 cx kl_X12_135 dX12_rank_101 ?_
      exact mh_lret cx wd hr hX dX12_rank_104
  · refine mh_ldc2 cx kl_X12_135 dX12_rank_63 ?_
    exact mh_lret cx wd hr hX dX12_rank_66
set_option maxRecDepth 100000 in
set_option maxHeartbeats 4000000 in
theorem w_X12_rank_b23 {p : Program} {l : Launch} {e : Env} {s : State} {m : MethodId} {args : Array Value} {below : List Frame} {meth : Method} {c : Code} {D : va_G} {ks : Nat → ClassId} {L : List Nat} {r : Int64} {h' : mh_H} (cx : mh_C p m c cX12_rank 9 s args RX12 meth D ks (mh_A L s.heap.size)) (hr : meth.sig.returnType = (some .long)) :
    ∀ n : Nat, ∀ (o0 : Nat) (y1 : Int64) (x3 : Int32) (h : mh_H) (H : Heap) (locs : List Loc) (ls : Array Slot), mh_W D ks L (mh_A L s.heap.size) s.heap h H locs → lv_has ls 9 [(0, .ref o0), (1, .long y1), (3, .int x3)] → f_X12_rank_b23 n o0 y1 x3 h = some (r, h') → W p l e (mh_rm 2) s m args below meth c H locs 0 0 (MQ below (mh_Ql D ks L s.heap.size r h') args s 0 0 (mh_A L s.heap.size)) (F0 m 23 ls []) := by
  intro n
  induction n with
  | zero =>
    intro o0 y1 x3 h H locs ls wd hl hX
    cases hX
  | succ n ih =>
    intro o0 y1 x3 h H locs ls wd hl hX
    have hx := cx.1.1
    have hb := cx.1.2.1
    rw [f_X12_rank_b23] at hX
    refine lv_iload_n hx hb dX12_rank_23 rfl (lv_at hl 2 rfl) ?_
    refine lv_aload_n hx hb dX12_rank_24 rfl (lv_at hl 0 rfl) ?_
    refine mh_getI cx wd fl_X12_217 dX12_rank_25 hX (fun v25 hX => ?_)
    refine lv_icmp_ge (tgt := 55) hx hb dX12_rank_28 rfl (fun hc => (fun hX => ?_) ((mh_if hX).1 hc)) (fun hc => (fun hX => ?_) ((mh_if hX).2 hc))
    · exact w_X12_rank_b55 cx hr _ _ h _ _ ls wd (lv_sub hl [0, 1] rfl) hX
    · refine lv_lload_n hx hb dX12_rank_31 rfl (lv_at hl 1 rfl) ?_
      refine lv_aload_n hx hb dX12_rank_32 rfl (lv_at hl 0 rfl) ?_
      refine mh_getR cx wd fl_X12_51 dX12_rank_33 hX (fun a26 hX => ?_)
      refine lv_iload_n hx hb dX12_rank_36 rfl (lv_at hl 2 rfl) ?_
      refine mh_iald cx wd dX12_rank_37 hX (fun v27 hX => ?_)
      refine lv_i2l hx hb dX12_rank_38 rfl ?_
      refine lv_aload_n hx hb dX12_rank_39 rfl (lv_at hl 0 rfl) ?_
      refine mh_getR cx wd fl_X12_48 dX12_rank_40 hX (fun a28 hX => ?_)
      refine lv_iload_n hx hb dX12_rank_43 rfl (lv_at hl 2 rfl) ?_
      refine mh_iald cx wd dX12_rank_44 hX (fun v29 hX => ?_)
      refine lv_i2l hx hb dX12_rank_45 rfl ?_
      refine lv_lmul hx hb dX12_rank_46 ?_
      refine lv_ladd hx hb dX12_rank_47 ?_
      refine mh_topl hX (fun w30 hX => ?_)
      refine lv_lstore_n (lv' := [(1, .long w30), (0, .ref o0), (3, .int x3)]) hx hb dX12_rank_48 rfl hl (Nat.le_of_ble_eq_true rfl) rfl (fun ls hl => ?_)
      obtain ⟨v31, ev31, hX⟩ := mh_nmx hX
      refine lv_iinc (k := 2) (v := v31) (lv' := [(3, .int v31), (1, .long w30), (0, .ref o0)]) hx hb dX12_rank_49 hl rfl ev31 (Nat.le_of_ble_eq_true rfl) rfl (fun ls hl => ?_)
      refine lv_goto (tgt := 23) hx hb dX12_rank_52 rfl ?_
      exact ih _ _ _ h _ _ ls wd (lv_sub hl [2, 1, 0] rfl) hX
set_option maxRecDepth 100000 in
set_option maxHeartbeats 4000000 in
theorem w_X12_rank_e {p : Program} {l : Launch} {e : Env} {s : State} {m : MethodId} {args : Array Value} {below : List Frame} {meth : Method} {c : Code} {D : va_G} {ks : Nat → ClassId} {L : List Nat} {r : Int64} {h' : mh_H} (cx : mh_C p m c cX12_rank 9 s args RX12 meth D ks (mh_A L s.heap.size)) (hr : meth.sig.returnType = (some .long)) :
    ∀ (o0 : Nat) (h : mh_H) (H : Heap) (locs : List Loc) (ls : Array Slot), mh_W D ks L (mh_A L s.heap.size) s.heap h H locs → lv_has ls 9 [(0, .ref o0)] → f_X12_rank_e o0 h = some (r, h') → W p l e (mh_rm 2) s m args below meth c H locs 0 0 (MQ below (mh_Ql D ks L s.heap.size r h') args s 0 0 (mh_A L s.heap.size)) (F0 m 0 ls []) := by
  intro o0 h H locs ls wd hl hX
  have hx := cx.1.1
  have hb := cx.1.2.1
  unfold f_X12_rank_e at hX
  refine lv_aload_n hx hb dX12_rank_0 rfl (lv_at hl 0 rfl) ?_
  refine lv_iconst (v := 0) hx hb dX12_rank_1 (by decide) ?_
  refine mh_putI cx wd fp_X12_96 dX12_rank_2 hX (fun h32 H locs wd hX => ?_)
  refine lv_aload_n hx hb dX12_rank_5 rfl (lv_at hl 0 rfl) ?_
  refine mh_getI cx wd fl_X12_220 dX12_rank_6 hX (fun v33 hX => ?_)
  refine lv_if_ne (tgt := 19) hx hb dX12_rank_9 rfl (fun hc => (fun hX => ?_) ((mh_if hX).2 hc)) (fun hc => (fun hX => ?_) ((mh_if hX).1 hc))
  · refine lv_lconst (v := 0) hx hb dX12_rank_19 (by decide) ?_
    refine mh_topl hX (fun w34 hX => ?_)
    refine lv_lstore_n (lv' := [(1, .long w34), (0, .ref o0)]) hx hb dX12_rank_20 rfl hl (Nat.le_of_ble_eq_true rfl) rfl (fun ls hl => ?_)
    refine lv_iconst (v := 0) hx hb dX12_rank_21 (by decide) ?_
    refine mh_topi hX (fun v35 hX => ?_)
    refine lv_istore_n (lv' := [(3, .int v35), (1, .long w34), (0, .ref o0)]) hx hb dX12_rank_22 rfl hl (Nat.le_of_ble_eq_true rfl) rfl (fun ls hl => ?_)
    exact w_X12_rank_b23 cx hr mh_fu _ _ _ h32 _ _ ls wd (lv_sub hl [2, 1, 0] rfl) hX
  · refine lv_aload_n hx hb dX12_rank_12 rfl (lv_at hl 0 rfl) ?_
    refine lv_iconst (v := 1) hx hb dX12_rank_13 (by decide) ?_
    refine mh_callVI cx wd [.int (1 : Int32)] (rfl : vwCl[12]? = some (RX12, TX12, 38)) yw_X12_fail vw_X12_122 rfl hl.1 rfl (Nat.le_of_ble_eq_true rfl) dX12_rank_14 ⟨Nat.le_of_ble_eq_true rfl, Nat.le_of_ble_eq_true rfl⟩ ⟨Nat.le_refl _, Nat.le_refl _⟩ (fun _ _ q => c_X12_fail q) hX (fun v37 h36 H locs wd hX => ?_)
    refine lv_i2l hx hb dX12_rank_17 rfl ?_
    exact mh_lret cx wd hr hX dX12_rank_18
set_option maxRecDepth 100000 in
theorem c_X12_rank {l : Launch} {L : List Nat} {h h' : mh_H} {r : Int64} {o0 : Nat} (hX : f_X12_rank_e o0 h = some (r, h')) : mh_MJ l yX12_rank (Cond.code yX12_rank cX12_rank 9 (some .long) :: mh_TB) (mh_rm 2) [.ref o0] L h r h' :=
  mh_of (mc := 0) (ms := 0) (Qc := fun D ks sz => mh_Ql D ks L sz r h') (plainFor_of_name (by decide)) (Nat.le_of_ble_eq_true rfl) (fun p e s m below meth c D ks ls hr cx wd hl => by
    have hl : lv_has ls 9 [(0, .ref o0)] := hl
    exact w_X12_rank_e cx hr o0 h _ _ ls wd hl hX)
def f_X12_differ_b62 (k8 : Nat → Int32 → Int32 → Int32 → Int32 → Int32 → mh_H → Option (Int32 × mh_H)) (o0 : Nat) (x1 : Int32) (x2 : Int32) (x3 : Int32) (x4 : Int32) (x5 : Int32) (h : mh_H) : Option (Int32 × mh_H) :=
  mh_nm (x5 + Int32.ofInt (1)) fun v1 =>
  k8 o0 x1 x2 x3 x4 v1 h
def f_X12_differ_b68 (x3 : Int32) (x4 : Int32) (h : mh_H) : Option (Int32 × mh_H) :=
  some ((if x3 < x4 then x4 else x3), h)
def f_X12_differ_b8 : Nat → Nat → Int32 → Int32 → Int32 → Int32 → Int32 → mh_H → Option (Int32 × mh_H)
  | 0, _, _, _, _, _, _, _ => none
  | n + 1, o0, x1, x2, x3, x4, x5, h =>
    if (12 : Int32) ≤ x5 then (
    f_X12_differ_b68 x3 x4 h) else
    (mh_gR h o0 12 19).bind fun a2 =>
    (mh_aI h a2 0 (((12 : Int32) * x1) + x5)).bind fun v3 =>
    (mh_gR h o0 12 19).bind fun a4 =>
    (mh_aI h a4 0 (((12 : Int32) * x2) + x5)).bind fun v5 =>
    mh_nm (v3 - v5) fun v6 =>
    if v6 ≤ 0 then (
    mh_nm (x4 - v6) fun v7 =>
    f_X12_differ_b62 (f_X12_differ_b8 n) o0 x1 x2 x3 v7 x5 h) else
    mh_nm (x3 + v6) fun v8 =>
    f_X12_differ_b62 (f_X12_differ_b8 n) o0 x1 x2 v8 x4 x5 h
def f_X12_differ_e (o0 : Nat) (x1 : Int32) (x2 : Int32) (h : mh_H) : Option (Int32 × mh_H) :=
  mh_nm (0 : Int32) fun v9 =>
  mh_nm (0 : Int32) fun v10 =>
  mh_nm (0 : Int32) fun v11 =>
  f_X12_differ_b8 mh_fu o0 x1 x2 v9 v10 v11 h
set_option maxRecDepth 100000 in
set_option maxHeartbeats 4000000 in
theorem w_X12_differ_b62 {p : Program} {l : Launch} {e : Env} {s : State} {m : MethodId} {args : Array Value} {below : List Frame} {meth : Method} {c : Code} {D : va_G} {ks : Nat → ClassId} {L : List Nat} {r : Int32} {h' : mh_H} (k8 : Nat → Int32 → Int32 → Int32 → Int32 → Int32 → mh_H → Option (Int32 × mh_H)) (cx : mh_C p m c cX12_differ 7 s args RX12 meth D ks (mh_A L s.heap.size)) (hr : meth.sig.returnType = (some .int))
    (hk8 : ∀ (o0 : Nat) (x1 : Int32) (x2 : Int32) (x3 : Int32) (x4 : Int32) (x5 : Int32) (h : mh_H) (H : Heap) (locs : List Loc) (ls : Array Slot), mh_W D ks L (mh_A L s.heap.size) s.heap h H locs → lv_has ls 7 [(0, .ref o0), (1, .int x1), (2, .int x2), (3, .int x3), (4, .int x4), (5, .int x5)] → k8 o0 x1 x2 x3 x4 x5 h = some (r, h') → W p l e (mh_rm 1) s m args below meth c H locs 0 0 (MQ below (mh_Qi D ks L s.heap.size r h') args s 0 0 (mh_A L s.heap.size)) (F0 m 8 ls [])) :
    ∀ (o0 : Nat) (x1 : Int32) (x2 : Int32) (x3 : Int32) (x4 : Int32) (x5 : Int32) (h : mh_H) (H : Heap) (locs : List Loc) (ls : Array Slot), mh_W D ks L (mh_A L s.heap.size) s.heap h H locs → lv_has ls 7 [(0, .ref o0), (1, .int x1), (2, .int x2), (3, .int x3), (4, .int x4), (5, .int x5)] → f_X12_differ_b62 k8 o0 x1 x2 x3 x4 x5 h = some (r, h') → W p l e (mh_rm 1) s m args below meth c H locs 0 0 (MQ below (mh_Qi D ks L s.heap.size r h') args s 0 0 (mh_A L s.heap.size)) (F0 m 62 ls []) := by
  intro o0 x1 x2 x3 x4 x5 h H locs ls wd hl hX
  have hx := cx.1.1
  have hb := cx.1.2.1
  unfold f_X12_differ_b62 at hX
  obtain ⟨v1, ev1, hX⟩ := mh_nmx hX
  refine lv_iinc (k := 5) (v := v1) (lv' := [(5, .int v1), (0, .ref o0), (1, .int x1), (2, .int x2), (3, .int x3), (4, .int x4)]) hx hb dX12_differ_62 hl rfl ev1 (Nat.le_of_ble_eq_true rfl) rfl (fun ls hl => ?_)
  refine lv_goto (tgt := 8) hx hb dX12_differ_65 rfl ?_
  exact hk8 _ _ _ _ _ _ h _ _ ls wd (lv_sub hl [1, 2, 3, 4, 5, 0] rfl) hX
set_option maxRecDepth 100000 in
set_option maxHeartbeats 4000000 in
theorem w_X12_differ_b68 {p : Program} {l : Launch} {e : Env} {s : State} {m : MethodId} {args : Array Value} {below : List Frame} {meth : Method} {c : Code} {D : va_G} {ks : Nat → ClassId} {L : List Nat} {r : Int32} {h' : mh_H} (cx : mh_C p m c cX12_differ 7 s args RX12 meth D ks (mh_A L s.heap.size)) (hr : meth.sig.returnType = (some .int)) :
    ∀ (x3 : Int32) (x4 : Int32) (h : mh_H) (H : Heap) (locs : List Loc) (ls : Array Slot), mh_W D ks L (mh_A L s.heap.size) s.heap h H locs → lv_has ls 7 [(3, .int x3), (4, .int x4)] → f_X12_differ_b68 x3 x4 h = some (r, h') → W p l e (mh_rm 1) s m args below meth c H locs 0 0 (MQ below (mh_Qi D ks L s.heap.size r h') args s 0 0 (mh_A L s.heap.size)) (F0 m 68 ls []) := by
  intro x3 x4 h H locs ls wd hl hX
  have hx := cx.1.1
  have hb := cx.1.2.1
  unfold f_X12_differ_b68 at hX
  refine lv_iload_n hx hb dX12_differ_68 rfl (lv_at hl 0 rfl) ?_
  refine lv_iload hx hb dX12_differ_69 (lv_at hl 1 rfl) ?_
  refine mh_mmax mh_Mok cx hl.1 km_X12_233 (Nat.le_of_ble_eq_true rfl) (Nat.le_of_ble_eq_true rfl) ⟨Nat.le_refl _, Nat.le_refl _⟩ dX12_differ_71 ?_
  exact mh_iret cx wd hr hX dX12_differ_74
set_option maxRecDepth 100000 in
set_option maxHeartbeats 4000000 in
theorem w_X12_differ_b8 {p : Program} {l : Launch} {e : Env} {s : State} {m : MethodId} {args : Array Value} {below : List Frame} {meth : Method} {c : Code} {D : va_G} {ks : Nat → ClassId} {L : List Nat} {r : Int32} {h' : mh_H} (cx : mh_C p m c cX12_differ 7 s args RX12 meth D ks (mh_A L s.heap.size)) (hr : meth.sig.returnType = (some .int)) :
    ∀ n : Nat, ∀ (o0 : Nat) (x1 : Int32) (x2 : Int32) (x3 : Int32) (x4 : Int32) (x5 : Int32) (h : mh_H) (H : Heap) (locs : List Loc) (ls : Array Slot), mh_W D ks L (mh_A L s.heap.size) s.heap h H locs → lv_has ls 7 [(0, .ref o0), (1, .int x1), (2, .int x2), (3, .int x3), (4, .int x4), (5, .int x5)] → f_X12_differ_b8 n o0 x1 x2 x3 x4 x5 h = some (r, h') → W p l e (mh_rm 1) s m args below meth c H locs 0 0 (MQ below (mh_Qi D ks L s.heap.size r h') args s 0 0 (mh_A L s.heap.size)) (F0 m 8 ls []) := by
  intro n
  induction n with
  | zero =>
    intro o0 x1 x2 x3 x4 x5 h H locs ls wd hl hX
    cases hX
  | succ n ih =>
    intro o0 x1 x2 x3 x4 x5 h H locs ls wd hl hX
    have hx := cx.1.1
    have hb := cx.1.2.1
    rw [f_X12_differ_b8] at hX
    refine lv_iload hx hb dX12_differ_8 (lv_at hl 5 rfl) ?_
    refine lv_bipush (v := 12) hx hb dX12_differ_10 (by decide) ?_
    refine lv_icmp_ge (tgt := 68) hx hb dX12_differ_12 rfl (fun hc => (fun hX => ?_) ((mh_if hX).1 hc)) (fun hc => (fun hX => ?_) ((mh_if hX).2 hc))
    · exact w_X12_differ_b68 cx hr _ _ h _ _ ls wd (lv_sub hl [3, 4] rfl) hX
    · refine lv_aload_n hx hb dX12_differ_15 rfl (lv_at hl 0 rfl) ?_
      refine mh_getR cx wd fl_X12_54 dX12_differ_16 hX (fun a2 hX => ?_)
      refine lv_bipush (v := 12) hx hb dX12_differ_19 (by decide) ?_
      refine lv_iload_n hx hb dX12_differ_21 rfl (lv_at hl 1 rfl) ?_
      refine lv_imul hx hb dX12_differ_22 ?_
      refine lv_iload hx hb dX12_differ_23 (lv_at hl 5 rfl) ?_
      refine lv_iadd hx hb dX12_differ_25 ?_
      refine mh_iald cx wd dX12_differ_26 hX (fun v3 hX => ?_)
      refine lv_aload_n hx hb dX12_differ_27 rfl (lv_at hl 0 rfl) ?_
      refine mh_getR cx wd fl_X12_54 dX12_differ_28 hX (fun a4 hX => ?_)
      refine lv_bipush (v := 12) hx hb dX12_differ_31 (by decide) ?_
      refine lv_iload_n hx hb dX12_differ_33 rfl (lv_at hl 2 rfl) ?_
      refine lv_imul hx hb dX12_differ_34 ?_
      refine lv_iload hx hb dX12_differ_35 (lv_at hl 5 rfl) ?_
      refine lv_iadd hx hb dX12_differ_37 ?_
      refine mh_iald cx wd dX12_differ_38 hX (fun v5 hX => ?_)
      refine lv_isub hx hb dX12_differ_39 ?_
      refine mh_topi hX (fun v6 hX => ?_)
      refine lv_istore (lv' := [(6, .int v6), (0, .ref o0), (1, .int x1), (2, .int x2), (3, .int x3), (4, .int x4), (5, .int x5)]) hx hb dX12_differ_40 hl (Nat.le_of_ble_eq_true rfl) rfl (fun ls hl => ?_)
      refine lv_iload hx hb dX12_differ_42 (lv_at hl 0 rfl) ?_
      refine lv_if_le (tgt := 55) hx hb dX12_differ_44 rfl (fun hc => (fun hX => ?_) ((mh_if hX).1 hc)) (fun hc => (fun hX => ?_) ((mh_if hX).2 hc))
      · refine lv_iload hx hb dX12_differ_55 (lv_at hl 5 rfl) ?_
        refine lv_iload hx hb dX12_differ_57 (lv_at hl 0 rfl) ?_
        refine lv_isub hx hb dX12_differ_59 ?_
        refine mh_topi hX (fun v7 hX => ?_)
        refine lv_istore (lv' := [(4, .int v7), (6, .int v6), (0, .ref o0), (1, .int x1), (2, .int x2), (3, .int x3), (5, .int x5)]) hx hb dX12_differ_60 hl (Nat.le_of_ble_eq_true rfl) rfl (fun ls hl => ?_)
        exact w_X12_differ_b62 (f_X12_differ_b8 n) cx hr ih _ _ _ _ _ _ h _ _ ls wd (lv_sub hl [2, 3, 4, 5, 0, 6] rfl) hX
      · refine lv_iload_n hx hb dX12_differ_47 rfl (lv_at hl 4 rfl) ?_
        refine lv_iload hx hb dX12_differ_48 (lv_at hl 0 rfl) ?_
        refine lv_iadd hx hb dX12_differ_50 ?_
        refine mh_topi hX (fun v8 hX => ?_)
        refine lv_istore_n (lv' := [(3, .int v8), (6, .int v6), (0, .ref o0), (1, .int x1), (2, .int x2), (4, .int x4), (5, .int x5)]) hx hb dX12_differ_51 rfl hl (Nat.le_of_ble_eq_true rfl) rfl (fun ls hl => ?_)
        refine lv_goto (tgt := 62) hx hb dX12_differ_52 rfl ?_
        exact w_X12_differ_b62 (f_X12_differ_b8 n) cx hr ih _ _ _ _ _ _ h _ _ ls wd (lv_sub hl [2, 3, 4, 0, 5, 6] rfl) hX
set_option maxRecDepth 100000 in
set_option maxHeartbeats 4000000 in
theorem w_X12_differ_e {p : Program} {l : Launch} {e : Env} {s : State} {m : MethodId} {args : Array Value} {below : List Frame} {meth : Method} {c : Code} {D : va_G} {ks : Nat → ClassId} {L : List Nat} {r : Int32} {h' : mh_H} (cx : mh_C p m c cX12_differ 7 s args RX12 meth D ks (mh_A L s.heap.size)) (hr : meth.sig.returnType = (some .int)) :
    ∀ (o0 : Nat) (x1 : Int32) (x2 : Int32) (h : mh_H) (H : Heap) (locs : List Loc) (ls : Array Slot), mh_W D ks L (mh_A L s.heap.size) s.heap h H locs → lv_has ls 7 [(0, .ref o0), (1, .int x1), (2, .int x2)] → f_X12_differ_e o0 x1 x2 h = some (r, h') → W p l e (mh_rm 1) s m args below meth c H locs 0 0 (MQ below (mh_Qi D ks L s.heap.size r h') args s 0 0 (mh_A L s.heap.size)) (F0 m 0 ls []) := by
  intro o0 x1 x2 h H locs ls wd hl hX
  have hx := cx.1.1
  have hb := cx.1.2.1
  unfold f_X12_differ_e at hX
  refine lv_iconst (v := 0) hx hb dX12_differ_0 (by decide) ?_
  refine mh_topi hX (fun v9 hX => ?_)
  refine lv_istore_n (lv' := [(3, .int v9), (0, .ref o0), (1, .int x1), (2, .int x2)]) hx hb dX12_differ_1 rfl hl (Nat.le_of_ble_eq_true rfl) rfl (fun ls hl => ?_)
  refine lv_iconst (v := 0) hx hb dX12_differ_2 (by decide) ?_
  refine mh_topi hX (fun v10 hX => ?_)
  refine lv_istore (lv' := [(4, .int v10), (3, .int v9), (0, .ref o0), (1, .int x1), (2, .int x2)]) hx hb dX12_differ_3 hl (Nat.le_of_ble_eq_true rfl) rfl (fun ls hl => ?_)
  refine lv_iconst (v := 0) hx hb dX12_differ_5 (by decide) ?_
  refine mh_topi hX (fun v11 hX => ?_)
  refine lv_istore (lv' := [(5, .int v11), (4, .int v10), (3, .int v9), (0, .ref o0), (1, .int x1), (2, .int x2)]) hx hb dX12_differ_6 hl (Nat.le_of_ble_eq_true rfl) rfl (fun ls hl => ?_)
  exact w_X12_differ_b8 cx hr mh_fu _ _ _ _ _ _ h _ _ ls wd (lv_sub hl [3, 4, 5, 2, 1, 0] rfl) hX
set_option maxRecDepth 100000 in
theorem c_X12_differ {l : Launch} {L : List Nat} {h h' : mh_H} {r : Int32} {o0 : Nat} {x1 : Int32} {x2 : Int32} (hX : f_X12_differ_e o0 x1 x2 h = some (r, h')) : mh_MI l yX12_differ (Cond.code yX12_differ cX12_differ 7 (some .int) :: mh_TB) (mh_rm 1) [.ref o0, .int x1, .int x2] L h r h' :=
  mh_of (mc := 0) (ms := 0) (Qc := fun D ks sz => mh_Qi D ks L sz r h') (plainFor_of_name (by decide)) (Nat.le_of_ble_eq_true rfl) (fun p e s m below meth c D ks ls hr cx wd hl => by
    have hl : lv_has ls 7 [(0, .ref o0), (1, .int x1), (2, .int x2)] := hl
    exact w_X12_differ_e cx hr o0 x1 x2 h _ _ ls wd hl hX)
def f_X12_stamps_b29 (o0 : Nat) (h : mh_H) : Option (Int32 × mh_H) :=
  mh_b2 (mh_cal h o0 12 (f_X12_fail_e o0 (2 : Int32) h)) fun v2 h1 =>
  some (v2, h1)
def f_X12_stamps_b65 (x3 : Int32) (h : mh_H) : Option (Int32 × mh_H) :=
  some (x3, h)
def f_X12_stamps_b42 : Nat → Nat → Int32 → Int32 → mh_H → Option (Int32 × mh_H)
  | 0, _, _, _, _ => none
  | n + 1, o0, x2, x3, h =>
    (mh_gR h o0 12 8).bind fun a3 =>
    (mh_gI h o0 12 7).bind fun v4 =>
    (mh_aR h a3 5 v4).bind fun a5 =>
    (mh_aI h a5 0 (x3 + (1 : Int32))).bind fun v6 =>
    if x2 < v6 then (
    f_X12_stamps_b65 x3 h) else
    mh_nm (x3 + Int32.ofInt (1)) fun v7 =>
    f_X12_stamps_b42 n o0 x2 v7 h
def f_X12_stamps_e (o0 : Nat) (x1 : Int32) (x2 : Int32) (h : mh_H) : Option (Int32 × mh_H) :=
  (mh_pI h o0 12 0 (0 : Int32)).bind fun h8 =>
  mh_b2 (f_X12_isMint_e x1 h8) fun v10 h9 =>
  if v10 = 0 then (
  mh_b2 (mh_cal h9 o0 12 (f_X12_fail_e o0 (1 : Int32) h9)) fun v14 h13 =>
  some (v14, h13)) else
  if x2 < (1 : Int32) then (
  f_X12_stamps_b29 o0 h9) else
  if x2 ≤ (50 : Int32) then (
  (mh_cal h9 o0 12 (f_X12_table_e o0 x1 h9)).bind fun h11 =>
  mh_nm (0 : Int32) fun v12 =>
  f_X12_stamps_b42 mh_fu o0 x2 v12 h11) else
  f_X12_stamps_b29 o0 h9
set_option maxRecDepth 100000 in
set_option maxHeartbeats 4000000 in
theorem w_X12_stamps_b29 {p : Program} {l : Launch} {e : Env} {s : State} {m : MethodId} {args : Array Value} {below : List Frame} {meth : Method} {c : Code} {D : va_G} {ks : Nat → ClassId} {L : List Nat} {r : Int32} {h' : mh_H} (cx : mh_C p m c cX12_stamps 4 s args RX12 meth D ks (mh_A L s.heap.size)) (hr : meth.sig.returnType = (some .int)) :
    ∀ (o0 : Nat) (h : mh_H) (H : Heap) (locs : List Loc) (ls : Array Slot), mh_W D ks L (mh_A L s.heap.size) s.heap h H locs → lv_has ls 4 [(0, .ref o0)] → f_X12_stamps_b29 o0 h = some (r, h') → W p l e (mh_rm 2) s m args below meth c H locs 0 0 (MQ below (mh_Qi D ks L s.heap.size r h') args s 0 0 (mh_A L s.heap.size)) (F0 m 29 ls []) := by
  intro o0 h H locs ls wd hl hX
  have hx := cx.1.1
  have hb := cx.1.2.1
  unfold f_X12_stamps_b29 at hX
  refine lv_aload_n hx hb dX12_stamps_29 rfl (lv_at hl 0 rfl) ?_
  refine lv_iconst (v := 2) hx hb dX12_stamps_30 (by decide) ?_
  refine mh_callVI cx wd [.int (2 : Int32)] (rfl : vwCl[12]? = some (RX12, TX12, 38)) yw_X12_fail vw_X12_122 rfl hl.1 rfl (Nat.le_of_ble_eq_true rfl) dX12_stamps_31 ⟨Nat.le_of_ble_eq_true rfl, Nat.le_of_ble_eq_true rfl⟩ ⟨Nat.le_refl _, Nat.le_refl _⟩ (fun _ _ q => c_X12_fail q) hX (fun v2 h1 H locs wd hX => ?_)
  exact mh_iret cx wd hr hX dX12_stamps_34
set_option maxRecDepth 100000 in
set_option maxHeartbeats 4000000 in
theorem w_X12_stamps_b65 {p : Program} {l : Launch} {e : Env} {s : State} {m : MethodId} {args : Array Value} {below : List Frame} {meth : Method} {c : Code} {D : va_G} {ks : Nat → ClassId} {L : List Nat} {r : Int32} {h' : mh_H} (cx : mh_C p m c cX12_stamps 4 s args RX12 meth D ks (mh_A L s.heap.size)) (hr : meth.sig.returnType = (some .int)) :
    ∀ (x3 : Int32) (h : mh_H) (H : Heap) (locs : List Loc) (ls : Array Slot), mh_W D ks L (mh_A L s.heap.size) s.heap h H locs → lv_has ls 4 [(3, .int x3)] → f_X12_stamps_b65 x3 h = some (r, h') → W p l e (mh_rm 2) s m args below meth c H locs 0 0 (MQ below (mh_Qi D ks L s.heap.size r h') args s 0 0 (mh_A L s.heap.size)) (F0 m 65 ls []) := by
  intro x3 h H locs ls wd hl hX
  have hx := cx.1.1
  have hb := cx.1.2.1
  unfold f_X12_stamps_b65 at hX
  refine lv_iload_n hx hb dX12_stamps_65 rfl (lv_at hl 0 rfl) ?_
  exact mh_iret cx wd hr hX dX12_stamps_66
set_option maxRecDepth 100000 in
set_option maxHeartbeats 4000000 in
theorem w_X12_stamps_b42 {p : Program} {l : Launch} {e : Env} {s : State} {m : MethodId} {args : Array Value} {below : List Frame} {meth : Method} {c : Code} {D : va_G} {ks : Nat → ClassId} {L : List Nat} {r : Int32} {h' : mh_H} (cx : mh_C p m c cX12_stamps 4 s args RX12 meth D ks (mh_A L s.heap.size)) (hr : meth.sig.returnType = (some .int)) :
    ∀ n : Nat, ∀ (o0 : Nat) (x2 : Int32) (x3 : Int32) (h : mh_H) (H : Heap) (locs : List Loc) (ls : Array Slot), mh_W D ks L (mh_A L s.heap.size) s.heap h H locs → lv_has ls 4 [(0, .ref o0), (2, .int x2), (3, .int x3)] → f_X12_stamps_b42 n o0 x2 x3 h = some (r, h') → W p l e (mh_rm 2) s m args below meth c H locs 0 0 (MQ below (mh_Qi D ks L s.heap.size r h') args s 0 0 (mh_A L s.heap.size)) (F0 m 42 ls []) := by
  intro n
  induction n with
  | zero =>
    intro o0 x2 x3 h H locs ls wd hl hX
    cases hX
  | succ n ih =>
    intro o0 x2 x3 h H locs ls wd hl hX
    have hx := cx.1.1
    have hb := cx.1.2.1
    rw [f_X12_stamps_b42] at hX
    refine lv_aload_n hx hb dX12_stamps_42 rfl (lv_at hl 0 rfl) ?_
    refine mh_getR cx wd fl_X12_26 dX12_stamps_43 hX (fun a3 hX => ?_)
    refine lv_aload_n hx hb dX12_stamps_46 rfl (lv_at hl 0 rfl) ?_
    refine mh_getI cx wd fl_X12_21 dX12_stamps_47 hX (fun v4 hX => ?_)
    refine mh_aald cx wd 5 rfl rfl dX12_stamps_50 hX (fun a5 hX => ?_)
    refine lv_iload_n hx hb dX12_stamps_51 rfl (lv_at hl 2 rfl) ?_
    refine lv_iconst (v := 1) hx hb dX12_stamps_52 (by decide) ?_
    refine lv_iadd hx hb dX12_stamps_53 ?_
    refine mh_iald cx wd dX12_stamps_54 hX (fun v6 hX => ?_)
    refine lv_iload_n hx hb dX12_stamps_55 rfl (lv_at hl 1 rfl) ?_
    refine lv_icmp_gt (tgt := 65) hx hb dX12_stamps_56 rfl (fun hc => (fun hX => ?_) ((mh_if hX).1 hc)) (fun hc => (fun hX => ?_) ((mh_if hX).2 hc))
    · exact w_X12_stamps_b65 cx hr _ h _ _ ls wd (lv_sub hl [2] rfl) hX
    · obtain ⟨v7, ev7, hX⟩ := mh_nmx hX
      refine lv_iinc (k := 2) (v := v7) (lv' := [(3, .int v7), (0, .ref o0), (2, .int x2)]) hx hb dX12_stamps_59 hl rfl ev7 (Nat.le_of_ble_eq_true rfl) rfl (fun ls hl => ?_)
      refine lv_goto (tgt := 42) hx hb dX12_stamps_62 rfl ?_
      exact ih _ _ _ h _ _ ls wd (lv_sub hl [1, 2, 0] rfl) hX
set_option maxRecDepth 100000 in
set_option maxHeartbeats 4000000 in
theorem w_X12_stamps_e {p : Program} {l : Launch} {e : Env} {s : State} {m : MethodId} {args : Array Value} {below : List Frame} {meth : Method} {c : Code} {D : va_G} {ks : Nat → ClassId} {L : List Nat} {r : Int32} {h' : mh_H} (cx : mh_C p m c cX12_stamps 4 s args RX12 meth D ks (mh_A L s.heap.size)) (hr : meth.sig.returnType = (some .int)) :
    ∀ (o0 : Nat) (x1 : Int32) (x2 : Int32) (h : mh_H) (H : Heap) (locs : List Loc) (ls : Array Slot), mh_W D ks L (mh_A L s.heap.size) s.heap h H locs → lv_has ls 4 [(0, .ref o0), (1, .int x1), (2, .int x2)] → f_X12_stamps_e o0 x1 x2 h = some (r, h') → W p l e (mh_rm 2) s m args below meth c H locs 0 0 (MQ below (mh_Qi D ks L s.heap.size r h') args s 0 0 (mh_A L s.heap.size)) (F0 m 0 ls []) := by
  intro o0 x1 x2 h H locs ls wd hl hX
  have hx := cx.1.1
  have hb := cx.1.2.1
  unfold f_X12_stamps_e at hX
  refine lv_aload_n hx hb dX12_stamps_0 rfl (lv_at hl 0 rfl) ?_
  refine lv_iconst (v := 0) hx hb dX12_stamps_1 (by decide) ?_
  refine mh_putI cx wd fp_X12_96 dX12_stamps_2 hX (fun h8 H locs wd hX => ?_)
  refine lv_iload_n hx hb dX12_stamps_5 rfl (lv_at hl 1 rfl) ?_
  refine mh_callSI cx wd [.int x1] yw_X12_isMint sw_X12_111 rfl hl.1 rfl (Nat.le_of_ble_eq_true rfl) dX12_stamps_6 ⟨Nat.le_of_ble_eq_true rfl, Nat.le_of_ble_eq_true rfl⟩ ⟨Nat.le_refl _, Nat.le_refl _⟩ (fun _ _ q => c_X12_isMint q) hX (fun v10 h9 H locs wd hX => ?_)
  refine lv_if_ne (tgt := 18) hx hb dX12_stamps_9 rfl (fun hc => (fun hX => ?_) ((mh_if hX).2 hc)) (fun hc => (fun hX => ?_) ((mh_if hX).1 hc))
  · refine lv_iload_n hx hb dX12_stamps_18 rfl (lv_at hl 2 rfl) ?_
    refine lv_iconst (v := 1) hx hb dX12_stamps_19 (by decide) ?_
    refine lv_icmp_lt (tgt := 29) hx hb dX12_stamps_20 rfl (fun hc => (fun hX => ?_) ((mh_if hX).1 hc)) (fun hc => (fun hX => ?_) ((mh_if hX).2 hc))
    · exact w_X12_stamps_b29 cx hr _ h9 _ _ ls wd (lv_sub hl [0] rfl) hX
    · refine lv_iload_n hx hb dX12_stamps_23 rfl (lv_at hl 2 rfl) ?_
      refine lv_bipush (v := 50) hx hb dX12_stamps_24 (by decide) ?_
      refine lv_icmp_le (tgt := 35) hx hb dX12_stamps_26 rfl (fun hc => (fun hX => ?_) ((mh_if hX).1 hc)) (fun hc => (fun hX => ?_) ((mh_if hX).2 hc))
      · refine lv_aload_n hx hb dX12_stamps_35 rfl (lv_at hl 0 rfl) ?_
        refine lv_iload_n hx hb dX12_stamps_36 rfl (lv_at hl 1 rfl) ?_
        refine mh_callVV cx wd [.int x1] (rfl : vwCl[12]? = some (RX12, TX12, 38)) yw_X12_table vw_X12_145 rfl hl.1 rfl (Nat.le_of_ble_eq_true rfl) dX12_stamps_37 ⟨Nat.le_of_ble_eq_true rfl, Nat.le_of_ble_eq_true rfl⟩ ⟨Nat.le_refl _, Nat.le_refl _⟩ (fun _ q => c_X12_table q) hX (fun h11 H locs wd hX => ?_)
        refine lv_iconst (v := 0) hx hb dX12_stamps_40 (by decide) ?_
        refine mh_topi hX (fun v12 hX => ?_)
        refine lv_istore_n (lv' := [(3, .int v12), (0, .ref o0), (1, .int x1), (2, .int x2)]) hx hb dX12_stamps_41 rfl hl (Nat.le_of_ble_eq_true rfl) rfl (fun ls hl => ?_)
        exact w_X12_stamps_b42 cx hr mh_fu _ _ _ h11 _ _ ls wd (lv_sub hl [1, 3, 0] rfl) hX
      · exact w_X12_stamps_b29 cx hr _ h9 _ _ ls wd (lv_sub hl [0] rfl) hX
  · refine lv_aload_n hx hb dX12_stamps_12 rfl (lv_at hl 0 rfl) ?_
    refine lv_iconst (v := 1) hx hb dX12_stamps_13 (by decide) ?_
    refine mh_callVI cx wd [.int (1 : Int32)] (rfl : vwCl[12]? = some (RX12, TX12, 38)) yw_X12_fail vw_X12_122 rfl hl.1 rfl (Nat.le_of_ble_eq_true rfl) dX12_stamps_14 ⟨Nat.le_of_ble_eq_true rfl, Nat.le_of_ble_eq_true rfl⟩ ⟨Nat.le_refl _, Nat.le_refl _⟩ (fun _ _ q => c_X12_fail q) hX (fun v14 h13 H locs wd hX => ?_)
    exact mh_iret cx wd hr hX dX12_stamps_17
set_option maxRecDepth 100000 in
theorem c_X12_stamps {l : Launch} {L : List Nat} {h h' : mh_H} {r : Int32} {o0 : Nat} {x1 : Int32} {x2 : Int32} (hX : f_X12_stamps_e o0 x1 x2 h = some (r, h')) : mh_MI l yX12_stamps (Cond.code yX12_stamps cX12_stamps 4 (some .int) :: mh_TB) (mh_rm 2) [.ref o0, .int x1, .int x2] L h r h' :=
  mh_of (mc := 0) (ms := 0) (Qc := fun D ks sz => mh_Qi D ks L sz r h') (plainFor_of_name (by decide)) (Nat.le_of_ble_eq_true rfl) (fun p e s m below meth c D ks ls hr cx wd hl => by
    have hl : lv_has ls 4 [(0, .ref o0), (1, .int x1), (2, .int x2)] := hl
    exact w_X12_stamps_e cx hr o0 x1 x2 h _ _ ls wd hl hX)
def f_X12_span_b34 (o0 : Nat) (h : mh_H) : Option (Int64 × mh_H) :=
  mh_b2 (mh_cal h o0 12 (f_X12_fail_e o0 (2 : Int32) h)) fun v2 h1 =>
  some ((v2).toInt64, h1)
def f_X12_span_b67 (h : mh_H) : Option (Int64 × mh_H) :=
  some ((-1 : Int64), h)
def f_X12_span_b95 (y4 : Int64) (h : mh_H) : Option (Int64 × mh_H) :=
  some (y4, h)
def f_X12_span_b52 : Nat → Nat → Int32 → Int64 → Int32 → mh_H → Option (Int64 × mh_H)
  | 0, _, _, _, _, _ => none
  | n + 1, o0, x3, y4, x6, h =>
    if x3 < x6 then (
    f_X12_span_b95 y4 h) else
    mh_b2 (mh_cal h o0 12 (f_X12_isPaid_e o0 x6 h)) fun v4 h3 =>
    if v4 = 0 then (
    f_X12_span_b67 h3) else
    (mh_gR h3 o0 12 8).bind fun a5 =>
    (mh_gI h3 o0 12 7).bind fun v6 =>
    (mh_aR h3 a5 5 v6).bind fun a7 =>
    (mh_aI h3 a7 0 x6).bind fun v8 =>
    mh_nm (y4 + (v8).toInt64) fun w9 =>
    mh_nm (x6 + Int32.ofInt (1)) fun v10 =>
    f_X12_span_b52 n o0 x3 w9 v10 h3
def f_X12_span_e (o0 : Nat) (x1 : Int32) (x2 : Int32) (x3 : Int32) (h : mh_H) : Option (Int64 × mh_H) :=
  (mh_pI h o0 12 0 (0 : Int32)).bind fun h11 =>
  mh_b2 (f_X12_isMint_e x1 h11) fun v13 h12 =>
  if v13 = 0 then (
  mh_b2 (mh_cal h12 o0 12 (f_X12_fail_e o0 (1 : Int32) h12)) fun v17 h16 =>
  some ((v17).toInt64, h16)) else
  if x2 < 0 then (
  f_X12_span_b34 o0 h12) else
  if x3 < x2 then (
  f_X12_span_b34 o0 h12) else
  if x3 ≤ (100000 : Int32) then (
  (mh_cal h12 o0 12 (f_X12_table_e o0 x1 h12)).bind fun h14 =>
  mh_nm (0 : Int64) fun w15 =>
  f_X12_span_b52 mh_fu o0 x3 w15 x2 h14) else
  f_X12_span_b34 o0 h12
set_option maxRecDepth 100000 in
set_option maxHeartbeats 4000000 in
theorem w_X12_span_b34 {p : Program} {l : Launch} {e : Env} {s : State} {m : MethodId} {args : Array Value} {below : List Frame} {meth : Method} {c : Code} {D : va_G} {ks : Nat → ClassId} {L : List Nat} {r : Int64} {h' : mh_H} (cx : mh_C p m c cX12_span 7 s args RX12 meth D ks (mh_A L s.heap.size)) (hr : meth.sig.returnType = (some .long)) :
    ∀ (o0 : Nat) (h : mh_H) (H : Heap) (locs : List Loc) (ls : Array Slot), mh_W D ks L (mh_A L s.heap.size) s.heap h H locs → lv_has ls 7 [(0, .ref o0)] → f_X12_span_b34 o0 h = some (r, h') → W p l e (mh_rm 2) s m args below meth c H locs 0 0 (MQ below (mh_Ql D ks L s.heap.size r h') args s 0 0 (mh_A L s.heap.size)) (F0 m 34 ls []) := by
  intro o0 h H locs ls wd hl hX
  have hx := cx.1.1
  have hb := cx.1.2.1
  unfold f_X12_span_b34 at hX
  refine lv_aload_n hx hb dX12_span_34 rfl (lv_at hl 0 rfl) ?_
  refine lv_iconst (v := 2) hx hb dX12_span_35 (by decide) ?_
  refine mh_callVI cx wd [.int (2 : Int32)] (rfl : vwCl[12]? = some (RX12, TX12, 38)) yw_X12_fail vw_X12_122 rfl hl.1 rfl (Nat.le_of_ble_eq_true rfl) dX12_span_36 ⟨Nat.le_of_ble_eq_true rfl, Nat.le_of_ble_eq_true rfl⟩ ⟨Nat.le_refl _, Nat.le_refl _⟩ (fun _ _ q => c_X12_fail q) hX (fun v2 h1 H locs wd hX => ?_)
  refine lv_i2l hx hb dX12_span_39 rfl ?_
  exact mh_lret cx wd hr hX dX12_span_40
set_option maxRecDepth 100000 in
set_option maxHeartbeats 4000000 in
theorem w_X12_span_b67 {p : Program} {l : Launch} {e : Env} {s : State} {m : MethodId} {args : Array Value} {below : List Frame} {meth : Method} {c : Code} {D : va_G} {ks : Nat → ClassId} {L : List Nat} {r : Int64} {h' : mh_H} (cx : mh_C p m c cX12_span 7 s args RX12 meth D ks (mh_A L s.heap.size)) (hr : meth.sig.returnType = (some .long)) :
    ∀ (h : mh_H) (H : Heap) (locs : List Loc) (ls : Array Slot), mh_W D ks L (mh_A L s.heap.size) s.heap h H locs → lv_has ls 7 [] → f_X12_span_b67  h = some (r, h') → W p l e (mh_rm 2) s m args below meth c H locs 0 0 (MQ below (mh_Ql D ks L s.heap.size r h') args s 0 0 (mh_A L s.heap.size)) (F0 m 67 ls []) := by
  intro  h H locs ls wd hl hX
  have hx := cx.1.1
  have hb := cx.1.2.1
  unfold f_X12_span_b67 at hX
  refine mh_ldc2 cx kl_X12_135 dX12_span_67 ?_
  exact mh_lret cx wd hr hX dX12_span_70
set_option maxRecDepth 100000 in
set_option maxHeartbeats 4000000 in
theorem w_X12_span_b95 {p : Program} {l : Launch} {e : Env} {s : State} {m : MethodId} {args : Array Value} {below : List Frame} {meth : Method} {c : Code} {D : va_G} {ks : Nat → ClassId} {L : List Nat} {r : Int64} {h' : mh_H} (cx : mh_C p m c cX12_span 7 s args RX12 meth D ks (mh_A L s.heap.size)) (hr : meth.sig.returnType = (some .long)) :
    ∀ (y4 : Int64) (h : mh_H) (H : Heap) (locs : List Loc) (ls : Array Slot), mh_W D ks L (mh_A L s.heap.size) s.heap h H locs → lv_has ls 7 [(4, .long y4)] → f_X12_span_b95 y4 h = some (r, h') → W p l e (mh_rm 2) s m args below meth c H locs 0 0 (MQ below (mh_Ql D ks L s.heap.size r h') args s 0 0 (mh_A L s.heap.size)) (F0 m 95 ls []) := by
  intro y4 h H locs ls wd hl hX
  have hx := cx.1.1
  have hb := cx.1.2.1
  unfold f_X12_span_b95 at hX
  refine lv_lload hx hb dX12_span_95 (lv_at hl 0 rfl) ?_
  exact mh_lret cx wd hr hX dX12_span_97
set_option maxRecDepth 100000 in
set_option maxHeartbeats 4000000 in
theorem w_X12_span_b52 {p : Program} {l : Launch} {e : Env} {s : State} {m : MethodId} {args : Array Value} {below : List Frame} {meth : Method} {c : Code} {D : va_G} {ks : Nat → ClassId} {L : List Nat} {r : Int64} {h' : mh_H} (cx : mh_C p m c cX12_span 7 s args RX12 meth D ks (mh_A L s.heap.size)) (hr : meth.sig.returnType = (some .long)) :
    ∀ n : Nat, ∀ (o0 : Nat) (x3 : Int32) (y4 : Int64) (x6 : Int32) (h : mh_H) (H : Heap) (locs : List Loc) (ls : Array Slot), mh_W D ks L (mh_A L s.heap.size) s.heap h H locs → lv_has ls 7 [(0, .ref o0), (3, .int x3), (4, .long y4), (6, .int x6)] → f_X12_span_b52 n o0 x3 y4 x6 h = some (r, h') → W p l e (mh_rm 2) s m args below meth c H locs 0 0 (MQ below (mh_Ql D ks L s.heap.size r h') args s 0 0 (mh_A L s.heap.size)) (F0 m 52 ls []) := by
  intro n
  induction n with
  | zero =>
    intro o0 x3 y4 x6 h H locs ls wd hl hX
    cases hX
  | succ n ih =>
    intro o0 x3 y4 x6 h H locs ls wd hl hX
    have hx := cx.1.1
    have hb := cx.1.2.1
    rw [f_X12_span_b52] at hX
    refine lv_iload hx hb dX12_span_52 (lv_at hl 3 rfl) ?_
    refine lv_iload_n hx hb dX12_span_54 rfl (lv_at hl 1 rfl) ?_
    refine lv_icmp_gt (tgt := 95) hx hb dX12_span_55 rfl (fun hc => (fun hX => ?_) ((mh_if hX).1 hc)) (fun hc => (fun hX => ?_) ((mh_if hX).2 hc))
    · exact w_X12_span_b95 cx hr _ h _ _ ls wd (lv_sub hl [2] rfl) hX
    · refine lv_aload_n hx hb dX12_span_58 rfl (lv_at hl 0 rfl) ?_
      refine lv_iload hx hb dX12_span_59 (lv_at hl 3 rfl) ?_
      refine mh_callVI cx wd [.int x6] (rfl : vwCl[12]? = some (RX12, TX12, 38)) yw_X12_isPaid vw_X12_171 rfl hl.1 rfl (Nat.le_of_ble_eq_true rfl) dX12_span_61 ⟨Nat.le_of_ble_eq_true rfl, Nat.le_of_ble_eq_true rfl⟩ ⟨Nat.le_refl _, Nat.le_refl _⟩ (fun _ _ q => c_X12_isPaid q) hX (fun v4 h3 H locs wd hX => ?_)
      refine lv_if_ne (tgt := 71) hx hb dX12_span_64 rfl (fun hc => (fun hX => ?_) ((mh_if hX).2 hc)) (fun hc => (fun hX => ?_) ((mh_if hX).1 hc))
      · refine lv_lload hx hb dX12_span_71 (lv_at hl 2 rfl) ?_
        refine lv_aload_n hx hb dX12_span_73 rfl (lv_at hl 0 rfl) ?_
        refine mh_getR cx wd fl_X12_26 dX12_span_74 hX (fun a5 hX => ?_)
        refine lv_aload_n hx hb dX12_span_77 rfl (lv_at hl 0 rfl) ?_
        refine mh_getI cx wd fl_X12_21 dX12_span_78 hX (fun v6 hX => ?_)
        refine mh_aald cx wd 5 rfl rfl dX12_span_81 hX (fun a7 hX => ?_)
        refine lv_iload hx hb dX12_span_82 (lv_at hl 3 rfl) ?_
        refine mh_iald cx wd dX12_span_84 hX (fun v8 hX => ?_)
        refine lv_i2l hx hb dX12_span_85 rfl ?_
        refine lv_ladd hx hb dX12_span_86 ?_
        refine mh_topl hX (fun w9 hX => ?_)
        refine lv_lstore (lv' := [(4, .long w9), (0, .ref o0), (3, .int x3), (6, .int x6)]) hx hb dX12_span_87 hl (Nat.le_of_ble_eq_true rfl) rfl (fun ls hl => ?_)
        obtain ⟨v10, ev10, hX⟩ := mh_nmx hX
        refine lv_iinc (k := 3) (v := v10) (lv' := [(6, .int v10), (4, .long w9), (0, .ref o0), (3, .int x3)]) hx hb dX12_span_89 hl rfl ev10 (Nat.le_of_ble_eq_true rfl) rfl (fun ls hl => ?_)
        refine lv_goto (tgt := 52) hx hb dX12_span_92 rfl ?_
        exact ih _ _ _ _ h3 _ _ ls wd (lv_sub hl [2, 3, 1, 0] rfl) hX
      · exact w_X12_span_b67 cx hr  h3 _ _ ls wd (lv_sub hl [] rfl) hX
set_option maxRecDepth 100000 in
set_option maxHeartbeats 4000000 in
theorem w_X12_span_e {p : Program} {l : Launch} {e : Env} {s : State} {m : MethodId} {args : Array Value} {below : List Frame} {meth : Method} {c : Code} {D : va_G} {ks : Nat → ClassId} {L : List Nat} {r : Int64} {h' : mh_H} (cx : mh_C p m c cX12_span 7 s args RX12 meth D ks (mh_A L s.heap.size)) (hr : meth.sig.returnType = (some .long)) :
    ∀ (o0 : Nat) (x1 : Int32) (x2 : Int32) (x3 : Int32) (h : mh_H) (H : Heap) (locs : List Loc) (ls : Array Slot), mh_W D ks L (mh_A L s.heap.size) s.heap h H locs → lv_has ls 7 [(0, .ref o0), (1, .int x1), (2, .int x2), (3, .int x3)] → f_X12_span_e o0 x1 x2 x3 h = some (r, h') → W p l e (mh_rm 2) s m args below meth c H locs 0 0 (MQ below (mh_Ql D ks L s.heap.size r h') args s 0 0 (mh_A L s.heap.size)) (F0 m 0 ls []) := by
  intro o0 x1 x2 x3 h H locs ls wd hl hX
  have hx := cx.1.1
  have hb := cx.1.2.1
  unfold f_X12_span_e at hX
  refine lv_aload_n hx hb dX12_span_0 rfl (lv_at hl 0 rfl) ?_
  refine lv_iconst (v := 0) hx hb dX12_span_1 (by decide) ?_
  refine mh_putI cx wd fp_X12_96 dX12_span_2 hX (fun h11 H locs wd hX => ?_)
  refine lv_iload_n hx hb dX12_span_5 rfl (lv_at hl 1 rfl) ?_
  refine mh_callSI cx wd [.int x1] yw_X12_isMint sw_X12_111 rfl hl.1 rfl (Nat.le_of_ble_eq_true rfl) dX12_span_6 ⟨Nat.le_of_ble_eq_true rfl, Nat.le_of_ble_eq_true rfl⟩ ⟨Nat.le_refl _, Nat.le_refl _⟩ (fun _ _ q => c_X12_isMint q) hX (fun v13 h12 H locs wd hX => ?_)
  refine lv_if_ne (tgt := 19) hx hb dX12_span_9 rfl (fun hc => (fun hX => ?_) ((mh_if hX).2 hc)) (fun hc => (fun hX => ?_) ((mh_if hX).1 hc))
  · refine lv_iload_n hx hb dX12_span_19 rfl (lv_at hl 2 rfl) ?_
    refine lv_if_lt (tgt := 34) hx hb dX12_span_20 rfl (fun hc => (fun hX => ?_) ((mh_if hX).1 hc)) (fun hc => (fun hX => ?_) ((mh_if hX).2 hc))
    · exact w_X12_span_b34 cx hr _ h12 _ _ ls wd (lv_sub hl [0] rfl) hX
    · refine lv_iload_n hx hb dX12_span_23 rfl (lv_at hl 2 rfl) ?_
      refine lv_iload_n hx hb dX12_span_24 rfl (lv_at hl 3 rfl) ?_
      refine lv_icmp_gt (tgt := 34) hx hb dX12_span_25 rfl (fun hc => (fun hX => ?_) ((mh_if hX).1 hc)) (fun hc => (fun hX => ?_) ((mh_if hX).2 hc))
      · exact w_X12_span_b34 cx hr _ h12 _ _ ls wd (lv_sub hl [0] rfl) hX
      · refine lv_iload_n hx hb dX12_span_28 rfl (lv_at hl 3 rfl) ?_
        refine mh_ldc cx kc_X12_241 dX12_span_29 ?_
        refine lv_icmp_le (tgt := 41) hx hb dX12_span_31 rfl (fun hc => (fun hX => ?_) ((mh_if hX).1 hc)) (fun hc => (fun hX => ?_) ((mh_if hX).2 hc))
        · refine lv_aload_n hx hb dX12_span_41 rfl (lv_at hl 0 rfl) ?_
          refine lv_iload_n hx hb dX12_span_42 rfl (lv_at hl 1 rfl) ?_
          refine mh_callVV cx wd [.int x1] (rfl : vwCl[12]? = some (RX12, TX12, 38)) yw_X12_table vw_X12_145 rfl hl.1 rfl (Nat.le_of_ble_eq_true rfl) dX12_span_43 ⟨Nat.le_of_ble_eq_true rfl, Nat.le_of_ble_eq_true rfl⟩ ⟨Nat.le_refl _, Nat.le_refl _⟩ (fun _ q => c_X12_table q) hX (fun h14 H locs wd hX => ?_)
          refine lv_lconst (v := 0) hx hb dX12_span_46 (by decide) ?_
          refine mh_topl hX (fun w15 hX => ?_)
          refine lv_lstore (lv' := [(4, .long w15), (0, .ref o0), (1, .int x1), (2, .int x2), (3, .int x3)]) hx hb dX12_span_47 hl (Nat.le_of_ble_eq_true rfl) rfl (fun ls hl => ?_)
          refine lv_iload_n hx hb dX12_span_49 rfl (lv_at hl 3 rfl) ?_
          refine lv_istore (lv' := [(6, .int x2), (4, .long w15), (0, .ref o0), (1, .int x1), (2, .int x2), (3, .int x3)]) hx hb dX12_span_50 hl (Nat.le_of_ble_eq_true rfl) rfl (fun ls hl => ?_)
          exact w_X12_span_b52 cx hr mh_fu _ _ _ _ h14 _ _ ls wd (lv_sub hl [2, 5, 1, 0] rfl) hX
        · exact w_X12_span_b34 cx hr _ h12 _ _ ls wd (lv_sub hl [0] rfl) hX
  · refine lv_aload_n hx hb dX12_span_12 rfl (lv_at hl 0 rfl) ?_
    refine lv_iconst (v := 1) hx hb dX12_span_13 (by decide) ?_
    refine mh_callVI cx wd [.int (1 : Int32)] (rfl : vwCl[12]? = some (RX12, TX12, 38)) yw_X12_fail vw_X12_122 rfl hl.1 rfl (Nat.le_of_ble_eq_true rfl) dX12_span_14 ⟨Nat.le_of_ble_eq_true rfl, Nat.le_of_ble_eq_true rfl⟩ ⟨Nat.le_refl _, Nat.le_refl _⟩ (fun _ _ q => c_X12_fail q) hX (fun v17 h16 H locs wd hX => ?_)
    refine lv_i2l hx hb dX12_span_17 rfl ?_
    exact mh_lret cx wd hr hX dX12_span_18
set_option maxRecDepth 100000 in
theorem c_X12_span {l : Launch} {L : List Nat} {h h' : mh_H} {r : Int64} {o0 : Nat} {x1 : Int32} {x2 : Int32} {x3 : Int32} (hX : f_X12_span_e o0 x1 x2 x3 h = some (r, h')) : mh_MJ l yX12_span (Cond.code yX12_span cX12_span 7 (some .long) :: mh_TB) (mh_rm 2) [.ref o0, .int x1, .int x2, .int x3] L h r h' :=
  mh_of (mc := 0) (ms := 0) (Qc := fun D ks sz => mh_Ql D ks L sz r h') (plainFor_of_name (by decide)) (Nat.le_of_ble_eq_true rfl) (fun p e s m below meth c D ks ls hr cx wd hl => by
    have hl : lv_has ls 7 [(0, .ref o0), (1, .int x1), (2, .int x2), (3, .int x3)] := hl
    exact w_X12_span_e cx hr o0 x1 x2 x3 h _ _ ls wd hl hX)
def f_X12_trialStamps_b66 (k28 : Nat → Int32 → Int32 → Int32 → Int32 → mh_H → Option (Int32 × mh_H)) (o0 : Nat) (x1 : Int32) (x2 : Int32) (x3 : Int32) (x4 : Int32) (h : mh_H) : Option (Int32 × mh_H) :=
  mh_nm (x4 + Int32.ofInt (1)) fun v1 =>
  k28 o0 x1 x2 x3 v1 h
def f_X12_trialStamps_b72 (k11 : Nat → Int32 → Int32 → Int32 → mh_H → Option (Int32 × mh_H)) (o0 : Nat) (x1 : Int32) (x2 : Int32) (x3 : Int32) (h : mh_H) : Option (Int32 × mh_H) :=
  (mh_gR h o0 12 29).bind fun a2 =>
  (mh_sI h a2 x2 x3).bind fun h3 =>
  k11 o0 x1 x2 x3 h3
def f_X12_trialStamps_b28 (k11 : Nat → Int32 → Int32 → Int32 → mh_H → Option (Int32 × mh_H)) : Nat → Nat → Int32 → Int32 → Int32 → Int32 → mh_H → Option (Int32 × mh_H)
  | 0, _, _, _, _, _, _ => none
  | n + 1, o0, x1, x2, x3, x4, h =>
    if x1 ≤ x4 then (
    f_X12_trialStamps_b72 k11 o0 x1 x2 x3 h) else
    (mh_gR h o0 12 24).bind fun a4 =>
    (mh_aI h a4 0 x4).bind fun v5 =>
    if x2 < v5 then (
    f_X12_trialStamps_b66 (f_X12_trialStamps_b28 k11 n) o0 x1 x2 x3 x4 h) else
    (mh_gR h o0 12 29).bind fun a6 =>
    (mh_gR h o0 12 24).bind fun a7 =>
    (mh_aI h a7 0 x4).bind fun v8 =>
    (mh_aI h a6 0 (x2 - v8)).bind fun v9 =>
    mh_nm (if (v9 + (1 : Int32)) < x3 then (v9 + (1 : Int32)) else x3) fun v10 =>
    f_X12_trialStamps_b66 (f_X12_trialStamps_b28 k11 n) o0 x1 x2 v10 x4 h
def f_X12_trialStamps_b82 (x2 : Int32) (h : mh_H) : Option (Int32 × mh_H) :=
  some ((x2 - (1 : Int32)), h)
def f_X12_trialStamps_b11 : Nat → Nat → Int32 → Int32 → Int32 → mh_H → Option (Int32 × mh_H)
  | 0, _, _, _, _, _ => none
  | n + 1, o0, x1, x2, x3, h =>
    (mh_gI h o0 12 28).bind fun v11 =>
    if v11 < x3 then (
    f_X12_trialStamps_b82 x2 h) else
    mh_nm (x2 + Int32.ofInt (1)) fun v12 =>
    mh_nm (536870912 : Int32) fun v13 =>
    mh_nm (0 : Int32) fun v14 =>
    f_X12_trialStamps_b28 (f_X12_trialStamps_b11 n) mh_fu o0 x1 v12 v13 v14 h
def f_X12_trialStamps_e (o0 : Nat) (x1 : Int32) (h : mh_H) : Option (Int32 × mh_H) :=
  mh_nm (0 : Int32) fun v15 =>
  mh_nm (0 : Int32) fun v16 =>
  (mh_gR h o0 12 29).bind fun a17 =>
  (mh_sI h a17 (0 : Int32) (0 : Int32)).bind fun h18 =>
  f_X12_trialStamps_b11 mh_fu o0 x1 v15 v16 h18
set_option maxRecDepth 100000 in
set_option maxHeartbeats 4000000 in
theorem w_X12_trialStamps_b66 {p : Program} {l : Launch} {e : Env} {s : State} {m : MethodId} {args : Array Value} {below : List Frame} {meth : Method} {c : Code} {D : va_G} {ks : Nat → ClassId} {L : List Nat} {r : Int32} {h' : mh_H} (k28 : Nat → Int32 → Int32 → Int32 → Int32 → mh_H → Option (Int32 × mh_H)) (cx : mh_C p m c cX12_trialStamps 5 s args RX12 meth D ks (mh_A L s.heap.size)) (hr : meth.sig.returnType = (some .int))
    (hk28 : ∀ (o0 : Nat) (x1 : Int32) (x2 : Int32) (x3 : Int32) (x4 : Int32) (h : mh_H) (H : Heap) (locs : List Loc) (ls : Array Slot), mh_W D ks L (mh_A L s.heap.size) s.heap h H locs → lv_has ls 5 [(0, .ref o0), (1, .int x1), (2, .int x2), (3, .int x3), (4, .int x4)] → k28 o0 x1 x2 x3 x4 h = some (r, h') → W p l e (mh_rm 1) s m args below meth c H locs 0 0 (MQ below (mh_Qi D ks L s.heap.size r h') args s 0 0 (mh_A L s.heap.size)) (F0 m 28 ls [])) :
    ∀ (o0 : Nat) (x1 : Int32) (x2 : Int32) (x3 : Int32) (x4 : Int32) (h : mh_H) (H : Heap) (locs : List Loc) (ls : Array Slot), mh_W D ks L (mh_A L s.heap.size) s.heap h H locs → lv_has ls 5 [(0, .ref o0), (1, .int x1), (2, .int x2), (3, .int x3), (4, .int x4)] → f_X12_trialStamps_b66 k28 o0 x1 x2 x3 x4 h = some (r, h') → W p l e (mh_rm 1) s m args below meth c H locs 0 0 (MQ below (mh_Qi D ks L s.heap.size r h') args s 0 0 (mh_A L s.heap.size)) (F0 m 66 ls []) := by
  intro o0 x1 x2 x3 x4 h H locs ls wd hl hX
  have hx := cx.1.1
  have hb := cx.1.2.1
  unfold f_X12_trialStamps_b66 at hX
  obtain ⟨v1, ev1, hX⟩ := mh_nmx hX
  refine lv_iinc (k := 4) (v := v1) (lv' := [(4, .int v1), (0, .ref o0), (1, .int x1), (2, .int x2), (3, .int x3)]) hx hb dX12_trialStamps_66 hl rfl ev1 (Nat.le_of_ble_eq_true rfl) rfl (fun ls hl => ?_)
  refine lv_goto (tgt := 28) hx hb dX12_trialStamps_69 rfl ?_
  exact hk28 _ _ _ _ _ h _ _ ls wd (lv_sub hl [1, 2, 3, 4, 0] rfl) hX
set_option maxRecDepth 100000 in
set_option maxHeartbeats 4000000 in
theorem w_X12_trialStamps_b72 {p : Program} {l : Launch} {e : Env} {s : State} {m : MethodId} {args : Array Value} {below : List Frame} {meth : Method} {c : Code} {D : va_G} {ks : Nat → ClassId} {L : List Nat} {r : Int32} {h' : mh_H} (k11 : Nat → Int32 → Int32 → Int32 → mh_H → Option (Int32 × mh_H)) (cx : mh_C p m c cX12_trialStamps 5 s args RX12 meth D ks (mh_A L s.heap.size)) (hr : meth.sig.returnType = (some .int))
    (hk11 : ∀ (o0 : Nat) (x1 : Int32) (x2 : Int32) (x3 : Int32) (h : mh_H) (H : Heap) (locs : List Loc) (ls : Array Slot), mh_W D ks L (mh_A L s.heap.size) s.heap h H locs → lv_has ls 5 [(0, .ref o0), (1, .int x1), (2, .int x2), (3, .int x3)] → k11 o0 x1 x2 x3 h = some (r, h') → W p l e (mh_rm 1) s m args below meth c H locs 0 0 (MQ below (mh_Qi D ks L s.heap.size r h') args s 0 0 (mh_A L s.heap.size)) (F0 m 11 ls [])) :
    ∀ (o0 : Nat) (x1 : Int32) (x2 : Int32) (x3 : Int32) (h : mh_H) (H : Heap) (locs : List Loc) (ls : Array Slot), mh_W D ks L (mh_A L s.heap.size) s.heap h H locs → lv_has ls 5 [(0, .ref o0), (1, .int x1), (2, .int x2), (3, .int x3)] → f_X12_trialStamps_b72 k11 o0 x1 x2 x3 h = some (r, h') → W p l e (mh_rm 1) s m args below meth c H locs 0 0 (MQ below (mh_Qi D ks L s.heap.size r h') args s 0 0 (mh_A L s.heap.size)) (F0 m 72 ls []) := by
  intro o0 x1 x2 x3 h H locs ls wd hl hX
  have hx := cx.1.1
  have hb := cx.1.2.1
  unfold f_X12_trialStamps_b72 at hX
  refine lv_aload_n hx hb dX12_trialStamps_72 rfl (lv_at hl 0 rfl) ?_
  refine mh_getR cx wd fl_X12_69 dX12_trialStamps_73 hX (fun a2 hX => ?_)
  refine lv_iload_n hx hb dX12_trialStamps_76 rfl (lv_at hl 2 rfl) ?_
  refine lv_iload_n hx hb dX12_trialStamps_77 rfl (lv_at hl 3 rfl) ?_
  refine mh_iast cx wd dX12_trialStamps_78 hX (fun h3 H locs wd hX => ?_)
  refine lv_goto (tgt := 11) hx hb dX12_trialStamps_79 rfl ?_
  exact hk11 _ _ _ _ h3 _ _ ls wd (lv_sub hl [0, 1, 2, 3] rfl) hX
set_option maxRecDepth 100000 in
set_option maxHeartbeats 4000000 in
theorem w_X12_trialStamps_b28 {p : Program} {l : Launch} {e : Env} {s : State} {m : MethodId} {args : Array Value} {below : List Frame} {meth : Method} {c : Code} {D : va_G} {ks : Nat → ClassId} {L : List Nat} {r : Int32} {h' : mh_H} (k11 : Nat → Int32 → Int32 → Int32 → mh_H → Option (Int32 × mh_H)) (cx : mh_C p m c cX12_trialStamps 5 s args RX12 meth D ks (mh_A L s.heap.size)) (hr : meth.sig.returnType = (some .int))
    (hk11 : ∀ (o0 : Nat) (x1 : Int32) (x2 : Int32) (x3 : Int32) (h : mh_H) (H : Heap) (locs : List Loc) (ls : Array Slot), mh_W D ks L (mh_A L s.heap.size) s.heap h H locs → lv_has ls 5 [(0, .ref o0), (1, .int x1), (2, .int x2), (3, .int x3)] → k11 o0 x1 x2 x3 h = some (r, h') → W p l e (mh_rm 1) s m args below meth c H locs 0 0 (MQ below (mh_Qi D ks L s.heap.size r h') args s 0 0 (mh_A L s.heap.size)) (F0 m 11 ls [])) :
    ∀ n : Nat, ∀ (o0 : Nat) (x1 : Int32) (x2 : Int32) (x3 : Int32) (x4 : Int32) (h : mh_H) (H : Heap) (locs : List Loc) (ls : Array Slot), mh_W D ks L (mh_A L s.heap.size) s.heap h H locs → lv_has ls 5 [(0, .ref o0), (1, .int x1), (2, .int x2), (3, .int x3), (4, .int x4)] → f_X12_trialStamps_b28 k11 n o0 x1 x2 x3 x4 h = some (r, h') → W p l e (mh_rm 1) s m args below meth c H locs 0 0 (MQ below (mh_Qi D ks L s.heap.size r h') args s 0 0 (mh_A L s.heap.size)) (F0 m 28 ls []) := by
  intro n
  induction n with
  | zero =>
    intro o0 x1 x2 x3 x4 h H locs ls wd hl hX
    cases hX
  | succ n ih =>
    intro o0 x1 x2 x3 x4 h H locs ls wd hl hX
    have hx := cx.1.1
    have hb := cx.1.2.1
    rw [f_X12_trialStamps_b28] at hX
    refine lv_iload hx hb dX12_trialStamps_28 (lv_at hl 4 rfl) ?_
    refine lv_iload_n hx hb dX12_trialStamps_30 rfl (lv_at hl 1 rfl) ?_
    refine lv_icmp_ge (tgt := 72) hx hb dX12_trialStamps_31 rfl (fun hc => (fun hX => ?_) ((mh_if hX).1 hc)) (fun hc => (fun hX => ?_) ((mh_if hX).2 hc))
    · exact w_X12_trialStamps_b72 k11 cx hr hk11 _ _ _ _ h _ _ ls wd (lv_sub hl [0, 1, 2, 3] rfl) hX
    · refine lv_aload_n hx hb dX12_trialStamps_34 rfl (lv_at hl 0 rfl) ?_
      refine mh_getR cx wd fl_X12_63 dX12_trialStamps_35 hX (fun a4 hX => ?_)
      refine lv_iload hx hb dX12_trialStamps_38 (lv_at hl 4 rfl) ?_
      refine mh_iald cx wd dX12_trialStamps_40 hX (fun v5 hX => ?_)
      refine lv_iload_n hx hb dX12_trialStamps_41 rfl (lv_at hl 2 rfl) ?_
      refine lv_icmp_gt (tgt := 66) hx hb dX12_trialStamps_42 rfl (fun hc => (fun hX => ?_) ((mh_if hX).1 hc)) (fun hc => (fun hX => ?_) ((mh_if hX).2 hc))
      · exact w_X12_trialStamps_b66 (f_X12_trialStamps_b28 k11 n) cx hr ih _ _ _ _ _ h _ _ ls wd (lv_sub hl [0, 1, 2, 3, 4] rfl) hX
      · refine lv_iload_n hx hb dX12_trialStamps_45 rfl (lv_at hl 3 rfl) ?_
        refine lv_aload_n hx hb dX12_trialStamps_46 rfl (lv_at hl 0 rfl) ?_
        refine mh_getR cx wd fl_X12_69 dX12_trialStamps_47 hX (fun a6 hX => ?_)
        refine lv_iload_n hx hb dX12_trialStamps_50 rfl (lv_at hl 2 rfl) ?_
        refine lv_aload_n hx hb dX12_trialStamps_51 rfl (lv_at hl 0 rfl) ?_
        refine mh_getR cx wd fl_X12_63 dX12_trialStamps_52 hX (fun a7 hX => ?_)
        refine lv_iload hx hb dX12_trialStamps_55 (lv_at hl 4 rfl) ?_
        refine mh_iald cx wd dX12_trialStamps_57 hX (fun v8 hX => ?_)
        refine lv_isub hx hb dX12_trialStamps_58 ?_
        refine mh_iald cx wd dX12_trialStamps_59 hX (fun v9 hX => ?_)
        refine lv_iconst (v := 1) hx hb dX12_trialStamps_60 (by decide) ?_
        refine lv_iadd hx hb dX12_trialStamps_61 ?_
        refine mh_mmin mh_Mok cx hl.1 km_X12_157 (Nat.le_of_ble_eq_true rfl) (Nat.le_of_ble_eq_true rfl) ⟨Nat.le_refl _, Nat.le_refl _⟩ dX12_trialStamps_62 ?_
        refine mh_topi hX (fun v10 hX => ?_)
        refine lv_istore_n (lv' := [(3, .int v10), (0, .ref o0), (1, .int x1), (2, .int x2), (4, .int x4)]) hx hb dX12_trialStamps_65 rfl hl (Nat.le_of_ble_eq_true rfl) rfl (fun ls hl => ?_)
        exact w_X12_trialStamps_b66 (f_X12_trialStamps_b28 k11 n) cx hr ih _ _ _ _ _ h _ _ ls wd (lv_sub hl [1, 2, 3, 0, 4] rfl) hX
set_option maxRecDepth 100000 in
set_option maxHeartbeats 4000000 in
theorem w_X12_trialStamps_b82 {p : Program} {l : Launch} {e : Env} {s : State} {m : MethodId} {args : Array Value} {below : List Frame} {meth : Method} {c : Code} {D : va_G} {ks : Nat → ClassId} {L : List Nat} {r : Int32} {h' : mh_H} (cx : mh_C p m c cX12_trialStamps 5 s args RX12 meth D ks (mh_A L s.heap.size)) (hr : meth.sig.returnType = (some .int)) :
    ∀ (x2 : Int32) (h : mh_H) (H : Heap) (locs : List Loc) (ls : Array Slot), mh_W D ks L (mh_A L s.heap.size) s.heap h H locs → lv_has ls 5 [(2, .int x2)] → f_X12_trialStamps_b82 x2 h = some (r, h') → W p l e (mh_rm 1) s m args below meth c H locs 0 0 (MQ below (mh_Qi D ks L s.heap.size r h') args s 0 0 (mh_A L s.heap.size)) (F0 m 82 ls []) := by
  intro x2 h H locs ls wd hl hX
  have hx := cx.1.1
  have hb := cx.1.2.1
  unfold f_X12_trialStamps_b82 at hX
  refine lv_iload_n hx hb dX12_trialStamps_82 rfl (lv_at hl 0 rfl) ?_
  refine lv_iconst (v := 1) hx hb dX12_trialStamps_83 (by decide) ?_
  refine lv_isub hx hb dX12_trialStamps_84 ?_
  exact mh_iret cx wd hr hX dX12_trialStamps_85
set_option maxRecDepth 100000 in
set_option maxHeartbeats 4000000 in
theorem w_X12_trialStamps_b11 {p : Program} {l : Launch} {e : Env} {s : State} {m : MethodId} {args : Array Value} {below : List Frame} {meth : Method} {c : Code} {D : va_G} {ks : Nat → ClassId} {L : List Nat} {r : Int32} {h' : mh_H} (cx : mh_C p m c cX12_trialStamps 5 s args RX12 meth D ks (mh_A L s.heap.size)) (hr : meth.sig.returnType = (some .int)) :
    ∀ n : Nat, ∀ (o0 : Nat) (x1 : Int32) (x2 : Int32) (x3 : Int32) (h : mh_H) (H : Heap) (locs : List Loc) (ls : Array Slot), mh_W D ks L (mh_A L s.heap.size) s.heap h H locs → lv_has ls 5 [(0, .ref o0), (1, .int x1), (2, .int x2), (3, .int x3)] → f_X12_trialStamps_b11 n o0 x1 x2 x3 h = some (r, h') → W p l e (mh_rm 1) s m args below meth c H locs 0 0 (MQ below (mh_Qi D ks L s.heap.size r h') args s 0 0 (mh_A L s.heap.size)) (F0 m 11 ls []) := by
  intro n
  induction n with
  | zero =>
    intro o0 x1 x2 x3 h H locs ls wd hl hX
    cases hX
  | succ n ih =>
    intro o0 x1 x2 x3 h H locs ls wd hl hX
    have hx := cx.1.1
    have hb := cx.1.2.1
    rw [f_X12_trialStamps_b11] at hX
    refine lv_iload_n hx hb dX12_trialStamps_11 rfl (lv_at hl 3 rfl) ?_
    refine lv_aload_n hx hb dX12_trialStamps_12 rfl (lv_at hl 0 rfl) ?_
    refine mh_getI cx wd fl_X12_242 dX12_trialStamps_13 hX (fun v11 hX => ?_)
    refine lv_icmp_gt (tgt := 82) hx hb dX12_trialStamps_16 rfl (fun hc => (fun hX => ?_) ((mh_if hX).1 hc)) (fun hc => (fun hX => ?_) ((mh_if hX).2 hc))
    · exact w_X12_trialStamps_b82 cx hr _ h _ _ ls wd (lv_sub hl [2] rfl) hX
    · obtain ⟨v12, ev12, hX⟩ := mh_nmx hX
      refine lv_iinc (k := 2) (v := v12) (lv' := [(2, .int v12), (0, .ref o0), (1, .int x1), (3, .int x3)]) hx hb dX12_trialStamps_19 hl rfl ev12 (Nat.le_of_ble_eq_true rfl) rfl (fun ls hl => ?_)
      refine mh_ldc cx kc_X12_126 dX12_trialStamps_22 ?_
      refine mh_topi hX (fun v13 hX => ?_)
      refine lv_istore_n (lv' := [(3, .int v13), (2, .int v12), (0, .ref o0), (1, .int x1)]) hx hb dX12_trialStamps_24 rfl hl (Nat.le_of_ble_eq_true rfl) rfl (fun ls hl => ?_)
      refine lv_iconst (v := 0) hx hb dX12_trialStamps_25 (by decide) ?_
      refine mh_topi hX (fun v14 hX => ?_)
      refine lv_istore (lv' := [(4, .int v14), (3, .int v13), (2, .int v12), (0, .ref o0), (1, .int x1)]) hx hb dX12_trialStamps_26 hl (Nat.le_of_ble_eq_true rfl) rfl (fun ls hl => ?_)
      exact w_X12_trialStamps_b28 (f_X12_trialStamps_b11 n) cx hr ih mh_fu _ _ _ _ _ h _ _ ls wd (lv_sub hl [3, 4, 2, 1, 0] rfl) hX
set_option maxRecDepth 100000 in
set_option maxHeartbeats 4000000 in
theorem w_X12_trialStamps_e {p : Program} {l : Launch} {e : Env} {s : State} {m : MethodId} {args : Array Value} {below : List Frame} {meth : Method} {c : Code} {D : va_G} {ks : Nat → ClassId} {L : List Nat} {r : Int32} {h' : mh_H} (cx : mh_C p m c cX12_trialStamps 5 s args RX12 meth D ks (mh_A L s.heap.size)) (hr : meth.sig.returnType = (some .int)) :
    ∀ (o0 : Nat) (x1 : Int32) (h : mh_H) (H : Heap) (locs : List Loc) (ls : Array Slot), mh_W D ks L (mh_A L s.heap.size) s.heap h H locs → lv_has ls 5 [(0, .ref o0), (1, .int x1)] → f_X12_trialStamps_e o0 x1 h = some (r, h') → W p l e (mh_rm 1) s m args below meth c H locs 0 0 (MQ below (mh_Qi D ks L s.heap.size r h') args s 0 0 (mh_A L s.heap.size)) (F0 m 0 ls []) := by
  intro o0 x1 h H locs ls wd hl hX
  have hx := cx.1.1
  have hb := cx.1.2.1
  unfold f_X12_trialStamps_e at hX
  refine lv_iconst (v := 0) hx hb dX12_trialStamps_0 (by decide) ?_
  refine mh_topi hX (fun v15 hX => ?_)
  refine lv_istore_n (lv' := [(2, .int v15), (0, .ref o0), (1, .int x1)]) hx hb dX12_trialStamps_1 rfl hl (Nat.le_of_ble_eq_true rfl) rfl (fun ls hl => ?_)
  refine lv_iconst (v := 0) hx hb dX12_trialStamps_2 (by decide) ?_
  refine mh_topi hX (fun v16 hX => ?_)
  refine lv_istore_n (lv' := [(3, .int v16), (2, .int v15), (0, .ref o0), (1, .int x1)]) hx hb dX12_trialStamps_3 rfl hl (Nat.le_of_ble_eq_true rfl) rfl (fun ls hl => ?_)
  refine lv_aload_n hx hb dX12_trialStamps_4 rfl (lv_at hl 2 rfl) ?_
  refine mh_getR cx wd fl_X12_69 dX12_trialStamps_5 hX (fun a17 hX => ?_)
  refine lv_iconst (v := 0) hx hb dX12_trialStamps_8 (by decide) ?_
  refine lv_iconst (v := 0) hx hb dX12_trialStamps_9 (by decide) ?_
  refine mh_iast cx wd dX12_trialStamps_10 hX (fun h18 H locs wd hX => ?_)
  exact w_X12_trialStamps_b11 cx hr mh_fu _ _ _ _ h18 _ _ ls wd (lv_sub hl [2, 3, 1, 0] rfl) hX
set_option maxRecDepth 100000 in
theorem c_X12_trialStamps {l : Launch} {L : List Nat} {h h' : mh_H} {r : Int32} {o0 : Nat} {x1 : Int32} (hX : f_X12_trialStamps_e o0 x1 h = some (r, h')) : mh_MI l yX12_trialStamps (Cond.code yX12_trialStamps cX12_trialStamps 5 (some .int) :: mh_TB) (mh_rm 1) [.ref o0, .int x1] L h r h' :=
  mh_of (mc := 0) (ms := 0) (Qc := fun D ks sz => mh_Qi D ks L sz r h') (plainFor_of_name (by decide)) (Nat.le_of_ble_eq_true rfl) (fun p e s m below meth c D ks ls hr cx wd hl => by
    have hl : lv_has ls 5 [(0, .ref o0), (1, .int x1)] := hl
    exact w_X12_trialStamps_e cx hr o0 x1 h _ _ ls wd hl hX)
def f_X12_cases_e (o0 : Nat) (h : mh_H) : Option (Int32 × mh_H) :=
  (mh_pI h o0 12 0 (0 : Int32)).bind fun h1 =>
  (mh_gI h1 o0 12 23).bind fun v2 =>
  some (v2, h1)
set_option maxRecDepth 100000 in
set_option maxHeartbeats 4000000 in
theorem w_X12_cases_e {p : Program} {l : Launch} {e : Env} {s : State} {m : MethodId} {args : Array Value} {below : List Frame} {meth : Method} {c : Code} {D : va_G} {ks : Nat → ClassId} {L : List Nat} {r : Int32} {h' : mh_H} (cx : mh_C p m c cX12_cases 1 s args RX12 meth D ks (mh_A L s.heap.size)) (hr : meth.sig.returnType = (some .int)) :
    ∀ (o0 : Nat) (h : mh_H) (H : Heap) (locs : List Loc) (ls : Array Slot), mh_W D ks L (mh_A L s.heap.size) s.heap h H locs → lv_has ls 1 [(0, .ref o0)] → f_X12_cases_e o0 h = some (r, h') → W p l e (mh_rm 0) s m args below meth c H locs 0 0 (MQ below (mh_Qi D ks L s.heap.size r h') args s 0 0 (mh_A L s.heap.size)) (F0 m 0 ls []) := by
  intro o0 h H locs ls wd hl hX
  have hx := cx.1.1
  have hb := cx.1.2.1
  unfold f_X12_cases_e at hX
  refine lv_aload_n hx hb dX12_cases_0 rfl (lv_at hl 0 rfl) ?_
  refine lv_iconst (v := 0) hx hb dX12_cases_1 (by decide) ?_
  refine mh_putI cx wd fp_X12_96 dX12_cases_2 hX (fun h1 H locs wd hX => ?_)
  refine lv_aload_n hx hb dX12_cases_5 rfl (lv_at hl 0 rfl) ?_
  refine mh_getI cx wd fl_X12_245 dX12_cases_6 hX (fun v2 hX => ?_)
  exact mh_iret cx wd hr hX dX12_cases_9
set_option maxRecDepth 100000 in
theorem c_X12_cases {l : Launch} {L : List Nat} {h h' : mh_H} {r : Int32} {o0 : Nat} (hX : f_X12_cases_e o0 h = some (r, h')) : mh_MI l yX12_cases (Cond.code yX12_cases cX12_cases 1 (some .int) :: mh_TB) (mh_rm 0) [.ref o0] L h r h' :=
  mh_of (mc := 0) (ms := 0) (Qc := fun D ks sz => mh_Qi D ks L sz r h') (plainFor_of_name (by decide)) (Nat.le_of_ble_eq_true rfl) (fun p e s m below meth c D ks ls hr cx wd hl => by
    have hl : lv_has ls 1 [(0, .ref o0)] := hl
    exact w_X12_cases_e cx hr o0 h _ _ ls wd hl hX)
def f_X12_open_b19 (o0 : Nat) (h : mh_H) : Option mh_H :=
  mh_b2 (mh_cal h o0 12 (f_X12_fail_e o0 (1 : Int32) h)) fun v2 h1 =>
  some h1
def f_X12_open_b95 (k49 : Nat → Int32 → Int32 → Int32 → mh_H → Option mh_H) (o0 : Nat) (x2 : Int32) (x3 : Int32) (x4 : Int32) (t0 : Nat) (t1 : Int32) (t2 : Int32) (h : mh_H) : Option mh_H :=
  (mh_sI h t0 t1 t2).bind fun h3 =>
  (mh_gR h3 o0 12 1).bind fun a4 =>
  (mh_sI h3 a4 ((x3 + (13 : Int32)) + x4) (0 : Int32)).bind fun h5 =>
  mh_nm (x4 + Int32.ofInt (1)) fun v6 =>
  k49 o0 x2 x3 v6 h5
def f_X12_open_b115 (o0 : Nat) (h : mh_H) : Option mh_H :=
  (mh_cal h o0 12 (f_X12_changed_e o0 h)).bind fun h7 =>
  some h7
def f_X12_open_b49 : Nat → Nat → Int32 → Int32 → Int32 → mh_H → Option mh_H
  | 0, _, _, _, _, _ => none
  | n + 1, o0, x2, x3, x4, h =>
    if (12 : Int32) ≤ x4 then (
    f_X12_open_b115 o0 h) else
    (mh_gR h o0 12 1).bind fun a8 =>
    (mh_gR h o0 12 1).bind fun a9 =>
    (mh_aI h a9 0 x3).bind fun v10 =>
    if v10 ≤ x4 then (
    f_X12_open_b95 (f_X12_open_b49 n) o0 x2 x3 x4 a8 ((x3 + (1 : Int32)) + x4) (0 : Int32) h) else
    (mh_gR h o0 12 1).bind fun a11 =>
    mh_b2 (f_X12_mintAt_e x2 h) fun v13 h12 =>
    (mh_aI h12 a11 0 ((v13 + (1 : Int32)) + x4)).bind fun v14 =>
    f_X12_open_b95 (f_X12_open_b49 n) o0 x2 x3 x4 a8 ((x3 + (1 : Int32)) + x4) v14 h12
def f_X12_open_e (o0 : Nat) (x1 : Int32) (x2 : Int32) (h : mh_H) : Option mh_H :=
  (mh_pI h o0 12 0 (0 : Int32)).bind fun h15 =>
  mh_b2 (f_X12_isMint_e x1 h15) fun v17 h16 =>
  if v17 = 0 then (
  f_X12_open_b19 o0 h16) else
  mh_b2 (f_X12_isMint_e x2 h16) fun v19 h18 =>
  if v19 = 0 then (
  f_X12_open_b19 o0 h18) else
  mh_b2 (f_X12_purseAt_e x1 h18) fun v21 h20 =>
  (mh_gR h20 o0 12 1).bind fun a22 =>
  (mh_gR h20 o0 12 1).bind fun a23 =>
  mh_b2 (f_X12_mintAt_e x2 h20) fun v25 h24 =>
  (mh_aI h24 a23 0 v25).bind fun v26 =>
  (mh_sI h24 a22 v21 v26).bind fun h27 =>
  mh_nm (0 : Int32) fun v28 =>
  f_X12_open_b49 mh_fu o0 x2 v21 v28 h27
set_option maxRecDepth 100000 in
set_option maxHeartbeats 4000000 in
theorem w_X12_open_b19 {p : Program} {l : Launch} {e : Env} {s : State} {m : MethodId} {args : Array Value} {below : List Frame} {meth : Method} {c : Code} {D : va_G} {ks : Nat → ClassId} {L : List Nat} {h' : mh_H} (cx : mh_C p m c cX12_open 5 s args RX12 meth D ks (mh_A L s.heap.size)) (hr : meth.sig.returnType = none) :
    ∀ (o0 : Nat) (h : mh_H) (H : Heap) (locs : List Loc) (ls : Array Slot), mh_W D ks L (mh_A L s.heap.size) s.heap h H locs → lv_has ls 5 [(0, .ref o0)] → f_X12_open_b19 o0 h = some h' → W p l e (mh_rm 1) s m args below meth c H locs 0 0 (MQ below (mh_Qv D ks L s.heap.size h') args s 0 0 (mh_A L s.heap.size)) (F0 m 19 ls []) := by
  intro o0 h H locs ls wd hl hX
  have hx := cx.1.1
  have hb := cx.1.2.1
  unfold f_X12_open_b19 at hX
  refine lv_aload_n hx hb dX12_open_19 rfl (lv_at hl 0 rfl) ?_
  refine lv_iconst (v := 1) hx hb dX12_open_20 (by decide) ?_
  refine mh_callVI cx wd [.int (1 : Int32)] (rfl : vwCl[12]? = some (RX12, TX12, 38)) yw_X12_fail vw_X12_122 rfl hl.1 rfl (Nat.le_of_ble_eq_true rfl) dX12_open_21 ⟨Nat.le_of_ble_eq_true rfl, Nat.le_of_ble_eq_true rfl⟩ ⟨Nat.le_refl _, Nat.le_refl _⟩ (fun _ _ q => c_X12_fail q) hX (fun v2 h1 H locs wd hX => ?_)
  refine lv_pop hx hb dX12_open_24 rfl ?_
  exact mh_vret cx wd hr hX dX12_open_25
set_option maxRecDepth 100000 in
set_option maxHeartbeats 4000000 in
theorem w_X12_open_b95 {p : Program} {l : Launch} {e : Env} {s : State} {m : MethodId} {args : Array Value} {below : List Frame} {meth : Method} {c : Code} {D : va_G} {ks : Nat → ClassId} {L : List Nat} {h' : mh_H} (k49 : Nat → Int32 → Int32 → Int32 → mh_H → Option mh_H) (cx : mh_C p m c cX12_open 5 s args RX12 meth D ks (mh_A L s.heap.size)) (hr : meth.sig.returnType = none)
    (hk49 : ∀ (o0 : Nat) (x2 : Int32) (x3 : Int32) (x4 : Int32) (h : mh_H) (H : Heap) (locs : List Loc) (ls : Array Slot), mh_W D ks L (mh_A L s.heap.size) s.heap h H locs → lv_has ls 5 [(0, .ref o0), (2, .int x2), (3, .int x3), (4, .int x4)] → k49 o0 x2 x3 x4 h = some h' → W p l e (mh_rm 1) s m args below meth c H locs 0 0 (MQ below (mh_Qv D ks L s.heap.size h') args s 0 0 (mh_A L s.heap.size)) (F0 m 49 ls [])) :
    ∀ (o0 : Nat) (x2 : Int32) (x3 : Int32) (x4 : Int32) (t0 : Nat) (t1 : Int32) (t2 : Int32) (h : mh_H) (H : Heap) (locs : List Loc) (ls : Array Slot), mh_W D ks L (mh_A L s.heap.size) s.heap h H locs → lv_has ls 5 [(0, .ref o0), (2, .int x2), (3, .int x3), (4, .int x4)] → f_X12_open_b95 k49 o0 x2 x3 x4 t0 t1 t2 h = some h' → W p l e (mh_rm 1) s m args below meth c H locs 0 0 (MQ below (mh_Qv D ks L s.heap.size h') args s 0 0 (mh_A L s.heap.size)) (F0 m 95 ls [.int t2, .int t1, .ref t0]) := by
  intro o0 x2 x3 x4 t0 t1 t2 h H locs ls wd hl hX
  have hx := cx.1.1
  have hb := cx.1.2.1
  unfold f_X12_open_b95 at hX
  refine mh_iast cx wd dX12_open_95 hX (fun h3 H locs wd hX => ?_)
  refine lv_aload_n hx hb dX12_open_96 rfl (lv_at hl 0 rfl) ?_
  refine mh_getR cx wd fl_X12_9 dX12_open_97 hX (fun a4 hX => ?_)
  refine lv_iload_n hx hb dX12_open_100 rfl (lv_at hl 2 rfl) ?_
  refine lv_bipush (v := 13) hx hb dX12_open_101 (by decide) ?_
  refine lv_iadd hx hb dX12_open_103 ?_
  refine lv_iload hx hb dX12_open_104 (lv_at hl 3 rfl) ?_
  refine lv_iadd hx hb dX12_open_106 ?_
  refine lv_iconst (v := 0) hx hb dX12_open_107 (by decide) ?_
  refine mh_iast cx wd dX12_open_108 hX (fun h5 H locs wd hX => ?_)
  obtain ⟨v6, ev6, hX⟩ := mh_nmx hX
  refine lv_iinc (k := 3) (v := v6) (lv' := [(4, .int v6), (0, .ref o0), (2, .int x2), (3, .int x3)]) hx hb dX12_open_109 hl rfl ev6 (Nat.le_of_ble_eq_true rfl) rfl (fun ls hl => ?_)
  refine lv_goto (tgt := 49) hx hb dX12_open_112 rfl ?_
  exact hk49 _ _ _ _ h5 _ _ ls wd (lv_sub hl [1, 2, 3, 0] rfl) hX
set_option maxRecDepth 100000 in
set_option maxHeartbeats 4000000 in
theorem w_X12_open_b115 {p : Program} {l : Launch} {e : Env} {s : State} {m : MethodId} {args : Array Value} {below : List Frame} {meth : Method} {c : Code} {D : va_G} {ks : Nat → ClassId} {L : List Nat} {h' : mh_H} (cx : mh_C p m c cX12_open 5 s args RX12 meth D ks (mh_A L s.heap.size)) (hr : meth.sig.returnType = none) :
    ∀ (o0 : Nat) (h : mh_H) (H : Heap) (locs : List Loc) (ls : Array Slot), mh_W D ks L (mh_A L s.heap.size) s.heap h H locs → lv_has ls 5 [(0, .ref o0)] → f_X12_open_b115 o0 h = some h' → W p l e (mh_rm 1) s m args below meth c H locs 0 0 (MQ below (mh_Qv D ks L s.heap.size h') args s 0 0 (mh_A L s.heap.size)) (F0 m 115 ls []) := by
  intro o0 h H locs ls wd hl hX
  have hx := cx.1.1
  have hb := cx.1.2.1
  unfold f_X12_open_b115 at hX
  refine lv_aload_n hx hb dX12_open_115 rfl (lv_at hl 0 rfl) ?_
  refine mh_callVV cx wd [] (rfl : vwCl[12]? = some (RX12, TX12, 38)) yw_X12_changed vw_X12_119 rfl hl.1 rfl (Nat.le_of_ble_eq_true rfl) dX12_open_116 ⟨Nat.le_of_ble_eq_true rfl, Nat.le_of_ble_eq_true rfl⟩ ⟨Nat.le_refl _, Nat.le_refl _⟩ (fun _ q => c_X12_changed q) hX (fun h7 H locs wd hX => ?_)
  exact mh_vret cx wd hr hX dX12_open_119
set_option maxRecDepth 100000 in
set_option maxHeartbeats 4000000 in
theorem w_X12_open_b49 {p : Program} {l : Launch} {e : Env} {s : State} {m : MethodId} {args : Array Value} {below : List Frame} {meth : Method} {c : Code} {D : va_G} {ks : Nat → ClassId} {L : List Nat} {h' : mh_H} (cx : mh_C p m c cX12_open 5 s args RX12 meth D ks (mh_A L s.heap.size)) (hr : meth.sig.returnType = none) :
    ∀ n : Nat, ∀ (o0 : Nat) (x2 : Int32) (x3 : Int32) (x4 : Int32) (h : mh_H) (H : Heap) (locs : List Loc) (ls : Array Slot), mh_W D ks L (mh_A L s.heap.size) s.heap h H locs → lv_has ls 5 [(0, .ref o0), (2, .int x2), (3, .int x3), (4, .int x4)] → f_X12_open_b49 n o0 x2 x3 x4 h = some h' → W p l e (mh_rm 1) s m args below meth c H locs 0 0 (MQ below (mh_Qv D ks L s.heap.size h') args s 0 0 (mh_A L s.heap.size)) (F0 m 49 ls []) := by
  intro n
  induction n with
  | zero =>
    intro o0 x2 x3 x4 h H locs ls wd hl hX
    cases hX
  | succ n ih =>
    intro o0 x2 x3 x4 h H locs ls wd hl hX
    have hx := cx.1.1
    have hb := cx.1.2.1
    rw [f_X12_open_b49] at hX
    refine lv_iload hx hb dX12_open_49 (lv_at hl 3 rfl) ?_
    refine lv_bipush (v := 12) hx hb dX12_open_51 (by decide) ?_
    refine lv_icmp_ge (tgt := 115) hx hb dX12_open_53 rfl (fun hc => (fun hX => ?_) ((mh_if hX).1 hc)) (fun hc => (fun hX => ?_) ((mh_if hX).2 hc))
    · exact w_X12_open_b115 cx hr _ h _ _ ls wd (lv_sub hl [0] rfl) hX
    · refine lv_aload_n hx hb dX12_open_56 rfl (lv_at hl 0 rfl) ?_
      refine mh_getR cx wd fl_X12_9 dX12_open_57 hX (fun a8 hX => ?_)
      refine lv_iload_n hx hb dX12_open_60 rfl (lv_at hl 2 rfl) ?_
      refine lv_iconst (v := 1) hx hb dX12_open_61 (by decide) ?_
      refine lv_iadd hx hb dX12_open_62 ?_
      refine lv_iload hx hb dX12_open_63 (lv_at hl 3 rfl) ?_
      refine lv_iadd hx hb dX12_open_65 ?_
      refine lv_iload hx hb dX12_open_66 (lv_at hl 3 rfl) ?_
      refine lv_aload_n hx hb dX12_open_68 rfl (lv_at hl 0 rfl) ?_
      refine mh_getR cx wd fl_X12_9 dX12_open_69 hX (fun a9 hX => ?_)
      refine lv_iload_n hx hb dX12_open_72 rfl (lv_at hl 2 rfl) ?_
      refine mh_iald cx wd dX12_open_73 hX (fun v10 hX => ?_)
      refine lv_icmp_ge (tgt := 94) hx hb dX12_open_74 rfl (fun hc => (fun hX => ?_) ((mh_if hX).1 hc)) (fun hc => (fun hX => ?_) ((mh_if hX).2 hc))
      · refine lv_iconst (v := 0) hx hb dX12_open_94 (by decide) ?_
        exact w_X12_open_b95 (f_X12_open_b49 n) cx hr ih _ _ _ _ _ _ _ h _ _ ls wd (lv_sub hl [0, 1, 2, 3] rfl) hX
      · refine lv_aload_n hx hb dX12_open_77 rfl (lv_at hl 0 rfl) ?_
        refine mh_getR cx wd fl_X12_9 dX12_open_78 hX (fun a11 hX => ?_)
        refine lv_iload_n hx hb dX12_open_81 rfl (lv_at hl 1 rfl) ?_
        refine mh_callSI cx wd [.int x2] yw_X12_mintAt sw_X12_115 rfl hl.1 rfl (Nat.le_of_ble_eq_true rfl) dX12_open_82 ⟨Nat.le_of_ble_eq_true rfl, Nat.le_of_ble_eq_true rfl⟩ ⟨Nat.le_refl _, Nat.le_refl _⟩ (fun _ _ q => c_X12_mintAt q) hX (fun v13 h12 H locs wd hX => ?_)
        refine lv_iconst (v := 1) hx hb dX12_open_85 (by decide) ?_
        refine lv_iadd hx hb dX12_open_86 ?_
        refine lv_iload hx hb dX12_open_87 (lv_at hl 3 rfl) ?_
        refine lv_iadd hx hb dX12_open_89 ?_
        refine mh_iald cx wd dX12_open_90 hX (fun v14 hX => ?_)
        refine lv_goto (tgt := 95) hx hb dX12_open_91 rfl ?_
        exact w_X12_open_b95 (f_X12_open_b49 n) cx hr ih _ _ _ _ _ _ _ h12 _ _ ls wd (lv_sub hl [0, 1, 2, 3] rfl) hX
set_option maxRecDepth 100000 in
set_option maxHeartbeats 4000000 in
theorem w_X12_open_e {p : Program} {l : Launch} {e : Env} {s : State} {m : MethodId} {args : Array Value} {below : List Frame} {meth : Method} {c : Code} {D : va_G} {ks : Nat → ClassId} {L : List Nat} {h' : mh_H} (cx : mh_C p m c cX12_open 5 s args RX12 meth D ks (mh_A L s.heap.size)) (hr : meth.sig.returnType = none) :
    ∀ (o0 : Nat) (x1 : Int32) (x2 : Int32) (h : mh_H) (H : Heap) (locs : List Loc) (ls : Array Slot), mh_W D ks L (mh_A L s.heap.size) s.heap h H locs → lv_has ls 5 [(0, .ref o0), (1, .int x1), (2, .int x2)] → f_X12_open_e o0 x1 x2 h = some h' → W p l e (mh_rm 1) s m args below meth c H locs 0 0 (MQ below (mh_Qv D ks L s.heap.size h') args s 0 0 (mh_A L s.heap.size)) (F0 m 0 ls []) := by
  intro o0 x1 x2 h H locs ls wd hl hX
  have hx := cx.1.1
  have hb := cx.1.2.1
  unfold f_X12_open_e at hX
  refine lv_aload_n hx hb dX12_open_0 rfl (lv_at hl 0 rfl) ?_
  refine lv_iconst (v := 0) hx hb dX12_open_1 (by decide) ?_
  refine mh_putI cx wd fp_X12_96 dX12_open_2 hX (fun h15 H locs wd hX => ?_)
  refine lv_iload_n hx hb dX12_open_5 rfl (lv_at hl 1 rfl) ?_
  refine mh_callSI cx wd [.int x1] yw_X12_isMint sw_X12_111 rfl hl.1 rfl (Nat.le_of_ble_eq_true rfl) dX12_open_6 ⟨Nat.le_of_ble_eq_true rfl, Nat.le_of_ble_eq_true rfl⟩ ⟨Nat.le_refl _, Nat.le_refl _⟩ (fun _ _ q => c_X12_isMint q) hX (fun v17 h16 H locs wd hX => ?_)
  refine lv_if_eq (tgt := 19) hx hb dX12_open_9 rfl (fun hc => (fun hX => ?_) ((mh_if hX).1 hc)) (fun hc => (fun hX => ?_) ((mh_if hX).2 hc))
  · exact w_X12_open_b19 cx hr _ h16 _ _ ls wd (lv_sub hl [0] rfl) hX
  · refine lv_iload_n hx hb dX12_open_12 rfl (lv_at hl 2 rfl) ?_
    refine mh_callSI cx wd [.int x2] yw_X12_isMint sw_X12_111 rfl hl.1 rfl (Nat.le_of_ble_eq_true rfl) dX12_open_13 ⟨Nat.le_of_ble_eq_true rfl, Nat.le_of_ble_eq_true rfl⟩ ⟨Nat.le_refl _, Nat.le_refl _⟩ (fun _ _ q => c_X12_isMint q) hX (fun v19 h18 H locs wd hX => ?_)
    refine lv_if_ne (tgt := 26) hx hb dX12_open_16 rfl (fun hc => (fun hX => ?_) ((mh_if hX).2 hc)) (fun hc => (fun hX => ?_) ((mh_if hX).1 hc))
    · refine lv_iload_n hx hb dX12_open_26 rfl (lv_at hl 1 rfl) ?_
      refine mh_callSI cx wd [.int x1] yw_X12_purseAt sw_X12_260 rfl hl.1 rfl (Nat.le_of_ble_eq_true rfl) dX12_open_27 ⟨Nat.le_of_ble_eq_true rfl, Nat.le_of_ble_eq_true rfl⟩ ⟨Nat.le_refl _, Nat.le_refl _⟩ (fun _ _ q => c_X12_purseAt q) hX (fun v21 h20 H locs wd hX => ?_)
      refine lv_istore_n (lv' := [(3, .int v21), (0, .ref o0), (1, .int x1), (2, .int x2)]) hx hb dX12_open_30 rfl hl (Nat.le_of_ble_eq_true rfl) rfl (fun ls hl => ?_)
      refine lv_aload_n hx hb dX12_open_31 rfl (lv_at hl 1 rfl) ?_
      refine mh_getR cx wd fl_X12_9 dX12_open_32 hX (fun a22 hX => ?_)
      refine lv_iload_n hx hb dX12_open_35 rfl (lv_at hl 0 rfl) ?_
      refine lv_aload_n hx hb dX12_open_36 rfl (lv_at hl 1 rfl) ?_
      refine mh_getR cx wd fl_X12_9 dX12_open_37 hX (fun a23 hX => ?_)
      refine lv_iload_n hx hb dX12_open_40 rfl (lv_at hl 3 rfl) ?_
      refine mh_callSI cx wd [.int x2] yw_X12_mintAt sw_X12_115 rfl hl.1 rfl (Nat.le_of_ble_eq_true rfl) dX12_open_41 ⟨Nat.le_of_ble_eq_true rfl, Nat.le_of_ble_eq_true rfl⟩ ⟨Nat.le_refl _, Nat.le_refl _⟩ (fun _ _ q => c_X12_mintAt q) hX (fun v25 h24 H locs wd hX => ?_)
      refine mh_iald cx wd dX12_open_44 hX (fun v26 hX => ?_)
      refine mh_iast cx wd dX12_open_45 hX (fun h27 H locs wd hX => ?_)
      refine lv_iconst (v := 0) hx hb dX12_open_46 (by decide) ?_
      refine mh_topi hX (fun v28 hX => ?_)
      refine lv_istore (lv' := [(4, .int v28), (3, .int v21), (0, .ref o0), (1, .int x1), (2, .int x2)]) hx hb dX12_open_47 hl (Nat.le_of_ble_eq_true rfl) rfl (fun ls hl => ?_)
      exact w_X12_open_b49 cx hr mh_fu _ _ _ _ h27 _ _ ls wd (lv_sub hl [2, 4, 1, 0] rfl) hX
    · exact w_X12_open_b19 cx hr _ h18 _ _ ls wd (lv_sub hl [0] rfl) hX
set_option maxRecDepth 100000 in
theorem c_X12_open {l : Launch} {L : List Nat} {h h' : mh_H} {o0 : Nat} {x1 : Int32} {x2 : Int32} (hX : f_X12_open_e o0 x1 x2 h = some h') : mh_MV l yX12_open (Cond.code yX12_open cX12_open 5 none :: mh_TB) (mh_rm 1) [.ref o0, .int x1, .int x2] L h h' :=
  mh_of (mc := 0) (ms := 0) (Qc := fun D ks sz => mh_Qv D ks L sz h') (plainFor_of_name (by decide)) (Nat.le_of_ble_eq_true rfl) (fun p e s m below meth c D ks ls hr cx wd hl => by
    have hl : lv_has ls 5 [(0, .ref o0), (1, .int x1), (2, .int x2)] := hl
    exact w_X12_open_e cx hr o0 x1 x2 h _ _ ls wd hl hX)
def f_X12_allOf_b54 (x3 : Int32) (h : mh_H) : Option (Int32 × mh_H) :=
  some (x3, h)
def f_X12_allOf_b10 : Nat → Nat → Int32 → Int32 → Int32 → mh_H → Option (Int32 × mh_H)
  | 0, _, _, _, _, _ => none
  | n + 1, o0, x2, x3, x4, h =>
    (mh_gR h o0 12 1).bind fun a1 =>
    (mh_aI h a1 0 x2).bind fun v2 =>
    if v2 ≤ x4 then (
    f_X12_allOf_b54 x3 h) else
    (mh_gR h o0 12 1).bind fun a3 =>
    (mh_aI h a3 0 ((x2 + (1 : Int32)) + x4)).bind fun v4 =>
    (mh_gR h o0 12 1).bind fun a5 =>
    (mh_aI h a5 0 ((x2 + (13 : Int32)) + x4)).bind fun v6 =>
    mh_nm (x3 + (v4 * v6)) fun v7 =>
    mh_nm (x4 + Int32.ofInt (1)) fun v8 =>
    f_X12_allOf_b10 n o0 x2 v7 v8 h
def f_X12_allOf_e (o0 : Nat) (x1 : Int32) (h : mh_H) : Option (Int32 × mh_H) :=
  mh_b2 (f_X12_purseAt_e x1 h) fun v10 h9 =>
  mh_nm (0 : Int32) fun v11 =>
  mh_nm (0 : Int32) fun v12 =>
  f_X12_allOf_b10 mh_fu o0 v10 v11 v12 h9
set_option maxRecDepth 100000 in
set_option maxHeartbeats 4000000 in
theorem w_X12_allOf_b54 {p : Program} {l : Launch} {e : Env} {s : State} {m : MethodId} {args : Array Value} {below : List Frame} {meth : Method} {c : Code} {D : va_G} {ks : Nat → ClassId} {L : List Nat} {r : Int32} {h' : mh_H} (cx : mh_C p m c cX12_allOf 5 s args RX12 meth D ks (mh_A L s.heap.size)) (hr : meth.sig.returnType = (some .int)) :
    ∀ (x3 : Int32) (h : mh_H) (H : Heap) (locs : List Loc) (ls : Array Slot), mh_W D ks L (mh_A L s.heap.size) s.heap h H locs → lv_has ls 5 [(3, .int x3)] → f_X12_allOf_b54 x3 h = some (r, h') → W p l e (mh_rm 1) s m args below meth c H locs 0 0 (MQ below (mh_Qi D ks L s.heap.size r h') args s 0 0 (mh_A L s.heap.size)) (F0 m 54 ls []) := by
  intro x3 h H locs ls wd hl hX
  have hx := cx.1.1
  have hb := cx.1.2.1
  unfold f_X12_allOf_b54 at hX
  refine lv_iload_n hx hb dX12_allOf_54 rfl (lv_at hl 0 rfl) ?_
  exact mh_iret cx wd hr hX dX12_allOf_55
set_option maxRecDepth 100000 in
set_option maxHeartbeats 4000000 in
theorem w_X12_allOf_b10 {p : Program} {l : Launch} {e : Env} {s : State} {m : MethodId} {args : Array Value} {below : List Frame} {meth : Method} {c : Code} {D : va_G} {ks : Nat → ClassId} {L : List Nat} {r : Int32} {h' : mh_H} (cx : mh_C p m c cX12_allOf 5 s args RX12 meth D ks (mh_A L s.heap.size)) (hr : meth.sig.returnType = (some .int)) :
    ∀ n : Nat, ∀ (o0 : Nat) (x2 : Int32) (x3 : Int32) (x4 : Int32) (h : mh_H) (H : Heap) (locs : List Loc) (ls : Array Slot), mh_W D ks L (mh_A L s.heap.size) s.heap h H locs → lv_has ls 5 [(0, .ref o0), (2, .int x2), (3, .int x3), (4, .int x4)] → f_X12_allOf_b10 n o0 x2 x3 x4 h = some (r, h') → W p l e (mh_rm 1) s m args below meth c H locs 0 0 (MQ below (mh_Qi D ks L s.heap.size r h') args s 0 0 (mh_A L s.heap.size)) (F0 m 10 ls []) := by
  intro n
  induction n with
  | zero =>
    intro o0 x2 x3 x4 h H locs ls wd hl hX
    cases hX
  | succ n ih =>
    intro o0 x2 x3 x4 h H locs ls wd hl hX
    have hx := cx.1.1
    have hb := cx.1.2.1
    rw [f_X12_allOf_b10] at hX
    refine lv_iload hx hb dX12_allOf_10 (lv_at hl 3 rfl) ?_
    refine lv_aload_n hx hb dX12_allOf_12 rfl (lv_at hl 0 rfl) ?_
    refine mh_getR cx wd fl_X12_9 dX12_allOf_13 hX (fun a1 hX => ?_)
    refine lv_iload_n hx hb dX12_allOf_16 rfl (lv_at hl 1 rfl) ?_
    refine mh_iald cx wd dX12_allOf_17 hX (fun v2 hX => ?_)
    refine lv_icmp_ge (tgt := 54) hx hb dX12_allOf_18 rfl (fun hc => (fun hX => ?_) ((mh_if hX).1 hc)) (fun hc => (fun hX => ?_) ((mh_if hX).2 hc))
    · exact w_X12_allOf_b54 cx hr _ h _ _ ls wd (lv_sub hl [2] rfl) hX
    · refine lv_iload_n hx hb dX12_allOf_21 rfl (lv_at hl 2 rfl) ?_
      refine lv_aload_n hx hb dX12_allOf_22 rfl (lv_at hl 0 rfl) ?_
      refine mh_getR cx wd fl_X12_9 dX12_allOf_23 hX (fun a3 hX => ?_)
      refine lv_iload_n hx hb dX12_allOf_26 rfl (lv_at hl 1 rfl) ?_
      refine lv_iconst (v := 1) hx hb dX12_allOf_27 (by decide) ?_
      refine lv_iadd hx hb dX12_allOf_28 ?_
      refine lv_iload hx hb dX12_allOf_29 (lv_at hl 3 rfl) ?_
      refine lv_iadd hx hb dX12_allOf_31 ?_
      refine mh_iald cx wd dX12_allOf_32 hX (fun v4 hX => ?_)
      refine lv_aload_n hx hb dX12_allOf_33 rfl (lv_at hl 0 rfl) ?_
      refine mh_getR cx wd fl_X12_9 dX12_allOf_34 hX (fun a5 hX => ?_)
      refine lv_iload_n hx hb dX12_allOf_37 rfl (lv_at hl 1 rfl) ?_
      refine lv_bipush (v := 13) hx hb dX12_allOf_38 (by decide) ?_
      refine lv_iadd hx hb dX12_allOf_40 ?_
      refine lv_iload hx hb dX12_allOf_41 (lv_at hl 3 rfl) ?_
      refine lv_iadd hx hb dX12_allOf_43 ?_
      refine mh_iald cx wd dX12_allOf_44 hX (fun v6 hX => ?_)
      refine lv_imul hx hb dX12_allOf_45 ?_
      refine lv_iadd hx hb dX12_allOf_46 ?_
      refine mh_topi hX (fun v7 hX => ?_)
      refine lv_istore_n (lv' := [(3, .int v7), (0, .ref o0), (2, .int x2), (4, .int x4)]) hx hb dX12_allOf_47 rfl hl (Nat.le_of_ble_eq_true rfl) rfl (fun ls hl => ?_)
      obtain ⟨v8, ev8, hX⟩ := mh_nmx hX
      refine lv_iinc (k := 3) (v := v8) (lv' := [(4, .int v8), (3, .int v7), (0, .ref o0), (2, .int x2)]) hx hb dX12_allOf_48 hl rfl ev8 (Nat.le_of_ble_eq_true rfl) rfl (fun ls hl => ?_)
      refine lv_goto (tgt := 10) hx hb dX12_allOf_51 rfl ?_
      exact ih _ _ _ _ h _ _ ls wd (lv_sub hl [2, 3, 1, 0] rfl) hX
set_option maxRecDepth 100000 in
set_option maxHeartbeats 4000000 in
theorem w_X12_allOf_e {p : Program} {l : Launch} {e : Env} {s : State} {m : MethodId} {args : Array Value} {below : List Frame} {meth : Method} {c : Code} {D : va_G} {ks : Nat → ClassId} {L : List Nat} {r : Int32} {h' : mh_H} (cx : mh_C p m c cX12_allOf 5 s args RX12 meth D ks (mh_A L s.heap.size)) (hr : meth.sig.returnType = (some .int)) :
    ∀ (o0 : Nat) (x1 : Int32) (h : mh_H) (H : Heap) (locs : List Loc) (ls : Array Slot), mh_W D ks L (mh_A L s.heap.size) s.heap h H locs → lv_has ls 5 [(0, .ref o0), (1, .int x1)] → f_X12_allOf_e o0 x1 h = some (r, h') → W p l e (mh_rm 1) s m args below meth c H locs 0 0 (MQ below (mh_Qi D ks L s.heap.size r h') args s 0 0 (mh_A L s.heap.size)) (F0 m 0 ls []) := by
  intro o0 x1 h H locs ls wd hl hX
  have hx := cx.1.1
  have hb := cx.1.2.1
  unfold f_X12_allOf_e at hX
  refine lv_iload_n hx hb dX12_allOf_0 rfl (lv_at hl 1 rfl) ?_
  refine mh_callSI cx wd [.int x1] yw_X12_purseAt sw_X12_260 rfl hl.1 rfl (Nat.le_of_ble_eq_true rfl) dX12_allOf_1 ⟨Nat.le_of_ble_eq_true rfl, Nat.le_of_ble_eq_true rfl⟩ ⟨Nat.le_refl _, Nat.le_refl _⟩ (fun _ _ q => c_X12_purseAt q) hX (fun v10 h9 H locs wd hX => ?_)
  refine lv_istore_n (lv' := [(2, .int v10), (0, .ref o0), (1, .int x1)]) hx hb dX12_allOf_4 rfl hl (Nat.le_of_ble_eq_true rfl) rfl (fun ls hl => ?_)
  refine lv_iconst (v := 0) hx hb dX12_allOf_5 (by decide) ?_
  refine mh_topi hX (fun v11 hX => ?_)
  refine lv_istore_n (lv' := [(3, .int v11), (2, .int v10), (0, .ref o0), (1, .int x1)]) hx hb dX12_allOf_6 rfl hl (Nat.le_of_ble_eq_true rfl) rfl (fun ls hl => ?_)
  refine lv_iconst (v := 0) hx hb dX12_allOf_7 (by decide) ?_
  refine mh_topi hX (fun v12 hX => ?_)
  refine lv_istore (lv' := [(4, .int v12), (3, .int v11), (2, .int v10), (0, .ref o0), (1, .int x1)]) hx hb dX12_allOf_8 hl (Nat.le_of_ble_eq_true rfl) rfl (fun ls hl => ?_)
  exact w_X12_allOf_b10 cx hr mh_fu _ _ _ _ h9 _ _ ls wd (lv_sub hl [3, 2, 1, 0] rfl) hX
set_option maxRecDepth 100000 in
theorem c_X12_allOf {l : Launch} {L : List Nat} {h h' : mh_H} {r : Int32} {o0 : Nat} {x1 : Int32} (hX : f_X12_allOf_e o0 x1 h = some (r, h')) : mh_MI l yX12_allOf (Cond.code yX12_allOf cX12_allOf 5 (some .int) :: mh_TB) (mh_rm 1) [.ref o0, .int x1] L h r h' :=
  mh_of (mc := 0) (ms := 0) (Qc := fun D ks sz => mh_Qi D ks L sz r h') (plainFor_of_name (by decide)) (Nat.le_of_ble_eq_true rfl) (fun p e s m below meth c D ks ls hr cx wd hl => by
    have hl : lv_has ls 5 [(0, .ref o0), (1, .int x1)] := hl
    exact w_X12_allOf_e cx hr o0 x1 h _ _ ls wd hl hX)
